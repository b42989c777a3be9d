theorem dX5_late_12 : decode cX5_late 12 = .ok (.ireturn, 1) := by decide +kernel
theorem dX5_late_13 : decode cX5_late 13 = .ok (.iconst 0, 1) := by decide +kernel
theorem dX5_late_14 : decode cX5_late 14 = .ok (.istore_n 1, 1) := by decide +kernel
theorem dX5_late_15 : decode cX5_late 15 = .ok (.iconst 0, 1) := by decide +kernel
theorem dX5_late_16 : decode cX5_late 16 = .ok (.istore_n 2, 1) := by decide +kernel
theorem dX5_late_17 : decode cX5_late 17 = .ok (.iconst 0, 1) := by decide +kernel
theorem dX5_late_18 : decode cX5_late 18 = .ok (.istore_n 3, 1) := by decide +kernel
theorem dX5_late_19 : decode cX5_late 19 = .ok (.iload_n 3, 1) := by decide +kernel
theorem dX5_late_20 : decode cX5_late 20 = .ok (.aload_n 0, 1) := by decide +kernel
theorem dX5_late_21 : decode cX5_late 21 = .ok (.getfield 31, 3) := by decide +kernel
theorem dX5_late_24 : decode cX5_late 24 = .ok (.getfield 228, 3) := by decide +kernel
theorem dX5_late_27 : decode cX5_late 27 = .ok (.if_icmp .ge 41, 3) := by decide +kernel
theorem dX5_late_30 : decode cX5_late 30 = .ok (.iload_n 1, 1) := by decide +kernel
theorem dX5_late_31 : decode cX5_late 31 = .ok (.aload_n 0, 1) := by decide +kernel
theorem dX5_late_32 : decode cX5_late 32 = .ok (.getfield 40, 3) := by decide +kernel
theorem dX5_late_35 : decode cX5_late 35 = .ok (.iload_n 3, 1) := by decide +kernel
theorem dX5_late_36 : decode cX5_late 36 = .ok (.invokevirtual 231, 3) := by decide +kernel
theorem dX5_late_39 : decode cX5_late 39 = .ok (.invokestatic 234, 3) := by decide +kernel
theorem dX5_late_42 : decode cX5_late 42 = .ok (.istore_n 1, 1) := by decide +kernel
theorem dX5_late_43 : decode cX5_late 43 = .ok (.iload_n 2, 1) := by decide +kernel
theorem dX5_late_44 : decode cX5_late 44 = .ok (.aload_n 0, 1) := by decide +kernel
theorem dX5_late_45 : decode cX5_late 45 = .ok (.getfield 40, 3) := by decide +kernel
theorem dX5_late_48 : decode cX5_late 48 = .ok (.iload_n 3, 1) := by decide +kernel
theorem dX5_late_49 : decode cX5_late 49 = .ok (.invokevirtual 203, 3) := by decide +kernel
theorem dX5_late_52 : decode cX5_late 52 = .ok (.ifCond .ne 7, 3) := by decide +kernel
theorem dX5_late_55 : decode cX5_late 55 = .ok (.iconst 1, 1) := by decide +kernel
theorem dX5_late_56 : decode cX5_late 56 = .ok (.goto 4, 3) := by decide +kernel
theorem dX5_late_59 : decode cX5_late 59 = .ok (.iconst 0, 1) := by decide +kernel
theorem dX5_late_60 : decode cX5_late 60 = .ok (.iadd, 1) := by decide +kernel
theorem dX5_late_61 : decode cX5_late 61 = .ok (.istore_n 2, 1) := by decide +kernel
theorem dX5_late_62 : decode cX5_late 62 = .ok (.iinc 3 1, 3) := by decide +kernel
theorem dX5_late_65 : decode cX5_late 65 = .ok (.goto (-46), 3) := by decide +kernel
theorem dX5_late_68 : decode cX5_late 68 = .ok (.aload_n 0, 1) := by decide +kernel
theorem dX5_late_69 : decode cX5_late 69 = .ok (.iload_n 2, 1) := by decide +kernel
theorem dX5_late_70 : decode cX5_late 70 = .ok (.putfield 67, 3) := by decide +kernel
theorem dX5_late_73 : decode cX5_late 73 = .ok (.iload_n 1, 1) := by decide +kernel
theorem dX5_late_74 : decode cX5_late 74 = .ok (.ireturn, 1) := by decide +kernel
theorem dX5_run_0 : decode cX5_run 0 = .ok (.aload_n 0, 1) := by decide +kernel
theorem dX5_run_1 : decode cX5_run 1 = .ok (.iload_n 1, 1) := by decide +kernel
theorem dX5_run_2 : decode cX5_run 2 = .ok (.invokevirtual 239, 3) := by decide +kernel
theorem dX5_run_5 : decode cX5_run 5 = .ok (.istore_n 2, 1) := by decide +kernel
theorem dX5_run_6 : decode cX5_run 6 = .ok (.iload_n 2, 1) := by decide +kernel
theorem dX5_run_7 : decode cX5_run 7 = .ok (.ifCond .eq 5, 3) := by decide +kernel
theorem dX5_run_10 : decode cX5_run 10 = .ok (.iload_n 2, 1) := by decide +kernel
theorem dX5_run_11 : decode cX5_run 11 = .ok (.ireturn, 1) := by decide +kernel
theorem dX5_run_12 : decode cX5_run 12 = .ok (.aload_n 0, 1) := by decide +kernel
theorem dX5_run_13 : decode cX5_run 13 = .ok (.getfield 14, 3) := by decide +kernel
theorem dX5_run_16 : decode cX5_run 16 = .ok (.getfield 108, 3) := by decide +kernel
theorem dX5_run_19 : decode cX5_run 19 = .ok (.iload_n 1, 1) := by decide +kernel
theorem dX5_run_20 : decode cX5_run 20 = .ok (.iaload, 1) := by decide +kernel
theorem dX5_run_21 : decode cX5_run 21 = .ok (.istore_n 3, 1) := by decide +kernel
theorem dX5_run_22 : decode cX5_run 22 = .ok (.iload_n 3, 1) := by decide +kernel
theorem dX5_run_23 : decode cX5_run 23 = .ok (.iconst 2, 1) := by decide +kernel
theorem dX5_run_24 : decode cX5_run 24 = .ok (.irem, 1) := by decide +kernel
theorem dX5_run_25 : decode cX5_run 25 = .ok (.ifCond .ne 9, 3) := by decide +kernel
theorem dX5_run_28 : decode cX5_run 28 = .ok (.iload_n 3, 1) := by decide +kernel
theorem dX5_run_29 : decode cX5_run 29 = .ok (.bipush 14, 2) := by decide +kernel
theorem dX5_run_31 : decode cX5_run 31 = .ok (.if_icmp .le 9, 3) := by decide +kernel
theorem dX5_run_34 : decode cX5_run 34 = .ok (.aload_n 0, 1) := by decide +kernel
theorem dX5_run_35 : decode cX5_run 35 = .ok (.iconst 5, 1) := by decide +kernel
theorem dX5_run_36 : decode cX5_run 36 = .ok (.invokevirtual 81, 3) := by decide +kernel
theorem dX5_run_39 : decode cX5_run 39 = .ok (.ireturn, 1) := by decide +kernel
theorem dX5_run_40 : decode cX5_run 40 = .ok (.aload_n 0, 1) := by decide +kernel
theorem dX5_run_41 : decode cX5_run 41 = .ok (.aload_n 0, 1) := by decide +kernel
theorem dX5_run_42 : decode cX5_run 42 = .ok (.getfield 14, 3) := by decide +kernel
theorem dX5_run_45 : decode cX5_run 45 = .ok (.getfield 100, 3) := by decide +kernel
theorem dX5_run_48 : decode cX5_run 48 = .ok (.iload_n 1, 1) := by decide +kernel
theorem dX5_run_49 : decode cX5_run 49 = .ok (.aaload, 1) := by decide +kernel
theorem dX5_run_50 : decode cX5_run 50 = .ok (.iload_n 3, 1) := by decide +kernel
theorem dX5_run_51 : decode cX5_run 51 = .ok (.invokevirtual 242, 3) := by decide +kernel
theorem dX5_run_54 : decode cX5_run 54 = .ok (.ifCond .ne 9, 3) := by decide +kernel
theorem dX5_run_57 : decode cX5_run 57 = .ok (.aload_n 0, 1) := by decide +kernel
theorem dX5_run_58 : decode cX5_run 58 = .ok (.iconst 3, 1) := by decide +kernel
theorem dX5_run_59 : decode cX5_run 59 = .ok (.invokevirtual 81, 3) := by decide +kernel
theorem dX5_run_62 : decode cX5_run 62 = .ok (.ireturn, 1) := by decide +kernel
theorem dX5_run_63 : decode cX5_run 63 = .ok (.aload_n 0, 1) := by decide +kernel
theorem dX5_run_64 : decode cX5_run 64 = .ok (.getfield 55, 3) := by decide +kernel
theorem dX5_run_67 : decode cX5_run 67 = .ok (.aload_n 0, 1) := by decide +kernel
theorem dX5_run_68 : decode cX5_run 68 = .ok (.getfield 40, 3) := by decide +kernel
theorem dX5_run_71 : decode cX5_run 71 = .ok (.aload_n 0, 1) := by decide +kernel
theorem dX5_run_72 : decode cX5_run 72 = .ok (.getfield 40, 3) := by decide +kernel
theorem dX5_run_75 : decode cX5_run 75 = .ok (.invokevirtual 209, 3) := by decide +kernel
theorem dX5_run_78 : decode cX5_run 78 = .ok (.invokevirtual 246, 3) := by decide +kernel
theorem dX5_run_81 : decode cX5_run 81 = .ok (.aload_n 0, 1) := by decide +kernel
theorem dX5_run_82 : decode cX5_run 82 = .ok (.getfield 55, 3) := by decide +kernel
theorem dX5_run_85 : decode cX5_run 85 = .ok (.aload_n 0, 1) := by decide +kernel
theorem dX5_run_86 : decode cX5_run 86 = .ok (.getfield 14, 3) := by decide +kernel
theorem dX5_run_89 : decode cX5_run 89 = .ok (.getfield 100, 3) := by decide +kernel
theorem dX5_run_92 : decode cX5_run 92 = .ok (.iload_n 1, 1) := by decide +kernel
theorem dX5_run_93 : decode cX5_run 93 = .ok (.aaload, 1) := by decide +kernel
theorem dX5_run_94 : decode cX5_run 94 = .ok (.iload_n 3, 1) := by decide +kernel
theorem dX5_run_95 : decode cX5_run 95 = .ok (.iconst 2, 1) := by decide +kernel
theorem dX5_run_96 : decode cX5_run 96 = .ok (.idiv, 1) := by decide +kernel
theorem dX5_run_97 : decode cX5_run 97 = .ok (.invokevirtual 250, 3) := by decide +kernel
theorem dX5_run_100 : decode cX5_run 100 = .ok (.istore 4, 2) := by decide +kernel
theorem dX5_run_102 : decode cX5_run 102 = .ok (.aload_n 0, 1) := by decide +kernel
theorem dX5_run_103 : decode cX5_run 103 = .ok (.aload_n 0, 1) := by decide +kernel
theorem dX5_run_104 : decode cX5_run 104 = .ok (.getfield 55, 3) := by decide +kernel
theorem dX5_run_107 : decode cX5_run 107 = .ok (.getfield 253, 3) := by decide +kernel
theorem dX5_run_110 : decode cX5_run 110 = .ok (.putfield 67, 3) := by decide +kernel
theorem dX5_run_113 : decode cX5_run 113 = .ok (.iload 4, 2) := by decide +kernel
theorem dX5_run_115 : decode cX5_run 115 = .ok (.ireturn, 1) := by decide +kernel
theorem dX5_most_0 : decode cX5_most 0 = .ok (.aload_n 0, 1) := by decide +kernel
theorem dX5_most_1 : decode cX5_most 1 = .ok (.getfield 31, 3) := by decide +kernel
theorem dX5_most_4 : decode cX5_most 4 = .ok (.getfield 140, 3) := by decide +kernel
theorem dX5_most_7 : decode cX5_most 7 = .ok (.ifCond .ne 6, 3) := by decide +kernel
theorem dX5_most_10 : decode cX5_most 10 = .ok (.bipush (-4), 2) := by decide +kernel
theorem dX5_most_12 : decode cX5_most 12 = .ok (.ireturn, 1) := by decide +kernel
theorem dX5_most_13 : decode cX5_most 13 = .ok (.aload_n 0, 1) := by decide +kernel
theorem dX5_most_14 : decode cX5_most 14 = .ok (.getfield 55, 3) := by decide +kernel
theorem dX5_most_17 : decode cX5_most 17 = .ok (.aload_n 0, 1) := by decide +kernel
theorem dX5_most_18 : decode cX5_most 18 = .ok (.getfield 40, 3) := by decide +kernel
theorem dX5_most_21 : decode cX5_most 21 = .ok (.aload_n 0, 1) := by decide +kernel
theorem dX5_most_22 : decode cX5_most 22 = .ok (.getfield 40, 3) := by decide +kernel
theorem dX5_most_25 : decode cX5_most 25 = .ok (.invokevirtual 209, 3) := by decide +kernel
theorem dX5_most_28 : decode cX5_most 28 = .ok (.invokevirtual 254, 3) := by decide +kernel
theorem dX5_most_31 : decode cX5_most 31 = .ok (.aload_n 0, 1) := by decide +kernel
theorem dX5_most_32 : decode cX5_most 32 = .ok (.getfield 55, 3) := by decide +kernel
theorem dX5_most_35 : decode cX5_most 35 = .ok (.iconst 0, 1) := by decide +kernel
theorem dX5_most_36 : decode cX5_most 36 = .ok (.invokevirtual 257, 3) := by decide +kernel
theorem dX5_most_39 : decode cX5_most 39 = .ok (.istore_n 1, 1) := by decide +kernel
theorem dX5_most_40 : decode cX5_most 40 = .ok (.aload_n 0, 1) := by decide +kernel
theorem dX5_most_41 : decode cX5_most 41 = .ok (.aload_n 0, 1) := by decide +kernel
theorem dX5_most_42 : decode cX5_most 42 = .ok (.getfield 55, 3) := by decide +kernel
theorem dX5_most_45 : decode cX5_most 45 = .ok (.iload_n 1, 1) := by decide +kernel
theorem dX5_most_46 : decode cX5_most 46 = .ok (.invokevirtual 260, 3) := by decide +kernel
theorem dX5_most_49 : decode cX5_most 49 = .ok (.putfield 67, 3) := by decide +kernel
theorem dX5_most_52 : decode cX5_most 52 = .ok (.iload_n 1, 1) := by decide +kernel
theorem dX5_most_53 : decode cX5_most 53 = .ok (.ireturn, 1) := by decide +kernel
theorem dX5_fewest_0 : decode cX5_fewest 0 = .ok (.aload_n 0, 1) := by decide +kernel
theorem dX5_fewest_1 : decode cX5_fewest 1 = .ok (.getfield 31, 3) := by decide +kernel
theorem dX5_fewest_4 : decode cX5_fewest 4 = .ok (.iload_n 1, 1) := by decide +kernel
theorem dX5_fewest_5 : decode cX5_fewest 5 = .ok (.invokevirtual 143, 3) := by decide +kernel
theorem dX5_fewest_8 : decode cX5_fewest 8 = .ok (.ifCond .ne 5, 3) := by decide +kernel
theorem dX5_fewest_11 : decode cX5_fewest 11 = .ok (.iconst (-1), 1) := by decide +kernel
theorem dX5_fewest_12 : decode cX5_fewest 12 = .ok (.ireturn, 1) := by decide +kernel
theorem dX5_fewest_13 : decode cX5_fewest 13 = .ok (.aload_n 0, 1) := by decide +kernel
theorem dX5_fewest_14 : decode cX5_fewest 14 = .ok (.getfield 55, 3) := by decide +kernel
theorem dX5_fewest_17 : decode cX5_fewest 17 = .ok (.aload_n 0, 1) := by decide +kernel
theorem dX5_fewest_18 : decode cX5_fewest 18 = .ok (.getfield 40, 3) := by decide +kernel
theorem dX5_fewest_21 : decode cX5_fewest 21 = .ok (.aload_n 0, 1) := by decide +kernel
theorem dX5_fewest_22 : decode cX5_fewest 22 = .ok (.getfield 40, 3) := by decide +kernel
theorem dX5_fewest_25 : decode cX5_fewest 25 = .ok (.invokevirtual 209, 3) := by decide +kernel
theorem dX5_fewest_28 : decode cX5_fewest 28 = .ok (.invokevirtual 254, 3) := by decide +kernel
theorem dX5_fewest_31 : decode cX5_fewest 31 = .ok (.aload_n 0, 1) := by decide +kernel
theorem dX5_fewest_32 : decode cX5_fewest 32 = .ok (.getfield 55, 3) := by decide +kernel
theorem dX5_fewest_35 : decode cX5_fewest 35 = .ok (.iload_n 1, 1) := by decide +kernel
theorem dX5_fewest_36 : decode cX5_fewest 36 = .ok (.invokevirtual 263, 3) := by decide +kernel
theorem dX5_fewest_39 : decode cX5_fewest 39 = .ok (.ireturn, 1) := by decide +kernel
theorem dX5_order_0 : decode cX5_order 0 = .ok (.aload_n 0, 1) := by decide +kernel
theorem dX5_order_1 : decode cX5_order 1 = .ok (.getfield 31, 3) := by decide +kernel
theorem dX5_order_4 : decode cX5_order 4 = .ok (.iload_n 1, 1) := by decide +kernel
theorem dX5_order_5 : decode cX5_order 5 = .ok (.invokevirtual 143, 3) := by decide +kernel
theorem dX5_order_8 : decode cX5_order 8 = .ok (.ifCond .eq 14, 3) := by decide +kernel
theorem dX5_order_11 : decode cX5_order 11 = .ok (.aload_n 0, 1) := by decide +kernel
theorem dX5_order_12 : decode cX5_order 12 = .ok (.getfield 14, 3) := by decide +kernel
theorem dX5_order_15 : decode cX5_order 15 = .ok (.iload_n 2, 1) := by decide +kernel
theorem dX5_order_16 : decode cX5_order 16 = .ok (.invokevirtual 77, 3) := by decide +kernel
theorem dX5_order_19 : decode cX5_order 19 = .ok (.ifCond .ne 5, 3) := by decide +kernel
theorem dX5_order_22 : decode cX5_order 22 = .ok (.iconst (-1), 1) := by decide +kernel
theorem dX5_order_23 : decode cX5_order 23 = .ok (.ireturn, 1) := by decide +kernel
theorem dX5_order_24 : decode cX5_order 24 = .ok (.aload_n 0, 1) := by decide +kernel
theorem dX5_order_25 : decode cX5_order 25 = .ok (.getfield 55, 3) := by decide +kernel
theorem dX5_order_28 : decode cX5_order 28 = .ok (.aload_n 0, 1) := by decide +kernel
theorem dX5_order_29 : decode cX5_order 29 = .ok (.getfield 40, 3) := by decide +kernel
theorem dX5_order_32 : decode cX5_order 32 = .ok (.aload_n 0, 1) := by decide +kernel
theorem dX5_order_33 : decode cX5_order 33 = .ok (.getfield 40, 3) := by decide +kernel
theorem dX5_order_36 : decode cX5_order 36 = .ok (.invokevirtual 209, 3) := by decide +kernel
theorem dX5_order_39 : decode cX5_order 39 = .ok (.invokevirtual 254, 3) := by decide +kernel
theorem dX5_order_42 : decode cX5_order 42 = .ok (.aload_n 0, 1) := by decide +kernel
theorem dX5_order_43 : decode cX5_order 43 = .ok (.getfield 55, 3) := by decide +kernel
theorem dX5_order_46 : decode cX5_order 46 = .ok (.iload_n 1, 1) := by decide +kernel
theorem dX5_order_47 : decode cX5_order 47 = .ok (.invokevirtual 263, 3) := by decide +kernel
theorem dX5_order_50 : decode cX5_order 50 = .ok (.istore_n 3, 1) := by decide +kernel
theorem dX5_order_51 : decode cX5_order 51 = .ok (.iload_n 3, 1) := by decide +kernel
theorem dX5_order_52 : decode cX5_order 52 = .ok (.bipush (-9), 2) := by decide +kernel
theorem dX5_order_54 : decode cX5_order 54 = .ok (.if_icmp .ne 6, 3) := by decide +kernel
theorem dX5_order_57 : decode cX5_order 57 = .ok (.bipush (-9), 2) := by decide +kernel
theorem dX5_order_59 : decode cX5_order 59 = .ok (.ireturn, 1) := by decide +kernel
theorem dX5_order_60 : decode cX5_order 60 = .ok (.aload_n 0, 1) := by decide +kernel
theorem dX5_order_61 : decode cX5_order 61 = .ok (.getfield 14, 3) := by decide +kernel
theorem dX5_order_64 : decode cX5_order 64 = .ok (.iload_n 2, 1) := by decide +kernel
theorem dX5_order_65 : decode cX5_order 65 = .ok (.iconst 2, 1) := by decide +kernel
theorem dX5_order_66 : decode cX5_order 66 = .ok (.iload_n 3, 1) := by decide +kernel
theorem dX5_order_67 : decode cX5_order 67 = .ok (.imul, 1) := by decide +kernel
theorem dX5_order_68 : decode cX5_order 68 = .ok (.iconst 0, 1) := by decide +kernel
theorem dX5_order_69 : decode cX5_order 69 = .ok (.invokevirtual 85, 3) := by decide +kernel
theorem dX5_order_72 : decode cX5_order 72 = .ok (.aload_n 0, 1) := by decide +kernel
theorem dX5_order_73 : decode cX5_order 73 = .ok (.getfield 55, 3) := by decide +kernel
theorem dX5_order_76 : decode cX5_order 76 = .ok (.iload_n 1, 1) := by decide +kernel
theorem dX5_order_77 : decode cX5_order 77 = .ok (.iload_n 3, 1) := by decide +kernel
theorem dX5_order_78 : decode cX5_order 78 = .ok (.aload_n 0, 1) := by decide +kernel
theorem dX5_order_79 : decode cX5_order 79 = .ok (.getfield 14, 3) := by decide +kernel
theorem dX5_order_82 : decode cX5_order 82 = .ok (.getfield 100, 3) := by decide +kernel
theorem dX5_order_85 : decode cX5_order 85 = .ok (.iload_n 2, 1) := by decide +kernel
theorem dX5_order_86 : decode cX5_order 86 = .ok (.aaload, 1) := by decide +kernel
theorem dX5_order_87 : decode cX5_order 87 = .ok (.invokevirtual 266, 3) := by decide +kernel
theorem dX5_order_90 : decode cX5_order 90 = .ok (.iload_n 3, 1) := by decide +kernel
theorem dX5_order_91 : decode cX5_order 91 = .ok (.ireturn, 1) := by decide +kernel
theorem dX5_shut_0 : decode cX5_shut 0 = .ok (.aload_n 0, 1) := by decide +kernel
theorem dX5_shut_1 : decode cX5_shut 1 = .ok (.getfield 31, 3) := by decide +kernel
theorem dX5_shut_4 : decode cX5_shut 4 = .ok (.getfield 140, 3) := by decide +kernel
theorem dX5_shut_7 : decode cX5_shut 7 = .ok (.ifCond .ne 6, 3) := by decide +kernel
theorem dX5_shut_10 : decode cX5_shut 10 = .ok (.bipush (-4), 2) := by decide +kernel
theorem dX5_shut_12 : decode cX5_shut 12 = .ok (.ireturn, 1) := by decide +kernel
theorem dX5_shut_13 : decode cX5_shut 13 = .ok (.aload_n 0, 1) := by decide +kernel
theorem dX5_shut_14 : decode cX5_shut 14 = .ok (.getfield 40, 3) := by decide +kernel
theorem dX5_shut_17 : decode cX5_shut 17 = .ok (.invokevirtual 209, 3) := by decide +kernel
theorem dX5_shut_20 : decode cX5_shut 20 = .ok (.istore_n 1, 1) := by decide +kernel
theorem dX5_shut_21 : decode cX5_shut 21 = .ok (.aload_n 0, 1) := by decide +kernel
theorem dX5_shut_22 : decode cX5_shut 22 = .ok (.getfield 55, 3) := by decide +kernel
theorem dX5_shut_25 : decode cX5_shut 25 = .ok (.aload_n 0, 1) := by decide +kernel
theorem dX5_shut_26 : decode cX5_shut 26 = .ok (.getfield 40, 3) := by decide +kernel
theorem dX5_shut_29 : decode cX5_shut 29 = .ok (.iload_n 1, 1) := by decide +kernel
theorem dX5_shut_30 : decode cX5_shut 30 = .ok (.invokevirtual 254, 3) := by decide +kernel
theorem dX5_shut_33 : decode cX5_shut 33 = .ok (.aload_n 0, 1) := by decide +kernel
theorem dX5_shut_34 : decode cX5_shut 34 = .ok (.getfield 55, 3) := by decide +kernel
theorem dX5_shut_37 : decode cX5_shut 37 = .ok (.iconst 0, 1) := by decide +kernel
theorem dX5_shut_38 : decode cX5_shut 38 = .ok (.invokevirtual 257, 3) := by decide +kernel
theorem dX5_shut_41 : decode cX5_shut 41 = .ok (.istore_n 2, 1) := by decide +kernel
theorem dX5_shut_42 : decode cX5_shut 42 = .ok (.iconst 0, 1) := by decide +kernel
theorem dX5_shut_43 : decode cX5_shut 43 = .ok (.istore_n 3, 1) := by decide +kernel
theorem dX5_shut_44 : decode cX5_shut 44 = .ok (.iconst 0, 1) := by decide +kernel
theorem dX5_shut_45 : decode cX5_shut 45 = .ok (.istore 4, 2) := by decide +kernel
theorem dX5_shut_47 : decode cX5_shut 47 = .ok (.iload 4, 2) := by decide +kernel
theorem dX5_shut_49 : decode cX5_shut 49 = .ok (.aload_n 0, 1) := by decide +kernel
theorem dX5_shut_50 : decode cX5_shut 50 = .ok (.getfield 31, 3) := by decide +kernel
theorem dX5_shut_53 : decode cX5_shut 53 = .ok (.getfield 228, 3) := by decide +kernel
theorem dX5_shut_56 : decode cX5_shut 56 = .ok (.if_icmp .ge 40, 3) := by decide +kernel
theorem dX5_shut_59 : decode cX5_shut 59 = .ok (.iload_n 1, 1) := by decide +kernel
theorem dX5_shut_60 : decode cX5_shut 60 = .ok (.iload 4, 2) := by decide +kernel
theorem dX5_shut_62 : decode cX5_shut 62 = .ok (.invokestatic 270, 3) := by decide +kernel
theorem dX5_shut_65 : decode cX5_shut 65 = .ok (.ifCond .eq 25, 3) := by decide +kernel
theorem dX5_shut_68 : decode cX5_shut 68 = .ok (.aload_n 0, 1) := by decide +kernel
theorem dX5_shut_69 : decode cX5_shut 69 = .ok (.getfield 55, 3) := by decide +kernel
theorem dX5_shut_72 : decode cX5_shut 72 = .ok (.iconst 1, 1) := by decide +kernel
theorem dX5_shut_73 : decode cX5_shut 73 = .ok (.iload 4, 2) := by decide +kernel
theorem dX5_shut_75 : decode cX5_shut 75 = .ok (.ishl, 1) := by decide +kernel
theorem dX5_shut_76 : decode cX5_shut 76 = .ok (.invokevirtual 257, 3) := by decide +kernel
theorem dX5_shut_79 : decode cX5_shut 79 = .ok (.iload_n 2, 1) := by decide +kernel
theorem dX5_shut_80 : decode cX5_shut 80 = .ok (.if_icmp .ne 10, 3) := by decide +kernel
theorem dX5_shut_83 : decode cX5_shut 83 = .ok (.iload_n 3, 1) := by decide +kernel
theorem dX5_shut_84 : decode cX5_shut 84 = .ok (.iconst 1, 1) := by decide +kernel
theorem dX5_shut_85 : decode cX5_shut 85 = .ok (.iload 4, 2) := by decide +kernel
theorem dX5_shut_87 : decode cX5_shut 87 = .ok (.ishl, 1) := by decide +kernel
theorem dX5_shut_88 : decode cX5_shut 88 = .ok (.ior, 1) := by decide +kernel
theorem dX5_shut_89 : decode cX5_shut 89 = .ok (.istore_n 3, 1) := by decide +kernel
theorem dX5_shut_90 : decode cX5_shut 90 = .ok (.iinc 4 1, 3) := by decide +kernel
theorem dX5_shut_93 : decode cX5_shut 93 = .ok (.goto (-46), 3) := by decide +kernel
theorem dX5_shut_96 : decode cX5_shut 96 = .ok (.iload_n 3, 1) := by decide +kernel
theorem dX5_shut_97 : decode cX5_shut 97 = .ok (.ireturn, 1) := by decide +kernel
theorem dX5_waits_0 : decode cX5_waits 0 = .ok (.aload_n 0, 1) := by decide +kernel
theorem dX5_waits_1 : decode cX5_waits 1 = .ok (.getfield 31, 3) := by decide +kernel
theorem dX5_waits_4 : decode cX5_waits 4 = .ok (.iload_n 1, 1) := by decide +kernel
theorem dX5_waits_5 : decode cX5_waits 5 = .ok (.invokevirtual 143, 3) := by decide +kernel
theorem dX5_waits_8 : decode cX5_waits 8 = .ok (.ifCond .ne 5, 3) := by decide +kernel
theorem dX5_waits_11 : decode cX5_waits 11 = .ok (.iconst (-1), 1) := by decide +kernel
theorem dX5_waits_12 : decode cX5_waits 12 = .ok (.ireturn, 1) := by decide +kernel
theorem dX5_waits_13 : decode cX5_waits 13 = .ok (.aload_n 0, 1) := by decide +kernel
theorem dX5_waits_14 : decode cX5_waits 14 = .ok (.getfield 55, 3) := by decide +kernel
theorem dX5_waits_17 : decode cX5_waits 17 = .ok (.aload_n 0, 1) := by decide +kernel
theorem dX5_waits_18 : decode cX5_waits 18 = .ok (.getfield 40, 3) := by decide +kernel
theorem dX5_waits_21 : decode cX5_waits 21 = .ok (.aload_n 0, 1) := by decide +kernel
theorem dX5_waits_22 : decode cX5_waits 22 = .ok (.getfield 40, 3) := by decide +kernel
theorem dX5_waits_25 : decode cX5_waits 25 = .ok (.invokevirtual 273, 3) := by decide +kernel
theorem dX5_waits_28 : decode cX5_waits 28 = .ok (.invokevirtual 254, 3) := by decide +kernel
theorem dX5_waits_31 : decode cX5_waits 31 = .ok (.bipush (-9), 2) := by decide +kernel
theorem dX5_waits_33 : decode cX5_waits 33 = .ok (.istore_n 2, 1) := by decide +kernel
theorem dX5_waits_34 : decode cX5_waits 34 = .ok (.iconst 0, 1) := by decide +kernel
theorem dX5_waits_35 : decode cX5_waits 35 = .ok (.istore_n 3, 1) := by decide +kernel
theorem dX5_waits_36 : decode cX5_waits 36 = .ok (.iload_n 3, 1) := by decide +kernel
theorem dX5_waits_37 : decode cX5_waits 37 = .ok (.sipush 128, 3) := by decide +kernel
theorem dX5_waits_40 : decode cX5_waits 40 = .ok (.if_icmp .ge 49, 3) := by decide +kernel
theorem dX5_waits_43 : decode cX5_waits 43 = .ok (.aload_n 0, 1) := by decide +kernel
theorem dX5_waits_44 : decode cX5_waits 44 = .ok (.getfield 55, 3) := by decide +kernel
theorem dX5_waits_47 : decode cX5_waits 47 = .ok (.iload_n 1, 1) := by decide +kernel
theorem dX5_waits_48 : decode cX5_waits 48 = .ok (.iload_n 3, 1) := by decide +kernel
theorem dX5_waits_49 : decode cX5_waits 49 = .ok (.invokevirtual 276, 3) := by decide +kernel
theorem dX5_waits_52 : decode cX5_waits 52 = .ok (.ifCond .eq 31, 3) := by decide +kernel
theorem dX5_waits_55 : decode cX5_waits 55 = .ok (.aload_n 0, 1) := by decide +kernel
theorem dX5_waits_56 : decode cX5_waits 56 = .ok (.getfield 40, 3) := by decide +kernel
theorem dX5_waits_59 : decode cX5_waits 59 = .ok (.iload_n 3, 1) := by decide +kernel
theorem dX5_waits_60 : decode cX5_waits 60 = .ok (.invokevirtual 279, 3) := by decide +kernel
theorem dX5_waits_63 : decode cX5_waits 63 = .ok (.istore 4, 2) := by decide +kernel
theorem dX5_waits_65 : decode cX5_waits 65 = .ok (.iload_n 2, 1) := by decide +kernel
theorem dX5_waits_66 : decode cX5_waits 66 = .ok (.bipush (-9), 2) := by decide +kernel
theorem dX5_waits_68 : decode cX5_waits 68 = .ok (.if_icmp .ne 8, 3) := by decide +kernel
theorem dX5_waits_71 : decode cX5_waits 71 = .ok (.iload 4, 2) := by decide +kernel
theorem dX5_waits_73 : decode cX5_waits 73 = .ok (.goto 9, 3) := by decide +kernel
theorem dX5_waits_76 : decode cX5_waits 76 = .ok (.iload_n 2, 1) := by decide +kernel
theorem dX5_waits_77 : decode cX5_waits 77 = .ok (.iload 4, 2) := by decide +kernel
theorem dX5_waits_79 : decode cX5_waits 79 = .ok (.invokestatic 282, 3) := by decide +kernel
theorem dX5_waits_82 : decode cX5_waits 82 = .ok (.istore_n 2, 1) := by decide +kernel
theorem dX5_waits_83 : decode cX5_waits 83 = .ok (.iinc 3 1, 3) := by decide +kernel
theorem dX5_waits_86 : decode cX5_waits 86 = .ok (.goto (-50), 3) := by decide +kernel
theorem dX5_waits_89 : decode cX5_waits 89 = .ok (.iload_n 2, 1) := by decide +kernel
theorem dX5_waits_90 : decode cX5_waits 90 = .ok (.bipush 20, 2) := by decide +kernel
theorem dX5_waits_92 : decode cX5_waits 92 = .ok (.if_icmp .le 8, 3) := by decide +kernel
theorem dX5_waits_95 : decode cX5_waits 95 = .ok (.bipush (-9), 2) := by decide +kernel
theorem dX5_waits_97 : decode cX5_waits 97 = .ok (.goto 4, 3) := by decide +kernel
theorem dX5_waits_100 : decode cX5_waits 100 = .ok (.iload_n 2, 1) := by decide +kernel
theorem dX5_waits_101 : decode cX5_waits 101 = .ok (.ireturn, 1) := by decide +kernel
theorem dX5_diary_0 : decode cX5_diary 0 = .ok (.aload_n 0, 1) := by decide +kernel
theorem dX5_diary_1 : decode cX5_diary 1 = .ok (.iload_n 1, 1) := by decide +kernel
theorem dX5_diary_2 : decode cX5_diary 2 = .ok (.invokevirtual 285, 3) := by decide +kernel
theorem dX5_diary_5 : decode cX5_diary 5 = .ok (.istore_n 2, 1) := by decide +kernel
theorem dX5_diary_6 : decode cX5_diary 6 = .ok (.iload_n 2, 1) := by decide +kernel
theorem dX5_diary_7 : decode cX5_diary 7 = .ok (.ifCond .eq 5, 3) := by decide +kernel
theorem dX5_diary_10 : decode cX5_diary 10 = .ok (.iload_n 2, 1) := by decide +kernel
theorem dX5_diary_11 : decode cX5_diary 11 = .ok (.ireturn, 1) := by decide +kernel
theorem dX5_diary_12 : decode cX5_diary 12 = .ok (.iconst 1, 1) := by decide +kernel
theorem dX5_diary_13 : decode cX5_diary 13 = .ok (.istore_n 3, 1) := by decide +kernel
theorem dX5_diary_14 : decode cX5_diary 14 = .ok (.iconst 0, 1) := by decide +kernel
theorem dX5_diary_15 : decode cX5_diary 15 = .ok (.istore 4, 2) := by decide +kernel
theorem dX5_diary_17 : decode cX5_diary 17 = .ok (.iload 4, 2) := by decide +kernel
theorem dX5_diary_19 : decode cX5_diary 19 = .ok (.aload_n 0, 1) := by decide +kernel
theorem dX5_diary_20 : decode cX5_diary 20 = .ok (.getfield 14, 3) := by decide +kernel
theorem dX5_diary_23 : decode cX5_diary 23 = .ok (.getfield 108, 3) := by decide +kernel
theorem dX5_diary_26 : decode cX5_diary 26 = .ok (.iload_n 1, 1) := by decide +kernel
theorem dX5_diary_27 : decode cX5_diary 27 = .ok (.iaload, 1) := by decide +kernel
theorem dX5_diary_28 : decode cX5_diary 28 = .ok (.if_icmp .ge 27, 3) := by decide +kernel
theorem dX5_diary_31 : decode cX5_diary 31 = .ok (.iload_n 3, 1) := by decide +kernel
theorem dX5_diary_32 : decode cX5_diary 32 = .ok (.aload_n 0, 1) := by decide +kernel
theorem dX5_diary_33 : decode cX5_diary 33 = .ok (.aload_n 0, 1) := by decide +kernel
theorem dX5_diary_34 : decode cX5_diary 34 = .ok (.getfield 14, 3) := by decide +kernel
theorem dX5_diary_37 : decode cX5_diary 37 = .ok (.getfield 100, 3) := by decide +kernel
theorem dX5_diary_40 : decode cX5_diary 40 = .ok (.iload_n 1, 1) := by decide +kernel
theorem dX5_diary_41 : decode cX5_diary 41 = .ok (.aaload, 1) := by decide +kernel
theorem dX5_diary_42 : decode cX5_diary 42 = .ok (.iload 4, 2) := by decide +kernel
theorem dX5_diary_44 : decode cX5_diary 44 = .ok (.invokevirtual 288, 3) := by decide +kernel
theorem dX5_diary_47 : decode cX5_diary 47 = .ok (.imul, 1) := by decide +kernel
theorem dX5_diary_48 : decode cX5_diary 48 = .ok (.istore_n 3, 1) := by decide +kernel
theorem dX5_diary_49 : decode cX5_diary 49 = .ok (.iinc 4 1, 3) := by decide +kernel
theorem dX5_diary_52 : decode cX5_diary 52 = .ok (.goto (-35), 3) := by decide +kernel
theorem dX5_diary_55 : decode cX5_diary 55 = .ok (.aload_n 0, 1) := by decide +kernel
theorem dX5_diary_56 : decode cX5_diary 56 = .ok (.getfield 14, 3) := by decide +kernel
theorem dX5_diary_59 : decode cX5_diary 59 = .ok (.getfield 108, 3) := by decide +kernel
theorem dX5_diary_62 : decode cX5_diary 62 = .ok (.iload_n 1, 1) := by decide +kernel
theorem dX5_diary_63 : decode cX5_diary 63 = .ok (.iaload, 1) := by decide +kernel
theorem dX5_diary_64 : decode cX5_diary 64 = .ok (.ifCond .le 11, 3) := by decide +kernel
theorem dX5_diary_67 : decode cX5_diary 67 = .ok (.iload_n 3, 1) := by decide +kernel
theorem dX5_diary_68 : decode cX5_diary 68 = .ok (.ifCond .le 7, 3) := by decide +kernel
theorem dX5_diary_71 : decode cX5_diary 71 = .ok (.iconst 1, 1) := by decide +kernel
theorem dX5_diary_72 : decode cX5_diary 72 = .ok (.goto 4, 3) := by decide +kernel
theorem dX5_diary_75 : decode cX5_diary 75 = .ok (.iconst 0, 1) := by decide +kernel
theorem dX5_diary_76 : decode cX5_diary 76 = .ok (.istore 4, 2) := by decide +kernel
theorem dX5_diary_78 : decode cX5_diary 78 = .ok (.aload_n 0, 1) := by decide +kernel
theorem dX5_diary_79 : decode cX5_diary 79 = .ok (.iload 4, 2) := by decide +kernel
theorem dX5_diary_81 : decode cX5_diary 81 = .ok (.ifCond .eq 27, 3) := by decide +kernel
theorem dX5_diary_84 : decode cX5_diary 84 = .ok (.aload_n 0, 1) := by decide +kernel
theorem dX5_diary_85 : decode cX5_diary 85 = .ok (.getfield 31, 3) := by decide +kernel
theorem dX5_diary_88 : decode cX5_diary 88 = .ok (.aload_n 0, 1) := by decide +kernel
theorem dX5_diary_89 : decode cX5_diary 89 = .ok (.getfield 14, 3) := by decide +kernel
theorem dX5_diary_92 : decode cX5_diary 92 = .ok (.getfield 100, 3) := by decide +kernel
theorem dX5_diary_95 : decode cX5_diary 95 = .ok (.iload_n 1, 1) := by decide +kernel
theorem dX5_diary_96 : decode cX5_diary 96 = .ok (.aaload, 1) := by decide +kernel
theorem dX5_diary_97 : decode cX5_diary 97 = .ok (.iconst 0, 1) := by decide +kernel
theorem dX5_diary_98 : decode cX5_diary 98 = .ok (.iaload, 1) := by decide +kernel
theorem dX5_diary_99 : decode cX5_diary 99 = .ok (.invokevirtual 291, 3) := by decide +kernel
theorem dX5_diary_102 : decode cX5_diary 102 = .ok (.invokestatic 222, 3) := by decide +kernel
theorem dX5_diary_105 : decode cX5_diary 105 = .ok (.goto 5, 3) := by decide +kernel
theorem dX5_diary_108 : decode cX5_diary 108 = .ok (.bipush (-9), 2) := by decide +kernel
theorem dX5_diary_110 : decode cX5_diary 110 = .ok (.putfield 67, 3) := by decide +kernel
theorem dX5_diary_113 : decode cX5_diary 113 = .ok (.iload_n 3, 1) := by decide +kernel
theorem dX5_diary_114 : decode cX5_diary 114 = .ok (.ireturn, 1) := by decide +kernel
theorem dX5_forged_0 : decode cX5_forged 0 = .ok (.aload_n 0, 1) := by decide +kernel
theorem dX5_forged_1 : decode cX5_forged 1 = .ok (.iload_n 1, 1) := by decide +kernel
theorem dX5_forged_2 : decode cX5_forged 2 = .ok (.invokevirtual 285, 3) := by decide +kernel
theorem dX5_forged_5 : decode cX5_forged 5 = .ok (.istore_n 2, 1) := by decide +kernel
theorem dX5_forged_6 : decode cX5_forged 6 = .ok (.iload_n 2, 1) := by decide +kernel
theorem dX5_forged_7 : decode cX5_forged 7 = .ok (.ifCond .eq 5, 3) := by decide +kernel
theorem dX5_forged_10 : decode cX5_forged 10 = .ok (.iload_n 2, 1) := by decide +kernel
theorem dX5_forged_11 : decode cX5_forged 11 = .ok (.ireturn, 1) := by decide +kernel
theorem dX5_forged_12 : decode cX5_forged 12 = .ok (.iconst 0, 1) := by decide +kernel
theorem dX5_forged_13 : decode cX5_forged 13 = .ok (.istore_n 3, 1) := by decide +kernel
theorem dX5_forged_14 : decode cX5_forged 14 = .ok (.iload_n 3, 1) := by decide +kernel
theorem dX5_forged_15 : decode cX5_forged 15 = .ok (.aload_n 0, 1) := by decide +kernel
theorem dX5_forged_16 : decode cX5_forged 16 = .ok (.getfield 14, 3) := by decide +kernel
theorem dX5_forged_19 : decode cX5_forged 19 = .ok (.getfield 108, 3) := by decide +kernel
theorem dX5_forged_22 : decode cX5_forged 22 = .ok (.iload_n 1, 1) := by decide +kernel
theorem dX5_forged_23 : decode cX5_forged 23 = .ok (.iaload, 1) := by decide +kernel
theorem dX5_forged_24 : decode cX5_forged 24 = .ok (.if_icmp .ge 28, 3) := by decide +kernel
theorem dX5_forged_27 : decode cX5_forged 27 = .ok (.aload_n 0, 1) := by decide +kernel
theorem dX5_forged_28 : decode cX5_forged 28 = .ok (.aload_n 0, 1) := by decide +kernel
theorem dX5_forged_29 : decode cX5_forged 29 = .ok (.getfield 14, 3) := by decide +kernel
theorem dX5_forged_32 : decode cX5_forged 32 = .ok (.getfield 100, 3) := by decide +kernel
theorem dX5_forged_35 : decode cX5_forged 35 = .ok (.iload_n 1, 1) := by decide +kernel
theorem dX5_forged_36 : decode cX5_forged 36 = .ok (.aaload, 1) := by decide +kernel
theorem dX5_forged_37 : decode cX5_forged 37 = .ok (.iload_n 3, 1) := by decide +kernel
theorem dX5_forged_38 : decode cX5_forged 38 = .ok (.invokevirtual 288, 3) := by decide +kernel
theorem dX5_forged_41 : decode cX5_forged 41 = .ok (.ifCond .ne 5, 3) := by decide +kernel
theorem dX5_forged_44 : decode cX5_forged 44 = .ok (.iload_n 3, 1) := by decide +kernel
theorem dX5_forged_45 : decode cX5_forged 45 = .ok (.ireturn, 1) := by decide +kernel
theorem dX5_forged_46 : decode cX5_forged 46 = .ok (.iinc 3 1, 3) := by decide +kernel
theorem dX5_forged_49 : decode cX5_forged 49 = .ok (.goto (-35), 3) := by decide +kernel
theorem dX5_forged_52 : decode cX5_forged 52 = .ok (.bipush (-9), 2) := by decide +kernel
theorem dX5_forged_54 : decode cX5_forged 54 = .ok (.ireturn, 1) := by decide +kernel
theorem dX5_stolen_0 : decode cX5_stolen 0 = .ok (.iload_n 1, 1) := by decide +kernel
theorem dX5_stolen_1 : decode cX5_stolen 1 = .ok (.ifCond .lt 19, 3) := by decide +kernel
theorem dX5_stolen_4 : decode cX5_stolen 4 = .ok (.iload_n 1, 1) := by decide +kernel
theorem dX5_stolen_5 : decode cX5_stolen 5 = .ok (.bipush 7, 2) := by decide +kernel
theorem dX5_stolen_7 : decode cX5_stolen 7 = .ok (.if_icmp .gt 13, 3) := by decide +kernel
theorem dX5_stolen_10 : decode cX5_stolen 10 = .ok (.iload_n 2, 1) := by decide +kernel
theorem dX5_stolen_11 : decode cX5_stolen 11 = .ok (.ifCond .lt 9, 3) := by decide +kernel
theorem dX5_stolen_14 : decode cX5_stolen 14 = .ok (.iload_n 2, 1) := by decide +kernel
theorem dX5_stolen_15 : decode cX5_stolen 15 = .ok (.bipush 20, 2) := by decide +kernel
theorem dX5_stolen_17 : decode cX5_stolen 17 = .ok (.if_icmp .le 5, 3) := by decide +kernel
theorem dX5_stolen_20 : decode cX5_stolen 20 = .ok (.iconst (-1), 1) := by decide +kernel
theorem dX5_stolen_21 : decode cX5_stolen 21 = .ok (.ireturn, 1) := by decide +kernel
theorem dX5_stolen_22 : decode cX5_stolen 22 = .ok (.aload_n 0, 1) := by decide +kernel
theorem dX5_stolen_23 : decode cX5_stolen 23 = .ok (.getfield 40, 3) := by decide +kernel
theorem dX5_stolen_26 : decode cX5_stolen 26 = .ok (.iload_n 2, 1) := by decide +kernel
theorem dX5_stolen_27 : decode cX5_stolen 27 = .ok (.invokevirtual 294, 3) := by decide +kernel
theorem dX5_stolen_30 : decode cX5_stolen 30 = .ok (.istore_n 3, 1) := by decide +kernel
theorem dX5_stolen_31 : decode cX5_stolen 31 = .ok (.iload_n 3, 1) := by decide +kernel
theorem dX5_stolen_32 : decode cX5_stolen 32 = .ok (.invokestatic 173, 3) := by decide +kernel
theorem dX5_stolen_35 : decode cX5_stolen 35 = .ok (.iload_n 1, 1) := by decide +kernel
theorem dX5_stolen_36 : decode cX5_stolen 36 = .ok (.iconst 1, 1) := by decide +kernel
theorem dX5_stolen_37 : decode cX5_stolen 37 = .ok (.iadd, 1) := by decide +kernel
theorem dX5_stolen_38 : decode cX5_stolen 38 = .ok (.if_icmp .ne 7, 3) := by decide +kernel
theorem dX5_stolen_41 : decode cX5_stolen 41 = .ok (.iload_n 3, 1) := by decide +kernel
theorem dX5_stolen_42 : decode cX5_stolen 42 = .ok (.goto 4, 3) := by decide +kernel
theorem dX5_stolen_45 : decode cX5_stolen 45 = .ok (.iconst 0, 1) := by decide +kernel
theorem dX5_stolen_46 : decode cX5_stolen 46 = .ok (.ireturn, 1) := by decide +kernel
theorem dX5_odds_0 : decode cX5_odds 0 = .ok (.aload_n 0, 1) := by decide +kernel
theorem dX5_odds_1 : decode cX5_odds 1 = .ok (.getfield 31, 3) := by decide +kernel
theorem dX5_odds_4 : decode cX5_odds 4 = .ok (.iload_n 1, 1) := by decide +kernel
theorem dX5_odds_5 : decode cX5_odds 5 = .ok (.invokevirtual 143, 3) := by decide +kernel
theorem dX5_odds_8 : decode cX5_odds 8 = .ok (.ifCond .ne 5, 3) := by decide +kernel
theorem dX5_odds_11 : decode cX5_odds 11 = .ok (.iconst (-1), 1) := by decide +kernel
theorem dX5_odds_12 : decode cX5_odds 12 = .ok (.ireturn, 1) := by decide +kernel
theorem dX5_odds_13 : decode cX5_odds 13 = .ok (.aload_n 0, 1) := by decide +kernel
theorem dX5_odds_14 : decode cX5_odds 14 = .ok (.getfield 40, 3) := by decide +kernel
theorem dX5_odds_17 : decode cX5_odds 17 = .ok (.invokevirtual 209, 3) := by decide +kernel
theorem dX5_odds_20 : decode cX5_odds 20 = .ok (.istore_n 2, 1) := by decide +kernel
theorem dX5_odds_21 : decode cX5_odds 21 = .ok (.aload_n 0, 1) := by decide +kernel
theorem dX5_odds_22 : decode cX5_odds 22 = .ok (.getfield 55, 3) := by decide +kernel
theorem dX5_odds_25 : decode cX5_odds 25 = .ok (.aload_n 0, 1) := by decide +kernel
theorem dX5_odds_26 : decode cX5_odds 26 = .ok (.getfield 40, 3) := by decide +kernel
theorem dX5_odds_29 : decode cX5_odds 29 = .ok (.iload_n 2, 1) := by decide +kernel
theorem dX5_odds_30 : decode cX5_odds 30 = .ok (.invokevirtual 254, 3) := by decide +kernel
theorem dX5_odds_33 : decode cX5_odds 33 = .ok (.aload_n 0, 1) := by decide +kernel
theorem dX5_odds_34 : decode cX5_odds 34 = .ok (.getfield 55, 3) := by decide +kernel
theorem dX5_odds_37 : decode cX5_odds 37 = .ok (.iload_n 1, 1) := by decide +kernel
theorem dX5_odds_38 : decode cX5_odds 38 = .ok (.invokevirtual 297, 3) := by decide +kernel
theorem dX5_odds_41 : decode cX5_odds 41 = .ok (.i2l, 1) := by decide +kernel
theorem dX5_odds_42 : decode cX5_odds 42 = .ok (.lstore_n 3, 1) := by decide +kernel
theorem dX5_odds_43 : decode cX5_odds 43 = .ok (.lconst 1, 1) := by decide +kernel
theorem dX5_odds_44 : decode cX5_odds 44 = .ok (.iload_n 2, 1) := by decide +kernel
theorem dX5_odds_45 : decode cX5_odds 45 = .ok (.invokestatic 173, 3) := by decide +kernel
theorem dX5_odds_48 : decode cX5_odds 48 = .ok (.lshl, 1) := by decide +kernel
theorem dX5_odds_49 : decode cX5_odds 49 = .ok (.lstore 5, 2) := by decide +kernel
theorem dX5_odds_51 : decode cX5_odds 51 = .ok (.iconst 0, 1) := by decide +kernel
theorem dX5_odds_52 : decode cX5_odds 52 = .ok (.istore 7, 2) := by decide +kernel
theorem dX5_odds_54 : decode cX5_odds 54 = .ok (.iload 7, 2) := by decide +kernel
theorem dX5_odds_56 : decode cX5_odds 56 = .ok (.bipush 7, 2) := by decide +kernel
theorem dX5_odds_58 : decode cX5_odds 58 = .ok (.if_icmp .ge 44, 3) := by decide +kernel
theorem dX5_odds_61 : decode cX5_odds 61 = .ok (.lload_n 3, 1) := by decide +kernel
theorem dX5_odds_62 : decode cX5_odds 62 = .ok (.ldc2_w 300, 3) := by decide +kernel
theorem dX5_odds_65 : decode cX5_odds 65 = .ok (.lrem, 1) := by decide +kernel
theorem dX5_odds_66 : decode cX5_odds 66 = .ok (.lconst 0, 1) := by decide +kernel
theorem dX5_odds_67 : decode cX5_odds 67 = .ok (.lcmp, 1) := by decide +kernel
theorem dX5_odds_68 : decode cX5_odds 68 = .ok (.ifCond .ne 34, 3) := by decide +kernel
theorem dX5_odds_71 : decode cX5_odds 71 = .ok (.lload 5, 2) := by decide +kernel
theorem dX5_odds_73 : decode cX5_odds 73 = .ok (.ldc2_w 300, 3) := by decide +kernel
theorem dX5_odds_76 : decode cX5_odds 76 = .ok (.lrem, 1) := by decide +kernel
theorem dX5_odds_77 : decode cX5_odds 77 = .ok (.lconst 0, 1) := by decide +kernel
theorem dX5_odds_78 : decode cX5_odds 78 = .ok (.lcmp, 1) := by decide +kernel
theorem dX5_odds_79 : decode cX5_odds 79 = .ok (.ifCond .ne 23, 3) := by decide +kernel
theorem dX5_odds_82 : decode cX5_odds 82 = .ok (.lload_n 3, 1) := by decide +kernel
theorem dX5_odds_83 : decode cX5_odds 83 = .ok (.ldc2_w 300, 3) := by decide +kernel
theorem dX5_odds_86 : decode cX5_odds 86 = .ok (.ldiv, 1) := by decide +kernel
theorem dX5_odds_87 : decode cX5_odds 87 = .ok (.lstore_n 3, 1) := by decide +kernel
theorem dX5_odds_88 : decode cX5_odds 88 = .ok (.lload 5, 2) := by decide +kernel
theorem dX5_odds_90 : decode cX5_odds 90 = .ok (.ldc2_w 300, 3) := by decide +kernel
theorem dX5_odds_93 : decode cX5_odds 93 = .ok (.ldiv, 1) := by decide +kernel
theorem dX5_odds_94 : decode cX5_odds 94 = .ok (.lstore 5, 2) := by decide +kernel
theorem dX5_odds_96 : decode cX5_odds 96 = .ok (.iinc 7 1, 3) := by decide +kernel
theorem dX5_odds_99 : decode cX5_odds 99 = .ok (.goto (-45), 3) := by decide +kernel
theorem dX5_odds_102 : decode cX5_odds 102 = .ok (.aload_n 0, 1) := by decide +kernel
theorem dX5_odds_103 : decode cX5_odds 103 = .ok (.lload_n 3, 1) := by decide +kernel
theorem dX5_odds_104 : decode cX5_odds 104 = .ok (.putfield 70, 3) := by decide +kernel
theorem dX5_odds_107 : decode cX5_odds 107 = .ok (.aload_n 0, 1) := by decide +kernel
theorem dX5_odds_108 : decode cX5_odds 108 = .ok (.lload 5, 2) := by decide +kernel
theorem dX5_odds_110 : decode cX5_odds 110 = .ok (.putfield 74, 3) := by decide +kernel
theorem dX5_odds_113 : decode cX5_odds 113 = .ok (.iconst 1, 1) := by decide +kernel
theorem dX5_odds_114 : decode cX5_odds 114 = .ok (.ireturn, 1) := by decide +kernel
theorem dX5_lots_0 : decode cX5_lots 0 = .ok (.iload_n 1, 1) := by decide +kernel
theorem dX5_lots_1 : decode cX5_lots 1 = .ok (.iconst 1, 1) := by decide +kernel
theorem dX5_lots_2 : decode cX5_lots 2 = .ok (.if_icmp .lt 21, 3) := by decide +kernel
theorem dX5_lots_5 : decode cX5_lots 5 = .ok (.iload_n 1, 1) := by decide +kernel
theorem dX5_lots_6 : decode cX5_lots 6 = .ok (.bipush 20, 2) := by decide +kernel
theorem dX5_lots_8 : decode cX5_lots 8 = .ok (.if_icmp .gt 15, 3) := by decide +kernel
theorem dX5_lots_11 : decode cX5_lots 11 = .ok (.iload_n 2, 1) := by decide +kernel
theorem dX5_lots_12 : decode cX5_lots 12 = .ok (.iconst 1, 1) := by decide +kernel
theorem dX5_lots_13 : decode cX5_lots 13 = .ok (.if_icmp .lt 10, 3) := by decide +kernel
theorem dX5_lots_16 : decode cX5_lots 16 = .ok (.iload_n 2, 1) := by decide +kernel
theorem dX5_lots_17 : decode cX5_lots 17 = .ok (.ldc_w 302, 3) := by decide +kernel
theorem dX5_lots_20 : decode cX5_lots 20 = .ok (.if_icmp .le 5, 3) := by decide +kernel
theorem dX5_lots_23 : decode cX5_lots 23 = .ok (.iconst (-1), 1) := by decide +kernel
theorem dX5_lots_24 : decode cX5_lots 24 = .ok (.ireturn, 1) := by decide +kernel
theorem dX5_lots_25 : decode cX5_lots 25 = .ok (.aload_n 0, 1) := by decide +kernel
theorem dX5_lots_26 : decode cX5_lots 26 = .ok (.getfield 31, 3) := by decide +kernel
theorem dX5_lots_29 : decode cX5_lots 29 = .ok (.getfield 140, 3) := by decide +kernel
theorem dX5_lots_32 : decode cX5_lots 32 = .ok (.ifCond .ne 6, 3) := by decide +kernel
theorem dX5_lots_35 : decode cX5_lots 35 = .ok (.bipush (-4), 2) := by decide +kernel
theorem dX5_lots_37 : decode cX5_lots 37 = .ok (.ireturn, 1) := by decide +kernel
theorem dX5_lots_38 : decode cX5_lots 38 = .ok (.aload_n 0, 1) := by decide +kernel
theorem dX5_lots_39 : decode cX5_lots 39 = .ok (.getfield 40, 3) := by decide +kernel
theorem dX5_lots_42 : decode cX5_lots 42 = .ok (.getfield 178, 3) := by decide +kernel
theorem dX5_lots_45 : decode cX5_lots 45 = .ok (.invokestatic 173, 3) := by decide +kernel
theorem dX5_lots_48 : decode cX5_lots 48 = .ok (.istore_n 3, 1) := by decide +kernel
theorem dX5_lots_49 : decode cX5_lots 49 = .ok (.iload_n 2, 1) := by decide +kernel
theorem dX5_lots_50 : decode cX5_lots 50 = .ok (.i2l, 1) := by decide +kernel
theorem dX5_lots_51 : decode cX5_lots 51 = .ok (.lstore 4, 2) := by decide +kernel
theorem dX5_lots_53 : decode cX5_lots 53 = .ok (.iconst 0, 1) := by decide +kernel
theorem dX5_lots_54 : decode cX5_lots 54 = .ok (.istore 6, 2) := by decide +kernel
theorem dX5_lots_56 : decode cX5_lots 56 = .ok (.iload 6, 2) := by decide +kernel
theorem dX5_lots_58 : decode cX5_lots 58 = .ok (.iload_n 1, 1) := by decide +kernel
theorem dX5_lots_59 : decode cX5_lots 59 = .ok (.if_icmp .ge 38, 3) := by decide +kernel
theorem dX5_lots_62 : decode cX5_lots 62 = .ok (.aload_n 0, 1) := by decide +kernel
theorem dX5_lots_63 : decode cX5_lots 63 = .ok (.getfield 40, 3) := by decide +kernel
theorem dX5_lots_66 : decode cX5_lots 66 = .ok (.invokevirtual 193, 3) := by decide +kernel
theorem dX5_lots_69 : decode cX5_lots 69 = .ok (.ifCond .ne 28, 3) := by decide +kernel
theorem dX5_lots_72 : decode cX5_lots 72 = .ok (.lload 4, 2) := by decide +kernel
theorem dX5_lots_74 : decode cX5_lots 74 = .ok (.ldc2_w 303, 3) := by decide +kernel
theorem dX5_lots_77 : decode cX5_lots 77 = .ok (.lmul, 1) := by decide +kernel
theorem dX5_lots_78 : decode cX5_lots 78 = .ok (.ldc2_w 305, 3) := by decide +kernel
theorem dX5_lots_81 : decode cX5_lots 81 = .ok (.lrem, 1) := by decide +kernel
theorem dX5_lots_82 : decode cX5_lots 82 = .ok (.lstore 4, 2) := by decide +kernel
theorem dX5_lots_84 : decode cX5_lots 84 = .ok (.aload_n 0, 1) := by decide +kernel
theorem dX5_lots_85 : decode cX5_lots 85 = .ok (.lload 4, 2) := by decide +kernel
theorem dX5_lots_87 : decode cX5_lots 87 = .ok (.l2i, 1) := by decide +kernel
theorem dX5_lots_88 : decode cX5_lots 88 = .ok (.invokevirtual 307, 3) := by decide +kernel
theorem dX5_lots_91 : decode cX5_lots 91 = .ok (.iinc 6 1, 3) := by decide +kernel
theorem dX5_lots_94 : decode cX5_lots 94 = .ok (.goto (-38), 3) := by decide +kernel
theorem dX5_lots_97 : decode cX5_lots 97 = .ok (.aload_n 0, 1) := by decide +kernel
theorem dX5_lots_98 : decode cX5_lots 98 = .ok (.getfield 40, 3) := by decide +kernel
theorem dX5_lots_101 : decode cX5_lots 101 = .ok (.getfield 178, 3) := by decide +kernel
theorem dX5_lots_104 : decode cX5_lots 104 = .ok (.invokestatic 173, 3) := by decide +kernel
theorem dX5_lots_107 : decode cX5_lots 107 = .ok (.iload_n 3, 1) := by decide +kernel
theorem dX5_lots_108 : decode cX5_lots 108 = .ok (.isub, 1) := by decide +kernel
theorem dX5_lots_109 : decode cX5_lots 109 = .ok (.ireturn, 1) := by decide +kernel
theorem dX5_asked_0 : decode cX5_asked 0 = .ok (.aload_n 0, 1) := by decide +kernel
theorem dX5_asked_1 : decode cX5_asked 1 = .ok (.getfield 67, 3) := by decide +kernel
theorem dX5_asked_4 : decode cX5_asked 4 = .ok (.ireturn, 1) := by decide +kernel
theorem dX5_upper_0 : decode cX5_upper 0 = .ok (.aload_n 0, 1) := by decide +kernel
theorem dX5_upper_1 : decode cX5_upper 1 = .ok (.getfield 70, 3) := by decide +kernel
theorem dX5_upper_4 : decode cX5_upper 4 = .ok (.lreturn, 1) := by decide +kernel
theorem dX5_lower_0 : decode cX5_lower 0 = .ok (.aload_n 0, 1) := by decide +kernel
theorem dX5_lower_1 : decode cX5_lower 1 = .ok (.getfield 74, 3) := by decide +kernel
theorem dX5_lower_4 : decode cX5_lower 4 = .ok (.lreturn, 1) := by decide +kernel
theorem dX5_count_0 : decode cX5_count 0 = .ok (.iload_n 1, 1) := by decide +kernel
theorem dX5_count_1 : decode cX5_count 1 = .ok (.ifCond .lt 9, 3) := by decide +kernel
theorem dX5_count_4 : decode cX5_count 4 = .ok (.iload_n 1, 1) := by decide +kernel
theorem dX5_count_5 : decode cX5_count 5 = .ok (.bipush 9, 2) := by decide +kernel
theorem dX5_count_7 : decode cX5_count 7 = .ok (.if_icmp .lt 7, 3) := by decide +kernel
theorem dX5_count_10 : decode cX5_count 10 = .ok (.iconst (-1), 1) := by decide +kernel
theorem dX5_count_11 : decode cX5_count 11 = .ok (.goto 8, 3) := by decide +kernel
theorem dX5_count_14 : decode cX5_count 14 = .ok (.aload_n 0, 1) := by decide +kernel
theorem dX5_count_15 : decode cX5_count 15 = .ok (.iload_n 1, 1) := by decide +kernel
theorem dX5_count_16 : decode cX5_count 16 = .ok (.invokevirtual 311, 3) := by decide +kernel
theorem dX5_count_19 : decode cX5_count 19 = .ok (.ireturn, 1) := by decide +kernel
theorem dX5_finding_0 : decode cX5_finding 0 = .ok (.aload_n 0, 1) := by decide +kernel
theorem dX5_finding_1 : decode cX5_finding 1 = .ok (.getfield 63, 3) := by decide +kernel
theorem dX5_finding_4 : decode cX5_finding 4 = .ok (.ireturn, 1) := by decide +kernel
theorem dX5_findings_0 : decode cX5_findings 0 = .ok (.iload_n 1, 1) := by decide +kernel
theorem dX5_findings_1 : decode cX5_findings 1 = .ok (.iconst 1, 1) := by decide +kernel
theorem dX5_findings_2 : decode cX5_findings 2 = .ok (.if_icmp .lt 8, 3) := by decide +kernel
theorem dX5_findings_5 : decode cX5_findings 5 = .ok (.iload_n 1, 1) := by decide +kernel
theorem dX5_findings_6 : decode cX5_findings 6 = .ok (.iconst 5, 1) := by decide +kernel
theorem dX5_findings_7 : decode cX5_findings 7 = .ok (.if_icmp .le 7, 3) := by decide +kernel
theorem dX5_findings_10 : decode cX5_findings 10 = .ok (.iconst (-1), 1) := by decide +kernel
theorem dX5_findings_11 : decode cX5_findings 11 = .ok (.goto 9, 3) := by decide +kernel
theorem dX5_findings_14 : decode cX5_findings 14 = .ok (.aload_n 0, 1) := by decide +kernel
theorem dX5_findings_15 : decode cX5_findings 15 = .ok (.getfield 59, 3) := by decide +kernel
theorem dX5_findings_18 : decode cX5_findings 18 = .ok (.iload_n 1, 1) := by decide +kernel
theorem dX5_findings_19 : decode cX5_findings 19 = .ok (.iaload, 1) := by decide +kernel
theorem dX5_findings_20 : decode cX5_findings 20 = .ok (.ireturn, 1) := by decide +kernel
theorem dX5_digest_0 : decode cX5_digest 0 = .ok (.ldc2_w 314, 3) := by decide +kernel
theorem dX5_digest_3 : decode cX5_digest 3 = .ok (.lstore_n 1, 1) := by decide +kernel
theorem dX5_digest_4 : decode cX5_digest 4 = .ok (.iconst 0, 1) := by decide +kernel
theorem dX5_digest_5 : decode cX5_digest 5 = .ok (.istore_n 3, 1) := by decide +kernel
theorem dX5_digest_6 : decode cX5_digest 6 = .ok (.iload_n 3, 1) := by decide +kernel
theorem dX5_digest_7 : decode cX5_digest 7 = .ok (.bipush 9, 2) := by decide +kernel
theorem dX5_digest_9 : decode cX5_digest 9 = .ok (.if_icmp .ge 22, 3) := by decide +kernel
theorem dX5_digest_12 : decode cX5_digest 12 = .ok (.ldc2_w 316, 3) := by decide +kernel
theorem dX5_digest_15 : decode cX5_digest 15 = .ok (.lload_n 1, 1) := by decide +kernel
theorem dX5_digest_16 : decode cX5_digest 16 = .ok (.lmul, 1) := by decide +kernel
theorem dX5_digest_17 : decode cX5_digest 17 = .ok (.aload_n 0, 1) := by decide +kernel
theorem dX5_digest_18 : decode cX5_digest 18 = .ok (.iload_n 3, 1) := by decide +kernel
theorem dX5_digest_19 : decode cX5_digest 19 = .ok (.invokevirtual 311, 3) := by decide +kernel
theorem dX5_digest_22 : decode cX5_digest 22 = .ok (.i2l, 1) := by decide +kernel
theorem dX5_digest_23 : decode cX5_digest 23 = .ok (.ladd, 1) := by decide +kernel
theorem dX5_digest_24 : decode cX5_digest 24 = .ok (.lstore_n 1, 1) := by decide +kernel
theorem dX5_digest_25 : decode cX5_digest 25 = .ok (.iinc 3 1, 3) := by decide +kernel
theorem dX5_digest_28 : decode cX5_digest 28 = .ok (.goto (-22), 3) := by decide +kernel
theorem dX5_digest_31 : decode cX5_digest 31 = .ok (.ldc2_w 316, 3) := by decide +kernel
theorem dX5_digest_34 : decode cX5_digest 34 = .ok (.lload_n 1, 1) := by decide +kernel
theorem dX5_digest_35 : decode cX5_digest 35 = .ok (.lmul, 1) := by decide +kernel
theorem dX5_digest_36 : decode cX5_digest 36 = .ok (.aload_n 0, 1) := by decide +kernel
theorem dX5_digest_37 : decode cX5_digest 37 = .ok (.getfield 40, 3) := by decide +kernel
theorem dX5_digest_40 : decode cX5_digest 40 = .ok (.getfield 200, 3) := by decide +kernel
theorem dX5_digest_43 : decode cX5_digest 43 = .ok (.i2l, 1) := by decide +kernel
theorem dX5_digest_44 : decode cX5_digest 44 = .ok (.ladd, 1) := by decide +kernel
theorem dX5_digest_45 : decode cX5_digest 45 = .ok (.lstore_n 1, 1) := by decide +kernel
theorem dX5_digest_46 : decode cX5_digest 46 = .ok (.iconst 0, 1) := by decide +kernel
theorem dX5_digest_47 : decode cX5_digest 47 = .ok (.istore_n 3, 1) := by decide +kernel
theorem dX5_digest_48 : decode cX5_digest 48 = .ok (.iload_n 3, 1) := by decide +kernel
theorem dX5_digest_49 : decode cX5_digest 49 = .ok (.iconst 3, 1) := by decide +kernel
theorem dX5_digest_50 : decode cX5_digest 50 = .ok (.if_icmp .ge 26, 3) := by decide +kernel
theorem dX5_digest_53 : decode cX5_digest 53 = .ok (.ldc2_w 316, 3) := by decide +kernel
theorem dX5_digest_56 : decode cX5_digest 56 = .ok (.lload_n 1, 1) := by decide +kernel
theorem dX5_digest_57 : decode cX5_digest 57 = .ok (.lmul, 1) := by decide +kernel
theorem dX5_digest_58 : decode cX5_digest 58 = .ok (.aload_n 0, 1) := by decide +kernel
theorem dX5_digest_59 : decode cX5_digest 59 = .ok (.getfield 40, 3) := by decide +kernel
theorem dX5_digest_62 : decode cX5_digest 62 = .ok (.getfield 190, 3) := by decide +kernel
theorem dX5_digest_65 : decode cX5_digest 65 = .ok (.iload_n 3, 1) := by decide +kernel
theorem dX5_digest_66 : decode cX5_digest 66 = .ok (.iaload, 1) := by decide +kernel
theorem dX5_digest_67 : decode cX5_digest 67 = .ok (.i2l, 1) := by decide +kernel
theorem dX5_digest_68 : decode cX5_digest 68 = .ok (.ladd, 1) := by decide +kernel
theorem dX5_digest_69 : decode cX5_digest 69 = .ok (.lstore_n 1, 1) := by decide +kernel
theorem dX5_digest_70 : decode cX5_digest 70 = .ok (.iinc 3 1, 3) := by decide +kernel
theorem dX5_digest_73 : decode cX5_digest 73 = .ok (.goto (-25), 3) := by decide +kernel
theorem dX5_digest_76 : decode cX5_digest 76 = .ok (.iconst 0, 1) := by decide +kernel
theorem dX5_digest_77 : decode cX5_digest 77 = .ok (.istore_n 3, 1) := by decide +kernel
theorem dX5_digest_78 : decode cX5_digest 78 = .ok (.iload_n 3, 1) := by decide +kernel
theorem dX5_digest_79 : decode cX5_digest 79 = .ok (.aload_n 0, 1) := by decide +kernel
theorem dX5_digest_80 : decode cX5_digest 80 = .ok (.getfield 31, 3) := by decide +kernel
theorem dX5_digest_83 : decode cX5_digest 83 = .ok (.getfield 140, 3) := by decide +kernel
theorem dX5_digest_86 : decode cX5_digest 86 = .ok (.if_icmp .ge 39, 3) := by decide +kernel
theorem dX5_digest_89 : decode cX5_digest 89 = .ok (.iconst 0, 1) := by decide +kernel
theorem dX5_digest_90 : decode cX5_digest 90 = .ok (.istore 4, 2) := by decide +kernel
theorem dX5_digest_92 : decode cX5_digest 92 = .ok (.iload 4, 2) := by decide +kernel
theorem dX5_digest_94 : decode cX5_digest 94 = .ok (.iconst 5, 1) := by decide +kernel
theorem dX5_digest_95 : decode cX5_digest 95 = .ok (.if_icmp .ge 24, 3) := by decide +kernel
theorem dX5_digest_98 : decode cX5_digest 98 = .ok (.ldc2_w 316, 3) := by decide +kernel
theorem dX5_digest_101 : decode cX5_digest 101 = .ok (.lload_n 1, 1) := by decide +kernel
theorem dX5_digest_102 : decode cX5_digest 102 = .ok (.lmul, 1) := by decide +kernel
theorem dX5_digest_103 : decode cX5_digest 103 = .ok (.aload_n 0, 1) := by decide +kernel
theorem dX5_digest_104 : decode cX5_digest 104 = .ok (.iload_n 3, 1) := by decide +kernel
theorem dX5_digest_105 : decode cX5_digest 105 = .ok (.iload 4, 2) := by decide +kernel
theorem dX5_digest_107 : decode cX5_digest 107 = .ok (.invokevirtual 146, 3) := by decide +kernel
theorem dX5_digest_110 : decode cX5_digest 110 = .ok (.i2l, 1) := by decide +kernel
theorem dX5_digest_111 : decode cX5_digest 111 = .ok (.ladd, 1) := by decide +kernel
theorem dX5_digest_112 : decode cX5_digest 112 = .ok (.lstore_n 1, 1) := by decide +kernel
theorem dX5_digest_113 : decode cX5_digest 113 = .ok (.iinc 4 1, 3) := by decide +kernel
theorem dX5_digest_116 : decode cX5_digest 116 = .ok (.goto (-24), 3) := by decide +kernel
theorem dX5_digest_119 : decode cX5_digest 119 = .ok (.iinc 3 1, 3) := by decide +kernel
theorem dX5_digest_122 : decode cX5_digest 122 = .ok (.goto (-44), 3) := by decide +kernel
theorem dX5_digest_125 : decode cX5_digest 125 = .ok (.iconst 0, 1) := by decide +kernel
theorem dX5_digest_126 : decode cX5_digest 126 = .ok (.istore_n 3, 1) := by decide +kernel
theorem dX5_digest_127 : decode cX5_digest 127 = .ok (.iload_n 3, 1) := by decide +kernel
theorem dX5_digest_128 : decode cX5_digest 128 = .ok (.aload_n 0, 1) := by decide +kernel
theorem dX5_digest_129 : decode cX5_digest 129 = .ok (.getfield 31, 3) := by decide +kernel
theorem dX5_digest_132 : decode cX5_digest 132 = .ok (.getfield 228, 3) := by decide +kernel
theorem dX5_digest_135 : decode cX5_digest 135 = .ok (.if_icmp .ge 39, 3) := by decide +kernel
theorem dX5_digest_138 : decode cX5_digest 138 = .ok (.iconst 0, 1) := by decide +kernel
theorem dX5_digest_139 : decode cX5_digest 139 = .ok (.istore 4, 2) := by decide +kernel
theorem dX5_digest_141 : decode cX5_digest 141 = .ok (.iload 4, 2) := by decide +kernel
theorem dX5_digest_143 : decode cX5_digest 143 = .ok (.iconst 5, 1) := by decide +kernel
theorem dX5_digest_144 : decode cX5_digest 144 = .ok (.if_icmp .ge 24, 3) := by decide +kernel
theorem dX5_digest_147 : decode cX5_digest 147 = .ok (.ldc2_w 316, 3) := by decide +kernel
theorem dX5_digest_150 : decode cX5_digest 150 = .ok (.lload_n 1, 1) := by decide +kernel
theorem dX5_digest_151 : decode cX5_digest 151 = .ok (.lmul, 1) := by decide +kernel
theorem dX5_digest_152 : decode cX5_digest 152 = .ok (.aload_n 0, 1) := by decide +kernel
theorem dX5_digest_153 : decode cX5_digest 153 = .ok (.iload_n 3, 1) := by decide +kernel
theorem dX5_digest_154 : decode cX5_digest 154 = .ok (.iload 4, 2) := by decide +kernel
theorem dX5_digest_156 : decode cX5_digest 156 = .ok (.invokevirtual 153, 3) := by decide +kernel
theorem dX5_digest_159 : decode cX5_digest 159 = .ok (.i2l, 1) := by decide +kernel
theorem dX5_digest_160 : decode cX5_digest 160 = .ok (.ladd, 1) := by decide +kernel
theorem dX5_digest_161 : decode cX5_digest 161 = .ok (.lstore_n 1, 1) := by decide +kernel
theorem dX5_digest_162 : decode cX5_digest 162 = .ok (.iinc 4 1, 3) := by decide +kernel
theorem dX5_digest_165 : decode cX5_digest 165 = .ok (.goto (-24), 3) := by decide +kernel
theorem dX5_digest_168 : decode cX5_digest 168 = .ok (.iinc 3 1, 3) := by decide +kernel
theorem dX5_digest_171 : decode cX5_digest 171 = .ok (.goto (-44), 3) := by decide +kernel
theorem dX5_digest_174 : decode cX5_digest 174 = .ok (.iconst 0, 1) := by decide +kernel
theorem dX5_digest_175 : decode cX5_digest 175 = .ok (.istore_n 3, 1) := by decide +kernel
theorem dX5_digest_176 : decode cX5_digest 176 = .ok (.iload_n 3, 1) := by decide +kernel
theorem dX5_digest_177 : decode cX5_digest 177 = .ok (.iconst 3, 1) := by decide +kernel
theorem dX5_digest_178 : decode cX5_digest 178 = .ok (.if_icmp .ge 39, 3) := by decide +kernel
theorem dX5_digest_181 : decode cX5_digest 181 = .ok (.ldc2_w 316, 3) := by decide +kernel
theorem dX5_digest_184 : decode cX5_digest 184 = .ok (.lload_n 1, 1) := by decide +kernel
theorem dX5_digest_185 : decode cX5_digest 185 = .ok (.lmul, 1) := by decide +kernel
theorem dX5_digest_186 : decode cX5_digest 186 = .ok (.aload_n 0, 1) := by decide +kernel
theorem dX5_digest_187 : decode cX5_digest 187 = .ok (.getfield 48, 3) := by decide +kernel
theorem dX5_digest_190 : decode cX5_digest 190 = .ok (.iload_n 3, 1) := by decide +kernel
theorem dX5_digest_191 : decode cX5_digest 191 = .ok (.baload, 1) := by decide +kernel
theorem dX5_digest_192 : decode cX5_digest 192 = .ok (.ifCond .eq 15, 3) := by decide +kernel
theorem dX5_digest_195 : decode cX5_digest 195 = .ok (.aload_n 0, 1) := by decide +kernel
theorem dX5_digest_196 : decode cX5_digest 196 = .ok (.getfield 44, 3) := by decide +kernel
theorem dX5_digest_199 : decode cX5_digest 199 = .ok (.iload_n 3, 1) := by decide +kernel
theorem dX5_digest_200 : decode cX5_digest 200 = .ok (.aaload, 1) := by decide +kernel
theorem dX5_digest_201 : decode cX5_digest 201 = .ok (.getfield 187, 3) := by decide +kernel
theorem dX5_digest_204 : decode cX5_digest 204 = .ok (.goto 4, 3) := by decide +kernel
theorem dX5_digest_207 : decode cX5_digest 207 = .ok (.iconst (-1), 1) := by decide +kernel
theorem dX5_digest_208 : decode cX5_digest 208 = .ok (.i2l, 1) := by decide +kernel
theorem dX5_digest_209 : decode cX5_digest 209 = .ok (.ladd, 1) := by decide +kernel
theorem dX5_digest_210 : decode cX5_digest 210 = .ok (.lstore_n 1, 1) := by decide +kernel
theorem dX5_digest_211 : decode cX5_digest 211 = .ok (.iinc 3 1, 3) := by decide +kernel
theorem dX5_digest_214 : decode cX5_digest 214 = .ok (.goto (-38), 3) := by decide +kernel
theorem dX5_digest_217 : decode cX5_digest 217 = .ok (.aload_n 0, 1) := by decide +kernel
theorem dX5_digest_218 : decode cX5_digest 218 = .ok (.getfield 18, 3) := by decide +kernel
theorem dX5_digest_221 : decode cX5_digest 221 = .ok (.aload_n 0, 1) := by decide +kernel
theorem dX5_digest_222 : decode cX5_digest 222 = .ok (.getfield 14, 3) := by decide +kernel
theorem dX5_digest_225 : decode cX5_digest 225 = .ok (.lload_n 1, 1) := by decide +kernel
theorem dX5_digest_226 : decode cX5_digest 226 = .ok (.invokevirtual 318, 3) := by decide +kernel
theorem dX5_digest_229 : decode cX5_digest 229 = .ok (.invokevirtual 318, 3) := by decide +kernel
theorem dX5_digest_232 : decode cX5_digest 232 = .ok (.lreturn, 1) := by decide +kernel
theorem dX5_find_0 : decode cX5_find 0 = .ok (.aload_n 0, 1) := by decide +kernel
theorem dX5_find_1 : decode cX5_find 1 = .ok (.iload_n 1, 1) := by decide +kernel
theorem dX5_find_2 : decode cX5_find 2 = .ok (.putfield 63, 3) := by decide +kernel
theorem dX5_find_5 : decode cX5_find 5 = .ok (.aload_n 0, 1) := by decide +kernel
theorem dX5_find_6 : decode cX5_find 6 = .ok (.getfield 59, 3) := by decide +kernel
theorem dX5_find_9 : decode cX5_find 9 = .ok (.iload_n 1, 1) := by decide +kernel
theorem dX5_find_10 : decode cX5_find 10 = .ok (.dup2, 1) := by decide +kernel
theorem dX5_find_11 : decode cX5_find 11 = .ok (.iaload, 1) := by decide +kernel
theorem dX5_find_12 : decode cX5_find 12 = .ok (.iconst 1, 1) := by decide +kernel
theorem dX5_find_13 : decode cX5_find 13 = .ok (.iadd, 1) := by decide +kernel
theorem dX5_find_14 : decode cX5_find 14 = .ok (.iastore, 1) := by decide +kernel
theorem dX5_find_15 : decode cX5_find 15 = .ok (.bipush (-3), 2) := by decide +kernel
theorem dX5_find_17 : decode cX5_find 17 = .ok (.ireturn, 1) := by decide +kernel
theorem dX5_refusalOf_0 : decode cX5_refusalOf 0 = .ok (.aload_n 1, 1) := by decide +kernel
theorem dX5_refusalOf_1 : decode cX5_refusalOf 1 = .ok (.iload_n 2, 1) := by decide +kernel
theorem dX5_refusalOf_2 : decode cX5_refusalOf 2 = .ok (.invokevirtual 77, 3) := by decide +kernel
theorem dX5_refusalOf_5 : decode cX5_refusalOf 5 = .ok (.ifCond .ne 5, 3) := by decide +kernel
theorem dX5_refusalOf_8 : decode cX5_refusalOf 8 = .ok (.iconst (-1), 1) := by decide +kernel
theorem dX5_refusalOf_9 : decode cX5_refusalOf 9 = .ok (.ireturn, 1) := by decide +kernel
theorem dX5_refusalOf_10 : decode cX5_refusalOf 10 = .ok (.aload_n 1, 1) := by decide +kernel
theorem dX5_refusalOf_11 : decode cX5_refusalOf 11 = .ok (.iload_n 2, 1) := by decide +kernel
theorem dX5_refusalOf_12 : decode cX5_refusalOf 12 = .ok (.invokevirtual 111, 3) := by decide +kernel
theorem dX5_refusalOf_15 : decode cX5_refusalOf 15 = .ok (.ifCond .eq 7, 3) := by decide +kernel
theorem dX5_refusalOf_18 : decode cX5_refusalOf 18 = .ok (.iconst 0, 1) := by decide +kernel
theorem dX5_refusalOf_19 : decode cX5_refusalOf 19 = .ok (.goto 8, 3) := by decide +kernel
theorem dX5_refusalOf_22 : decode cX5_refusalOf 22 = .ok (.aload_n 0, 1) := by decide +kernel
theorem dX5_refusalOf_23 : decode cX5_refusalOf 23 = .ok (.iconst 1, 1) := by decide +kernel
theorem dX5_refusalOf_24 : decode cX5_refusalOf 24 = .ok (.invokevirtual 81, 3) := by decide +kernel
theorem dX5_refusalOf_27 : decode cX5_refusalOf 27 = .ok (.ireturn, 1) := by decide +kernel
theorem dX5_refusalInHouse_0 : decode cX5_refusalInHouse 0 = .ok (.aload_n 0, 1) := by decide +kernel
theorem dX5_refusalInHouse_1 : decode cX5_refusalInHouse 1 = .ok (.getfield 14, 3) := by decide +kernel
theorem dX5_refusalInHouse_4 : decode cX5_refusalInHouse 4 = .ok (.iload_n 1, 1) := by decide +kernel
theorem dX5_refusalInHouse_5 : decode cX5_refusalInHouse 5 = .ok (.invokevirtual 77, 3) := by decide +kernel
theorem dX5_refusalInHouse_8 : decode cX5_refusalInHouse 8 = .ok (.ifCond .eq 16, 3) := by decide +kernel
theorem dX5_refusalInHouse_11 : decode cX5_refusalInHouse 11 = .ok (.aload_n 0, 1) := by decide +kernel
theorem dX5_refusalInHouse_12 : decode cX5_refusalInHouse 12 = .ok (.getfield 31, 3) := by decide +kernel
theorem dX5_refusalInHouse_15 : decode cX5_refusalInHouse 15 = .ok (.getfield 140, 3) := by decide +kernel
theorem dX5_refusalInHouse_18 : decode cX5_refusalInHouse 18 = .ok (.ifCond .ne 6, 3) := by decide +kernel
theorem dX5_refusalInHouse_21 : decode cX5_refusalInHouse 21 = .ok (.bipush (-4), 2) := by decide +kernel
theorem dX5_refusalInHouse_23 : decode cX5_refusalInHouse 23 = .ok (.ireturn, 1) := by decide +kernel
theorem dX5_refusalInHouse_24 : decode cX5_refusalInHouse 24 = .ok (.aload_n 0, 1) := by decide +kernel
theorem dX5_refusalInHouse_25 : decode cX5_refusalInHouse 25 = .ok (.aload_n 0, 1) := by decide +kernel
theorem dX5_refusalInHouse_26 : decode cX5_refusalInHouse 26 = .ok (.getfield 14, 3) := by decide +kernel
theorem dX5_refusalInHouse_29 : decode cX5_refusalInHouse 29 = .ok (.iload_n 1, 1) := by decide +kernel
theorem dX5_refusalInHouse_30 : decode cX5_refusalInHouse 30 = .ok (.invokevirtual 104, 3) := by decide +kernel
theorem dX5_refusalInHouse_33 : decode cX5_refusalInHouse 33 = .ok (.ireturn, 1) := by decide +kernel
theorem dX5_refusalOfPlace_0 : decode cX5_refusalOfPlace 0 = .ok (.aload_n 0, 1) := by decide +kernel
theorem dX5_refusalOfPlace_1 : decode cX5_refusalOfPlace 1 = .ok (.aload_n 1, 1) := by decide +kernel
theorem dX5_refusalOfPlace_2 : decode cX5_refusalOfPlace 2 = .ok (.iload_n 2, 1) := by decide +kernel
theorem dX5_refusalOfPlace_3 : decode cX5_refusalOfPlace 3 = .ok (.invokevirtual 104, 3) := by decide +kernel
theorem dX5_refusalOfPlace_6 : decode cX5_refusalOfPlace 6 = .ok (.istore 4, 2) := by decide +kernel
theorem dX5_refusalOfPlace_8 : decode cX5_refusalOfPlace 8 = .ok (.iload 4, 2) := by decide +kernel
theorem dX5_refusalOfPlace_10 : decode cX5_refusalOfPlace 10 = .ok (.ifCond .eq 6, 3) := by decide +kernel
theorem dX5_refusalOfPlace_13 : decode cX5_refusalOfPlace 13 = .ok (.iload 4, 2) := by decide +kernel
theorem dX5_refusalOfPlace_15 : decode cX5_refusalOfPlace 15 = .ok (.ireturn, 1) := by decide +kernel
theorem dX5_refusalOfPlace_16 : decode cX5_refusalOfPlace 16 = .ok (.aload_n 1, 1) := by decide +kernel
theorem dX5_refusalOfPlace_17 : decode cX5_refusalOfPlace 17 = .ok (.iload_n 2, 1) := by decide +kernel
theorem dX5_refusalOfPlace_18 : decode cX5_refusalOfPlace 18 = .ok (.iload_n 3, 1) := by decide +kernel
theorem dX5_refusalOfPlace_19 : decode cX5_refusalOfPlace 19 = .ok (.iconst 1, 1) := by decide +kernel
theorem dX5_refusalOfPlace_20 : decode cX5_refusalOfPlace 20 = .ok (.invokevirtual 114, 3) := by decide +kernel
theorem dX5_refusalOfPlace_23 : decode cX5_refusalOfPlace 23 = .ok (.ifCond .eq 7, 3) := by decide +kernel
theorem dX5_refusalOfPlace_26 : decode cX5_refusalOfPlace 26 = .ok (.iconst 0, 1) := by decide +kernel
theorem dX5_refusalOfPlace_27 : decode cX5_refusalOfPlace 27 = .ok (.goto 8, 3) := by decide +kernel
theorem dX5_refusalOfPlace_30 : decode cX5_refusalOfPlace 30 = .ok (.aload_n 0, 1) := by decide +kernel
theorem dX5_refusalOfPlace_31 : decode cX5_refusalOfPlace 31 = .ok (.iconst 2, 1) := by decide +kernel
theorem dX5_refusalOfPlace_32 : decode cX5_refusalOfPlace 32 = .ok (.invokevirtual 81, 3) := by decide +kernel
theorem dX5_refusalOfPlace_35 : decode cX5_refusalOfPlace 35 = .ok (.ireturn, 1) := by decide +kernel
theorem dX5_tell_0 : decode cX5_tell 0 = .ok (.aload_n 0, 1) := by decide +kernel
theorem dX5_tell_1 : decode cX5_tell 1 = .ok (.iload_n 1, 1) := by decide +kernel
theorem dX5_tell_2 : decode cX5_tell 2 = .ok (.putfield 67, 3) := by decide +kernel
theorem dX5_tell_5 : decode cX5_tell 5 = .ok (.iconst 1, 1) := by decide +kernel
theorem dX5_tell_6 : decode cX5_tell 6 = .ok (.ireturn, 1) := by decide +kernel
theorem dX5_isIn_0 : decode cX5_isIn 0 = .ok (.iload_n 0, 1) := by decide +kernel
theorem dX5_isIn_1 : decode cX5_isIn 1 = .ok (.iload_n 1, 1) := by decide +kernel
theorem dX5_isIn_2 : decode cX5_isIn 2 = .ok (.ishr, 1) := by decide +kernel
theorem dX5_isIn_3 : decode cX5_isIn 3 = .ok (.iconst 1, 1) := by decide +kernel
theorem dX5_isIn_4 : decode cX5_isIn 4 = .ok (.iand, 1) := by decide +kernel
theorem dX5_isIn_5 : decode cX5_isIn 5 = .ok (.iconst 1, 1) := by decide +kernel
theorem dX5_isIn_6 : decode cX5_isIn 6 = .ok (.if_icmp .ne 7, 3) := by decide +kernel
theorem dX5_isIn_9 : decode cX5_isIn 9 = .ok (.iconst 1, 1) := by decide +kernel
theorem dX5_isIn_10 : decode cX5_isIn 10 = .ok (.goto 4, 3) := by decide +kernel
theorem dX5_isIn_13 : decode cX5_isIn 13 = .ok (.iconst 0, 1) := by decide +kernel
theorem dX5_isIn_14 : decode cX5_isIn 14 = .ok (.ireturn, 1) := by decide +kernel
theorem dX5_firstOf_0 : decode cX5_firstOf 0 = .ok (.iload_n 0, 1) := by decide +kernel
theorem dX5_firstOf_1 : decode cX5_firstOf 1 = .ok (.ifCond .ne 8, 3) := by decide +kernel
theorem dX5_firstOf_4 : decode cX5_firstOf 4 = .ok (.bipush (-9), 2) := by decide +kernel
theorem dX5_firstOf_6 : decode cX5_firstOf 6 = .ok (.goto 12, 3) := by decide +kernel
theorem dX5_firstOf_9 : decode cX5_firstOf 9 = .ok (.iload_n 0, 1) := by decide +kernel
theorem dX5_firstOf_10 : decode cX5_firstOf 10 = .ok (.iload_n 0, 1) := by decide +kernel
theorem dX5_firstOf_11 : decode cX5_firstOf 11 = .ok (.ineg, 1) := by decide +kernel
theorem dX5_firstOf_12 : decode cX5_firstOf 12 = .ok (.iand, 1) := by decide +kernel
theorem dX5_firstOf_13 : decode cX5_firstOf 13 = .ok (.iconst 1, 1) := by decide +kernel
theorem dX5_firstOf_14 : decode cX5_firstOf 14 = .ok (.isub, 1) := by decide +kernel
theorem dX5_firstOf_15 : decode cX5_firstOf 15 = .ok (.invokestatic 173, 3) := by decide +kernel
theorem dX5_firstOf_18 : decode cX5_firstOf 18 = .ok (.ireturn, 1) := by decide +kernel
theorem dX5_nthOf_0 : decode cX5_nthOf 0 = .ok (.iload_n 0, 1) := by decide +kernel
theorem dX5_nthOf_1 : decode cX5_nthOf 1 = .ok (.istore_n 2, 1) := by decide +kernel
theorem dX5_nthOf_2 : decode cX5_nthOf 2 = .ok (.iconst 0, 1) := by decide +kernel
theorem dX5_nthOf_3 : decode cX5_nthOf 3 = .ok (.istore_n 3, 1) := by decide +kernel
theorem dX5_nthOf_4 : decode cX5_nthOf 4 = .ok (.iload_n 3, 1) := by decide +kernel
theorem dX5_nthOf_5 : decode cX5_nthOf 5 = .ok (.iload_n 1, 1) := by decide +kernel
theorem dX5_nthOf_6 : decode cX5_nthOf 6 = .ok (.if_icmp .ge 19, 3) := by decide +kernel
theorem dX5_nthOf_9 : decode cX5_nthOf 9 = .ok (.iload_n 2, 1) := by decide +kernel
theorem dX5_nthOf_10 : decode cX5_nthOf 10 = .ok (.ifCond .eq 15, 3) := by decide +kernel
theorem dX5_nthOf_13 : decode cX5_nthOf 13 = .ok (.iload_n 2, 1) := by decide +kernel
theorem dX5_nthOf_14 : decode cX5_nthOf 14 = .ok (.iload_n 2, 1) := by decide +kernel
theorem dX5_nthOf_15 : decode cX5_nthOf 15 = .ok (.iconst 1, 1) := by decide +kernel
theorem dX5_nthOf_16 : decode cX5_nthOf 16 = .ok (.isub, 1) := by decide +kernel
theorem dX5_nthOf_17 : decode cX5_nthOf 17 = .ok (.iand, 1) := by decide +kernel
theorem dX5_nthOf_18 : decode cX5_nthOf 18 = .ok (.istore_n 2, 1) := by decide +kernel
theorem dX5_nthOf_19 : decode cX5_nthOf 19 = .ok (.iinc 3 1, 3) := by decide +kernel
theorem dX5_nthOf_22 : decode cX5_nthOf 22 = .ok (.goto (-18), 3) := by decide +kernel
theorem dX5_nthOf_25 : decode cX5_nthOf 25 = .ok (.iload_n 2, 1) := by decide +kernel
theorem dX5_nthOf_26 : decode cX5_nthOf 26 = .ok (.invokestatic 222, 3) := by decide +kernel
theorem dX5_nthOf_29 : decode cX5_nthOf 29 = .ok (.ireturn, 1) := by decide +kernel
theorem dX5_deedFact_0 : decode cX5_deedFact 0 = .ok (.iload_n 2, 1) := by decide +kernel
theorem dX5_deedFact_1 : decode cX5_deedFact 1 = .ok (.tableswitch 81 0 3 #[31, 41, 51, 61], 31) := by decide +kernel
theorem dX5_deedFact_32 : decode cX5_deedFact 32 = .ok (.aload_n 0, 1) := by decide +kernel
theorem dX5_deedFact_33 : decode cX5_deedFact 33 = .ok (.getfield 31, 3) := by decide +kernel
theorem dX5_deedFact_36 : decode cX5_deedFact 36 = .ok (.getfield 322, 3) := by decide +kernel
theorem dX5_deedFact_39 : decode cX5_deedFact 39 = .ok (.iload_n 1, 1) := by decide +kernel
theorem dX5_deedFact_40 : decode cX5_deedFact 40 = .ok (.iaload, 1) := by decide +kernel
theorem dX5_deedFact_41 : decode cX5_deedFact 41 = .ok (.ireturn, 1) := by decide +kernel
theorem dX5_deedFact_42 : decode cX5_deedFact 42 = .ok (.aload_n 0, 1) := by decide +kernel
theorem dX5_deedFact_43 : decode cX5_deedFact 43 = .ok (.getfield 31, 3) := by decide +kernel
theorem dX5_deedFact_46 : decode cX5_deedFact 46 = .ok (.getfield 325, 3) := by decide +kernel
theorem dX5_deedFact_49 : decode cX5_deedFact 49 = .ok (.iload_n 1, 1) := by decide +kernel
theorem dX5_deedFact_50 : decode cX5_deedFact 50 = .ok (.iaload, 1) := by decide +kernel
theorem dX5_deedFact_51 : decode cX5_deedFact 51 = .ok (.ireturn, 1) := by decide +kernel
theorem dX5_deedFact_52 : decode cX5_deedFact 52 = .ok (.aload_n 0, 1) := by decide +kernel
theorem dX5_deedFact_53 : decode cX5_deedFact 53 = .ok (.getfield 31, 3) := by decide +kernel
theorem dX5_deedFact_56 : decode cX5_deedFact 56 = .ok (.getfield 166, 3) := by decide +kernel
theorem dX5_deedFact_59 : decode cX5_deedFact 59 = .ok (.iload_n 1, 1) := by decide +kernel
theorem dX5_deedFact_60 : decode cX5_deedFact 60 = .ok (.iaload, 1) := by decide +kernel
theorem dX5_deedFact_61 : decode cX5_deedFact 61 = .ok (.ireturn, 1) := by decide +kernel
theorem dX5_deedFact_62 : decode cX5_deedFact 62 = .ok (.aload_n 0, 1) := by decide +kernel
theorem dX5_deedFact_63 : decode cX5_deedFact 63 = .ok (.getfield 40, 3) := by decide +kernel
theorem dX5_deedFact_66 : decode cX5_deedFact 66 = .ok (.getfield 178, 3) := by decide +kernel
theorem dX5_deedFact_69 : decode cX5_deedFact 69 = .ok (.iload_n 1, 1) := by decide +kernel
theorem dX5_deedFact_70 : decode cX5_deedFact 70 = .ok (.invokestatic 270, 3) := by decide +kernel
theorem dX5_deedFact_73 : decode cX5_deedFact 73 = .ok (.ifCond .eq 7, 3) := by decide +kernel
theorem dX5_deedFact_76 : decode cX5_deedFact 76 = .ok (.iconst 1, 1) := by decide +kernel
theorem dX5_deedFact_77 : decode cX5_deedFact 77 = .ok (.goto 4, 3) := by decide +kernel
theorem dX5_deedFact_80 : decode cX5_deedFact 80 = .ok (.iconst 0, 1) := by decide +kernel
theorem dX5_deedFact_81 : decode cX5_deedFact 81 = .ok (.ireturn, 1) := by decide +kernel
theorem dX5_deedFact_82 : decode cX5_deedFact 82 = .ok (.aload_n 0, 1) := by decide +kernel
theorem dX5_deedFact_83 : decode cX5_deedFact 83 = .ok (.getfield 31, 3) := by decide +kernel
theorem dX5_deedFact_86 : decode cX5_deedFact 86 = .ok (.getfield 225, 3) := by decide +kernel
theorem dX5_deedFact_89 : decode cX5_deedFact 89 = .ok (.iload_n 1, 1) := by decide +kernel
theorem dX5_deedFact_90 : decode cX5_deedFact 90 = .ok (.iaload, 1) := by decide +kernel
theorem dX5_deedFact_91 : decode cX5_deedFact 91 = .ok (.ireturn, 1) := by decide +kernel
theorem dX5_hourFact_0 : decode cX5_hourFact 0 = .ok (.iload_n 2, 1) := by decide +kernel
theorem dX5_hourFact_1 : decode cX5_hourFact 1 = .ok (.tableswitch 76 0 3 #[31, 41, 58, 67], 31) := by decide +kernel
theorem dX5_hourFact_32 : decode cX5_hourFact 32 = .ok (.aload_n 0, 1) := by decide +kernel
theorem dX5_hourFact_33 : decode cX5_hourFact 33 = .ok (.getfield 31, 3) := by decide +kernel
theorem dX5_hourFact_36 : decode cX5_hourFact 36 = .ok (.getfield 328, 3) := by decide +kernel
theorem dX5_hourFact_39 : decode cX5_hourFact 39 = .ok (.iload_n 1, 1) := by decide +kernel
theorem dX5_hourFact_40 : decode cX5_hourFact 40 = .ok (.iaload, 1) := by decide +kernel
theorem dX5_hourFact_41 : decode cX5_hourFact 41 = .ok (.ireturn, 1) := by decide +kernel
theorem dX5_hourFact_42 : decode cX5_hourFact 42 = .ok (.aload_n 0, 1) := by decide +kernel
theorem dX5_hourFact_43 : decode cX5_hourFact 43 = .ok (.getfield 31, 3) := by decide +kernel
theorem dX5_hourFact_46 : decode cX5_hourFact 46 = .ok (.iload_n 1, 1) := by decide +kernel
theorem dX5_hourFact_47 : decode cX5_hourFact 47 = .ok (.invokevirtual 331, 3) := by decide +kernel
theorem dX5_hourFact_50 : decode cX5_hourFact 50 = .ok (.ifCond .eq 7, 3) := by decide +kernel
theorem dX5_hourFact_53 : decode cX5_hourFact 53 = .ok (.iconst 1, 1) := by decide +kernel
theorem dX5_hourFact_54 : decode cX5_hourFact 54 = .ok (.goto 4, 3) := by decide +kernel
theorem dX5_hourFact_57 : decode cX5_hourFact 57 = .ok (.iconst 0, 1) := by decide +kernel
theorem dX5_hourFact_58 : decode cX5_hourFact 58 = .ok (.ireturn, 1) := by decide +kernel
theorem dX5_hourFact_59 : decode cX5_hourFact 59 = .ok (.aload_n 0, 1) := by decide +kernel
theorem dX5_hourFact_60 : decode cX5_hourFact 60 = .ok (.getfield 40, 3) := by decide +kernel
theorem dX5_hourFact_63 : decode cX5_hourFact 63 = .ok (.iload_n 1, 1) := by decide +kernel
theorem dX5_hourFact_64 : decode cX5_hourFact 64 = .ok (.invokevirtual 231, 3) := by decide +kernel
theorem dX5_hourFact_67 : decode cX5_hourFact 67 = .ok (.ireturn, 1) := by decide +kernel
theorem dX5_hourFact_68 : decode cX5_hourFact 68 = .ok (.aload_n 0, 1) := by decide +kernel
theorem dX5_hourFact_69 : decode cX5_hourFact 69 = .ok (.getfield 40, 3) := by decide +kernel
theorem dX5_hourFact_72 : decode cX5_hourFact 72 = .ok (.iload_n 1, 1) := by decide +kernel
theorem dX5_hourFact_73 : decode cX5_hourFact 73 = .ok (.invokevirtual 203, 3) := by decide +kernel
theorem dX5_hourFact_76 : decode cX5_hourFact 76 = .ok (.ireturn, 1) := by decide +kernel
theorem dX5_hourFact_77 : decode cX5_hourFact 77 = .ok (.aload_n 0, 1) := by decide +kernel
theorem dX5_hourFact_78 : decode cX5_hourFact 78 = .ok (.getfield 40, 3) := by decide +kernel
theorem dX5_hourFact_81 : decode cX5_hourFact 81 = .ok (.getfield 334, 3) := by decide +kernel
theorem dX5_hourFact_84 : decode cX5_hourFact 84 = .ok (.iload_n 1, 1) := by decide +kernel
theorem dX5_hourFact_85 : decode cX5_hourFact 85 = .ok (.iaload, 1) := by decide +kernel
theorem dX5_hourFact_86 : decode cX5_hourFact 86 = .ok (.ireturn, 1) := by decide +kernel
theorem dX5_hoursFor_0 : decode cX5_hoursFor 0 = .ok (.aload_n 0, 1) := by decide +kernel
theorem dX5_hoursFor_1 : decode cX5_hoursFor 1 = .ok (.getfield 40, 3) := by decide +kernel
theorem dX5_hoursFor_4 : decode cX5_hoursFor 4 = .ok (.invokevirtual 209, 3) := by decide +kernel
theorem dX5_hoursFor_7 : decode cX5_hoursFor 7 = .ok (.istore_n 2, 1) := by decide +kernel
theorem dX5_hoursFor_8 : decode cX5_hoursFor 8 = .ok (.iconst 0, 1) := by decide +kernel
theorem dX5_hoursFor_9 : decode cX5_hoursFor 9 = .ok (.istore_n 3, 1) := by decide +kernel
theorem dX5_hoursFor_10 : decode cX5_hoursFor 10 = .ok (.iconst 0, 1) := by decide +kernel
theorem dX5_hoursFor_11 : decode cX5_hoursFor 11 = .ok (.istore 4, 2) := by decide +kernel
theorem dX5_hoursFor_13 : decode cX5_hoursFor 13 = .ok (.iload 4, 2) := by decide +kernel
theorem dX5_hoursFor_15 : decode cX5_hoursFor 15 = .ok (.aload_n 0, 1) := by decide +kernel
theorem dX5_hoursFor_16 : decode cX5_hoursFor 16 = .ok (.getfield 31, 3) := by decide +kernel
theorem dX5_hoursFor_19 : decode cX5_hoursFor 19 = .ok (.getfield 228, 3) := by decide +kernel
theorem dX5_hoursFor_22 : decode cX5_hoursFor 22 = .ok (.if_icmp .ge 39, 3) := by decide +kernel
theorem dX5_hoursFor_25 : decode cX5_hoursFor 25 = .ok (.iload_n 3, 1) := by decide +kernel
theorem dX5_hoursFor_26 : decode cX5_hoursFor 26 = .ok (.iload_n 2, 1) := by decide +kernel
theorem dX5_hoursFor_27 : decode cX5_hoursFor 27 = .ok (.iload 4, 2) := by decide +kernel
theorem dX5_hoursFor_29 : decode cX5_hoursFor 29 = .ok (.invokestatic 270, 3) := by decide +kernel
theorem dX5_hoursFor_32 : decode cX5_hoursFor 32 = .ok (.ifCond .eq 20, 3) := by decide +kernel
theorem dX5_hoursFor_35 : decode cX5_hoursFor 35 = .ok (.aload_n 0, 1) := by decide +kernel
theorem dX5_hoursFor_36 : decode cX5_hoursFor 36 = .ok (.getfield 40, 3) := by decide +kernel
theorem dX5_hoursFor_39 : decode cX5_hoursFor 39 = .ok (.iload_n 1, 1) := by decide +kernel
theorem dX5_hoursFor_40 : decode cX5_hoursFor 40 = .ok (.iload 4, 2) := by decide +kernel
theorem dX5_hoursFor_42 : decode cX5_hoursFor 42 = .ok (.invokevirtual 206, 3) := by decide +kernel
theorem dX5_hoursFor_45 : decode cX5_hoursFor 45 = .ok (.ifCond .ne 7, 3) := by decide +kernel
theorem dX5_hoursFor_48 : decode cX5_hoursFor 48 = .ok (.iconst 1, 1) := by decide +kernel
theorem dX5_hoursFor_49 : decode cX5_hoursFor 49 = .ok (.goto 4, 3) := by decide +kernel
theorem dX5_hoursFor_52 : decode cX5_hoursFor 52 = .ok (.iconst 0, 1) := by decide +kernel
theorem dX5_hoursFor_53 : decode cX5_hoursFor 53 = .ok (.iadd, 1) := by decide +kernel
theorem dX5_hoursFor_54 : decode cX5_hoursFor 54 = .ok (.istore_n 3, 1) := by decide +kernel
theorem dX5_hoursFor_55 : decode cX5_hoursFor 55 = .ok (.iinc 4 1, 3) := by decide +kernel
theorem dX5_hoursFor_58 : decode cX5_hoursFor 58 = .ok (.goto (-45), 3) := by decide +kernel
theorem dX5_hoursFor_61 : decode cX5_hoursFor 61 = .ok (.iload_n 3, 1) := by decide +kernel
theorem dX5_hoursFor_62 : decode cX5_hoursFor 62 = .ok (.ireturn, 1) := by decide +kernel
theorem dX5_areAllPairs_0 : decode cX5_areAllPairs 0 = .ok (.iconst 0, 1) := by decide +kernel
theorem dX5_areAllPairs_1 : decode cX5_areAllPairs 1 = .ok (.istore_n 3, 1) := by decide +kernel
theorem dX5_areAllPairs_2 : decode cX5_areAllPairs 2 = .ok (.iload_n 3, 1) := by decide +kernel
theorem dX5_areAllPairs_3 : decode cX5_areAllPairs 3 = .ok (.iconst 1, 1) := by decide +kernel
theorem dX5_areAllPairs_4 : decode cX5_areAllPairs 4 = .ok (.iadd, 1) := by decide +kernel
theorem dX5_areAllPairs_5 : decode cX5_areAllPairs 5 = .ok (.iload_n 2, 1) := by decide +kernel
theorem dX5_areAllPairs_6 : decode cX5_areAllPairs 6 = .ok (.if_icmp .ge 50, 3) := by decide +kernel
theorem dX5_areAllPairs_9 : decode cX5_areAllPairs 9 = .ok (.aload_n 1, 1) := by decide +kernel
theorem dX5_areAllPairs_10 : decode cX5_areAllPairs 10 = .ok (.iload_n 3, 1) := by decide +kernel
theorem dX5_areAllPairs_11 : decode cX5_areAllPairs 11 = .ok (.iconst 1, 1) := by decide +kernel
theorem dX5_areAllPairs_12 : decode cX5_areAllPairs 12 = .ok (.iadd, 1) := by decide +kernel
theorem dX5_areAllPairs_13 : decode cX5_areAllPairs 13 = .ok (.iaload, 1) := by decide +kernel
theorem dX5_areAllPairs_14 : decode cX5_areAllPairs 14 = .ok (.istore 4, 2) := by decide +kernel
theorem dX5_areAllPairs_16 : decode cX5_areAllPairs 16 = .ok (.aload_n 0, 1) := by decide +kernel
theorem dX5_areAllPairs_17 : decode cX5_areAllPairs 17 = .ok (.getfield 31, 3) := by decide +kernel
theorem dX5_areAllPairs_20 : decode cX5_areAllPairs 20 = .ok (.aload_n 1, 1) := by decide +kernel
theorem dX5_areAllPairs_21 : decode cX5_areAllPairs 21 = .ok (.iload_n 3, 1) := by decide +kernel
theorem dX5_areAllPairs_22 : decode cX5_areAllPairs 22 = .ok (.iaload, 1) := by decide +kernel
theorem dX5_areAllPairs_23 : decode cX5_areAllPairs 23 = .ok (.invokevirtual 150, 3) := by decide +kernel
theorem dX5_areAllPairs_26 : decode cX5_areAllPairs 26 = .ok (.ifCond .eq 22, 3) := by decide +kernel
theorem dX5_areAllPairs_29 : decode cX5_areAllPairs 29 = .ok (.iload 4, 2) := by decide +kernel
theorem dX5_areAllPairs_31 : decode cX5_areAllPairs 31 = .ok (.bipush (-9), 2) := by decide +kernel
theorem dX5_areAllPairs_33 : decode cX5_areAllPairs 33 = .ok (.if_icmp .eq 17, 3) := by decide +kernel
theorem dX5_areAllPairs_36 : decode cX5_areAllPairs 36 = .ok (.aload_n 0, 1) := by decide +kernel
theorem dX5_areAllPairs_37 : decode cX5_areAllPairs 37 = .ok (.getfield 31, 3) := by decide +kernel
theorem dX5_areAllPairs_40 : decode cX5_areAllPairs 40 = .ok (.iload 4, 2) := by decide +kernel
theorem dX5_areAllPairs_42 : decode cX5_areAllPairs 42 = .ok (.invokevirtual 143, 3) := by decide +kernel
theorem dX5_areAllPairs_45 : decode cX5_areAllPairs 45 = .ok (.ifCond .ne 5, 3) := by decide +kernel
theorem dX5_areAllPairs_48 : decode cX5_areAllPairs 48 = .ok (.iconst 0, 1) := by decide +kernel
theorem dX5_areAllPairs_49 : decode cX5_areAllPairs 49 = .ok (.ireturn, 1) := by decide +kernel
theorem dX5_areAllPairs_50 : decode cX5_areAllPairs 50 = .ok (.iinc 3 2, 3) := by decide +kernel
theorem dX5_areAllPairs_53 : decode cX5_areAllPairs 53 = .ok (.goto (-51), 3) := by decide +kernel
theorem dX5_areAllPairs_56 : decode cX5_areAllPairs 56 = .ok (.iconst 1, 1) := by decide +kernel
theorem dX5_areAllPairs_57 : decode cX5_areAllPairs 57 = .ok (.ireturn, 1) := by decide +kernel
theorem dX5_diaryRefusal_0 : decode cX5_diaryRefusal 0 = .ok (.aload_n 0, 1) := by decide +kernel
theorem dX5_diaryRefusal_1 : decode cX5_diaryRefusal 1 = .ok (.iload_n 1, 1) := by decide +kernel
theorem dX5_diaryRefusal_2 : decode cX5_diaryRefusal 2 = .ok (.invokevirtual 239, 3) := by decide +kernel
theorem dX5_diaryRefusal_5 : decode cX5_diaryRefusal 5 = .ok (.istore_n 2, 1) := by decide +kernel
theorem dX5_diaryRefusal_6 : decode cX5_diaryRefusal 6 = .ok (.iload_n 2, 1) := by decide +kernel
theorem dX5_diaryRefusal_7 : decode cX5_diaryRefusal 7 = .ok (.ifCond .eq 5, 3) := by decide +kernel
theorem dX5_diaryRefusal_10 : decode cX5_diaryRefusal 10 = .ok (.iload_n 2, 1) := by decide +kernel
theorem dX5_diaryRefusal_11 : decode cX5_diaryRefusal 11 = .ok (.ireturn, 1) := by decide +kernel
theorem dX5_diaryRefusal_12 : decode cX5_diaryRefusal 12 = .ok (.aload_n 0, 1) := by decide +kernel
theorem dX5_diaryRefusal_13 : decode cX5_diaryRefusal 13 = .ok (.getfield 14, 3) := by decide +kernel
theorem dX5_diaryRefusal_16 : decode cX5_diaryRefusal 16 = .ok (.getfield 108, 3) := by decide +kernel
theorem dX5_diaryRefusal_19 : decode cX5_diaryRefusal 19 = .ok (.iload_n 1, 1) := by decide +kernel
theorem dX5_diaryRefusal_20 : decode cX5_diaryRefusal 20 = .ok (.iaload, 1) := by decide +kernel
theorem dX5_diaryRefusal_21 : decode cX5_diaryRefusal 21 = .ok (.bipush 7, 2) := by decide +kernel
theorem dX5_diaryRefusal_23 : decode cX5_diaryRefusal 23 = .ok (.if_icmp .le 9, 3) := by decide +kernel
theorem dX5_diaryRefusal_26 : decode cX5_diaryRefusal 26 = .ok (.aload_n 0, 1) := by decide +kernel
theorem dX5_diaryRefusal_27 : decode cX5_diaryRefusal 27 = .ok (.iconst 5, 1) := by decide +kernel
theorem dX5_diaryRefusal_28 : decode cX5_diaryRefusal 28 = .ok (.invokevirtual 81, 3) := by decide +kernel
theorem dX5_diaryRefusal_31 : decode cX5_diaryRefusal 31 = .ok (.ireturn, 1) := by decide +kernel
theorem dX5_diaryRefusal_32 : decode cX5_diaryRefusal 32 = .ok (.iconst 0, 1) := by decide +kernel
theorem dX5_diaryRefusal_33 : decode cX5_diaryRefusal 33 = .ok (.istore_n 3, 1) := by decide +kernel
theorem dX5_diaryRefusal_34 : decode cX5_diaryRefusal 34 = .ok (.iload_n 3, 1) := by decide +kernel
theorem dX5_diaryRefusal_35 : decode cX5_diaryRefusal 35 = .ok (.aload_n 0, 1) := by decide +kernel
theorem dX5_diaryRefusal_36 : decode cX5_diaryRefusal 36 = .ok (.getfield 14, 3) := by decide +kernel
theorem dX5_diaryRefusal_39 : decode cX5_diaryRefusal 39 = .ok (.getfield 108, 3) := by decide +kernel
theorem dX5_diaryRefusal_42 : decode cX5_diaryRefusal 42 = .ok (.iload_n 1, 1) := by decide +kernel
theorem dX5_diaryRefusal_43 : decode cX5_diaryRefusal 43 = .ok (.iaload, 1) := by decide +kernel
theorem dX5_diaryRefusal_44 : decode cX5_diaryRefusal 44 = .ok (.if_icmp .ge 40, 3) := by decide +kernel
theorem dX5_diaryRefusal_47 : decode cX5_diaryRefusal 47 = .ok (.aload_n 0, 1) := by decide +kernel
theorem dX5_diaryRefusal_48 : decode cX5_diaryRefusal 48 = .ok (.getfield 14, 3) := by decide +kernel
theorem dX5_diaryRefusal_51 : decode cX5_diaryRefusal 51 = .ok (.getfield 100, 3) := by decide +kernel
theorem dX5_diaryRefusal_54 : decode cX5_diaryRefusal 54 = .ok (.iload_n 1, 1) := by decide +kernel
theorem dX5_diaryRefusal_55 : decode cX5_diaryRefusal 55 = .ok (.aaload, 1) := by decide +kernel
theorem dX5_diaryRefusal_56 : decode cX5_diaryRefusal 56 = .ok (.iload_n 3, 1) := by decide +kernel
theorem dX5_diaryRefusal_57 : decode cX5_diaryRefusal 57 = .ok (.iaload, 1) := by decide +kernel
theorem dX5_diaryRefusal_58 : decode cX5_diaryRefusal 58 = .ok (.istore 4, 2) := by decide +kernel
theorem dX5_diaryRefusal_60 : decode cX5_diaryRefusal 60 = .ok (.iload 4, 2) := by decide +kernel
theorem dX5_diaryRefusal_62 : decode cX5_diaryRefusal 62 = .ok (.ifCond .lt 10, 3) := by decide +kernel
theorem dX5_diaryRefusal_65 : decode cX5_diaryRefusal 65 = .ok (.iload 4, 2) := by decide +kernel
theorem dX5_diaryRefusal_67 : decode cX5_diaryRefusal 67 = .ok (.bipush 24, 2) := by decide +kernel
theorem dX5_diaryRefusal_69 : decode cX5_diaryRefusal 69 = .ok (.if_icmp .lt 9, 3) := by decide +kernel
theorem dX5_diaryRefusal_72 : decode cX5_diaryRefusal 72 = .ok (.aload_n 0, 1) := by decide +kernel
theorem dX5_diaryRefusal_73 : decode cX5_diaryRefusal 73 = .ok (.iconst 3, 1) := by decide +kernel
theorem dX5_diaryRefusal_74 : decode cX5_diaryRefusal 74 = .ok (.invokevirtual 81, 3) := by decide +kernel
theorem dX5_diaryRefusal_77 : decode cX5_diaryRefusal 77 = .ok (.ireturn, 1) := by decide +kernel
theorem dX5_diaryRefusal_78 : decode cX5_diaryRefusal 78 = .ok (.iinc 3 1, 3) := by decide +kernel
theorem dX5_diaryRefusal_81 : decode cX5_diaryRefusal 81 = .ok (.goto (-47), 3) := by decide +kernel
theorem dX5_diaryRefusal_84 : decode cX5_diaryRefusal 84 = .ok (.iconst 0, 1) := by decide +kernel
theorem dX5_diaryRefusal_85 : decode cX5_diaryRefusal 85 = .ok (.ireturn, 1) := by decide +kernel
theorem dX5_hoursLeftFor_0 : decode cX5_hoursLeftFor 0 = .ok (.aload_n 0, 1) := by decide +kernel
theorem dX5_hoursLeftFor_1 : decode cX5_hoursLeftFor 1 = .ok (.getfield 31, 3) := by decide +kernel
theorem dX5_hoursLeftFor_4 : decode cX5_hoursLeftFor 4 = .ok (.aload_n 1, 1) := by decide +kernel
theorem dX5_hoursLeftFor_5 : decode cX5_hoursLeftFor 5 = .ok (.iload_n 2, 1) := by decide +kernel
theorem dX5_hoursLeftFor_6 : decode cX5_hoursLeftFor 6 = .ok (.iaload, 1) := by decide +kernel
theorem dX5_hoursLeftFor_7 : decode cX5_hoursLeftFor 7 = .ok (.invokevirtual 291, 3) := by decide +kernel
theorem dX5_hoursLeftFor_10 : decode cX5_hoursLeftFor 10 = .ok (.invokestatic 173, 3) := by decide +kernel
theorem dX5_hoursLeftFor_13 : decode cX5_hoursLeftFor 13 = .ok (.istore_n 3, 1) := by decide +kernel
theorem dX5_hoursLeftFor_14 : decode cX5_hoursLeftFor 14 = .ok (.iconst 0, 1) := by decide +kernel
theorem dX5_hoursLeftFor_15 : decode cX5_hoursLeftFor 15 = .ok (.istore 4, 2) := by decide +kernel
theorem dX5_hoursLeftFor_17 : decode cX5_hoursLeftFor 17 = .ok (.iload 4, 2) := by decide +kernel
theorem dX5_hoursLeftFor_19 : decode cX5_hoursLeftFor 19 = .ok (.iload_n 2, 1) := by decide +kernel
theorem dX5_hoursLeftFor_20 : decode cX5_hoursLeftFor 20 = .ok (.if_icmp .ge 27, 3) := by decide +kernel
theorem dX5_hoursLeftFor_23 : decode cX5_hoursLeftFor 23 = .ok (.iload_n 3, 1) := by decide +kernel
theorem dX5_hoursLeftFor_24 : decode cX5_hoursLeftFor 24 = .ok (.aload_n 1, 1) := by decide +kernel
theorem dX5_hoursLeftFor_25 : decode cX5_hoursLeftFor 25 = .ok (.iload 4, 2) := by decide +kernel
theorem dX5_hoursLeftFor_27 : decode cX5_hoursLeftFor 27 = .ok (.iaload, 1) := by decide +kernel
theorem dX5_hoursLeftFor_28 : decode cX5_hoursLeftFor 28 = .ok (.aload_n 1, 1) := by decide +kernel
theorem dX5_hoursLeftFor_29 : decode cX5_hoursLeftFor 29 = .ok (.iload_n 2, 1) := by decide +kernel
theorem dX5_hoursLeftFor_30 : decode cX5_hoursLeftFor 30 = .ok (.iaload, 1) := by decide +kernel
theorem dX5_hoursLeftFor_31 : decode cX5_hoursLeftFor 31 = .ok (.if_icmp .ne 7, 3) := by decide +kernel
theorem dX5_hoursLeftFor_34 : decode cX5_hoursLeftFor 34 = .ok (.iconst 1, 1) := by decide +kernel
theorem dX5_hoursLeftFor_35 : decode cX5_hoursLeftFor 35 = .ok (.goto 4, 3) := by decide +kernel
theorem dX5_hoursLeftFor_38 : decode cX5_hoursLeftFor 38 = .ok (.iconst 0, 1) := by decide +kernel
theorem dX5_hoursLeftFor_39 : decode cX5_hoursLeftFor 39 = .ok (.isub, 1) := by decide +kernel
theorem dX5_hoursLeftFor_40 : decode cX5_hoursLeftFor 40 = .ok (.istore_n 3, 1) := by decide +kernel
theorem dX5_hoursLeftFor_41 : decode cX5_hoursLeftFor 41 = .ok (.iinc 4 1, 3) := by decide +kernel
theorem dX5_hoursLeftFor_44 : decode cX5_hoursLeftFor 44 = .ok (.goto (-27), 3) := by decide +kernel
theorem dX5_hoursLeftFor_47 : decode cX5_hoursLeftFor 47 = .ok (.iconst 0, 1) := by decide +kernel
theorem dX5_hoursLeftFor_48 : decode cX5_hoursLeftFor 48 = .ok (.iload_n 3, 1) := by decide +kernel
theorem dX5_hoursLeftFor_49 : decode cX5_hoursLeftFor 49 = .ok (.invokestatic 234, 3) := by decide +kernel
theorem dX5_hoursLeftFor_52 : decode cX5_hoursLeftFor 52 = .ok (.ireturn, 1) := by decide +kernel
theorem dX5_liveByLot_0 : decode cX5_liveByLot 0 = .ok (.aload_n 0, 1) := by decide +kernel
theorem dX5_liveByLot_1 : decode cX5_liveByLot 1 = .ok (.getfield 40, 3) := by decide +kernel
theorem dX5_liveByLot_4 : decode cX5_liveByLot 4 = .ok (.invokevirtual 209, 3) := by decide +kernel
theorem dX5_liveByLot_7 : decode cX5_liveByLot 7 = .ok (.istore_n 2, 1) := by decide +kernel
theorem dX5_liveByLot_8 : decode cX5_liveByLot 8 = .ok (.iload_n 2, 1) := by decide +kernel
theorem dX5_liveByLot_9 : decode cX5_liveByLot 9 = .ok (.invokestatic 173, 3) := by decide +kernel
theorem dX5_liveByLot_12 : decode cX5_liveByLot 12 = .ok (.istore_n 3, 1) := by decide +kernel
theorem dX5_liveByLot_13 : decode cX5_liveByLot 13 = .ok (.iload_n 3, 1) := by decide +kernel
theorem dX5_liveByLot_14 : decode cX5_liveByLot 14 = .ok (.ifCond .ne 16, 3) := by decide +kernel
theorem dX5_liveByLot_17 : decode cX5_liveByLot 17 = .ok (.aload_n 0, 1) := by decide +kernel
theorem dX5_liveByLot_18 : decode cX5_liveByLot 18 = .ok (.getfield 40, 3) := by decide +kernel
theorem dX5_liveByLot_21 : decode cX5_liveByLot 21 = .ok (.iconst 0, 1) := by decide +kernel
theorem dX5_liveByLot_22 : decode cX5_liveByLot 22 = .ok (.bipush (-9), 2) := by decide +kernel
theorem dX5_liveByLot_24 : decode cX5_liveByLot 24 = .ok (.bipush (-9), 2) := by decide +kernel
theorem dX5_liveByLot_26 : decode cX5_liveByLot 26 = .ok (.invokevirtual 197, 3) := by decide +kernel
theorem dX5_liveByLot_29 : decode cX5_liveByLot 29 = .ok (.return_, 1) := by decide +kernel
theorem dX5_liveByLot_30 : decode cX5_liveByLot 30 = .ok (.iload_n 2, 1) := by decide +kernel
theorem dX5_liveByLot_31 : decode cX5_liveByLot 31 = .ok (.iload_n 1, 1) := by decide +kernel
theorem dX5_liveByLot_32 : decode cX5_liveByLot 32 = .ok (.iload_n 3, 1) := by decide +kernel
theorem dX5_liveByLot_33 : decode cX5_liveByLot 33 = .ok (.irem, 1) := by decide +kernel
theorem dX5_liveByLot_34 : decode cX5_liveByLot 34 = .ok (.invokestatic 337, 3) := by decide +kernel
theorem dX5_liveByLot_37 : decode cX5_liveByLot 37 = .ok (.istore 4, 2) := by decide +kernel
theorem dX5_liveByLot_39 : decode cX5_liveByLot 39 = .ok (.aload_n 0, 1) := by decide +kernel
theorem dX5_liveByLot_40 : decode cX5_liveByLot 40 = .ok (.getfield 40, 3) := by decide +kernel
theorem dX5_liveByLot_43 : decode cX5_liveByLot 43 = .ok (.iload 4, 2) := by decide +kernel
theorem dX5_liveByLot_45 : decode cX5_liveByLot 45 = .ok (.invokevirtual 219, 3) := by decide +kernel
theorem dX5_liveByLot_48 : decode cX5_liveByLot 48 = .ok (.istore 5, 2) := by decide +kernel
theorem dX5_liveByLot_50 : decode cX5_liveByLot 50 = .ok (.iload 5, 2) := by decide +kernel
theorem dX5_liveByLot_52 : decode cX5_liveByLot 52 = .ok (.invokestatic 173, 3) := by decide +kernel
theorem dX5_liveByLot_55 : decode cX5_liveByLot 55 = .ok (.iconst 1, 1) := by decide +kernel
theorem dX5_liveByLot_56 : decode cX5_liveByLot 56 = .ok (.iadd, 1) := by decide +kernel
theorem dX5_liveByLot_57 : decode cX5_liveByLot 57 = .ok (.istore 6, 2) := by decide +kernel
theorem dX5_liveByLot_59 : decode cX5_liveByLot 59 = .ok (.aload_n 0, 1) := by decide +kernel
theorem dX5_liveByLot_60 : decode cX5_liveByLot 60 = .ok (.getfield 40, 3) := by decide +kernel
theorem dX5_liveByLot_63 : decode cX5_liveByLot 63 = .ok (.iconst 1, 1) := by decide +kernel
theorem dX5_liveByLot_64 : decode cX5_liveByLot 64 = .ok (.iload 4, 2) := by decide +kernel
theorem dX5_liveByLot_66 : decode cX5_liveByLot 66 = .ok (.iload 5, 2) := by decide +kernel
theorem dX5_liveByLot_68 : decode cX5_liveByLot 68 = .ok (.iload_n 1, 1) := by decide +kernel
theorem dX5_liveByLot_69 : decode cX5_liveByLot 69 = .ok (.bipush 64, 2) := by decide +kernel
theorem dX5_liveByLot_71 : decode cX5_liveByLot 71 = .ok (.idiv, 1) := by decide +kernel
theorem dX5_liveByLot_72 : decode cX5_liveByLot 72 = .ok (.iload 6, 2) := by decide +kernel
theorem dX5_liveByLot_74 : decode cX5_liveByLot 74 = .ok (.irem, 1) := by decide +kernel
theorem dX5_liveByLot_75 : decode cX5_liveByLot 75 = .ok (.invokestatic 337, 3) := by decide +kernel
theorem dX5_liveByLot_78 : decode cX5_liveByLot 78 = .ok (.invokevirtual 197, 3) := by decide +kernel
theorem dX5_liveByLot_81 : decode cX5_liveByLot 81 = .ok (.return_, 1) := by decide +kernel
theorem dX5_countOf_0 : decode cX5_countOf 0 = .ok (.iload_n 1, 1) := by decide +kernel
theorem dX5_countOf_1 : decode cX5_countOf 1 = .ok (.tableswitch 117 0 7 #[47, 55, 63, 71, 82, 93, 101, 109], 47) := by decide +kernel
theorem dX5_countOf_48 : decode cX5_countOf 48 = .ok (.aload_n 0, 1) := by decide +kernel
theorem dX5_countOf_49 : decode cX5_countOf 49 = .ok (.getfield 31, 3) := by decide +kernel
theorem dX5_countOf_52 : decode cX5_countOf 52 = .ok (.getfield 140, 3) := by decide +kernel
theorem dX5_countOf_55 : decode cX5_countOf 55 = .ok (.ireturn, 1) := by decide +kernel
theorem dX5_countOf_56 : decode cX5_countOf 56 = .ok (.aload_n 0, 1) := by decide +kernel
theorem dX5_countOf_57 : decode cX5_countOf 57 = .ok (.getfield 31, 3) := by decide +kernel
theorem dX5_countOf_60 : decode cX5_countOf 60 = .ok (.getfield 228, 3) := by decide +kernel
theorem dX5_countOf_63 : decode cX5_countOf 63 = .ok (.ireturn, 1) := by decide +kernel
theorem dX5_countOf_64 : decode cX5_countOf 64 = .ok (.aload_n 0, 1) := by decide +kernel
theorem dX5_countOf_65 : decode cX5_countOf 65 = .ok (.getfield 40, 3) := by decide +kernel
theorem dX5_countOf_68 : decode cX5_countOf 68 = .ok (.getfield 187, 3) := by decide +kernel
theorem dX5_countOf_71 : decode cX5_countOf 71 = .ok (.ireturn, 1) := by decide +kernel
theorem dX5_countOf_72 : decode cX5_countOf 72 = .ok (.aload_n 0, 1) := by decide +kernel
theorem dX5_countOf_73 : decode cX5_countOf 73 = .ok (.getfield 40, 3) := by decide +kernel
theorem dX5_countOf_76 : decode cX5_countOf 76 = .ok (.getfield 178, 3) := by decide +kernel
theorem dX5_countOf_79 : decode cX5_countOf 79 = .ok (.invokestatic 173, 3) := by decide +kernel
theorem dX5_countOf_82 : decode cX5_countOf 82 = .ok (.ireturn, 1) := by decide +kernel
theorem dX5_countOf_83 : decode cX5_countOf 83 = .ok (.aload_n 0, 1) := by decide +kernel
theorem dX5_countOf_84 : decode cX5_countOf 84 = .ok (.getfield 40, 3) := by decide +kernel
theorem dX5_countOf_87 : decode cX5_countOf 87 = .ok (.getfield 340, 3) := by decide +kernel
theorem dX5_countOf_90 : decode cX5_countOf 90 = .ok (.invokestatic 173, 3) := by decide +kernel
theorem dX5_countOf_93 : decode cX5_countOf 93 = .ok (.ireturn, 1) := by decide +kernel
theorem dX5_countOf_94 : decode cX5_countOf 94 = .ok (.aload_n 0, 1) := by decide +kernel
theorem dX5_countOf_95 : decode cX5_countOf 95 = .ok (.getfield 31, 3) := by decide +kernel
theorem dX5_countOf_98 : decode cX5_countOf 98 = .ok (.invokevirtual 343, 3) := by decide +kernel
theorem dX5_countOf_101 : decode cX5_countOf 101 = .ok (.ireturn, 1) := by decide +kernel
theorem dX5_countOf_102 : decode cX5_countOf 102 = .ok (.aload_n 0, 1) := by decide +kernel
theorem dX5_countOf_103 : decode cX5_countOf 103 = .ok (.getfield 14, 3) := by decide +kernel
theorem dX5_countOf_106 : decode cX5_countOf 106 = .ok (.invokevirtual 346, 3) := by decide +kernel
theorem dX5_countOf_109 : decode cX5_countOf 109 = .ok (.ireturn, 1) := by decide +kernel
theorem dX5_countOf_110 : decode cX5_countOf 110 = .ok (.aload_n 0, 1) := by decide +kernel
theorem dX5_countOf_111 : decode cX5_countOf 111 = .ok (.getfield 18, 3) := by decide +kernel
theorem dX5_countOf_114 : decode cX5_countOf 114 = .ok (.invokevirtual 346, 3) := by decide +kernel
theorem dX5_countOf_117 : decode cX5_countOf 117 = .ok (.ireturn, 1) := by decide +kernel
theorem dX5_countOf_118 : decode cX5_countOf 118 = .ok (.aload_n 0, 1) := by decide +kernel
theorem dX5_countOf_119 : decode cX5_countOf 119 = .ok (.invokevirtual 349, 3) := by decide +kernel
theorem dX5_countOf_122 : decode cX5_countOf 122 = .ok (.ireturn, 1) := by decide +kernel
theorem dX5_keptHouses_0 : decode cX5_keptHouses 0 = .ok (.iconst 0, 1) := by decide +kernel
theorem dX5_keptHouses_1 : decode cX5_keptHouses 1 = .ok (.istore_n 1, 1) := by decide +kernel
theorem dX5_keptHouses_2 : decode cX5_keptHouses 2 = .ok (.iconst 0, 1) := by decide +kernel
theorem dX5_keptHouses_3 : decode cX5_keptHouses 3 = .ok (.istore_n 2, 1) := by decide +kernel
theorem dX5_keptHouses_4 : decode cX5_keptHouses 4 = .ok (.iload_n 2, 1) := by decide +kernel
theorem dX5_keptHouses_5 : decode cX5_keptHouses 5 = .ok (.iconst 3, 1) := by decide +kernel
theorem dX5_keptHouses_6 : decode cX5_keptHouses 6 = .ok (.if_icmp .ge 26, 3) := by decide +kernel
theorem dX5_keptHouses_9 : decode cX5_keptHouses 9 = .ok (.iload_n 1, 1) := by decide +kernel
theorem dX5_keptHouses_10 : decode cX5_keptHouses 10 = .ok (.aload_n 0, 1) := by decide +kernel
theorem dX5_keptHouses_11 : decode cX5_keptHouses 11 = .ok (.getfield 48, 3) := by decide +kernel
theorem dX5_keptHouses_14 : decode cX5_keptHouses 14 = .ok (.iload_n 2, 1) := by decide +kernel
theorem dX5_keptHouses_15 : decode cX5_keptHouses 15 = .ok (.baload, 1) := by decide +kernel
theorem dX5_keptHouses_16 : decode cX5_keptHouses 16 = .ok (.ifCond .eq 7, 3) := by decide +kernel
theorem dX5_keptHouses_19 : decode cX5_keptHouses 19 = .ok (.iconst 1, 1) := by decide +kernel
theorem dX5_keptHouses_20 : decode cX5_keptHouses 20 = .ok (.goto 4, 3) := by decide +kernel
theorem dX5_keptHouses_23 : decode cX5_keptHouses 23 = .ok (.iconst 0, 1) := by decide +kernel
theorem dX5_keptHouses_24 : decode cX5_keptHouses 24 = .ok (.iadd, 1) := by decide +kernel
theorem dX5_keptHouses_25 : decode cX5_keptHouses 25 = .ok (.istore_n 1, 1) := by decide +kernel
theorem dX5_keptHouses_26 : decode cX5_keptHouses 26 = .ok (.iinc 2 1, 3) := by decide +kernel
theorem dX5_keptHouses_29 : decode cX5_keptHouses 29 = .ok (.goto (-25), 3) := by decide +kernel
theorem dX5_keptHouses_32 : decode cX5_keptHouses 32 = .ok (.iload_n 1, 1) := by decide +kernel
theorem dX5_keptHouses_33 : decode cX5_keptHouses 33 = .ok (.ireturn, 1) := by decide +kernel
theorem dX6_init_0 : decode cX6_init 0 = .ok (.aload_n 0, 1) := by decide +kernel
theorem dX6_init_1 : decode cX6_init 1 = .ok (.invokespecial 1, 3) := by decide +kernel
theorem dX6_init_4 : decode cX6_init 4 = .ok (.aload_n 0, 1) := by decide +kernel
theorem dX6_init_5 : decode cX6_init 5 = .ok (.bipush 6, 2) := by decide +kernel
theorem dX6_init_7 : decode cX6_init 7 = .ok (.newarray .int, 2) := by decide +kernel
theorem dX6_init_9 : decode cX6_init 9 = .ok (.putfield 7, 3) := by decide +kernel
theorem dX6_init_12 : decode cX6_init 12 = .ok (.aload_n 0, 1) := by decide +kernel
theorem dX6_init_13 : decode cX6_init 13 = .ok (.sipush 240, 3) := by decide +kernel
theorem dX6_init_16 : decode cX6_init 16 = .ok (.newarray .int, 2) := by decide +kernel
theorem dX6_init_18 : decode cX6_init 18 = .ok (.putfield 13, 3) := by decide +kernel
theorem dX6_init_21 : decode cX6_init 21 = .ok (.aload_n 0, 1) := by decide +kernel
theorem dX6_init_22 : decode cX6_init 22 = .ok (.iconst 4, 1) := by decide +kernel
theorem dX6_init_23 : decode cX6_init 23 = .ok (.newarray .int, 2) := by decide +kernel
theorem dX6_init_25 : decode cX6_init 25 = .ok (.putfield 16, 3) := by decide +kernel
theorem dX6_init_28 : decode cX6_init 28 = .ok (.aload_n 0, 1) := by decide +kernel
theorem dX6_init_29 : decode cX6_init 29 = .ok (.sipush 320, 3) := by decide +kernel
theorem dX6_init_32 : decode cX6_init 32 = .ok (.newarray .int, 2) := by decide +kernel
theorem dX6_init_34 : decode cX6_init 34 = .ok (.putfield 19, 3) := by decide +kernel
theorem dX6_init_37 : decode cX6_init 37 = .ok (.aload_n 0, 1) := by decide +kernel
theorem dX6_init_38 : decode cX6_init 38 = .ok (.bipush 6, 2) := by decide +kernel
theorem dX6_init_40 : decode cX6_init 40 = .ok (.newarray .int, 2) := by decide +kernel
theorem dX6_init_42 : decode cX6_init 42 = .ok (.putfield 22, 3) := by decide +kernel
theorem dX6_init_45 : decode cX6_init 45 = .ok (.aload_n 0, 1) := by decide +kernel
theorem dX6_init_46 : decode cX6_init 46 = .ok (.bipush 6, 2) := by decide +kernel
theorem dX6_init_48 : decode cX6_init 48 = .ok (.newarray .int, 2) := by decide +kernel
theorem dX6_init_50 : decode cX6_init 50 = .ok (.putfield 25, 3) := by decide +kernel
theorem dX6_init_53 : decode cX6_init 53 = .ok (.aload_n 0, 1) := by decide +kernel
theorem dX6_init_54 : decode cX6_init 54 = .ok (.bipush 6, 2) := by decide +kernel
theorem dX6_init_56 : decode cX6_init 56 = .ok (.newarray .int, 2) := by decide +kernel
theorem dX6_init_58 : decode cX6_init 58 = .ok (.putfield 28, 3) := by decide +kernel
theorem dX6_init_61 : decode cX6_init 61 = .ok (.aload_n 0, 1) := by decide +kernel
theorem dX6_init_62 : decode cX6_init 62 = .ok (.bipush 7, 2) := by decide +kernel
theorem dX6_init_64 : decode cX6_init 64 = .ok (.newarray .int, 2) := by decide +kernel
theorem dX6_init_66 : decode cX6_init 66 = .ok (.putfield 31, 3) := by decide +kernel
theorem dX6_init_69 : decode cX6_init 69 = .ok (.aload_n 0, 1) := by decide +kernel
theorem dX6_init_70 : decode cX6_init 70 = .ok (.bipush 7, 2) := by decide +kernel
theorem dX6_init_72 : decode cX6_init 72 = .ok (.newarray .int, 2) := by decide +kernel
theorem dX6_init_74 : decode cX6_init 74 = .ok (.putfield 34, 3) := by decide +kernel
theorem dX6_init_77 : decode cX6_init 77 = .ok (.aload_n 0, 1) := by decide +kernel
theorem dX6_init_78 : decode cX6_init 78 = .ok (.bipush 7, 2) := by decide +kernel
theorem dX6_init_80 : decode cX6_init 80 = .ok (.newarray .int, 2) := by decide +kernel
theorem dX6_init_82 : decode cX6_init 82 = .ok (.putfield 37, 3) := by decide +kernel
theorem dX6_init_85 : decode cX6_init 85 = .ok (.aload_n 0, 1) := by decide +kernel
theorem dX6_init_86 : decode cX6_init 86 = .ok (.iconst 3, 1) := by decide +kernel
theorem dX6_init_87 : decode cX6_init 87 = .ok (.newarray .int, 2) := by decide +kernel
theorem dX6_init_89 : decode cX6_init 89 = .ok (.putfield 40, 3) := by decide +kernel
theorem dX6_init_92 : decode cX6_init 92 = .ok (.aload_n 0, 1) := by decide +kernel
theorem dX6_init_93 : decode cX6_init 93 = .ok (.bipush 12, 2) := by decide +kernel
theorem dX6_init_95 : decode cX6_init 95 = .ok (.newarray .int, 2) := by decide +kernel
theorem dX6_init_97 : decode cX6_init 97 = .ok (.putfield 43, 3) := by decide +kernel
theorem dX6_init_100 : decode cX6_init 100 = .ok (.aload_n 0, 1) := by decide +kernel
theorem dX6_init_101 : decode cX6_init 101 = .ok (.sipush 480, 3) := by decide +kernel
theorem dX6_init_104 : decode cX6_init 104 = .ok (.newarray .int, 2) := by decide +kernel
theorem dX6_init_106 : decode cX6_init 106 = .ok (.putfield 46, 3) := by decide +kernel
theorem dX6_init_109 : decode cX6_init 109 = .ok (.aload_n 0, 1) := by decide +kernel
theorem dX6_init_110 : decode cX6_init 110 = .ok (.lconst 1, 1) := by decide +kernel
theorem dX6_init_111 : decode cX6_init 111 = .ok (.putfield 49, 3) := by decide +kernel
theorem dX6_init_114 : decode cX6_init 114 = .ok (.aload_n 0, 1) := by decide +kernel
theorem dX6_init_115 : decode cX6_init 115 = .ok (.bipush 6, 2) := by decide +kernel
theorem dX6_init_117 : decode cX6_init 117 = .ok (.newarray .int, 2) := by decide +kernel
theorem dX6_init_119 : decode cX6_init 119 = .ok (.putfield 53, 3) := by decide +kernel
theorem dX6_init_122 : decode cX6_init 122 = .ok (.aload_n 0, 1) := by decide +kernel
theorem dX6_init_123 : decode cX6_init 123 = .ok (.bipush 40, 2) := by decide +kernel
theorem dX6_init_125 : decode cX6_init 125 = .ok (.newarray .int, 2) := by decide +kernel
theorem dX6_init_127 : decode cX6_init 127 = .ok (.putfield 56, 3) := by decide +kernel
theorem dX6_init_130 : decode cX6_init 130 = .ok (.aload_n 0, 1) := by decide +kernel
theorem dX6_init_131 : decode cX6_init 131 = .ok (.bipush 18, 2) := by decide +kernel
theorem dX6_init_133 : decode cX6_init 133 = .ok (.newarray .int, 2) := by decide +kernel
theorem dX6_init_135 : decode cX6_init 135 = .ok (.putfield 59, 3) := by decide +kernel
theorem dX6_init_138 : decode cX6_init 138 = .ok (.aload_n 0, 1) := by decide +kernel
theorem dX6_init_139 : decode cX6_init 139 = .ok (.bipush 21, 2) := by decide +kernel
theorem dX6_init_141 : decode cX6_init 141 = .ok (.newarray .int, 2) := by decide +kernel
theorem dX6_init_143 : decode cX6_init 143 = .ok (.putfield 62, 3) := by decide +kernel
theorem dX6_init_146 : decode cX6_init 146 = .ok (.aload_n 0, 1) := by decide +kernel
theorem dX6_init_147 : decode cX6_init 147 = .ok (.iconst 3, 1) := by decide +kernel
theorem dX6_init_148 : decode cX6_init 148 = .ok (.newarray .boolean, 2) := by decide +kernel
theorem dX6_init_150 : decode cX6_init 150 = .ok (.putfield 65, 3) := by decide +kernel
theorem dX6_init_153 : decode cX6_init 153 = .ok (.aload_n 0, 1) := by decide +kernel
theorem dX6_init_154 : decode cX6_init 154 = .ok (.sipush 1488, 3) := by decide +kernel
theorem dX6_init_157 : decode cX6_init 157 = .ok (.newarray .int, 2) := by decide +kernel
theorem dX6_init_159 : decode cX6_init 159 = .ok (.putfield 69, 3) := by decide +kernel
theorem dX6_init_162 : decode cX6_init 162 = .ok (.aload_n 0, 1) := by decide +kernel
theorem dX6_init_163 : decode cX6_init 163 = .ok (.sipush 24576, 3) := by decide +kernel
theorem dX6_init_166 : decode cX6_init 166 = .ok (.newarray .boolean, 2) := by decide +kernel
theorem dX6_init_168 : decode cX6_init 168 = .ok (.putfield 72, 3) := by decide +kernel
theorem dX6_init_171 : decode cX6_init 171 = .ok (.aload_n 0, 1) := by decide +kernel
theorem dX6_init_172 : decode cX6_init 172 = .ok (.sipush 24576, 3) := by decide +kernel
theorem dX6_init_175 : decode cX6_init 175 = .ok (.newarray .int, 2) := by decide +kernel
theorem dX6_init_177 : decode cX6_init 177 = .ok (.putfield 75, 3) := by decide +kernel
theorem dX6_init_180 : decode cX6_init 180 = .ok (.aload_n 0, 1) := by decide +kernel
theorem dX6_init_181 : decode cX6_init 181 = .ok (.sipush 128, 3) := by decide +kernel
theorem dX6_init_184 : decode cX6_init 184 = .ok (.newarray .int, 2) := by decide +kernel
theorem dX6_init_186 : decode cX6_init 186 = .ok (.putfield 78, 3) := by decide +kernel
theorem dX6_init_189 : decode cX6_init 189 = .ok (.iconst 0, 1) := by decide +kernel
theorem dX6_init_190 : decode cX6_init 190 = .ok (.istore_n 1, 1) := by decide +kernel
theorem dX6_init_191 : decode cX6_init 191 = .ok (.iload_n 1, 1) := by decide +kernel
theorem dX6_init_192 : decode cX6_init 192 = .ok (.bipush 6, 2) := by decide +kernel
theorem dX6_init_194 : decode cX6_init 194 = .ok (.if_icmp .ge 16, 3) := by decide +kernel
theorem dX6_init_197 : decode cX6_init 197 = .ok (.aload_n 0, 1) := by decide +kernel
theorem dX6_init_198 : decode cX6_init 198 = .ok (.getfield 7, 3) := by decide +kernel
theorem dX6_init_201 : decode cX6_init 201 = .ok (.iload_n 1, 1) := by decide +kernel
theorem dX6_init_202 : decode cX6_init 202 = .ok (.iconst (-1), 1) := by decide +kernel
theorem dX6_init_203 : decode cX6_init 203 = .ok (.iastore, 1) := by decide +kernel
theorem dX6_init_204 : decode cX6_init 204 = .ok (.iinc 1 1, 3) := by decide +kernel
theorem dX6_init_207 : decode cX6_init 207 = .ok (.goto (-16), 3) := by decide +kernel
theorem dX6_init_210 : decode cX6_init 210 = .ok (.iconst 0, 1) := by decide +kernel
theorem dX6_init_211 : decode cX6_init 211 = .ok (.istore_n 1, 1) := by decide +kernel
theorem dX6_init_212 : decode cX6_init 212 = .ok (.iload_n 1, 1) := by decide +kernel
theorem dX6_init_213 : decode cX6_init 213 = .ok (.iconst 4, 1) := by decide +kernel
theorem dX6_init_214 : decode cX6_init 214 = .ok (.if_icmp .ge 16, 3) := by decide +kernel
theorem dX6_init_217 : decode cX6_init 217 = .ok (.aload_n 0, 1) := by decide +kernel
theorem dX6_init_218 : decode cX6_init 218 = .ok (.getfield 16, 3) := by decide +kernel
theorem dX6_init_221 : decode cX6_init 221 = .ok (.iload_n 1, 1) := by decide +kernel
theorem dX6_init_222 : decode cX6_init 222 = .ok (.iconst (-1), 1) := by decide +kernel
theorem dX6_init_223 : decode cX6_init 223 = .ok (.iastore, 1) := by decide +kernel
theorem dX6_init_224 : decode cX6_init 224 = .ok (.iinc 1 1, 3) := by decide +kernel
theorem dX6_init_227 : decode cX6_init 227 = .ok (.goto (-15), 3) := by decide +kernel
theorem dX6_init_230 : decode cX6_init 230 = .ok (.aload_n 0, 1) := by decide +kernel
theorem dX6_init_231 : decode cX6_init 231 = .ok (.invokevirtual 81, 3) := by decide +kernel
theorem dX6_init_234 : decode cX6_init 234 = .ok (.return_, 1) := by decide +kernel
theorem dX6_newRoutes_0 : decode cX6_newRoutes 0 = .ok (.aload_n 0, 1) := by decide +kernel
theorem dX6_newRoutes_1 : decode cX6_newRoutes 1 = .ok (.getfield 40, 3) := by decide +kernel
theorem dX6_newRoutes_4 : decode cX6_newRoutes 4 = .ok (.iconst 0, 1) := by decide +kernel
theorem dX6_newRoutes_5 : decode cX6_newRoutes 5 = .ok (.iconst 1, 1) := by decide +kernel
theorem dX6_newRoutes_6 : decode cX6_newRoutes 6 = .ok (.iastore, 1) := by decide +kernel
theorem dX6_newRoutes_7 : decode cX6_newRoutes 7 = .ok (.aload_n 0, 1) := by decide +kernel
theorem dX6_newRoutes_8 : decode cX6_newRoutes 8 = .ok (.getfield 40, 3) := by decide +kernel
theorem dX6_newRoutes_11 : decode cX6_newRoutes 11 = .ok (.iconst 1, 1) := by decide +kernel
theorem dX6_newRoutes_12 : decode cX6_newRoutes 12 = .ok (.iconst 2, 1) := by decide +kernel
theorem dX6_newRoutes_13 : decode cX6_newRoutes 13 = .ok (.iastore, 1) := by decide +kernel
theorem dX6_newRoutes_14 : decode cX6_newRoutes 14 = .ok (.aload_n 0, 1) := by decide +kernel
theorem dX6_newRoutes_15 : decode cX6_newRoutes 15 = .ok (.getfield 40, 3) := by decide +kernel
theorem dX6_newRoutes_18 : decode cX6_newRoutes 18 = .ok (.iconst 2, 1) := by decide +kernel
theorem dX6_newRoutes_19 : decode cX6_newRoutes 19 = .ok (.iconst 4, 1) := by decide +kernel
theorem dX6_newRoutes_20 : decode cX6_newRoutes 20 = .ok (.iastore, 1) := by decide +kernel
theorem dX6_newRoutes_21 : decode cX6_newRoutes 21 = .ok (.return_, 1) := by decide +kernel
theorem dX6_in_0 : decode cX6_in 0 = .ok (.lload_n 0, 1) := by decide +kernel
theorem dX6_in_1 : decode cX6_in 1 = .ok (.lload_n 2, 1) := by decide +kernel
theorem dX6_in_2 : decode cX6_in 2 = .ok (.lcmp, 1) := by decide +kernel
theorem dX6_in_3 : decode cX6_in 3 = .ok (.ifCond .lt 14, 3) := by decide +kernel
theorem dX6_in_6 : decode cX6_in 6 = .ok (.lload_n 0, 1) := by decide +kernel
theorem dX6_in_7 : decode cX6_in 7 = .ok (.lload 4, 2) := by decide +kernel
theorem dX6_in_9 : decode cX6_in 9 = .ok (.lcmp, 1) := by decide +kernel
theorem dX6_in_10 : decode cX6_in 10 = .ok (.ifCond .gt 7, 3) := by decide +kernel
theorem dX6_in_13 : decode cX6_in 13 = .ok (.iconst 1, 1) := by decide +kernel
theorem dX6_in_14 : decode cX6_in 14 = .ok (.goto 4, 3) := by decide +kernel
theorem dX6_in_17 : decode cX6_in 17 = .ok (.iconst 0, 1) := by decide +kernel
theorem dX6_in_18 : decode cX6_in 18 = .ok (.ireturn, 1) := by decide +kernel
theorem dX6_has_0 : decode cX6_has 0 = .ok (.iload_n 0, 1) := by decide +kernel
theorem dX6_has_1 : decode cX6_has 1 = .ok (.iload_n 1, 1) := by decide +kernel
theorem dX6_has_2 : decode cX6_has 2 = .ok (.ishr, 1) := by decide +kernel
theorem dX6_has_3 : decode cX6_has 3 = .ok (.iconst 1, 1) := by decide +kernel
theorem dX6_has_4 : decode cX6_has 4 = .ok (.iand, 1) := by decide +kernel
theorem dX6_has_5 : decode cX6_has 5 = .ok (.iconst 1, 1) := by decide +kernel
theorem dX6_has_6 : decode cX6_has 6 = .ok (.if_icmp .ne 7, 3) := by decide +kernel
theorem dX6_has_9 : decode cX6_has 9 = .ok (.iconst 1, 1) := by decide +kernel
theorem dX6_has_10 : decode cX6_has 10 = .ok (.goto 4, 3) := by decide +kernel
theorem dX6_has_13 : decode cX6_has 13 = .ok (.iconst 0, 1) := by decide +kernel
theorem dX6_has_14 : decode cX6_has 14 = .ok (.ireturn, 1) := by decide +kernel
theorem dX6_ones_0 : decode cX6_ones 0 = .ok (.iconst 0, 1) := by decide +kernel
theorem dX6_ones_1 : decode cX6_ones 1 = .ok (.istore_n 1, 1) := by decide +kernel
theorem dX6_ones_2 : decode cX6_ones 2 = .ok (.iload_n 0, 1) := by decide +kernel
theorem dX6_ones_3 : decode cX6_ones 3 = .ok (.istore_n 2, 1) := by decide +kernel
theorem dX6_ones_4 : decode cX6_ones 4 = .ok (.iload_n 2, 1) := by decide +kernel
theorem dX6_ones_5 : decode cX6_ones 5 = .ok (.ifCond .eq 15, 3) := by decide +kernel
theorem dX6_ones_8 : decode cX6_ones 8 = .ok (.iinc 1 1, 3) := by decide +kernel
theorem dX6_ones_11 : decode cX6_ones 11 = .ok (.iload_n 2, 1) := by decide +kernel
theorem dX6_ones_12 : decode cX6_ones 12 = .ok (.iload_n 2, 1) := by decide +kernel
theorem dX6_ones_13 : decode cX6_ones 13 = .ok (.iconst 1, 1) := by decide +kernel
theorem dX6_ones_14 : decode cX6_ones 14 = .ok (.isub, 1) := by decide +kernel
theorem dX6_ones_15 : decode cX6_ones 15 = .ok (.iand, 1) := by decide +kernel
theorem dX6_ones_16 : decode cX6_ones 16 = .ok (.istore_n 2, 1) := by decide +kernel
theorem dX6_ones_17 : decode cX6_ones 17 = .ok (.goto (-13), 3) := by decide +kernel
theorem dX6_ones_20 : decode cX6_ones 20 = .ok (.iload_n 1, 1) := by decide +kernel
theorem dX6_ones_21 : decode cX6_ones 21 = .ok (.ireturn, 1) := by decide +kernel
theorem dX6_find_0 : decode cX6_find 0 = .ok (.aload_n 0, 1) := by decide +kernel
theorem dX6_find_1 : decode cX6_find 1 = .ok (.iload_n 1, 1) := by decide +kernel
theorem dX6_find_2 : decode cX6_find 2 = .ok (.putfield 84, 3) := by decide +kernel
theorem dX6_find_5 : decode cX6_find 5 = .ok (.aload_n 0, 1) := by decide +kernel
theorem dX6_find_6 : decode cX6_find 6 = .ok (.getfield 53, 3) := by decide +kernel
theorem dX6_find_9 : decode cX6_find 9 = .ok (.iload_n 1, 1) := by decide +kernel
theorem dX6_find_10 : decode cX6_find 10 = .ok (.dup2, 1) := by decide +kernel
theorem dX6_find_11 : decode cX6_find 11 = .ok (.iaload, 1) := by decide +kernel
theorem dX6_find_12 : decode cX6_find 12 = .ok (.iconst 1, 1) := by decide +kernel
theorem dX6_find_13 : decode cX6_find 13 = .ok (.iadd, 1) := by decide +kernel
theorem dX6_find_14 : decode cX6_find 14 = .ok (.iastore, 1) := by decide +kernel
theorem dX6_find_15 : decode cX6_find 15 = .ok (.bipush (-3), 2) := by decide +kernel
theorem dX6_find_17 : decode cX6_find 17 = .ok (.ireturn, 1) := by decide +kernel
theorem dX6_answer_0 : decode cX6_answer 0 = .ok (.aload_n 0, 1) := by decide +kernel
theorem dX6_answer_1 : decode cX6_answer 1 = .ok (.iload_n 2, 1) := by decide +kernel
theorem dX6_answer_2 : decode cX6_answer 2 = .ok (.putfield 88, 3) := by decide +kernel
theorem dX6_answer_5 : decode cX6_answer 5 = .ok (.iload_n 1, 1) := by decide +kernel
theorem dX6_answer_6 : decode cX6_answer 6 = .ok (.ireturn, 1) := by decide +kernel
theorem dX6_isRow_0 : decode cX6_isRow 0 = .ok (.iload_n 0, 1) := by decide +kernel
theorem dX6_isRow_1 : decode cX6_isRow 1 = .ok (.i2l, 1) := by decide +kernel
theorem dX6_isRow_2 : decode cX6_isRow 2 = .ok (.lconst 0, 1) := by decide +kernel
theorem dX6_isRow_3 : decode cX6_isRow 3 = .ok (.ldc2_w 91, 3) := by decide +kernel
theorem dX6_isRow_6 : decode cX6_isRow 6 = .ok (.invokestatic 93, 3) := by decide +kernel
theorem dX6_isRow_9 : decode cX6_isRow 9 = .ok (.ireturn, 1) := by decide +kernel
theorem dX6_isText_0 : decode cX6_isText 0 = .ok (.iload_n 0, 1) := by decide +kernel
theorem dX6_isText_1 : decode cX6_isText 1 = .ok (.i2l, 1) := by decide +kernel
theorem dX6_isText_2 : decode cX6_isText 2 = .ok (.lconst 0, 1) := by decide +kernel
theorem dX6_isText_3 : decode cX6_isText 3 = .ok (.ldc2_w 97, 3) := by decide +kernel
theorem dX6_isText_6 : decode cX6_isText 6 = .ok (.invokestatic 93, 3) := by decide +kernel
theorem dX6_isText_9 : decode cX6_isText 9 = .ok (.ireturn, 1) := by decide +kernel
theorem dX6_row_0 : decode cX6_row 0 = .ok (.iload_n 1, 1) := by decide +kernel
theorem dX6_row_1 : decode cX6_row 1 = .ok (.invokestatic 99, 3) := by decide +kernel
theorem dX6_row_4 : decode cX6_row 4 = .ok (.ifCond .eq 9, 3) := by decide +kernel
theorem dX6_row_7 : decode cX6_row 7 = .ok (.iload_n 2, 1) := by decide +kernel
theorem dX6_row_8 : decode cX6_row 8 = .ok (.bipush 40, 2) := by decide +kernel
theorem dX6_row_10 : decode cX6_row 10 = .ok (.if_icmp .le 5, 3) := by decide +kernel
theorem dX6_row_13 : decode cX6_row 13 = .ok (.iconst (-1), 1) := by decide +kernel
theorem dX6_row_14 : decode cX6_row 14 = .ok (.ireturn, 1) := by decide +kernel
theorem dX6_row_15 : decode cX6_row 15 = .ok (.iload_n 2, 1) := by decide +kernel
theorem dX6_row_16 : decode cX6_row 16 = .ok (.ifCond .ge 9, 3) := by decide +kernel
theorem dX6_row_19 : decode cX6_row 19 = .ok (.aload_n 0, 1) := by decide +kernel
theorem dX6_row_20 : decode cX6_row 20 = .ok (.iconst 5, 1) := by decide +kernel
theorem dX6_row_21 : decode cX6_row 21 = .ok (.invokevirtual 103, 3) := by decide +kernel
theorem dX6_row_24 : decode cX6_row 24 = .ok (.ireturn, 1) := by decide +kernel
theorem dX6_row_25 : decode cX6_row 25 = .ok (.aload_n 0, 1) := by decide +kernel
theorem dX6_row_26 : decode cX6_row 26 = .ok (.getfield 7, 3) := by decide +kernel
theorem dX6_row_29 : decode cX6_row 29 = .ok (.iload_n 1, 1) := by decide +kernel
theorem dX6_row_30 : decode cX6_row 30 = .ok (.iload_n 2, 1) := by decide +kernel
theorem dX6_row_31 : decode cX6_row 31 = .ok (.iastore, 1) := by decide +kernel
theorem dX6_row_32 : decode cX6_row 32 = .ok (.iconst 0, 1) := by decide +kernel
theorem dX6_row_33 : decode cX6_row 33 = .ok (.istore_n 3, 1) := by decide +kernel
theorem dX6_row_34 : decode cX6_row 34 = .ok (.iload_n 3, 1) := by decide +kernel
theorem dX6_row_35 : decode cX6_row 35 = .ok (.bipush 40, 2) := by decide +kernel
theorem dX6_row_37 : decode cX6_row 37 = .ok (.if_icmp .ge 21, 3) := by decide +kernel
theorem dX6_row_40 : decode cX6_row 40 = .ok (.aload_n 0, 1) := by decide +kernel
theorem dX6_row_41 : decode cX6_row 41 = .ok (.getfield 13, 3) := by decide +kernel
theorem dX6_row_44 : decode cX6_row 44 = .ok (.bipush 40, 2) := by decide +kernel
theorem dX6_row_46 : decode cX6_row 46 = .ok (.iload_n 1, 1) := by decide +kernel
theorem dX6_row_47 : decode cX6_row 47 = .ok (.imul, 1) := by decide +kernel
theorem dX6_row_48 : decode cX6_row 48 = .ok (.iload_n 3, 1) := by decide +kernel
theorem dX6_row_49 : decode cX6_row 49 = .ok (.iadd, 1) := by decide +kernel
theorem dX6_row_50 : decode cX6_row 50 = .ok (.iconst 0, 1) := by decide +kernel
theorem dX6_row_51 : decode cX6_row 51 = .ok (.iastore, 1) := by decide +kernel
theorem dX6_row_52 : decode cX6_row 52 = .ok (.iinc 3 1, 3) := by decide +kernel
theorem dX6_row_55 : decode cX6_row 55 = .ok (.goto (-21), 3) := by decide +kernel
theorem dX6_row_58 : decode cX6_row 58 = .ok (.iload_n 2, 1) := by decide +kernel
theorem dX6_row_59 : decode cX6_row 59 = .ok (.ireturn, 1) := by decide +kernel
theorem dX6_lacksPlace_0 : decode cX6_lacksPlace 0 = .ok (.iload_n 1, 1) := by decide +kernel
theorem dX6_lacksPlace_1 : decode cX6_lacksPlace 1 = .ok (.invokestatic 99, 3) := by decide +kernel
theorem dX6_lacksPlace_4 : decode cX6_lacksPlace 4 = .ok (.ifCond .ne 5, 3) := by decide +kernel
theorem dX6_lacksPlace_7 : decode cX6_lacksPlace 7 = .ok (.iconst (-1), 1) := by decide +kernel
theorem dX6_lacksPlace_8 : decode cX6_lacksPlace 8 = .ok (.ireturn, 1) := by decide +kernel
theorem dX6_lacksPlace_9 : decode cX6_lacksPlace 9 = .ok (.aload_n 0, 1) := by decide +kernel
theorem dX6_lacksPlace_10 : decode cX6_lacksPlace 10 = .ok (.getfield 7, 3) := by decide +kernel
theorem dX6_lacksPlace_13 : decode cX6_lacksPlace 13 = .ok (.iload_n 1, 1) := by decide +kernel
theorem dX6_lacksPlace_14 : decode cX6_lacksPlace 14 = .ok (.iaload, 1) := by decide +kernel
theorem dX6_lacksPlace_15 : decode cX6_lacksPlace 15 = .ok (.ifCond .ge 9, 3) := by decide +kernel
theorem dX6_lacksPlace_18 : decode cX6_lacksPlace 18 = .ok (.aload_n 0, 1) := by decide +kernel
theorem dX6_lacksPlace_19 : decode cX6_lacksPlace 19 = .ok (.iconst 1, 1) := by decide +kernel
theorem dX6_lacksPlace_20 : decode cX6_lacksPlace 20 = .ok (.invokevirtual 103, 3) := by decide +kernel
theorem dX6_lacksPlace_23 : decode cX6_lacksPlace 23 = .ok (.ireturn, 1) := by decide +kernel
theorem dX6_lacksPlace_24 : decode cX6_lacksPlace 24 = .ok (.iload_n 2, 1) := by decide +kernel
theorem dX6_lacksPlace_25 : decode cX6_lacksPlace 25 = .ok (.i2l, 1) := by decide +kernel
theorem dX6_lacksPlace_26 : decode cX6_lacksPlace 26 = .ok (.lconst 0, 1) := by decide +kernel
theorem dX6_lacksPlace_27 : decode cX6_lacksPlace 27 = .ok (.aload_n 0, 1) := by decide +kernel
theorem dX6_lacksPlace_28 : decode cX6_lacksPlace 28 = .ok (.getfield 7, 3) := by decide +kernel
theorem dX6_lacksPlace_31 : decode cX6_lacksPlace 31 = .ok (.iload_n 1, 1) := by decide +kernel
theorem dX6_lacksPlace_32 : decode cX6_lacksPlace 32 = .ok (.iaload, 1) := by decide +kernel
theorem dX6_lacksPlace_33 : decode cX6_lacksPlace 33 = .ok (.iconst 1, 1) := by decide +kernel
theorem dX6_lacksPlace_34 : decode cX6_lacksPlace 34 = .ok (.isub, 1) := by decide +kernel
theorem dX6_lacksPlace_35 : decode cX6_lacksPlace 35 = .ok (.i2l, 1) := by decide +kernel
theorem dX6_lacksPlace_36 : decode cX6_lacksPlace 36 = .ok (.invokestatic 93, 3) := by decide +kernel
theorem dX6_lacksPlace_39 : decode cX6_lacksPlace 39 = .ok (.ifCond .eq 7, 3) := by decide +kernel
theorem dX6_lacksPlace_42 : decode cX6_lacksPlace 42 = .ok (.iconst 0, 1) := by decide +kernel
theorem dX6_lacksPlace_43 : decode cX6_lacksPlace 43 = .ok (.goto 8, 3) := by decide +kernel
theorem dX6_lacksPlace_46 : decode cX6_lacksPlace 46 = .ok (.aload_n 0, 1) := by decide +kernel
theorem dX6_lacksPlace_47 : decode cX6_lacksPlace 47 = .ok (.iconst 2, 1) := by decide +kernel
theorem dX6_lacksPlace_48 : decode cX6_lacksPlace 48 = .ok (.invokevirtual 103, 3) := by decide +kernel
theorem dX6_lacksPlace_51 : decode cX6_lacksPlace 51 = .ok (.ireturn, 1) := by decide +kernel
theorem dX6_lay_0 : decode cX6_lay 0 = .ok (.aload_n 0, 1) := by decide +kernel
theorem dX6_lay_1 : decode cX6_lay 1 = .ok (.iload_n 1, 1) := by decide +kernel
theorem dX6_lay_2 : decode cX6_lay 2 = .ok (.iload_n 2, 1) := by decide +kernel
theorem dX6_lay_3 : decode cX6_lay 3 = .ok (.invokevirtual 107, 3) := by decide +kernel
theorem dX6_lay_6 : decode cX6_lay 6 = .ok (.istore 4, 2) := by decide +kernel
theorem dX6_lay_8 : decode cX6_lay 8 = .ok (.iload 4, 2) := by decide +kernel
theorem dX6_lay_10 : decode cX6_lay 10 = .ok (.ifCond .ge 6, 3) := by decide +kernel
theorem dX6_lay_13 : decode cX6_lay 13 = .ok (.iload 4, 2) := by decide +kernel
theorem dX6_lay_15 : decode cX6_lay 15 = .ok (.ireturn, 1) := by decide +kernel
theorem dX6_lay_16 : decode cX6_lay 16 = .ok (.aload_n 0, 1) := by decide +kernel
theorem dX6_lay_17 : decode cX6_lay 17 = .ok (.getfield 13, 3) := by decide +kernel
theorem dX6_lay_20 : decode cX6_lay 20 = .ok (.bipush 40, 2) := by decide +kernel
theorem dX6_lay_22 : decode cX6_lay 22 = .ok (.iload_n 1, 1) := by decide +kernel
theorem dX6_lay_23 : decode cX6_lay 23 = .ok (.imul, 1) := by decide +kernel
theorem dX6_lay_24 : decode cX6_lay 24 = .ok (.iload_n 2, 1) := by decide +kernel
theorem dX6_lay_25 : decode cX6_lay 25 = .ok (.iadd, 1) := by decide +kernel
theorem dX6_lay_26 : decode cX6_lay 26 = .ok (.iaload, 1) := by decide +kernel
theorem dX6_lay_27 : decode cX6_lay 27 = .ok (.istore 5, 2) := by decide +kernel
theorem dX6_lay_29 : decode cX6_lay 29 = .ok (.aload_n 0, 1) := by decide +kernel
theorem dX6_lay_30 : decode cX6_lay 30 = .ok (.getfield 13, 3) := by decide +kernel
theorem dX6_lay_33 : decode cX6_lay 33 = .ok (.bipush 40, 2) := by decide +kernel
theorem dX6_lay_35 : decode cX6_lay 35 = .ok (.iload_n 1, 1) := by decide +kernel
theorem dX6_lay_36 : decode cX6_lay 36 = .ok (.imul, 1) := by decide +kernel
theorem dX6_lay_37 : decode cX6_lay 37 = .ok (.iload_n 2, 1) := by decide +kernel
theorem dX6_lay_38 : decode cX6_lay 38 = .ok (.iadd, 1) := by decide +kernel
theorem dX6_lay_39 : decode cX6_lay 39 = .ok (.iload_n 3, 1) := by decide +kernel
theorem dX6_lay_40 : decode cX6_lay 40 = .ok (.iastore, 1) := by decide +kernel
theorem dX6_lay_41 : decode cX6_lay 41 = .ok (.aload_n 0, 1) := by decide +kernel
theorem dX6_lay_42 : decode cX6_lay 42 = .ok (.iconst 1, 1) := by decide +kernel
theorem dX6_lay_43 : decode cX6_lay 43 = .ok (.iload 5, 2) := by decide +kernel
theorem dX6_lay_45 : decode cX6_lay 45 = .ok (.invokevirtual 111, 3) := by decide +kernel
theorem dX6_lay_48 : decode cX6_lay 48 = .ok (.ireturn, 1) := by decide +kernel
theorem dX6_at_0 : decode cX6_at 0 = .ok (.aload_n 0, 1) := by decide +kernel
theorem dX6_at_1 : decode cX6_at 1 = .ok (.iload_n 1, 1) := by decide +kernel
theorem dX6_at_2 : decode cX6_at 2 = .ok (.iload_n 2, 1) := by decide +kernel
theorem dX6_at_3 : decode cX6_at 3 = .ok (.invokevirtual 107, 3) := by decide +kernel
theorem dX6_at_6 : decode cX6_at 6 = .ok (.istore_n 3, 1) := by decide +kernel
theorem dX6_at_7 : decode cX6_at 7 = .ok (.iload_n 3, 1) := by decide +kernel
theorem dX6_at_8 : decode cX6_at 8 = .ok (.ifCond .ge 7, 3) := by decide +kernel
theorem dX6_at_11 : decode cX6_at 11 = .ok (.iload_n 3, 1) := by decide +kernel
theorem dX6_at_12 : decode cX6_at 12 = .ok (.goto 19, 3) := by decide +kernel
theorem dX6_at_15 : decode cX6_at 15 = .ok (.aload_n 0, 1) := by decide +kernel
theorem dX6_at_16 : decode cX6_at 16 = .ok (.iconst 1, 1) := by decide +kernel
theorem dX6_at_17 : decode cX6_at 17 = .ok (.aload_n 0, 1) := by decide +kernel
theorem dX6_at_18 : decode cX6_at 18 = .ok (.getfield 13, 3) := by decide +kernel
theorem dX6_at_21 : decode cX6_at 21 = .ok (.bipush 40, 2) := by decide +kernel
theorem dX6_at_23 : decode cX6_at 23 = .ok (.iload_n 1, 1) := by decide +kernel
theorem dX6_at_24 : decode cX6_at 24 = .ok (.imul, 1) := by decide +kernel
theorem dX6_at_25 : decode cX6_at 25 = .ok (.iload_n 2, 1) := by decide +kernel
theorem dX6_at_26 : decode cX6_at 26 = .ok (.iadd, 1) := by decide +kernel
theorem dX6_at_27 : decode cX6_at 27 = .ok (.iaload, 1) := by decide +kernel
theorem dX6_at_28 : decode cX6_at 28 = .ok (.invokevirtual 111, 3) := by decide +kernel
theorem dX6_at_31 : decode cX6_at 31 = .ok (.ireturn, 1) := by decide +kernel
theorem dX6_tear_0 : decode cX6_tear 0 = .ok (.iload_n 1, 1) := by decide +kernel
theorem dX6_tear_1 : decode cX6_tear 1 = .ok (.invokestatic 99, 3) := by decide +kernel
theorem dX6_tear_4 : decode cX6_tear 4 = .ok (.ifCond .ne 5, 3) := by decide +kernel
theorem dX6_tear_7 : decode cX6_tear 7 = .ok (.iconst (-1), 1) := by decide +kernel
theorem dX6_tear_8 : decode cX6_tear 8 = .ok (.ireturn, 1) := by decide +kernel
theorem dX6_tear_9 : decode cX6_tear 9 = .ok (.aload_n 0, 1) := by decide +kernel
theorem dX6_tear_10 : decode cX6_tear 10 = .ok (.getfield 7, 3) := by decide +kernel
theorem dX6_tear_13 : decode cX6_tear 13 = .ok (.iload_n 1, 1) := by decide +kernel
theorem dX6_tear_14 : decode cX6_tear 14 = .ok (.iaload, 1) := by decide +kernel
theorem dX6_tear_15 : decode cX6_tear 15 = .ok (.ifCond .ge 9, 3) := by decide +kernel
theorem dX6_tear_18 : decode cX6_tear 18 = .ok (.aload_n 0, 1) := by decide +kernel
theorem dX6_tear_19 : decode cX6_tear 19 = .ok (.iconst 1, 1) := by decide +kernel
theorem dX6_tear_20 : decode cX6_tear 20 = .ok (.invokevirtual 103, 3) := by decide +kernel
theorem dX6_tear_23 : decode cX6_tear 23 = .ok (.ireturn, 1) := by decide +kernel
theorem dX6_tear_24 : decode cX6_tear 24 = .ok (.aload_n 0, 1) := by decide +kernel
theorem dX6_tear_25 : decode cX6_tear 25 = .ok (.getfield 7, 3) := by decide +kernel
theorem dX6_tear_28 : decode cX6_tear 28 = .ok (.iload_n 1, 1) := by decide +kernel
theorem dX6_tear_29 : decode cX6_tear 29 = .ok (.iconst (-1), 1) := by decide +kernel
theorem dX6_tear_30 : decode cX6_tear 30 = .ok (.iastore, 1) := by decide +kernel
theorem dX6_tear_31 : decode cX6_tear 31 = .ok (.iconst 1, 1) := by decide +kernel
theorem dX6_tear_32 : decode cX6_tear 32 = .ok (.ireturn, 1) := by decide +kernel
theorem dX6_copy_0 : decode cX6_copy 0 = .ok (.iload_n 1, 1) := by decide +kernel
theorem dX6_copy_1 : decode cX6_copy 1 = .ok (.invokestatic 99, 3) := by decide +kernel
theorem dX6_copy_4 : decode cX6_copy 4 = .ok (.ifCond .eq 10, 3) := by decide +kernel
theorem dX6_copy_7 : decode cX6_copy 7 = .ok (.iload_n 3, 1) := by decide +kernel
theorem dX6_copy_8 : decode cX6_copy 8 = .ok (.invokestatic 99, 3) := by decide +kernel
theorem dX6_copy_11 : decode cX6_copy 11 = .ok (.ifCond .ne 5, 3) := by decide +kernel
theorem dX6_copy_14 : decode cX6_copy 14 = .ok (.iconst (-1), 1) := by decide +kernel
theorem dX6_copy_15 : decode cX6_copy 15 = .ok (.ireturn, 1) := by decide +kernel
theorem dX6_copy_16 : decode cX6_copy 16 = .ok (.iload 5, 2) := by decide +kernel
theorem dX6_copy_18 : decode cX6_copy 18 = .ok (.ifCond .ge 9, 3) := by decide +kernel
theorem dX6_copy_21 : decode cX6_copy 21 = .ok (.aload_n 0, 1) := by decide +kernel
theorem dX6_copy_22 : decode cX6_copy 22 = .ok (.iconst 5, 1) := by decide +kernel
theorem dX6_copy_23 : decode cX6_copy 23 = .ok (.invokevirtual 103, 3) := by decide +kernel
theorem dX6_copy_26 : decode cX6_copy 26 = .ok (.ireturn, 1) := by decide +kernel
theorem dX6_copy_27 : decode cX6_copy 27 = .ok (.aload_n 0, 1) := by decide +kernel
theorem dX6_copy_28 : decode cX6_copy 28 = .ok (.getfield 7, 3) := by decide +kernel
theorem dX6_copy_31 : decode cX6_copy 31 = .ok (.iload_n 1, 1) := by decide +kernel
theorem dX6_copy_32 : decode cX6_copy 32 = .ok (.iaload, 1) := by decide +kernel
theorem dX6_copy_33 : decode cX6_copy 33 = .ok (.ifCond .lt 12, 3) := by decide +kernel
theorem dX6_copy_36 : decode cX6_copy 36 = .ok (.aload_n 0, 1) := by decide +kernel
theorem dX6_copy_37 : decode cX6_copy 37 = .ok (.getfield 7, 3) := by decide +kernel
theorem dX6_copy_40 : decode cX6_copy 40 = .ok (.iload_n 3, 1) := by decide +kernel
theorem dX6_copy_41 : decode cX6_copy 41 = .ok (.iaload, 1) := by decide +kernel
theorem dX6_copy_42 : decode cX6_copy 42 = .ok (.ifCond .ge 9, 3) := by decide +kernel
theorem dX6_copy_45 : decode cX6_copy 45 = .ok (.aload_n 0, 1) := by decide +kernel
theorem dX6_copy_46 : decode cX6_copy 46 = .ok (.iconst 1, 1) := by decide +kernel
theorem dX6_copy_47 : decode cX6_copy 47 = .ok (.invokevirtual 103, 3) := by decide +kernel
theorem dX6_copy_50 : decode cX6_copy 50 = .ok (.ireturn, 1) := by decide +kernel
theorem dX6_copy_51 : decode cX6_copy 51 = .ok (.iload_n 2, 1) := by decide +kernel
theorem dX6_copy_52 : decode cX6_copy 52 = .ok (.i2l, 1) := by decide +kernel
theorem dX6_copy_53 : decode cX6_copy 53 = .ok (.lconst 0, 1) := by decide +kernel
theorem dX6_copy_54 : decode cX6_copy 54 = .ok (.aload_n 0, 1) := by decide +kernel
theorem dX6_copy_55 : decode cX6_copy 55 = .ok (.getfield 7, 3) := by decide +kernel
theorem dX6_copy_58 : decode cX6_copy 58 = .ok (.iload_n 1, 1) := by decide +kernel
theorem dX6_copy_59 : decode cX6_copy 59 = .ok (.iaload, 1) := by decide +kernel
theorem dX6_copy_60 : decode cX6_copy 60 = .ok (.i2l, 1) := by decide +kernel
theorem dX6_copy_61 : decode cX6_copy 61 = .ok (.iload 5, 2) := by decide +kernel
theorem dX6_copy_63 : decode cX6_copy 63 = .ok (.i2l, 1) := by decide +kernel
theorem dX6_copy_64 : decode cX6_copy 64 = .ok (.lsub, 1) := by decide +kernel
theorem dX6_copy_65 : decode cX6_copy 65 = .ok (.invokestatic 93, 3) := by decide +kernel
theorem dX6_copy_68 : decode cX6_copy 68 = .ok (.ifCond .eq 24, 3) := by decide +kernel
theorem dX6_copy_71 : decode cX6_copy 71 = .ok (.iload 4, 2) := by decide +kernel
theorem dX6_copy_73 : decode cX6_copy 73 = .ok (.i2l, 1) := by decide +kernel
theorem dX6_copy_74 : decode cX6_copy 74 = .ok (.lconst 0, 1) := by decide +kernel
theorem dX6_copy_75 : decode cX6_copy 75 = .ok (.aload_n 0, 1) := by decide +kernel
theorem dX6_copy_76 : decode cX6_copy 76 = .ok (.getfield 7, 3) := by decide +kernel
theorem dX6_copy_79 : decode cX6_copy 79 = .ok (.iload_n 3, 1) := by decide +kernel
theorem dX6_copy_80 : decode cX6_copy 80 = .ok (.iaload, 1) := by decide +kernel
theorem dX6_copy_81 : decode cX6_copy 81 = .ok (.i2l, 1) := by decide +kernel
theorem dX6_copy_82 : decode cX6_copy 82 = .ok (.iload 5, 2) := by decide +kernel
theorem dX6_copy_84 : decode cX6_copy 84 = .ok (.i2l, 1) := by decide +kernel
theorem dX6_copy_85 : decode cX6_copy 85 = .ok (.lsub, 1) := by decide +kernel
theorem dX6_copy_86 : decode cX6_copy 86 = .ok (.invokestatic 93, 3) := by decide +kernel
theorem dX6_copy_89 : decode cX6_copy 89 = .ok (.ifCond .ne 9, 3) := by decide +kernel
theorem dX6_copy_92 : decode cX6_copy 92 = .ok (.aload_n 0, 1) := by decide +kernel
theorem dX6_copy_93 : decode cX6_copy 93 = .ok (.iconst 2, 1) := by decide +kernel
theorem dX6_copy_94 : decode cX6_copy 94 = .ok (.invokevirtual 103, 3) := by decide +kernel
theorem dX6_copy_97 : decode cX6_copy 97 = .ok (.ireturn, 1) := by decide +kernel
theorem dX6_copy_98 : decode cX6_copy 98 = .ok (.iconst 0, 1) := by decide +kernel
theorem dX6_copy_99 : decode cX6_copy 99 = .ok (.istore 6, 2) := by decide +kernel
theorem dX6_copy_101 : decode cX6_copy 101 = .ok (.iload 6, 2) := by decide +kernel
theorem dX6_copy_103 : decode cX6_copy 103 = .ok (.iload 5, 2) := by decide +kernel
theorem dX6_copy_105 : decode cX6_copy 105 = .ok (.if_icmp .ge 30, 3) := by decide +kernel
theorem dX6_copy_108 : decode cX6_copy 108 = .ok (.aload_n 0, 1) := by decide +kernel
theorem dX6_copy_109 : decode cX6_copy 109 = .ok (.getfield 56, 3) := by decide +kernel
theorem dX6_copy_112 : decode cX6_copy 112 = .ok (.iload 6, 2) := by decide +kernel
theorem dX6_copy_114 : decode cX6_copy 114 = .ok (.aload_n 0, 1) := by decide +kernel
theorem dX6_copy_115 : decode cX6_copy 115 = .ok (.getfield 13, 3) := by decide +kernel
theorem dX6_copy_118 : decode cX6_copy 118 = .ok (.bipush 40, 2) := by decide +kernel
theorem dX6_copy_120 : decode cX6_copy 120 = .ok (.iload_n 1, 1) := by decide +kernel
theorem dX6_copy_121 : decode cX6_copy 121 = .ok (.imul, 1) := by decide +kernel
theorem dX6_copy_122 : decode cX6_copy 122 = .ok (.iload_n 2, 1) := by decide +kernel
theorem dX6_copy_123 : decode cX6_copy 123 = .ok (.iadd, 1) := by decide +kernel
theorem dX6_copy_124 : decode cX6_copy 124 = .ok (.iload 6, 2) := by decide +kernel
theorem dX6_copy_126 : decode cX6_copy 126 = .ok (.iadd, 1) := by decide +kernel
theorem dX6_copy_127 : decode cX6_copy 127 = .ok (.iaload, 1) := by decide +kernel
theorem dX6_copy_128 : decode cX6_copy 128 = .ok (.iastore, 1) := by decide +kernel
theorem dX6_copy_129 : decode cX6_copy 129 = .ok (.iinc 6 1, 3) := by decide +kernel
theorem dX6_copy_132 : decode cX6_copy 132 = .ok (.goto (-31), 3) := by decide +kernel
theorem dX6_copy_135 : decode cX6_copy 135 = .ok (.iconst 0, 1) := by decide +kernel
theorem dX6_copy_136 : decode cX6_copy 136 = .ok (.istore 6, 2) := by decide +kernel
theorem dX6_copy_138 : decode cX6_copy 138 = .ok (.iload 6, 2) := by decide +kernel
theorem dX6_copy_140 : decode cX6_copy 140 = .ok (.iload 5, 2) := by decide +kernel
theorem dX6_copy_142 : decode cX6_copy 142 = .ok (.if_icmp .ge 31, 3) := by decide +kernel
theorem dX6_copy_145 : decode cX6_copy 145 = .ok (.aload_n 0, 1) := by decide +kernel
theorem dX6_copy_146 : decode cX6_copy 146 = .ok (.getfield 13, 3) := by decide +kernel
theorem dX6_copy_149 : decode cX6_copy 149 = .ok (.bipush 40, 2) := by decide +kernel
theorem dX6_copy_151 : decode cX6_copy 151 = .ok (.iload_n 3, 1) := by decide +kernel
theorem dX6_copy_152 : decode cX6_copy 152 = .ok (.imul, 1) := by decide +kernel
theorem dX6_copy_153 : decode cX6_copy 153 = .ok (.iload 4, 2) := by decide +kernel
theorem dX6_copy_155 : decode cX6_copy 155 = .ok (.iadd, 1) := by decide +kernel
theorem dX6_copy_156 : decode cX6_copy 156 = .ok (.iload 6, 2) := by decide +kernel
theorem dX6_copy_158 : decode cX6_copy 158 = .ok (.iadd, 1) := by decide +kernel
theorem dX6_copy_159 : decode cX6_copy 159 = .ok (.aload_n 0, 1) := by decide +kernel
theorem dX6_copy_160 : decode cX6_copy 160 = .ok (.getfield 56, 3) := by decide +kernel
theorem dX6_copy_163 : decode cX6_copy 163 = .ok (.iload 6, 2) := by decide +kernel
theorem dX6_copy_165 : decode cX6_copy 165 = .ok (.iaload, 1) := by decide +kernel
theorem dX6_copy_166 : decode cX6_copy 166 = .ok (.iastore, 1) := by decide +kernel
theorem dX6_copy_167 : decode cX6_copy 167 = .ok (.iinc 6 1, 3) := by decide +kernel
theorem dX6_copy_170 : decode cX6_copy 170 = .ok (.goto (-32), 3) := by decide +kernel
theorem dX6_copy_173 : decode cX6_copy 173 = .ok (.iconst 1, 1) := by decide +kernel
theorem dX6_copy_174 : decode cX6_copy 174 = .ok (.ireturn, 1) := by decide +kernel
theorem dX6_mean_0 : decode cX6_mean 0 = .ok (.iload_n 1, 1) := by decide +kernel
theorem dX6_mean_1 : decode cX6_mean 1 = .ok (.invokestatic 99, 3) := by decide +kernel
theorem dX6_mean_4 : decode cX6_mean 4 = .ok (.ifCond .ne 5, 3) := by decide +kernel
theorem dX6_mean_7 : decode cX6_mean 7 = .ok (.iconst (-1), 1) := by decide +kernel
theorem dX6_mean_8 : decode cX6_mean 8 = .ok (.ireturn, 1) := by decide +kernel
theorem dX6_mean_9 : decode cX6_mean 9 = .ok (.aload_n 0, 1) := by decide +kernel
theorem dX6_mean_10 : decode cX6_mean 10 = .ok (.getfield 7, 3) := by decide +kernel
theorem dX6_mean_13 : decode cX6_mean 13 = .ok (.iload_n 1, 1) := by decide +kernel
theorem dX6_mean_14 : decode cX6_mean 14 = .ok (.iaload, 1) := by decide +kernel
theorem dX6_mean_15 : decode cX6_mean 15 = .ok (.ifCond .ge 9, 3) := by decide +kernel
theorem dX6_mean_18 : decode cX6_mean 18 = .ok (.aload_n 0, 1) := by decide +kernel
theorem dX6_mean_19 : decode cX6_mean 19 = .ok (.iconst 1, 1) := by decide +kernel
theorem dX6_mean_20 : decode cX6_mean 20 = .ok (.invokevirtual 103, 3) := by decide +kernel
theorem dX6_mean_23 : decode cX6_mean 23 = .ok (.ireturn, 1) := by decide +kernel
theorem dX6_mean_24 : decode cX6_mean 24 = .ok (.aload_n 0, 1) := by decide +kernel
theorem dX6_mean_25 : decode cX6_mean 25 = .ok (.getfield 7, 3) := by decide +kernel
theorem dX6_mean_28 : decode cX6_mean 28 = .ok (.iload_n 1, 1) := by decide +kernel
theorem dX6_mean_29 : decode cX6_mean 29 = .ok (.iaload, 1) := by decide +kernel
theorem dX6_mean_30 : decode cX6_mean 30 = .ok (.ifCond .ne 9, 3) := by decide +kernel
theorem dX6_mean_33 : decode cX6_mean 33 = .ok (.aload_n 0, 1) := by decide +kernel
theorem dX6_mean_34 : decode cX6_mean 34 = .ok (.iconst 4, 1) := by decide +kernel
theorem dX6_mean_35 : decode cX6_mean 35 = .ok (.invokevirtual 103, 3) := by decide +kernel
theorem dX6_mean_38 : decode cX6_mean 38 = .ok (.ireturn, 1) := by decide +kernel
theorem dX6_mean_39 : decode cX6_mean 39 = .ok (.lconst 0, 1) := by decide +kernel
theorem dX6_mean_40 : decode cX6_mean 40 = .ok (.lstore_n 2, 1) := by decide +kernel
theorem dX6_mean_41 : decode cX6_mean 41 = .ok (.iconst 0, 1) := by decide +kernel
theorem dX6_mean_42 : decode cX6_mean 42 = .ok (.istore 4, 2) := by decide +kernel
theorem dX6_mean_44 : decode cX6_mean 44 = .ok (.iload 4, 2) := by decide +kernel
theorem dX6_mean_46 : decode cX6_mean 46 = .ok (.aload_n 0, 1) := by decide +kernel
theorem dX6_mean_47 : decode cX6_mean 47 = .ok (.getfield 7, 3) := by decide +kernel
theorem dX6_mean_50 : decode cX6_mean 50 = .ok (.iload_n 1, 1) := by decide +kernel
theorem dX6_mean_51 : decode cX6_mean 51 = .ok (.iaload, 1) := by decide +kernel
theorem dX6_mean_52 : decode cX6_mean 52 = .ok (.if_icmp .ge 25, 3) := by decide +kernel
theorem dX6_mean_55 : decode cX6_mean 55 = .ok (.lload_n 2, 1) := by decide +kernel
theorem dX6_mean_56 : decode cX6_mean 56 = .ok (.aload_n 0, 1) := by decide +kernel
theorem dX6_mean_57 : decode cX6_mean 57 = .ok (.getfield 13, 3) := by decide +kernel
theorem dX6_mean_60 : decode cX6_mean 60 = .ok (.bipush 40, 2) := by decide +kernel
theorem dX6_mean_62 : decode cX6_mean 62 = .ok (.iload_n 1, 1) := by decide +kernel
theorem dX6_mean_63 : decode cX6_mean 63 = .ok (.imul, 1) := by decide +kernel
theorem dX6_mean_64 : decode cX6_mean 64 = .ok (.iload 4, 2) := by decide +kernel
theorem dX6_mean_66 : decode cX6_mean 66 = .ok (.iadd, 1) := by decide +kernel
theorem dX6_mean_67 : decode cX6_mean 67 = .ok (.iaload, 1) := by decide +kernel
theorem dX6_mean_68 : decode cX6_mean 68 = .ok (.i2l, 1) := by decide +kernel
theorem dX6_mean_69 : decode cX6_mean 69 = .ok (.ladd, 1) := by decide +kernel
theorem dX6_mean_70 : decode cX6_mean 70 = .ok (.lstore_n 2, 1) := by decide +kernel
theorem dX6_mean_71 : decode cX6_mean 71 = .ok (.iinc 4 1, 3) := by decide +kernel
theorem dX6_mean_74 : decode cX6_mean 74 = .ok (.goto (-30), 3) := by decide +kernel
theorem dX6_mean_77 : decode cX6_mean 77 = .ok (.aload_n 0, 1) := by decide +kernel
theorem dX6_mean_78 : decode cX6_mean 78 = .ok (.iconst 1, 1) := by decide +kernel
theorem dX6_mean_79 : decode cX6_mean 79 = .ok (.lload_n 2, 1) := by decide +kernel
theorem dX6_mean_80 : decode cX6_mean 80 = .ok (.aload_n 0, 1) := by decide +kernel
theorem dX6_mean_81 : decode cX6_mean 81 = .ok (.getfield 7, 3) := by decide +kernel
theorem dX6_mean_84 : decode cX6_mean 84 = .ok (.iload_n 1, 1) := by decide +kernel
theorem dX6_mean_85 : decode cX6_mean 85 = .ok (.iaload, 1) := by decide +kernel
theorem dX6_mean_86 : decode cX6_mean 86 = .ok (.i2l, 1) := by decide +kernel
theorem dX6_mean_87 : decode cX6_mean 87 = .ok (.ldiv, 1) := by decide +kernel
theorem dX6_mean_88 : decode cX6_mean 88 = .ok (.l2i, 1) := by decide +kernel
theorem dX6_mean_89 : decode cX6_mean 89 = .ok (.invokevirtual 111, 3) := by decide +kernel
theorem dX6_mean_92 : decode cX6_mean 92 = .ok (.ireturn, 1) := by decide +kernel
theorem dX6_text_0 : decode cX6_text 0 = .ok (.iload_n 1, 1) := by decide +kernel
theorem dX6_text_1 : decode cX6_text 1 = .ok (.invokestatic 114, 3) := by decide +kernel
theorem dX6_text_4 : decode cX6_text 4 = .ok (.ifCond .eq 9, 3) := by decide +kernel
theorem dX6_text_7 : decode cX6_text 7 = .ok (.iload_n 2, 1) := by decide +kernel
theorem dX6_text_8 : decode cX6_text 8 = .ok (.bipush 80, 2) := by decide +kernel
theorem dX6_text_10 : decode cX6_text 10 = .ok (.if_icmp .le 5, 3) := by decide +kernel
theorem dX6_text_13 : decode cX6_text 13 = .ok (.iconst (-1), 1) := by decide +kernel
theorem dX6_text_14 : decode cX6_text 14 = .ok (.ireturn, 1) := by decide +kernel
theorem dX6_text_15 : decode cX6_text 15 = .ok (.iload_n 2, 1) := by decide +kernel
theorem dX6_text_16 : decode cX6_text 16 = .ok (.ifCond .ge 9, 3) := by decide +kernel
theorem dX6_text_19 : decode cX6_text 19 = .ok (.aload_n 0, 1) := by decide +kernel
theorem dX6_text_20 : decode cX6_text 20 = .ok (.iconst 5, 1) := by decide +kernel
theorem dX6_text_21 : decode cX6_text 21 = .ok (.invokevirtual 103, 3) := by decide +kernel
theorem dX6_text_24 : decode cX6_text 24 = .ok (.ireturn, 1) := by decide +kernel
theorem dX6_text_25 : decode cX6_text 25 = .ok (.aload_n 0, 1) := by decide +kernel
theorem dX6_text_26 : decode cX6_text 26 = .ok (.getfield 16, 3) := by decide +kernel
theorem dX6_text_29 : decode cX6_text 29 = .ok (.iload_n 1, 1) := by decide +kernel
theorem dX6_text_30 : decode cX6_text 30 = .ok (.iload_n 2, 1) := by decide +kernel
theorem dX6_text_31 : decode cX6_text 31 = .ok (.iastore, 1) := by decide +kernel
theorem dX6_text_32 : decode cX6_text 32 = .ok (.iconst 0, 1) := by decide +kernel
theorem dX6_text_33 : decode cX6_text 33 = .ok (.istore_n 3, 1) := by decide +kernel
theorem dX6_text_34 : decode cX6_text 34 = .ok (.iload_n 3, 1) := by decide +kernel
theorem dX6_text_35 : decode cX6_text 35 = .ok (.bipush 80, 2) := by decide +kernel
theorem dX6_text_37 : decode cX6_text 37 = .ok (.if_icmp .ge 22, 3) := by decide +kernel
theorem dX6_text_40 : decode cX6_text 40 = .ok (.aload_n 0, 1) := by decide +kernel
theorem dX6_text_41 : decode cX6_text 41 = .ok (.getfield 19, 3) := by decide +kernel
theorem dX6_text_44 : decode cX6_text 44 = .ok (.bipush 80, 2) := by decide +kernel
theorem dX6_text_46 : decode cX6_text 46 = .ok (.iload_n 1, 1) := by decide +kernel
theorem dX6_text_47 : decode cX6_text 47 = .ok (.imul, 1) := by decide +kernel
theorem dX6_text_48 : decode cX6_text 48 = .ok (.iload_n 3, 1) := by decide +kernel
theorem dX6_text_49 : decode cX6_text 49 = .ok (.iadd, 1) := by decide +kernel
theorem dX6_text_50 : decode cX6_text 50 = .ok (.bipush 32, 2) := by decide +kernel
theorem dX6_text_52 : decode cX6_text 52 = .ok (.iastore, 1) := by decide +kernel
theorem dX6_text_53 : decode cX6_text 53 = .ok (.iinc 3 1, 3) := by decide +kernel
theorem dX6_text_56 : decode cX6_text 56 = .ok (.goto (-22), 3) := by decide +kernel
theorem dX6_text_59 : decode cX6_text 59 = .ok (.iload_n 2, 1) := by decide +kernel
theorem dX6_text_60 : decode cX6_text 60 = .ok (.ireturn, 1) := by decide +kernel
theorem dX6_put_0 : decode cX6_put 0 = .ok (.iload_n 1, 1) := by decide +kernel
theorem dX6_put_1 : decode cX6_put 1 = .ok (.invokestatic 114, 3) := by decide +kernel
theorem dX6_put_4 : decode cX6_put 4 = .ok (.ifCond .ne 5, 3) := by decide +kernel
theorem dX6_put_7 : decode cX6_put 7 = .ok (.iconst (-1), 1) := by decide +kernel
theorem dX6_put_8 : decode cX6_put 8 = .ok (.ireturn, 1) := by decide +kernel
theorem dX6_put_9 : decode cX6_put 9 = .ok (.aload_n 0, 1) := by decide +kernel
theorem dX6_put_10 : decode cX6_put 10 = .ok (.getfield 16, 3) := by decide +kernel
theorem dX6_put_13 : decode cX6_put 13 = .ok (.iload_n 1, 1) := by decide +kernel
theorem dX6_put_14 : decode cX6_put 14 = .ok (.iaload, 1) := by decide +kernel
theorem dX6_put_15 : decode cX6_put 15 = .ok (.ifCond .ge 9, 3) := by decide +kernel
theorem dX6_put_18 : decode cX6_put 18 = .ok (.aload_n 0, 1) := by decide +kernel
theorem dX6_put_19 : decode cX6_put 19 = .ok (.iconst 1, 1) := by decide +kernel
theorem dX6_put_20 : decode cX6_put 20 = .ok (.invokevirtual 103, 3) := by decide +kernel
theorem dX6_put_23 : decode cX6_put 23 = .ok (.ireturn, 1) := by decide +kernel
theorem dX6_put_24 : decode cX6_put 24 = .ok (.iload_n 2, 1) := by decide +kernel
theorem dX6_put_25 : decode cX6_put 25 = .ok (.i2l, 1) := by decide +kernel
theorem dX6_put_26 : decode cX6_put 26 = .ok (.lconst 0, 1) := by decide +kernel
theorem dX6_put_27 : decode cX6_put 27 = .ok (.aload_n 0, 1) := by decide +kernel
theorem dX6_put_28 : decode cX6_put 28 = .ok (.getfield 16, 3) := by decide +kernel
theorem dX6_put_31 : decode cX6_put 31 = .ok (.iload_n 1, 1) := by decide +kernel
theorem dX6_put_32 : decode cX6_put 32 = .ok (.iaload, 1) := by decide +kernel
theorem dX6_put_33 : decode cX6_put 33 = .ok (.iconst 1, 1) := by decide +kernel
theorem dX6_put_34 : decode cX6_put 34 = .ok (.isub, 1) := by decide +kernel
theorem dX6_put_35 : decode cX6_put 35 = .ok (.i2l, 1) := by decide +kernel
theorem dX6_put_36 : decode cX6_put 36 = .ok (.invokestatic 93, 3) := by decide +kernel
theorem dX6_put_39 : decode cX6_put 39 = .ok (.ifCond .ne 9, 3) := by decide +kernel
theorem dX6_put_42 : decode cX6_put 42 = .ok (.aload_n 0, 1) := by decide +kernel
theorem dX6_put_43 : decode cX6_put 43 = .ok (.iconst 2, 1) := by decide +kernel
theorem dX6_put_44 : decode cX6_put 44 = .ok (.invokevirtual 103, 3) := by decide +kernel
theorem dX6_put_47 : decode cX6_put 47 = .ok (.ireturn, 1) := by decide +kernel
theorem dX6_put_48 : decode cX6_put 48 = .ok (.aload_n 0, 1) := by decide +kernel
theorem dX6_put_49 : decode cX6_put 49 = .ok (.getfield 19, 3) := by decide +kernel
theorem dX6_put_52 : decode cX6_put 52 = .ok (.bipush 80, 2) := by decide +kernel
theorem dX6_put_54 : decode cX6_put 54 = .ok (.iload_n 1, 1) := by decide +kernel
theorem dX6_put_55 : decode cX6_put 55 = .ok (.imul, 1) := by decide +kernel
theorem dX6_put_56 : decode cX6_put 56 = .ok (.iload_n 2, 1) := by decide +kernel
theorem dX6_put_57 : decode cX6_put 57 = .ok (.iadd, 1) := by decide +kernel
theorem dX6_put_58 : decode cX6_put 58 = .ok (.iaload, 1) := by decide +kernel
theorem dX6_put_59 : decode cX6_put 59 = .ok (.istore 4, 2) := by decide +kernel
theorem dX6_put_61 : decode cX6_put 61 = .ok (.aload_n 0, 1) := by decide +kernel
theorem dX6_put_62 : decode cX6_put 62 = .ok (.getfield 19, 3) := by decide +kernel
theorem dX6_put_65 : decode cX6_put 65 = .ok (.bipush 80, 2) := by decide +kernel
theorem dX6_put_67 : decode cX6_put 67 = .ok (.iload_n 1, 1) := by decide +kernel
theorem dX6_put_68 : decode cX6_put 68 = .ok (.imul, 1) := by decide +kernel
theorem dX6_put_69 : decode cX6_put 69 = .ok (.iload_n 2, 1) := by decide +kernel
theorem dX6_put_70 : decode cX6_put 70 = .ok (.iadd, 1) := by decide +kernel
theorem dX6_put_71 : decode cX6_put 71 = .ok (.iload_n 3, 1) := by decide +kernel
theorem dX6_put_72 : decode cX6_put 72 = .ok (.bipush 24, 2) := by decide +kernel
theorem dX6_put_74 : decode cX6_put 74 = .ok (.ishl, 1) := by decide +kernel
theorem dX6_put_75 : decode cX6_put 75 = .ok (.bipush 24, 2) := by decide +kernel
theorem dX6_put_77 : decode cX6_put 77 = .ok (.ishr, 1) := by decide +kernel
theorem dX6_put_78 : decode cX6_put 78 = .ok (.iastore, 1) := by decide +kernel
theorem dX6_put_79 : decode cX6_put 79 = .ok (.iload 4, 2) := by decide +kernel
theorem dX6_put_81 : decode cX6_put 81 = .ok (.sipush 1000, 3) := by decide +kernel
theorem dX6_put_84 : decode cX6_put 84 = .ok (.iadd, 1) := by decide +kernel
theorem dX6_put_85 : decode cX6_put 85 = .ok (.ireturn, 1) := by decide +kernel
theorem dX6_isEnd_0 : decode cX6_isEnd 0 = .ok (.aload_n 0, 1) := by decide +kernel
theorem dX6_isEnd_1 : decode cX6_isEnd 1 = .ok (.getfield 117, 3) := by decide +kernel
theorem dX6_isEnd_4 : decode cX6_isEnd 4 = .ok (.aload_n 0, 1) := by decide +kernel
theorem dX6_isEnd_5 : decode cX6_isEnd 5 = .ok (.getfield 16, 3) := by decide +kernel
theorem dX6_isEnd_8 : decode cX6_isEnd 8 = .ok (.iload_n 1, 1) := by decide +kernel
theorem dX6_isEnd_9 : decode cX6_isEnd 9 = .ok (.iaload, 1) := by decide +kernel
theorem dX6_isEnd_10 : decode cX6_isEnd 10 = .ok (.if_icmp .lt 7, 3) := by decide +kernel
theorem dX6_isEnd_13 : decode cX6_isEnd 13 = .ok (.iconst 1, 1) := by decide +kernel
theorem dX6_isEnd_14 : decode cX6_isEnd 14 = .ok (.goto 4, 3) := by decide +kernel
theorem dX6_isEnd_17 : decode cX6_isEnd 17 = .ok (.iconst 0, 1) := by decide +kernel
theorem dX6_isEnd_18 : decode cX6_isEnd 18 = .ok (.ireturn, 1) := by decide +kernel
theorem dX6_byteAt_0 : decode cX6_byteAt 0 = .ok (.aload_n 0, 1) := by decide +kernel
theorem dX6_byteAt_1 : decode cX6_byteAt 1 = .ok (.iload_n 1, 1) := by decide +kernel
theorem dX6_byteAt_2 : decode cX6_byteAt 2 = .ok (.invokevirtual 120, 3) := by decide +kernel
theorem dX6_byteAt_5 : decode cX6_byteAt 5 = .ok (.ifCond .eq 7, 3) := by decide +kernel
theorem dX6_byteAt_8 : decode cX6_byteAt 8 = .ok (.iconst 0, 1) := by decide +kernel
theorem dX6_byteAt_9 : decode cX6_byteAt 9 = .ok (.goto 17, 3) := by decide +kernel
theorem dX6_byteAt_12 : decode cX6_byteAt 12 = .ok (.aload_n 0, 1) := by decide +kernel
theorem dX6_byteAt_13 : decode cX6_byteAt 13 = .ok (.getfield 19, 3) := by decide +kernel
theorem dX6_byteAt_16 : decode cX6_byteAt 16 = .ok (.bipush 80, 2) := by decide +kernel
theorem dX6_byteAt_18 : decode cX6_byteAt 18 = .ok (.iload_n 1, 1) := by decide +kernel
theorem dX6_byteAt_19 : decode cX6_byteAt 19 = .ok (.imul, 1) := by decide +kernel
theorem dX6_byteAt_20 : decode cX6_byteAt 20 = .ok (.aload_n 0, 1) := by decide +kernel
theorem dX6_byteAt_21 : decode cX6_byteAt 21 = .ok (.getfield 117, 3) := by decide +kernel
theorem dX6_byteAt_24 : decode cX6_byteAt 24 = .ok (.iadd, 1) := by decide +kernel
theorem dX6_byteAt_25 : decode cX6_byteAt 25 = .ok (.iaload, 1) := by decide +kernel
theorem dX6_byteAt_26 : decode cX6_byteAt 26 = .ok (.ireturn, 1) := by decide +kernel
theorem dX6_skipBlanks_0 : decode cX6_skipBlanks 0 = .ok (.aload_n 0, 1) := by decide +kernel
theorem dX6_skipBlanks_1 : decode cX6_skipBlanks 1 = .ok (.iload_n 1, 1) := by decide +kernel
theorem dX6_skipBlanks_2 : decode cX6_skipBlanks 2 = .ok (.invokevirtual 120, 3) := by decide +kernel
theorem dX6_skipBlanks_5 : decode cX6_skipBlanks 5 = .ok (.ifCond .ne 26, 3) := by decide +kernel
theorem dX6_skipBlanks_8 : decode cX6_skipBlanks 8 = .ok (.aload_n 0, 1) := by decide +kernel
theorem dX6_skipBlanks_9 : decode cX6_skipBlanks 9 = .ok (.iload_n 1, 1) := by decide +kernel
theorem dX6_skipBlanks_10 : decode cX6_skipBlanks 10 = .ok (.invokevirtual 123, 3) := by decide +kernel
theorem dX6_skipBlanks_13 : decode cX6_skipBlanks 13 = .ok (.bipush 32, 2) := by decide +kernel
theorem dX6_skipBlanks_15 : decode cX6_skipBlanks 15 = .ok (.if_icmp .ne 16, 3) := by decide +kernel
theorem dX6_skipBlanks_18 : decode cX6_skipBlanks 18 = .ok (.aload_n 0, 1) := by decide +kernel
theorem dX6_skipBlanks_19 : decode cX6_skipBlanks 19 = .ok (.dup, 1) := by decide +kernel
theorem dX6_skipBlanks_20 : decode cX6_skipBlanks 20 = .ok (.getfield 117, 3) := by decide +kernel
theorem dX6_skipBlanks_23 : decode cX6_skipBlanks 23 = .ok (.iconst 1, 1) := by decide +kernel
theorem dX6_skipBlanks_24 : decode cX6_skipBlanks 24 = .ok (.iadd, 1) := by decide +kernel
theorem dX6_skipBlanks_25 : decode cX6_skipBlanks 25 = .ok (.putfield 117, 3) := by decide +kernel
theorem dX6_skipBlanks_28 : decode cX6_skipBlanks 28 = .ok (.goto (-28), 3) := by decide +kernel
theorem dX6_skipBlanks_31 : decode cX6_skipBlanks 31 = .ok (.return_, 1) := by decide +kernel
theorem dX6_kindBy_0 : decode cX6_kindBy 0 = .ok (.iload_n 0, 1) := by decide +kernel
theorem dX6_kindBy_1 : decode cX6_kindBy 1 = .ok (.bipush 100, 2) := by decide +kernel
theorem dX6_kindBy_3 : decode cX6_kindBy 3 = .ok (.if_icmp .ne 7, 3) := by decide +kernel
theorem dX6_kindBy_6 : decode cX6_kindBy 6 = .ok (.iconst 0, 1) := by decide +kernel
theorem dX6_kindBy_7 : decode cX6_kindBy 7 = .ok (.goto 54, 3) := by decide +kernel
theorem dX6_kindBy_10 : decode cX6_kindBy 10 = .ok (.iload_n 0, 1) := by decide +kernel
theorem dX6_kindBy_11 : decode cX6_kindBy 11 = .ok (.bipush 109, 2) := by decide +kernel
theorem dX6_kindBy_13 : decode cX6_kindBy 13 = .ok (.if_icmp .ne 7, 3) := by decide +kernel
theorem dX6_kindBy_16 : decode cX6_kindBy 16 = .ok (.iconst 1, 1) := by decide +kernel
theorem dX6_kindBy_17 : decode cX6_kindBy 17 = .ok (.goto 44, 3) := by decide +kernel
theorem dX6_kindBy_20 : decode cX6_kindBy 20 = .ok (.iload_n 0, 1) := by decide +kernel
theorem dX6_kindBy_21 : decode cX6_kindBy 21 = .ok (.bipush 115, 2) := by decide +kernel
theorem dX6_kindBy_23 : decode cX6_kindBy 23 = .ok (.if_icmp .ne 7, 3) := by decide +kernel
theorem dX6_kindBy_26 : decode cX6_kindBy 26 = .ok (.iconst 2, 1) := by decide +kernel
theorem dX6_kindBy_27 : decode cX6_kindBy 27 = .ok (.goto 34, 3) := by decide +kernel
theorem dX6_kindBy_30 : decode cX6_kindBy 30 = .ok (.iload_n 0, 1) := by decide +kernel
theorem dX6_kindBy_31 : decode cX6_kindBy 31 = .ok (.bipush 108, 2) := by decide +kernel
theorem dX6_kindBy_33 : decode cX6_kindBy 33 = .ok (.if_icmp .ne 7, 3) := by decide +kernel
theorem dX6_kindBy_36 : decode cX6_kindBy 36 = .ok (.iconst 3, 1) := by decide +kernel
theorem dX6_kindBy_37 : decode cX6_kindBy 37 = .ok (.goto 24, 3) := by decide +kernel
theorem dX6_kindBy_40 : decode cX6_kindBy 40 = .ok (.iload_n 0, 1) := by decide +kernel
theorem dX6_kindBy_41 : decode cX6_kindBy 41 = .ok (.bipush 102, 2) := by decide +kernel
theorem dX6_kindBy_43 : decode cX6_kindBy 43 = .ok (.if_icmp .ne 7, 3) := by decide +kernel
theorem dX6_kindBy_46 : decode cX6_kindBy 46 = .ok (.iconst 4, 1) := by decide +kernel
theorem dX6_kindBy_47 : decode cX6_kindBy 47 = .ok (.goto 14, 3) := by decide +kernel
theorem dX6_kindBy_50 : decode cX6_kindBy 50 = .ok (.iload_n 0, 1) := by decide +kernel
theorem dX6_kindBy_51 : decode cX6_kindBy 51 = .ok (.bipush 112, 2) := by decide +kernel
theorem dX6_kindBy_53 : decode cX6_kindBy 53 = .ok (.if_icmp .ne 7, 3) := by decide +kernel
theorem dX6_kindBy_56 : decode cX6_kindBy 56 = .ok (.iconst 5, 1) := by decide +kernel
theorem dX6_kindBy_57 : decode cX6_kindBy 57 = .ok (.goto 4, 3) := by decide +kernel
theorem dX6_kindBy_60 : decode cX6_kindBy 60 = .ok (.iconst (-1), 1) := by decide +kernel
theorem dX6_kindBy_61 : decode cX6_kindBy 61 = .ok (.ireturn, 1) := by decide +kernel
theorem dX6_sign_0 : decode cX6_sign 0 = .ok (.aload_n 0, 1) := by decide +kernel
theorem dX6_sign_1 : decode cX6_sign 1 = .ok (.iload_n 1, 1) := by decide +kernel
theorem dX6_sign_2 : decode cX6_sign 2 = .ok (.invokevirtual 123, 3) := by decide +kernel
theorem dX6_sign_5 : decode cX6_sign 5 = .ok (.iload_n 2, 1) := by decide +kernel
theorem dX6_sign_6 : decode cX6_sign 6 = .ok (.isub, 1) := by decide +kernel
theorem dX6_sign_7 : decode cX6_sign 7 = .ok (.istore 4, 2) := by decide +kernel
theorem dX6_sign_9 : decode cX6_sign 9 = .ok (.aload_n 0, 1) := by decide +kernel
theorem dX6_sign_10 : decode cX6_sign 10 = .ok (.iload_n 1, 1) := by decide +kernel
theorem dX6_sign_11 : decode cX6_sign 11 = .ok (.invokevirtual 120, 3) := by decide +kernel
theorem dX6_sign_14 : decode cX6_sign 14 = .ok (.ifCond .ne 17, 3) := by decide +kernel
theorem dX6_sign_17 : decode cX6_sign 17 = .ok (.iload 4, 2) := by decide +kernel
theorem dX6_sign_19 : decode cX6_sign 19 = .ok (.i2l, 1) := by decide +kernel
theorem dX6_sign_20 : decode cX6_sign 20 = .ok (.lconst 0, 1) := by decide +kernel
theorem dX6_sign_21 : decode cX6_sign 21 = .ok (.iload_n 3, 1) := by decide +kernel
theorem dX6_sign_22 : decode cX6_sign 22 = .ok (.iconst 1, 1) := by decide +kernel
theorem dX6_sign_23 : decode cX6_sign 23 = .ok (.isub, 1) := by decide +kernel
theorem dX6_sign_24 : decode cX6_sign 24 = .ok (.i2l, 1) := by decide +kernel
theorem dX6_sign_25 : decode cX6_sign 25 = .ok (.invokestatic 93, 3) := by decide +kernel
theorem dX6_sign_28 : decode cX6_sign 28 = .ok (.ifCond .ne 5, 3) := by decide +kernel
theorem dX6_sign_31 : decode cX6_sign 31 = .ok (.iconst (-1), 1) := by decide +kernel
theorem dX6_sign_32 : decode cX6_sign 32 = .ok (.ireturn, 1) := by decide +kernel
theorem dX6_sign_33 : decode cX6_sign 33 = .ok (.aload_n 0, 1) := by decide +kernel
theorem dX6_sign_34 : decode cX6_sign 34 = .ok (.dup, 1) := by decide +kernel
theorem dX6_sign_35 : decode cX6_sign 35 = .ok (.getfield 117, 3) := by decide +kernel
theorem dX6_sign_38 : decode cX6_sign 38 = .ok (.iconst 1, 1) := by decide +kernel
theorem dX6_sign_39 : decode cX6_sign 39 = .ok (.iadd, 1) := by decide +kernel
theorem dX6_sign_40 : decode cX6_sign 40 = .ok (.putfield 117, 3) := by decide +kernel
theorem dX6_sign_43 : decode cX6_sign 43 = .ok (.iload 4, 2) := by decide +kernel
theorem dX6_sign_45 : decode cX6_sign 45 = .ok (.ireturn, 1) := by decide +kernel
theorem dX6_readDeed_0 : decode cX6_readDeed 0 = .ok (.aload_n 0, 1) := by decide +kernel
theorem dX6_readDeed_1 : decode cX6_readDeed 1 = .ok (.getfield 126, 3) := by decide +kernel
theorem dX6_readDeed_4 : decode cX6_readDeed 4 = .ok (.bipush 6, 2) := by decide +kernel
theorem dX6_readDeed_6 : decode cX6_readDeed 6 = .ok (.if_icmp .eq 10, 3) := by decide +kernel
theorem dX6_readDeed_9 : decode cX6_readDeed 9 = .ok (.aload_n 0, 1) := by decide +kernel
theorem dX6_readDeed_10 : decode cX6_readDeed 10 = .ok (.getfield 129, 3) := by decide +kernel
theorem dX6_readDeed_13 : decode cX6_readDeed 13 = .ok (.ifCond .le 5, 3) := by decide +kernel
theorem dX6_readDeed_16 : decode cX6_readDeed 16 = .ok (.iconst 0, 1) := by decide +kernel
theorem dX6_readDeed_17 : decode cX6_readDeed 17 = .ok (.ireturn, 1) := by decide +kernel
theorem dX6_readDeed_18 : decode cX6_readDeed 18 = .ok (.aload_n 0, 1) := by decide +kernel
theorem dX6_readDeed_19 : decode cX6_readDeed 19 = .ok (.dup, 1) := by decide +kernel
theorem dX6_readDeed_20 : decode cX6_readDeed 20 = .ok (.getfield 117, 3) := by decide +kernel
theorem dX6_readDeed_23 : decode cX6_readDeed 23 = .ok (.iconst 1, 1) := by decide +kernel
theorem dX6_readDeed_24 : decode cX6_readDeed 24 = .ok (.iadd, 1) := by decide +kernel
theorem dX6_readDeed_25 : decode cX6_readDeed 25 = .ok (.putfield 117, 3) := by decide +kernel
theorem dX6_readDeed_28 : decode cX6_readDeed 28 = .ok (.aload_n 0, 1) := by decide +kernel
theorem dX6_readDeed_29 : decode cX6_readDeed 29 = .ok (.iload_n 1, 1) := by decide +kernel
theorem dX6_readDeed_30 : decode cX6_readDeed 30 = .ok (.invokevirtual 123, 3) := by decide +kernel
theorem dX6_readDeed_33 : decode cX6_readDeed 33 = .ok (.istore_n 3, 1) := by decide +kernel
theorem dX6_readDeed_34 : decode cX6_readDeed 34 = .ok (.iload_n 3, 1) := by decide +kernel
theorem dX6_readDeed_35 : decode cX6_readDeed 35 = .ok (.bipush 100, 2) := by decide +kernel
theorem dX6_readDeed_37 : decode cX6_readDeed 37 = .ok (.if_icmp .ne 7, 3) := by decide +kernel
theorem dX6_readDeed_40 : decode cX6_readDeed 40 = .ok (.iconst 0, 1) := by decide +kernel
theorem dX6_readDeed_41 : decode cX6_readDeed 41 = .ok (.goto 24, 3) := by decide +kernel
theorem dX6_readDeed_44 : decode cX6_readDeed 44 = .ok (.iload_n 3, 1) := by decide +kernel
theorem dX6_readDeed_45 : decode cX6_readDeed 45 = .ok (.bipush 110, 2) := by decide +kernel
theorem dX6_readDeed_47 : decode cX6_readDeed 47 = .ok (.if_icmp .ne 7, 3) := by decide +kernel
theorem dX6_readDeed_50 : decode cX6_readDeed 50 = .ok (.iconst 1, 1) := by decide +kernel
theorem dX6_readDeed_51 : decode cX6_readDeed 51 = .ok (.goto 14, 3) := by decide +kernel
theorem dX6_readDeed_54 : decode cX6_readDeed 54 = .ok (.iload_n 3, 1) := by decide +kernel
theorem dX6_readDeed_55 : decode cX6_readDeed 55 = .ok (.bipush 101, 2) := by decide +kernel
theorem dX6_readDeed_57 : decode cX6_readDeed 57 = .ok (.if_icmp .ne 7, 3) := by decide +kernel
theorem dX6_readDeed_60 : decode cX6_readDeed 60 = .ok (.iconst 2, 1) := by decide +kernel
theorem dX6_readDeed_61 : decode cX6_readDeed 61 = .ok (.goto 4, 3) := by decide +kernel
theorem dX6_readDeed_64 : decode cX6_readDeed 64 = .ok (.iconst (-1), 1) := by decide +kernel
theorem dX6_readDeed_65 : decode cX6_readDeed 65 = .ok (.istore 4, 2) := by decide +kernel
theorem dX6_readDeed_67 : decode cX6_readDeed 67 = .ok (.iload 4, 2) := by decide +kernel
theorem dX6_readDeed_69 : decode cX6_readDeed 69 = .ok (.ifCond .ge 5, 3) := by decide +kernel
theorem dX6_readDeed_72 : decode cX6_readDeed 72 = .ok (.iconst 0, 1) := by decide +kernel
theorem dX6_readDeed_73 : decode cX6_readDeed 73 = .ok (.ireturn, 1) := by decide +kernel
theorem dX6_readDeed_74 : decode cX6_readDeed 74 = .ok (.aload_n 0, 1) := by decide +kernel
theorem dX6_readDeed_75 : decode cX6_readDeed 75 = .ok (.dup, 1) := by decide +kernel
theorem dX6_readDeed_76 : decode cX6_readDeed 76 = .ok (.getfield 117, 3) := by decide +kernel
theorem dX6_readDeed_79 : decode cX6_readDeed 79 = .ok (.iconst 1, 1) := by decide +kernel
theorem dX6_readDeed_80 : decode cX6_readDeed 80 = .ok (.iadd, 1) := by decide +kernel
theorem dX6_readDeed_81 : decode cX6_readDeed 81 = .ok (.putfield 117, 3) := by decide +kernel
theorem dX6_readDeed_84 : decode cX6_readDeed 84 = .ok (.aload_n 0, 1) := by decide +kernel
theorem dX6_readDeed_85 : decode cX6_readDeed 85 = .ok (.iload_n 1, 1) := by decide +kernel
theorem dX6_readDeed_86 : decode cX6_readDeed 86 = .ok (.bipush 48, 2) := by decide +kernel
theorem dX6_readDeed_88 : decode cX6_readDeed 88 = .ok (.iconst 4, 1) := by decide +kernel
theorem dX6_readDeed_89 : decode cX6_readDeed 89 = .ok (.invokevirtual 132, 3) := by decide +kernel
theorem dX6_readDeed_92 : decode cX6_readDeed 92 = .ok (.istore 5, 2) := by decide +kernel
theorem dX6_readDeed_94 : decode cX6_readDeed 94 = .ok (.iconst 0, 1) := by decide +kernel
theorem dX6_readDeed_95 : decode cX6_readDeed 95 = .ok (.istore 6, 2) := by decide +kernel
theorem dX6_readDeed_97 : decode cX6_readDeed 97 = .ok (.iconst 0, 1) := by decide +kernel
theorem dX6_readDeed_98 : decode cX6_readDeed 98 = .ok (.istore 7, 2) := by decide +kernel
theorem dX6_readDeed_100 : decode cX6_readDeed 100 = .ok (.iload 7, 2) := by decide +kernel
theorem dX6_readDeed_102 : decode cX6_readDeed 102 = .ok (.iload 5, 2) := by decide +kernel
theorem dX6_readDeed_104 : decode cX6_readDeed 104 = .ok (.if_icmp .ge 75, 3) := by decide +kernel
theorem dX6_readDeed_107 : decode cX6_readDeed 107 = .ok (.aload_n 0, 1) := by decide +kernel
theorem dX6_readDeed_108 : decode cX6_readDeed 108 = .ok (.iload_n 1, 1) := by decide +kernel
theorem dX6_readDeed_109 : decode cX6_readDeed 109 = .ok (.invokevirtual 123, 3) := by decide +kernel
theorem dX6_readDeed_112 : decode cX6_readDeed 112 = .ok (.bipush 48, 2) := by decide +kernel
theorem dX6_readDeed_114 : decode cX6_readDeed 114 = .ok (.isub, 1) := by decide +kernel
theorem dX6_readDeed_115 : decode cX6_readDeed 115 = .ok (.istore 8, 2) := by decide +kernel
theorem dX6_readDeed_117 : decode cX6_readDeed 117 = .ok (.aload_n 0, 1) := by decide +kernel
theorem dX6_readDeed_118 : decode cX6_readDeed 118 = .ok (.iload_n 1, 1) := by decide +kernel
theorem dX6_readDeed_119 : decode cX6_readDeed 119 = .ok (.invokevirtual 120, 3) := by decide +kernel
theorem dX6_readDeed_122 : decode cX6_readDeed 122 = .ok (.ifCond .ne 30, 3) := by decide +kernel
theorem dX6_readDeed_125 : decode cX6_readDeed 125 = .ok (.iload 8, 2) := by decide +kernel
theorem dX6_readDeed_127 : decode cX6_readDeed 127 = .ok (.i2l, 1) := by decide +kernel
theorem dX6_readDeed_128 : decode cX6_readDeed 128 = .ok (.lconst 0, 1) := by decide +kernel
theorem dX6_readDeed_129 : decode cX6_readDeed 129 = .ok (.aload_n 0, 1) := by decide +kernel
theorem dX6_readDeed_130 : decode cX6_readDeed 130 = .ok (.getfield 126, 3) := by decide +kernel
theorem dX6_readDeed_133 : decode cX6_readDeed 133 = .ok (.iconst 1, 1) := by decide +kernel
theorem dX6_readDeed_134 : decode cX6_readDeed 134 = .ok (.isub, 1) := by decide +kernel
theorem dX6_readDeed_135 : decode cX6_readDeed 135 = .ok (.i2l, 1) := by decide +kernel
theorem dX6_readDeed_136 : decode cX6_readDeed 136 = .ok (.invokestatic 93, 3) := by decide +kernel
theorem dX6_readDeed_139 : decode cX6_readDeed 139 = .ok (.ifCond .eq 13, 3) := by decide +kernel
theorem dX6_readDeed_142 : decode cX6_readDeed 142 = .ok (.iload 6, 2) := by decide +kernel
theorem dX6_readDeed_144 : decode cX6_readDeed 144 = .ok (.iload 8, 2) := by decide +kernel
theorem dX6_readDeed_146 : decode cX6_readDeed 146 = .ok (.invokestatic 136, 3) := by decide +kernel
theorem dX6_readDeed_149 : decode cX6_readDeed 149 = .ok (.ifCond .eq 5, 3) := by decide +kernel
theorem dX6_readDeed_152 : decode cX6_readDeed 152 = .ok (.iconst 0, 1) := by decide +kernel
theorem dX6_readDeed_153 : decode cX6_readDeed 153 = .ok (.ireturn, 1) := by decide +kernel
theorem dX6_readDeed_154 : decode cX6_readDeed 154 = .ok (.iload 6, 2) := by decide +kernel
theorem dX6_readDeed_156 : decode cX6_readDeed 156 = .ok (.iconst 1, 1) := by decide +kernel
theorem dX6_readDeed_157 : decode cX6_readDeed 157 = .ok (.iload 8, 2) := by decide +kernel
theorem dX6_readDeed_159 : decode cX6_readDeed 159 = .ok (.ishl, 1) := by decide +kernel
theorem dX6_readDeed_160 : decode cX6_readDeed 160 = .ok (.ior, 1) := by decide +kernel
theorem dX6_readDeed_161 : decode cX6_readDeed 161 = .ok (.istore 6, 2) := by decide +kernel
theorem dX6_readDeed_163 : decode cX6_readDeed 163 = .ok (.aload_n 0, 1) := by decide +kernel
theorem dX6_readDeed_164 : decode cX6_readDeed 164 = .ok (.dup, 1) := by decide +kernel
theorem dX6_readDeed_165 : decode cX6_readDeed 165 = .ok (.getfield 117, 3) := by decide +kernel
theorem dX6_readDeed_168 : decode cX6_readDeed 168 = .ok (.iconst 1, 1) := by decide +kernel
theorem dX6_readDeed_169 : decode cX6_readDeed 169 = .ok (.iadd, 1) := by decide +kernel
theorem dX6_readDeed_170 : decode cX6_readDeed 170 = .ok (.putfield 117, 3) := by decide +kernel
theorem dX6_readDeed_173 : decode cX6_readDeed 173 = .ok (.iinc 7 1, 3) := by decide +kernel
theorem dX6_readDeed_176 : decode cX6_readDeed 176 = .ok (.goto (-76), 3) := by decide +kernel
theorem dX6_readDeed_179 : decode cX6_readDeed 179 = .ok (.iload 5, 2) := by decide +kernel
theorem dX6_readDeed_181 : decode cX6_readDeed 181 = .ok (.ifCond .ge 5, 3) := by decide +kernel
theorem dX6_readDeed_184 : decode cX6_readDeed 184 = .ok (.iconst 0, 1) := by decide +kernel
theorem dX6_readDeed_185 : decode cX6_readDeed 185 = .ok (.ireturn, 1) := by decide +kernel
theorem dX6_readDeed_186 : decode cX6_readDeed 186 = .ok (.aload_n 0, 1) := by decide +kernel
theorem dX6_readDeed_187 : decode cX6_readDeed 187 = .ok (.getfield 59, 3) := by decide +kernel
theorem dX6_readDeed_190 : decode cX6_readDeed 190 = .ok (.iconst 3, 1) := by decide +kernel
theorem dX6_readDeed_191 : decode cX6_readDeed 191 = .ok (.aload_n 0, 1) := by decide +kernel
theorem dX6_readDeed_192 : decode cX6_readDeed 192 = .ok (.getfield 126, 3) := by decide +kernel
theorem dX6_readDeed_195 : decode cX6_readDeed 195 = .ok (.imul, 1) := by decide +kernel
theorem dX6_readDeed_196 : decode cX6_readDeed 196 = .ok (.iload_n 2, 1) := by decide +kernel
theorem dX6_readDeed_197 : decode cX6_readDeed 197 = .ok (.iastore, 1) := by decide +kernel
theorem dX6_readDeed_198 : decode cX6_readDeed 198 = .ok (.aload_n 0, 1) := by decide +kernel
theorem dX6_readDeed_199 : decode cX6_readDeed 199 = .ok (.getfield 59, 3) := by decide +kernel
theorem dX6_readDeed_202 : decode cX6_readDeed 202 = .ok (.iconst 3, 1) := by decide +kernel
theorem dX6_readDeed_203 : decode cX6_readDeed 203 = .ok (.aload_n 0, 1) := by decide +kernel
theorem dX6_readDeed_204 : decode cX6_readDeed 204 = .ok (.getfield 126, 3) := by decide +kernel
theorem dX6_readDeed_207 : decode cX6_readDeed 207 = .ok (.imul, 1) := by decide +kernel
theorem dX6_readDeed_208 : decode cX6_readDeed 208 = .ok (.iconst 1, 1) := by decide +kernel
theorem dX6_readDeed_209 : decode cX6_readDeed 209 = .ok (.iadd, 1) := by decide +kernel
theorem dX6_readDeed_210 : decode cX6_readDeed 210 = .ok (.iload 4, 2) := by decide +kernel
theorem dX6_readDeed_212 : decode cX6_readDeed 212 = .ok (.iastore, 1) := by decide +kernel
theorem dX6_readDeed_213 : decode cX6_readDeed 213 = .ok (.aload_n 0, 1) := by decide +kernel
theorem dX6_readDeed_214 : decode cX6_readDeed 214 = .ok (.getfield 59, 3) := by decide +kernel
theorem dX6_readDeed_217 : decode cX6_readDeed 217 = .ok (.iconst 3, 1) := by decide +kernel
theorem dX6_readDeed_218 : decode cX6_readDeed 218 = .ok (.aload_n 0, 1) := by decide +kernel
theorem dX6_readDeed_219 : decode cX6_readDeed 219 = .ok (.getfield 126, 3) := by decide +kernel
theorem dX6_readDeed_222 : decode cX6_readDeed 222 = .ok (.imul, 1) := by decide +kernel
theorem dX6_readDeed_223 : decode cX6_readDeed 223 = .ok (.iconst 2, 1) := by decide +kernel
theorem dX6_readDeed_224 : decode cX6_readDeed 224 = .ok (.iadd, 1) := by decide +kernel
theorem dX6_readDeed_225 : decode cX6_readDeed 225 = .ok (.iload 6, 2) := by decide +kernel
theorem dX6_readDeed_227 : decode cX6_readDeed 227 = .ok (.iastore, 1) := by decide +kernel
theorem dX6_readDeed_228 : decode cX6_readDeed 228 = .ok (.aload_n 0, 1) := by decide +kernel
theorem dX6_readDeed_229 : decode cX6_readDeed 229 = .ok (.dup, 1) := by decide +kernel
theorem dX6_readDeed_230 : decode cX6_readDeed 230 = .ok (.getfield 126, 3) := by decide +kernel
theorem dX6_readDeed_233 : decode cX6_readDeed 233 = .ok (.iconst 1, 1) := by decide +kernel
theorem dX6_readDeed_234 : decode cX6_readDeed 234 = .ok (.iadd, 1) := by decide +kernel
theorem dX6_readDeed_235 : decode cX6_readDeed 235 = .ok (.putfield 126, 3) := by decide +kernel
theorem dX6_readDeed_238 : decode cX6_readDeed 238 = .ok (.iconst 1, 1) := by decide +kernel
theorem dX6_readDeed_239 : decode cX6_readDeed 239 = .ok (.ireturn, 1) := by decide +kernel
theorem dX6_readHour_0 : decode cX6_readHour 0 = .ok (.aload_n 0, 1) := by decide +kernel
theorem dX6_readHour_1 : decode cX6_readHour 1 = .ok (.getfield 129, 3) := by decide +kernel
theorem dX6_readHour_4 : decode cX6_readHour 4 = .ok (.bipush 7, 2) := by decide +kernel
theorem dX6_readHour_6 : decode cX6_readHour 6 = .ok (.if_icmp .eq 10, 3) := by decide +kernel
theorem dX6_readHour_9 : decode cX6_readHour 9 = .ok (.aload_n 0, 1) := by decide +kernel
theorem dX6_readHour_10 : decode cX6_readHour 10 = .ok (.getfield 126, 3) := by decide +kernel
theorem dX6_readHour_13 : decode cX6_readHour 13 = .ok (.ifCond .ne 5, 3) := by decide +kernel
theorem dX6_readHour_16 : decode cX6_readHour 16 = .ok (.iconst 0, 1) := by decide +kernel
theorem dX6_readHour_17 : decode cX6_readHour 17 = .ok (.ireturn, 1) := by decide +kernel
theorem dX6_readHour_18 : decode cX6_readHour 18 = .ok (.aload_n 0, 1) := by decide +kernel
theorem dX6_readHour_19 : decode cX6_readHour 19 = .ok (.dup, 1) := by decide +kernel
theorem dX6_readHour_20 : decode cX6_readHour 20 = .ok (.getfield 117, 3) := by decide +kernel
theorem dX6_readHour_23 : decode cX6_readHour 23 = .ok (.iconst 1, 1) := by decide +kernel
theorem dX6_readHour_24 : decode cX6_readHour 24 = .ok (.iadd, 1) := by decide +kernel
theorem dX6_readHour_25 : decode cX6_readHour 25 = .ok (.putfield 117, 3) := by decide +kernel
theorem dX6_readHour_28 : decode cX6_readHour 28 = .ok (.aload_n 0, 1) := by decide +kernel
theorem dX6_readHour_29 : decode cX6_readHour 29 = .ok (.iload_n 1, 1) := by decide +kernel
theorem dX6_readHour_30 : decode cX6_readHour 30 = .ok (.bipush 65, 2) := by decide +kernel
theorem dX6_readHour_32 : decode cX6_readHour 32 = .ok (.bipush 24, 2) := by decide +kernel
theorem dX6_readHour_34 : decode cX6_readHour 34 = .ok (.invokevirtual 132, 3) := by decide +kernel
theorem dX6_readHour_37 : decode cX6_readHour 37 = .ok (.istore_n 2, 1) := by decide +kernel
theorem dX6_readHour_38 : decode cX6_readHour 38 = .ok (.iload_n 2, 1) := by decide +kernel
theorem dX6_readHour_39 : decode cX6_readHour 39 = .ok (.ifCond .ge 7, 3) := by decide +kernel
theorem dX6_readHour_42 : decode cX6_readHour 42 = .ok (.iconst (-1), 1) := by decide +kernel
theorem dX6_readHour_43 : decode cX6_readHour 43 = .ok (.goto 12, 3) := by decide +kernel
theorem dX6_readHour_46 : decode cX6_readHour 46 = .ok (.aload_n 0, 1) := by decide +kernel
theorem dX6_readHour_47 : decode cX6_readHour 47 = .ok (.iload_n 1, 1) := by decide +kernel
theorem dX6_readHour_48 : decode cX6_readHour 48 = .ok (.bipush 48, 2) := by decide +kernel
theorem dX6_readHour_50 : decode cX6_readHour 50 = .ok (.bipush 10, 2) := by decide +kernel
theorem dX6_readHour_52 : decode cX6_readHour 52 = .ok (.invokevirtual 132, 3) := by decide +kernel
theorem dX6_readHour_55 : decode cX6_readHour 55 = .ok (.istore_n 3, 1) := by decide +kernel
theorem dX6_readHour_56 : decode cX6_readHour 56 = .ok (.iload_n 3, 1) := by decide +kernel
theorem dX6_readHour_57 : decode cX6_readHour 57 = .ok (.ifCond .ge 7, 3) := by decide +kernel
theorem dX6_readHour_60 : decode cX6_readHour 60 = .ok (.iconst (-1), 1) := by decide +kernel
theorem dX6_readHour_61 : decode cX6_readHour 61 = .ok (.goto 11, 3) := by decide +kernel
theorem dX6_readHour_64 : decode cX6_readHour 64 = .ok (.aload_n 0, 1) := by decide +kernel
theorem dX6_readHour_65 : decode cX6_readHour 65 = .ok (.iload_n 1, 1) := by decide +kernel
theorem dX6_readHour_66 : decode cX6_readHour 66 = .ok (.bipush 48, 2) := by decide +kernel
theorem dX6_readHour_68 : decode cX6_readHour 68 = .ok (.iconst 3, 1) := by decide +kernel
theorem dX6_readHour_69 : decode cX6_readHour 69 = .ok (.invokevirtual 132, 3) := by decide +kernel
theorem dX6_readHour_72 : decode cX6_readHour 72 = .ok (.istore 4, 2) := by decide +kernel
theorem dX6_readHour_74 : decode cX6_readHour 74 = .ok (.iload 4, 2) := by decide +kernel
theorem dX6_readHour_76 : decode cX6_readHour 76 = .ok (.ifCond .ge 5, 3) := by decide +kernel
theorem dX6_readHour_79 : decode cX6_readHour 79 = .ok (.iconst 0, 1) := by decide +kernel
theorem dX6_readHour_80 : decode cX6_readHour 80 = .ok (.ireturn, 1) := by decide +kernel
theorem dX6_readHour_81 : decode cX6_readHour 81 = .ok (.aload_n 0, 1) := by decide +kernel
theorem dX6_readHour_82 : decode cX6_readHour 82 = .ok (.getfield 62, 3) := by decide +kernel
theorem dX6_readHour_85 : decode cX6_readHour 85 = .ok (.iconst 3, 1) := by decide +kernel
theorem dX6_readHour_86 : decode cX6_readHour 86 = .ok (.aload_n 0, 1) := by decide +kernel
theorem dX6_readHour_87 : decode cX6_readHour 87 = .ok (.getfield 129, 3) := by decide +kernel
theorem dX6_readHour_90 : decode cX6_readHour 90 = .ok (.imul, 1) := by decide +kernel
theorem dX6_readHour_91 : decode cX6_readHour 91 = .ok (.iload_n 2, 1) := by decide +kernel
theorem dX6_readHour_92 : decode cX6_readHour 92 = .ok (.iastore, 1) := by decide +kernel
theorem dX6_readHour_93 : decode cX6_readHour 93 = .ok (.aload_n 0, 1) := by decide +kernel
theorem dX6_readHour_94 : decode cX6_readHour 94 = .ok (.getfield 62, 3) := by decide +kernel
theorem dX6_readHour_97 : decode cX6_readHour 97 = .ok (.iconst 3, 1) := by decide +kernel
theorem dX6_readHour_98 : decode cX6_readHour 98 = .ok (.aload_n 0, 1) := by decide +kernel
theorem dX6_readHour_99 : decode cX6_readHour 99 = .ok (.getfield 129, 3) := by decide +kernel
theorem dX6_readHour_102 : decode cX6_readHour 102 = .ok (.imul, 1) := by decide +kernel
theorem dX6_readHour_103 : decode cX6_readHour 103 = .ok (.iconst 1, 1) := by decide +kernel
theorem dX6_readHour_104 : decode cX6_readHour 104 = .ok (.iadd, 1) := by decide +kernel
theorem dX6_readHour_105 : decode cX6_readHour 105 = .ok (.iload_n 3, 1) := by decide +kernel
theorem dX6_readHour_106 : decode cX6_readHour 106 = .ok (.iastore, 1) := by decide +kernel
theorem dX6_readHour_107 : decode cX6_readHour 107 = .ok (.aload_n 0, 1) := by decide +kernel
theorem dX6_readHour_108 : decode cX6_readHour 108 = .ok (.getfield 62, 3) := by decide +kernel
theorem dX6_readHour_111 : decode cX6_readHour 111 = .ok (.iconst 3, 1) := by decide +kernel
theorem dX6_readHour_112 : decode cX6_readHour 112 = .ok (.aload_n 0, 1) := by decide +kernel
theorem dX6_readHour_113 : decode cX6_readHour 113 = .ok (.getfield 129, 3) := by decide +kernel
theorem dX6_readHour_116 : decode cX6_readHour 116 = .ok (.imul, 1) := by decide +kernel
theorem dX6_readHour_117 : decode cX6_readHour 117 = .ok (.iconst 2, 1) := by decide +kernel
theorem dX6_readHour_118 : decode cX6_readHour 118 = .ok (.iadd, 1) := by decide +kernel
theorem dX6_readHour_119 : decode cX6_readHour 119 = .ok (.iload 4, 2) := by decide +kernel
theorem dX6_readHour_121 : decode cX6_readHour 121 = .ok (.iastore, 1) := by decide +kernel
theorem dX6_readHour_122 : decode cX6_readHour 122 = .ok (.aload_n 0, 1) := by decide +kernel
theorem dX6_readHour_123 : decode cX6_readHour 123 = .ok (.dup, 1) := by decide +kernel
theorem dX6_readHour_124 : decode cX6_readHour 124 = .ok (.getfield 129, 3) := by decide +kernel
theorem dX6_readHour_127 : decode cX6_readHour 127 = .ok (.iconst 1, 1) := by decide +kernel
theorem dX6_readHour_128 : decode cX6_readHour 128 = .ok (.iadd, 1) := by decide +kernel
theorem dX6_readHour_129 : decode cX6_readHour 129 = .ok (.putfield 129, 3) := by decide +kernel
theorem dX6_readHour_132 : decode cX6_readHour 132 = .ok (.iconst 1, 1) := by decide +kernel
theorem dX6_readHour_133 : decode cX6_readHour 133 = .ok (.ireturn, 1) := by decide +kernel
theorem dX6_readHouse_0 : decode cX6_readHouse 0 = .ok (.aload_n 0, 1) := by decide +kernel
theorem dX6_readHouse_1 : decode cX6_readHouse 1 = .ok (.iconst 0, 1) := by decide +kernel
theorem dX6_readHouse_2 : decode cX6_readHouse 2 = .ok (.putfield 117, 3) := by decide +kernel
theorem dX6_readHouse_5 : decode cX6_readHouse 5 = .ok (.aload_n 0, 1) := by decide +kernel
theorem dX6_readHouse_6 : decode cX6_readHouse 6 = .ok (.iconst 0, 1) := by decide +kernel
theorem dX6_readHouse_7 : decode cX6_readHouse 7 = .ok (.putfield 126, 3) := by decide +kernel
theorem dX6_readHouse_10 : decode cX6_readHouse 10 = .ok (.aload_n 0, 1) := by decide +kernel
theorem dX6_readHouse_11 : decode cX6_readHouse 11 = .ok (.iconst 0, 1) := by decide +kernel
theorem dX6_readHouse_12 : decode cX6_readHouse 12 = .ok (.putfield 129, 3) := by decide +kernel
theorem dX6_readHouse_15 : decode cX6_readHouse 15 = .ok (.aload_n 0, 1) := by decide +kernel
theorem dX6_readHouse_16 : decode cX6_readHouse 16 = .ok (.iload_n 1, 1) := by decide +kernel
theorem dX6_readHouse_17 : decode cX6_readHouse 17 = .ok (.invokevirtual 140, 3) := by decide +kernel
theorem dX6_readHouse_20 : decode cX6_readHouse 20 = .ok (.aload_n 0, 1) := by decide +kernel
theorem dX6_readHouse_21 : decode cX6_readHouse 21 = .ok (.iload_n 1, 1) := by decide +kernel
theorem dX6_readHouse_22 : decode cX6_readHouse 22 = .ok (.invokevirtual 120, 3) := by decide +kernel
theorem dX6_readHouse_25 : decode cX6_readHouse 25 = .ok (.ifCond .ne 63, 3) := by decide +kernel
theorem dX6_readHouse_28 : decode cX6_readHouse 28 = .ok (.aload_n 0, 1) := by decide +kernel
theorem dX6_readHouse_29 : decode cX6_readHouse 29 = .ok (.iload_n 1, 1) := by decide +kernel
theorem dX6_readHouse_30 : decode cX6_readHouse 30 = .ok (.invokevirtual 123, 3) := by decide +kernel
theorem dX6_readHouse_33 : decode cX6_readHouse 33 = .ok (.istore_n 2, 1) := by decide +kernel
theorem dX6_readHouse_34 : decode cX6_readHouse 34 = .ok (.iload_n 2, 1) := by decide +kernel
theorem dX6_readHouse_35 : decode cX6_readHouse 35 = .ok (.invokestatic 144, 3) := by decide +kernel
theorem dX6_readHouse_38 : decode cX6_readHouse 38 = .ok (.istore_n 3, 1) := by decide +kernel
theorem dX6_readHouse_39 : decode cX6_readHouse 39 = .ok (.iload_n 3, 1) := by decide +kernel
theorem dX6_readHouse_40 : decode cX6_readHouse 40 = .ok (.ifCond .lt 12, 3) := by decide +kernel
theorem dX6_readHouse_43 : decode cX6_readHouse 43 = .ok (.aload_n 0, 1) := by decide +kernel
theorem dX6_readHouse_44 : decode cX6_readHouse 44 = .ok (.iload_n 1, 1) := by decide +kernel
theorem dX6_readHouse_45 : decode cX6_readHouse 45 = .ok (.iload_n 3, 1) := by decide +kernel
theorem dX6_readHouse_46 : decode cX6_readHouse 46 = .ok (.invokevirtual 147, 3) := by decide +kernel
theorem dX6_readHouse_49 : decode cX6_readHouse 49 = .ok (.goto 22, 3) := by decide +kernel
theorem dX6_readHouse_52 : decode cX6_readHouse 52 = .ok (.iload_n 2, 1) := by decide +kernel
theorem dX6_readHouse_53 : decode cX6_readHouse 53 = .ok (.bipush 104, 2) := by decide +kernel
theorem dX6_readHouse_55 : decode cX6_readHouse 55 = .ok (.if_icmp .ne 15, 3) := by decide +kernel
theorem dX6_readHouse_58 : decode cX6_readHouse 58 = .ok (.aload_n 0, 1) := by decide +kernel
theorem dX6_readHouse_59 : decode cX6_readHouse 59 = .ok (.iload_n 1, 1) := by decide +kernel
theorem dX6_readHouse_60 : decode cX6_readHouse 60 = .ok (.invokevirtual 150, 3) := by decide +kernel
theorem dX6_readHouse_63 : decode cX6_readHouse 63 = .ok (.ifCond .eq 7, 3) := by decide +kernel
theorem dX6_readHouse_66 : decode cX6_readHouse 66 = .ok (.iconst 1, 1) := by decide +kernel
theorem dX6_readHouse_67 : decode cX6_readHouse 67 = .ok (.goto 4, 3) := by decide +kernel
theorem dX6_readHouse_70 : decode cX6_readHouse 70 = .ok (.iconst 0, 1) := by decide +kernel
theorem dX6_readHouse_71 : decode cX6_readHouse 71 = .ok (.istore 4, 2) := by decide +kernel
theorem dX6_readHouse_73 : decode cX6_readHouse 73 = .ok (.iload 4, 2) := by decide +kernel
theorem dX6_readHouse_75 : decode cX6_readHouse 75 = .ok (.ifCond .ne 5, 3) := by decide +kernel
theorem dX6_readHouse_78 : decode cX6_readHouse 78 = .ok (.iconst 0, 1) := by decide +kernel
theorem dX6_readHouse_79 : decode cX6_readHouse 79 = .ok (.ireturn, 1) := by decide +kernel
theorem dX6_readHouse_80 : decode cX6_readHouse 80 = .ok (.aload_n 0, 1) := by decide +kernel
theorem dX6_readHouse_81 : decode cX6_readHouse 81 = .ok (.iload_n 1, 1) := by decide +kernel
theorem dX6_readHouse_82 : decode cX6_readHouse 82 = .ok (.invokevirtual 140, 3) := by decide +kernel
theorem dX6_readHouse_85 : decode cX6_readHouse 85 = .ok (.goto (-65), 3) := by decide +kernel
theorem dX6_readHouse_88 : decode cX6_readHouse 88 = .ok (.aload_n 0, 1) := by decide +kernel
theorem dX6_readHouse_89 : decode cX6_readHouse 89 = .ok (.getfield 126, 3) := by decide +kernel
theorem dX6_readHouse_92 : decode cX6_readHouse 92 = .ok (.ifCond .le 7, 3) := by decide +kernel
theorem dX6_readHouse_95 : decode cX6_readHouse 95 = .ok (.iconst 1, 1) := by decide +kernel
theorem dX6_readHouse_96 : decode cX6_readHouse 96 = .ok (.goto 4, 3) := by decide +kernel
theorem dX6_readHouse_99 : decode cX6_readHouse 99 = .ok (.iconst 0, 1) := by decide +kernel
theorem dX6_readHouse_100 : decode cX6_readHouse 100 = .ok (.ireturn, 1) := by decide +kernel
theorem dX6_fault_0 : decode cX6_fault 0 = .ok (.iload_n 1, 1) := by decide +kernel
theorem dX6_fault_1 : decode cX6_fault 1 = .ok (.invokestatic 114, 3) := by decide +kernel
theorem dX6_fault_4 : decode cX6_fault 4 = .ok (.ifCond .ne 5, 3) := by decide +kernel
theorem dX6_fault_7 : decode cX6_fault 7 = .ok (.iconst (-1), 1) := by decide +kernel
theorem dX6_fault_8 : decode cX6_fault 8 = .ok (.ireturn, 1) := by decide +kernel
theorem dX6_fault_9 : decode cX6_fault 9 = .ok (.aload_n 0, 1) := by decide +kernel
theorem dX6_fault_10 : decode cX6_fault 10 = .ok (.getfield 16, 3) := by decide +kernel
theorem dX6_fault_13 : decode cX6_fault 13 = .ok (.iload_n 1, 1) := by decide +kernel
theorem dX6_fault_14 : decode cX6_fault 14 = .ok (.iaload, 1) := by decide +kernel
theorem dX6_fault_15 : decode cX6_fault 15 = .ok (.ifCond .ge 9, 3) := by decide +kernel
theorem dX6_fault_18 : decode cX6_fault 18 = .ok (.aload_n 0, 1) := by decide +kernel
theorem dX6_fault_19 : decode cX6_fault 19 = .ok (.iconst 1, 1) := by decide +kernel
theorem dX6_fault_20 : decode cX6_fault 20 = .ok (.invokevirtual 103, 3) := by decide +kernel
theorem dX6_fault_23 : decode cX6_fault 23 = .ok (.ireturn, 1) := by decide +kernel
theorem dX6_fault_24 : decode cX6_fault 24 = .ok (.aload_n 0, 1) := by decide +kernel
theorem dX6_fault_25 : decode cX6_fault 25 = .ok (.iload_n 1, 1) := by decide +kernel
theorem dX6_fault_26 : decode cX6_fault 26 = .ok (.invokevirtual 153, 3) := by decide +kernel
theorem dX6_fault_29 : decode cX6_fault 29 = .ok (.ifCond .eq 8, 3) := by decide +kernel
theorem dX6_fault_32 : decode cX6_fault 32 = .ok (.bipush (-9), 2) := by decide +kernel
theorem dX6_fault_34 : decode cX6_fault 34 = .ok (.goto 7, 3) := by decide +kernel
theorem dX6_fault_37 : decode cX6_fault 37 = .ok (.aload_n 0, 1) := by decide +kernel
theorem dX6_fault_38 : decode cX6_fault 38 = .ok (.getfield 117, 3) := by decide +kernel
theorem dX6_fault_41 : decode cX6_fault 41 = .ok (.ireturn, 1) := by decide +kernel
theorem dX6_house_0 : decode cX6_house 0 = .ok (.iload_n 1, 1) := by decide +kernel
theorem dX6_house_1 : decode cX6_house 1 = .ok (.invokestatic 114, 3) := by decide +kernel
theorem dX6_house_4 : decode cX6_house 4 = .ok (.ifCond .ne 5, 3) := by decide +kernel
theorem dX6_house_7 : decode cX6_house 7 = .ok (.iconst (-1), 1) := by decide +kernel
theorem dX6_house_8 : decode cX6_house 8 = .ok (.ireturn, 1) := by decide +kernel
theorem dX6_house_9 : decode cX6_house 9 = .ok (.aload_n 0, 1) := by decide +kernel
theorem dX6_house_10 : decode cX6_house 10 = .ok (.getfield 16, 3) := by decide +kernel
theorem dX6_house_13 : decode cX6_house 13 = .ok (.iload_n 1, 1) := by decide +kernel
theorem dX6_house_14 : decode cX6_house 14 = .ok (.iaload, 1) := by decide +kernel
theorem dX6_house_15 : decode cX6_house 15 = .ok (.ifCond .ge 9, 3) := by decide +kernel
theorem dX6_house_18 : decode cX6_house 18 = .ok (.aload_n 0, 1) := by decide +kernel
theorem dX6_house_19 : decode cX6_house 19 = .ok (.iconst 1, 1) := by decide +kernel
theorem dX6_house_20 : decode cX6_house 20 = .ok (.invokevirtual 103, 3) := by decide +kernel
theorem dX6_house_23 : decode cX6_house 23 = .ok (.ireturn, 1) := by decide +kernel
theorem dX6_house_24 : decode cX6_house 24 = .ok (.aload_n 0, 1) := by decide +kernel
theorem dX6_house_25 : decode cX6_house 25 = .ok (.iload_n 1, 1) := by decide +kernel
theorem dX6_house_26 : decode cX6_house 26 = .ok (.invokevirtual 153, 3) := by decide +kernel
theorem dX6_house_29 : decode cX6_house 29 = .ok (.ifCond .ne 6, 3) := by decide +kernel
theorem dX6_house_32 : decode cX6_house 32 = .ok (.bipush (-4), 2) := by decide +kernel
theorem dX6_house_34 : decode cX6_house 34 = .ok (.ireturn, 1) := by decide +kernel
theorem dX6_house_35 : decode cX6_house 35 = .ok (.aload_n 0, 1) := by decide +kernel
theorem dX6_house_36 : decode cX6_house 36 = .ok (.aload_n 0, 1) := by decide +kernel
theorem dX6_house_37 : decode cX6_house 37 = .ok (.getfield 126, 3) := by decide +kernel
theorem dX6_house_40 : decode cX6_house 40 = .ok (.putfield 156, 3) := by decide +kernel
theorem dX6_house_43 : decode cX6_house 43 = .ok (.aload_n 0, 1) := by decide +kernel
theorem dX6_house_44 : decode cX6_house 44 = .ok (.aload_n 0, 1) := by decide +kernel
theorem dX6_house_45 : decode cX6_house 45 = .ok (.getfield 129, 3) := by decide +kernel
theorem dX6_house_48 : decode cX6_house 48 = .ok (.putfield 159, 3) := by decide +kernel
theorem dX6_house_51 : decode cX6_house 51 = .ok (.iconst 0, 1) := by decide +kernel
theorem dX6_house_52 : decode cX6_house 52 = .ok (.istore_n 2, 1) := by decide +kernel
theorem dX6_house_53 : decode cX6_house 53 = .ok (.iload_n 2, 1) := by decide +kernel
theorem dX6_house_54 : decode cX6_house 54 = .ok (.aload_n 0, 1) := by decide +kernel
theorem dX6_house_55 : decode cX6_house 55 = .ok (.getfield 156, 3) := by decide +kernel
theorem dX6_house_58 : decode cX6_house 58 = .ok (.if_icmp .ge 55, 3) := by decide +kernel
theorem dX6_house_61 : decode cX6_house 61 = .ok (.aload_n 0, 1) := by decide +kernel
theorem dX6_house_62 : decode cX6_house 62 = .ok (.getfield 22, 3) := by decide +kernel
theorem dX6_house_65 : decode cX6_house 65 = .ok (.iload_n 2, 1) := by decide +kernel
theorem dX6_house_66 : decode cX6_house 66 = .ok (.aload_n 0, 1) := by decide +kernel
theorem dX6_house_67 : decode cX6_house 67 = .ok (.getfield 59, 3) := by decide +kernel
theorem dX6_house_70 : decode cX6_house 70 = .ok (.iconst 3, 1) := by decide +kernel
theorem dX6_house_71 : decode cX6_house 71 = .ok (.iload_n 2, 1) := by decide +kernel
theorem dX6_house_72 : decode cX6_house 72 = .ok (.imul, 1) := by decide +kernel
theorem dX6_house_73 : decode cX6_house 73 = .ok (.iaload, 1) := by decide +kernel
theorem dX6_house_74 : decode cX6_house 74 = .ok (.iastore, 1) := by decide +kernel
theorem dX6_house_75 : decode cX6_house 75 = .ok (.aload_n 0, 1) := by decide +kernel
theorem dX6_house_76 : decode cX6_house 76 = .ok (.getfield 25, 3) := by decide +kernel
theorem dX6_house_79 : decode cX6_house 79 = .ok (.iload_n 2, 1) := by decide +kernel
theorem dX6_house_80 : decode cX6_house 80 = .ok (.aload_n 0, 1) := by decide +kernel
theorem dX6_house_81 : decode cX6_house 81 = .ok (.getfield 59, 3) := by decide +kernel
theorem dX6_house_84 : decode cX6_house 84 = .ok (.iconst 3, 1) := by decide +kernel
theorem dX6_house_85 : decode cX6_house 85 = .ok (.iload_n 2, 1) := by decide +kernel
theorem dX6_house_86 : decode cX6_house 86 = .ok (.imul, 1) := by decide +kernel
theorem dX6_house_87 : decode cX6_house 87 = .ok (.iconst 1, 1) := by decide +kernel
theorem dX6_house_88 : decode cX6_house 88 = .ok (.iadd, 1) := by decide +kernel
theorem dX6_house_89 : decode cX6_house 89 = .ok (.iaload, 1) := by decide +kernel
theorem dX6_house_90 : decode cX6_house 90 = .ok (.iastore, 1) := by decide +kernel
theorem dX6_house_91 : decode cX6_house 91 = .ok (.aload_n 0, 1) := by decide +kernel
theorem dX6_house_92 : decode cX6_house 92 = .ok (.getfield 28, 3) := by decide +kernel
theorem dX6_house_95 : decode cX6_house 95 = .ok (.iload_n 2, 1) := by decide +kernel
theorem dX6_house_96 : decode cX6_house 96 = .ok (.aload_n 0, 1) := by decide +kernel
theorem dX6_house_97 : decode cX6_house 97 = .ok (.getfield 59, 3) := by decide +kernel
theorem dX6_house_100 : decode cX6_house 100 = .ok (.iconst 3, 1) := by decide +kernel
theorem dX6_house_101 : decode cX6_house 101 = .ok (.iload_n 2, 1) := by decide +kernel
theorem dX6_house_102 : decode cX6_house 102 = .ok (.imul, 1) := by decide +kernel
theorem dX6_house_103 : decode cX6_house 103 = .ok (.iconst 2, 1) := by decide +kernel
theorem dX6_house_104 : decode cX6_house 104 = .ok (.iadd, 1) := by decide +kernel
theorem dX6_house_105 : decode cX6_house 105 = .ok (.iaload, 1) := by decide +kernel
theorem dX6_house_106 : decode cX6_house 106 = .ok (.iastore, 1) := by decide +kernel
theorem dX6_house_107 : decode cX6_house 107 = .ok (.iinc 2 1, 3) := by decide +kernel
theorem dX6_house_110 : decode cX6_house 110 = .ok (.goto (-57), 3) := by decide +kernel
theorem dX6_house_113 : decode cX6_house 113 = .ok (.iconst 0, 1) := by decide +kernel
theorem dX6_house_114 : decode cX6_house 114 = .ok (.istore_n 2, 1) := by decide +kernel
theorem dX6_house_115 : decode cX6_house 115 = .ok (.iload_n 2, 1) := by decide +kernel
theorem dX6_house_116 : decode cX6_house 116 = .ok (.aload_n 0, 1) := by decide +kernel
theorem dX6_house_117 : decode cX6_house 117 = .ok (.getfield 159, 3) := by decide +kernel
theorem dX6_house_120 : decode cX6_house 120 = .ok (.if_icmp .ge 55, 3) := by decide +kernel
theorem dX6_house_123 : decode cX6_house 123 = .ok (.aload_n 0, 1) := by decide +kernel
theorem dX6_house_124 : decode cX6_house 124 = .ok (.getfield 31, 3) := by decide +kernel
theorem dX6_house_127 : decode cX6_house 127 = .ok (.iload_n 2, 1) := by decide +kernel
theorem dX6_house_128 : decode cX6_house 128 = .ok (.aload_n 0, 1) := by decide +kernel
theorem dX6_house_129 : decode cX6_house 129 = .ok (.getfield 62, 3) := by decide +kernel
theorem dX6_house_132 : decode cX6_house 132 = .ok (.iconst 3, 1) := by decide +kernel
theorem dX6_house_133 : decode cX6_house 133 = .ok (.iload_n 2, 1) := by decide +kernel
theorem dX6_house_134 : decode cX6_house 134 = .ok (.imul, 1) := by decide +kernel
theorem dX6_house_135 : decode cX6_house 135 = .ok (.iaload, 1) := by decide +kernel
theorem dX6_house_136 : decode cX6_house 136 = .ok (.iastore, 1) := by decide +kernel
theorem dX6_house_137 : decode cX6_house 137 = .ok (.aload_n 0, 1) := by decide +kernel
theorem dX6_house_138 : decode cX6_house 138 = .ok (.getfield 34, 3) := by decide +kernel
theorem dX6_house_141 : decode cX6_house 141 = .ok (.iload_n 2, 1) := by decide +kernel
theorem dX6_house_142 : decode cX6_house 142 = .ok (.aload_n 0, 1) := by decide +kernel
theorem dX6_house_143 : decode cX6_house 143 = .ok (.getfield 62, 3) := by decide +kernel
theorem dX6_house_146 : decode cX6_house 146 = .ok (.iconst 3, 1) := by decide +kernel
theorem dX6_house_147 : decode cX6_house 147 = .ok (.iload_n 2, 1) := by decide +kernel
theorem dX6_house_148 : decode cX6_house 148 = .ok (.imul, 1) := by decide +kernel
theorem dX6_house_149 : decode cX6_house 149 = .ok (.iconst 1, 1) := by decide +kernel
theorem dX6_house_150 : decode cX6_house 150 = .ok (.iadd, 1) := by decide +kernel
theorem dX6_house_151 : decode cX6_house 151 = .ok (.iaload, 1) := by decide +kernel
theorem dX6_house_152 : decode cX6_house 152 = .ok (.iastore, 1) := by decide +kernel
theorem dX6_house_153 : decode cX6_house 153 = .ok (.aload_n 0, 1) := by decide +kernel
theorem dX6_house_154 : decode cX6_house 154 = .ok (.getfield 37, 3) := by decide +kernel
theorem dX6_house_157 : decode cX6_house 157 = .ok (.iload_n 2, 1) := by decide +kernel
theorem dX6_house_158 : decode cX6_house 158 = .ok (.aload_n 0, 1) := by decide +kernel
theorem dX6_house_159 : decode cX6_house 159 = .ok (.getfield 62, 3) := by decide +kernel
theorem dX6_house_162 : decode cX6_house 162 = .ok (.iconst 3, 1) := by decide +kernel
theorem dX6_house_163 : decode cX6_house 163 = .ok (.iload_n 2, 1) := by decide +kernel
theorem dX6_house_164 : decode cX6_house 164 = .ok (.imul, 1) := by decide +kernel
theorem dX6_house_165 : decode cX6_house 165 = .ok (.iconst 2, 1) := by decide +kernel
theorem dX6_house_166 : decode cX6_house 166 = .ok (.iadd, 1) := by decide +kernel
theorem dX6_house_167 : decode cX6_house 167 = .ok (.iaload, 1) := by decide +kernel
theorem dX6_house_168 : decode cX6_house 168 = .ok (.iastore, 1) := by decide +kernel
theorem dX6_house_169 : decode cX6_house 169 = .ok (.iinc 2 1, 3) := by decide +kernel
theorem dX6_house_172 : decode cX6_house 172 = .ok (.goto (-57), 3) := by decide +kernel
theorem dX6_house_175 : decode cX6_house 175 = .ok (.aload_n 0, 1) := by decide +kernel
theorem dX6_house_176 : decode cX6_house 176 = .ok (.invokevirtual 81, 3) := by decide +kernel
theorem dX6_house_179 : decode cX6_house 179 = .ok (.iconst 0, 1) := by decide +kernel
theorem dX6_house_180 : decode cX6_house 180 = .ok (.istore_n 2, 1) := by decide +kernel
theorem dX6_house_181 : decode cX6_house 181 = .ok (.iload_n 2, 1) := by decide +kernel
theorem dX6_house_182 : decode cX6_house 182 = .ok (.bipush 12, 2) := by decide +kernel
theorem dX6_house_184 : decode cX6_house 184 = .ok (.if_icmp .ge 26, 3) := by decide +kernel
theorem dX6_house_187 : decode cX6_house 187 = .ok (.aload_n 0, 1) := by decide +kernel
theorem dX6_house_188 : decode cX6_house 188 = .ok (.getfield 43, 3) := by decide +kernel
theorem dX6_house_191 : decode cX6_house 191 = .ok (.iload_n 2, 1) := by decide +kernel
theorem dX6_house_192 : decode cX6_house 192 = .ok (.iload_n 2, 1) := by decide +kernel
theorem dX6_house_193 : decode cX6_house 193 = .ok (.iconst 5, 1) := by decide +kernel
theorem dX6_house_194 : decode cX6_house 194 = .ok (.if_icmp .ge 7, 3) := by decide +kernel
theorem dX6_house_197 : decode cX6_house 197 = .ok (.iconst 0, 1) := by decide +kernel
theorem dX6_house_198 : decode cX6_house 198 = .ok (.goto 5, 3) := by decide +kernel
theorem dX6_house_201 : decode cX6_house 201 = .ok (.bipush (-9), 2) := by decide +kernel
theorem dX6_house_203 : decode cX6_house 203 = .ok (.iastore, 1) := by decide +kernel
theorem dX6_house_204 : decode cX6_house 204 = .ok (.iinc 2 1, 3) := by decide +kernel
theorem dX6_house_207 : decode cX6_house 207 = .ok (.goto (-26), 3) := by decide +kernel
theorem dX6_house_210 : decode cX6_house 210 = .ok (.aload_n 0, 1) := by decide +kernel
theorem dX6_house_211 : decode cX6_house 211 = .ok (.iconst 0, 1) := by decide +kernel
theorem dX6_house_212 : decode cX6_house 212 = .ok (.putfield 162, 3) := by decide +kernel
theorem dX6_house_215 : decode cX6_house 215 = .ok (.iconst 0, 1) := by decide +kernel
theorem dX6_house_216 : decode cX6_house 216 = .ok (.istore_n 2, 1) := by decide +kernel
theorem dX6_house_217 : decode cX6_house 217 = .ok (.iload_n 2, 1) := by decide +kernel
theorem dX6_house_218 : decode cX6_house 218 = .ok (.iconst 3, 1) := by decide +kernel
theorem dX6_house_219 : decode cX6_house 219 = .ok (.if_icmp .ge 16, 3) := by decide +kernel
theorem dX6_house_222 : decode cX6_house 222 = .ok (.aload_n 0, 1) := by decide +kernel
theorem dX6_house_223 : decode cX6_house 223 = .ok (.getfield 65, 3) := by decide +kernel
theorem dX6_house_226 : decode cX6_house 226 = .ok (.iload_n 2, 1) := by decide +kernel
theorem dX6_house_227 : decode cX6_house 227 = .ok (.iconst 0, 1) := by decide +kernel
theorem dX6_house_228 : decode cX6_house 228 = .ok (.bastore, 1) := by decide +kernel
theorem dX6_house_229 : decode cX6_house 229 = .ok (.iinc 2 1, 3) := by decide +kernel
theorem dX6_house_232 : decode cX6_house 232 = .ok (.goto (-15), 3) := by decide +kernel
theorem dX6_house_235 : decode cX6_house 235 = .ok (.aload_n 0, 1) := by decide +kernel
theorem dX6_house_236 : decode cX6_house 236 = .ok (.getfield 156, 3) := by decide +kernel
theorem dX6_house_239 : decode cX6_house 239 = .ok (.ireturn, 1) := by decide +kernel
theorem dX6_isDeed_0 : decode cX6_isDeed 0 = .ok (.iload_n 1, 1) := by decide +kernel
theorem dX6_isDeed_1 : decode cX6_isDeed 1 = .ok (.i2l, 1) := by decide +kernel
theorem dX6_isDeed_2 : decode cX6_isDeed 2 = .ok (.lconst 0, 1) := by decide +kernel
theorem dX6_isDeed_3 : decode cX6_isDeed 3 = .ok (.aload_n 0, 1) := by decide +kernel
theorem dX6_isDeed_4 : decode cX6_isDeed 4 = .ok (.getfield 156, 3) := by decide +kernel
theorem dX6_isDeed_7 : decode cX6_isDeed 7 = .ok (.iconst 1, 1) := by decide +kernel
theorem dX6_isDeed_8 : decode cX6_isDeed 8 = .ok (.isub, 1) := by decide +kernel
theorem dX6_isDeed_9 : decode cX6_isDeed 9 = .ok (.i2l, 1) := by decide +kernel
theorem dX6_isDeed_10 : decode cX6_isDeed 10 = .ok (.invokestatic 93, 3) := by decide +kernel
theorem dX6_isDeed_13 : decode cX6_isDeed 13 = .ok (.ireturn, 1) := by decide +kernel
theorem dX6_isHour_0 : decode cX6_isHour 0 = .ok (.iload_n 1, 1) := by decide +kernel
theorem dX6_isHour_1 : decode cX6_isHour 1 = .ok (.i2l, 1) := by decide +kernel
theorem dX6_isHour_2 : decode cX6_isHour 2 = .ok (.lconst 0, 1) := by decide +kernel
theorem dX6_isHour_3 : decode cX6_isHour 3 = .ok (.aload_n 0, 1) := by decide +kernel
theorem dX6_isHour_4 : decode cX6_isHour 4 = .ok (.getfield 159, 3) := by decide +kernel
theorem dX6_isHour_7 : decode cX6_isHour 7 = .ok (.iconst 1, 1) := by decide +kernel
theorem dX6_isHour_8 : decode cX6_isHour 8 = .ok (.isub, 1) := by decide +kernel
theorem dX6_isHour_9 : decode cX6_isHour 9 = .ok (.i2l, 1) := by decide +kernel
theorem dX6_isHour_10 : decode cX6_isHour 10 = .ok (.invokestatic 93, 3) := by decide +kernel
theorem dX6_isHour_13 : decode cX6_isHour 13 = .ok (.ireturn, 1) := by decide +kernel
theorem dX6_allNeeds_0 : decode cX6_allNeeds 0 = .ok (.aload_n 0, 1) := by decide +kernel
theorem dX6_allNeeds_1 : decode cX6_allNeeds 1 = .ok (.getfield 28, 3) := by decide +kernel
theorem dX6_allNeeds_4 : decode cX6_allNeeds 4 = .ok (.iload_n 1, 1) := by decide +kernel
theorem dX6_allNeeds_5 : decode cX6_allNeeds 5 = .ok (.iaload, 1) := by decide +kernel
theorem dX6_allNeeds_6 : decode cX6_allNeeds 6 = .ok (.istore_n 2, 1) := by decide +kernel
theorem dX6_allNeeds_7 : decode cX6_allNeeds 7 = .ok (.iload_n 1, 1) := by decide +kernel
theorem dX6_allNeeds_8 : decode cX6_allNeeds 8 = .ok (.iconst 1, 1) := by decide +kernel
theorem dX6_allNeeds_9 : decode cX6_allNeeds 9 = .ok (.isub, 1) := by decide +kernel
theorem dX6_allNeeds_10 : decode cX6_allNeeds 10 = .ok (.istore_n 3, 1) := by decide +kernel
theorem dX6_allNeeds_11 : decode cX6_allNeeds 11 = .ok (.iload_n 3, 1) := by decide +kernel
theorem dX6_allNeeds_12 : decode cX6_allNeeds 12 = .ok (.ifCond .lt 30, 3) := by decide +kernel
theorem dX6_allNeeds_15 : decode cX6_allNeeds 15 = .ok (.iload_n 2, 1) := by decide +kernel
theorem dX6_allNeeds_16 : decode cX6_allNeeds 16 = .ok (.iload_n 2, 1) := by decide +kernel
theorem dX6_allNeeds_17 : decode cX6_allNeeds 17 = .ok (.iload_n 3, 1) := by decide +kernel
theorem dX6_allNeeds_18 : decode cX6_allNeeds 18 = .ok (.invokestatic 136, 3) := by decide +kernel
theorem dX6_allNeeds_21 : decode cX6_allNeeds 21 = .ok (.ifCond .eq 12, 3) := by decide +kernel
theorem dX6_allNeeds_24 : decode cX6_allNeeds 24 = .ok (.aload_n 0, 1) := by decide +kernel
theorem dX6_allNeeds_25 : decode cX6_allNeeds 25 = .ok (.getfield 28, 3) := by decide +kernel
theorem dX6_allNeeds_28 : decode cX6_allNeeds 28 = .ok (.iload_n 3, 1) := by decide +kernel
theorem dX6_allNeeds_29 : decode cX6_allNeeds 29 = .ok (.iaload, 1) := by decide +kernel
theorem dX6_allNeeds_30 : decode cX6_allNeeds 30 = .ok (.goto 4, 3) := by decide +kernel
theorem dX6_allNeeds_33 : decode cX6_allNeeds 33 = .ok (.iconst 0, 1) := by decide +kernel
theorem dX6_allNeeds_34 : decode cX6_allNeeds 34 = .ok (.ior, 1) := by decide +kernel
theorem dX6_allNeeds_35 : decode cX6_allNeeds 35 = .ok (.istore_n 2, 1) := by decide +kernel
theorem dX6_allNeeds_36 : decode cX6_allNeeds 36 = .ok (.iinc 3 (-1), 3) := by decide +kernel
theorem dX6_allNeeds_39 : decode cX6_allNeeds 39 = .ok (.goto (-28), 3) := by decide +kernel
theorem dX6_allNeeds_42 : decode cX6_allNeeds 42 = .ok (.iload_n 2, 1) := by decide +kernel
theorem dX6_allNeeds_43 : decode cX6_allNeeds 43 = .ok (.ireturn, 1) := by decide +kernel
theorem dX6_deedOf_0 : decode cX6_deedOf 0 = .ok (.iload_n 2, 1) := by decide +kernel
theorem dX6_deedOf_1 : decode cX6_deedOf 1 = .ok (.ifCond .ne 12, 3) := by decide +kernel
theorem dX6_deedOf_4 : decode cX6_deedOf 4 = .ok (.aload_n 0, 1) := by decide +kernel
theorem dX6_deedOf_5 : decode cX6_deedOf 5 = .ok (.getfield 22, 3) := by decide +kernel
theorem dX6_deedOf_8 : decode cX6_deedOf 8 = .ok (.iload_n 1, 1) := by decide +kernel
theorem dX6_deedOf_9 : decode cX6_deedOf 9 = .ok (.iaload, 1) := by decide +kernel
theorem dX6_deedOf_10 : decode cX6_deedOf 10 = .ok (.goto 54, 3) := by decide +kernel
theorem dX6_deedOf_13 : decode cX6_deedOf 13 = .ok (.iload_n 2, 1) := by decide +kernel
theorem dX6_deedOf_14 : decode cX6_deedOf 14 = .ok (.iconst 1, 1) := by decide +kernel
theorem dX6_deedOf_15 : decode cX6_deedOf 15 = .ok (.if_icmp .ne 12, 3) := by decide +kernel
theorem dX6_deedOf_18 : decode cX6_deedOf 18 = .ok (.aload_n 0, 1) := by decide +kernel
theorem dX6_deedOf_19 : decode cX6_deedOf 19 = .ok (.getfield 25, 3) := by decide +kernel
theorem dX6_deedOf_22 : decode cX6_deedOf 22 = .ok (.iload_n 1, 1) := by decide +kernel
theorem dX6_deedOf_23 : decode cX6_deedOf 23 = .ok (.iaload, 1) := by decide +kernel
theorem dX6_deedOf_24 : decode cX6_deedOf 24 = .ok (.goto 40, 3) := by decide +kernel
theorem dX6_deedOf_27 : decode cX6_deedOf 27 = .ok (.iload_n 2, 1) := by decide +kernel
theorem dX6_deedOf_28 : decode cX6_deedOf 28 = .ok (.iconst 2, 1) := by decide +kernel
theorem dX6_deedOf_29 : decode cX6_deedOf 29 = .ok (.if_icmp .ne 12, 3) := by decide +kernel
theorem dX6_deedOf_32 : decode cX6_deedOf 32 = .ok (.aload_n 0, 1) := by decide +kernel
theorem dX6_deedOf_33 : decode cX6_deedOf 33 = .ok (.getfield 28, 3) := by decide +kernel
theorem dX6_deedOf_36 : decode cX6_deedOf 36 = .ok (.iload_n 1, 1) := by decide +kernel
theorem dX6_deedOf_37 : decode cX6_deedOf 37 = .ok (.iaload, 1) := by decide +kernel
theorem dX6_deedOf_38 : decode cX6_deedOf 38 = .ok (.goto 26, 3) := by decide +kernel
theorem dX6_deedOf_41 : decode cX6_deedOf 41 = .ok (.iload_n 2, 1) := by decide +kernel
theorem dX6_deedOf_42 : decode cX6_deedOf 42 = .ok (.iconst 3, 1) := by decide +kernel
theorem dX6_deedOf_43 : decode cX6_deedOf 43 = .ok (.if_icmp .ne 16, 3) := by decide +kernel
theorem dX6_deedOf_46 : decode cX6_deedOf 46 = .ok (.aload_n 0, 1) := by decide +kernel
theorem dX6_deedOf_47 : decode cX6_deedOf 47 = .ok (.getfield 43, 3) := by decide +kernel
theorem dX6_deedOf_50 : decode cX6_deedOf 50 = .ok (.iconst 3, 1) := by decide +kernel
theorem dX6_deedOf_51 : decode cX6_deedOf 51 = .ok (.iaload, 1) := by decide +kernel
theorem dX6_deedOf_52 : decode cX6_deedOf 52 = .ok (.iload_n 1, 1) := by decide +kernel
theorem dX6_deedOf_53 : decode cX6_deedOf 53 = .ok (.ishr, 1) := by decide +kernel
theorem dX6_deedOf_54 : decode cX6_deedOf 54 = .ok (.iconst 1, 1) := by decide +kernel
theorem dX6_deedOf_55 : decode cX6_deedOf 55 = .ok (.iand, 1) := by decide +kernel
theorem dX6_deedOf_56 : decode cX6_deedOf 56 = .ok (.goto 8, 3) := by decide +kernel
theorem dX6_deedOf_59 : decode cX6_deedOf 59 = .ok (.aload_n 0, 1) := by decide +kernel
theorem dX6_deedOf_60 : decode cX6_deedOf 60 = .ok (.iload_n 1, 1) := by decide +kernel
theorem dX6_deedOf_61 : decode cX6_deedOf 61 = .ok (.invokevirtual 165, 3) := by decide +kernel
theorem dX6_deedOf_64 : decode cX6_deedOf 64 = .ok (.ireturn, 1) := by decide +kernel
theorem dX6_deed_0 : decode cX6_deed 0 = .ok (.aload_n 0, 1) := by decide +kernel
theorem dX6_deed_1 : decode cX6_deed 1 = .ok (.iload_n 1, 1) := by decide +kernel
theorem dX6_deed_2 : decode cX6_deed 2 = .ok (.invokevirtual 168, 3) := by decide +kernel
theorem dX6_deed_5 : decode cX6_deed 5 = .ok (.ifCond .eq 15, 3) := by decide +kernel
theorem dX6_deed_8 : decode cX6_deed 8 = .ok (.iload_n 2, 1) := by decide +kernel
theorem dX6_deed_9 : decode cX6_deed 9 = .ok (.i2l, 1) := by decide +kernel
theorem dX6_deed_10 : decode cX6_deed 10 = .ok (.lconst 0, 1) := by decide +kernel
theorem dX6_deed_11 : decode cX6_deed 11 = .ok (.ldc2_w 171, 3) := by decide +kernel
theorem dX6_deed_14 : decode cX6_deed 14 = .ok (.invokestatic 93, 3) := by decide +kernel
theorem dX6_deed_17 : decode cX6_deed 17 = .ok (.ifCond .ne 5, 3) := by decide +kernel
theorem dX6_deed_20 : decode cX6_deed 20 = .ok (.iconst (-1), 1) := by decide +kernel
theorem dX6_deed_21 : decode cX6_deed 21 = .ok (.ireturn, 1) := by decide +kernel
theorem dX6_deed_22 : decode cX6_deed 22 = .ok (.aload_n 0, 1) := by decide +kernel
theorem dX6_deed_23 : decode cX6_deed 23 = .ok (.iconst 1, 1) := by decide +kernel
theorem dX6_deed_24 : decode cX6_deed 24 = .ok (.aload_n 0, 1) := by decide +kernel
theorem dX6_deed_25 : decode cX6_deed 25 = .ok (.iload_n 1, 1) := by decide +kernel
theorem dX6_deed_26 : decode cX6_deed 26 = .ok (.iload_n 2, 1) := by decide +kernel
theorem dX6_deed_27 : decode cX6_deed 27 = .ok (.invokevirtual 173, 3) := by decide +kernel
theorem dX6_deed_30 : decode cX6_deed 30 = .ok (.invokevirtual 111, 3) := by decide +kernel
theorem dX6_deed_33 : decode cX6_deed 33 = .ok (.ireturn, 1) := by decide +kernel
theorem dX6_isNight_0 : decode cX6_isNight 0 = .ok (.aload_n 0, 1) := by decide +kernel
theorem dX6_isNight_1 : decode cX6_isNight 1 = .ok (.getfield 31, 3) := by decide +kernel
theorem dX6_isNight_4 : decode cX6_isNight 4 = .ok (.iload_n 1, 1) := by decide +kernel
theorem dX6_isNight_5 : decode cX6_isNight 5 = .ok (.iaload, 1) := by decide +kernel
theorem dX6_isNight_6 : decode cX6_isNight 6 = .ok (.i2l, 1) := by decide +kernel
theorem dX6_isNight_7 : decode cX6_isNight 7 = .ok (.ldc2_w 176, 3) := by decide +kernel
theorem dX6_isNight_10 : decode cX6_isNight 10 = .ok (.ldc2_w 178, 3) := by decide +kernel
theorem dX6_isNight_13 : decode cX6_isNight 13 = .ok (.invokestatic 93, 3) := by decide +kernel
theorem dX6_isNight_16 : decode cX6_isNight 16 = .ok (.ifCond .ne 7, 3) := by decide +kernel
theorem dX6_isNight_19 : decode cX6_isNight 19 = .ok (.iconst 1, 1) := by decide +kernel
theorem dX6_isNight_20 : decode cX6_isNight 20 = .ok (.goto 4, 3) := by decide +kernel
theorem dX6_isNight_23 : decode cX6_isNight 23 = .ok (.iconst 0, 1) := by decide +kernel
theorem dX6_isNight_24 : decode cX6_isNight 24 = .ok (.ireturn, 1) := by decide +kernel
theorem dX6_comes_0 : decode cX6_comes 0 = .ok (.aload_n 0, 1) := by decide +kernel
theorem dX6_comes_1 : decode cX6_comes 1 = .ok (.getfield 34, 3) := by decide +kernel
theorem dX6_comes_4 : decode cX6_comes 4 = .ok (.iload_n 1, 1) := by decide +kernel
theorem dX6_comes_5 : decode cX6_comes 5 = .ok (.iaload, 1) := by decide +kernel
theorem dX6_comes_6 : decode cX6_comes 6 = .ok (.aload_n 0, 1) := by decide +kernel
theorem dX6_comes_7 : decode cX6_comes 7 = .ok (.getfield 40, 3) := by decide +kernel
theorem dX6_comes_10 : decode cX6_comes 10 = .ok (.aload_n 0, 1) := by decide +kernel
theorem dX6_comes_11 : decode cX6_comes 11 = .ok (.getfield 37, 3) := by decide +kernel
theorem dX6_comes_14 : decode cX6_comes 14 = .ok (.iload_n 1, 1) := by decide +kernel
theorem dX6_comes_15 : decode cX6_comes 15 = .ok (.iaload, 1) := by decide +kernel
theorem dX6_comes_16 : decode cX6_comes 16 = .ok (.iaload, 1) := by decide +kernel
theorem dX6_comes_17 : decode cX6_comes 17 = .ok (.iadd, 1) := by decide +kernel
theorem dX6_comes_18 : decode cX6_comes 18 = .ok (.ireturn, 1) := by decide +kernel
theorem dX6_whereIs_0 : decode cX6_whereIs 0 = .ok (.aload_n 0, 1) := by decide +kernel
theorem dX6_whereIs_1 : decode cX6_whereIs 1 = .ok (.getfield 43, 3) := by decide +kernel
theorem dX6_whereIs_4 : decode cX6_whereIs 4 = .ok (.iconst 1, 1) := by decide +kernel
theorem dX6_whereIs_5 : decode cX6_whereIs 5 = .ok (.iaload, 1) := by decide +kernel
theorem dX6_whereIs_6 : decode cX6_whereIs 6 = .ok (.iload_n 1, 1) := by decide +kernel
theorem dX6_whereIs_7 : decode cX6_whereIs 7 = .ok (.invokestatic 136, 3) := by decide +kernel
theorem dX6_whereIs_10 : decode cX6_whereIs 10 = .ok (.ifCond .eq 7, 3) := by decide +kernel
theorem dX6_whereIs_13 : decode cX6_whereIs 13 = .ok (.iconst 2, 1) := by decide +kernel
theorem dX6_whereIs_14 : decode cX6_whereIs 14 = .ok (.goto 39, 3) := by decide +kernel
theorem dX6_whereIs_17 : decode cX6_whereIs 17 = .ok (.aload_n 0, 1) := by decide +kernel
theorem dX6_whereIs_18 : decode cX6_whereIs 18 = .ok (.getfield 43, 3) := by decide +kernel
theorem dX6_whereIs_21 : decode cX6_whereIs 21 = .ok (.iconst 2, 1) := by decide +kernel
theorem dX6_whereIs_22 : decode cX6_whereIs 22 = .ok (.iaload, 1) := by decide +kernel
theorem dX6_whereIs_23 : decode cX6_whereIs 23 = .ok (.iload_n 1, 1) := by decide +kernel
theorem dX6_whereIs_24 : decode cX6_whereIs 24 = .ok (.invokestatic 136, 3) := by decide +kernel
theorem dX6_whereIs_27 : decode cX6_whereIs 27 = .ok (.ifCond .eq 7, 3) := by decide +kernel
theorem dX6_whereIs_30 : decode cX6_whereIs 30 = .ok (.iconst 3, 1) := by decide +kernel
theorem dX6_whereIs_31 : decode cX6_whereIs 31 = .ok (.goto 22, 3) := by decide +kernel
theorem dX6_whereIs_34 : decode cX6_whereIs 34 = .ok (.aload_n 0, 1) := by decide +kernel
theorem dX6_whereIs_35 : decode cX6_whereIs 35 = .ok (.iload_n 1, 1) := by decide +kernel
theorem dX6_whereIs_36 : decode cX6_whereIs 36 = .ok (.invokevirtual 180, 3) := by decide +kernel
theorem dX6_whereIs_39 : decode cX6_whereIs 39 = .ok (.aload_n 0, 1) := by decide +kernel
theorem dX6_whereIs_40 : decode cX6_whereIs 40 = .ok (.getfield 43, 3) := by decide +kernel
theorem dX6_whereIs_43 : decode cX6_whereIs 43 = .ok (.iconst 0, 1) := by decide +kernel
theorem dX6_whereIs_44 : decode cX6_whereIs 44 = .ok (.iaload, 1) := by decide +kernel
theorem dX6_whereIs_45 : decode cX6_whereIs 45 = .ok (.if_icmp .gt 7, 3) := by decide +kernel
theorem dX6_whereIs_48 : decode cX6_whereIs 48 = .ok (.iconst 1, 1) := by decide +kernel
theorem dX6_whereIs_49 : decode cX6_whereIs 49 = .ok (.goto 4, 3) := by decide +kernel
theorem dX6_whereIs_52 : decode cX6_whereIs 52 = .ok (.iconst 0, 1) := by decide +kernel
theorem dX6_whereIs_53 : decode cX6_whereIs 53 = .ok (.ireturn, 1) := by decide +kernel
theorem dX6_hourOf_0 : decode cX6_hourOf 0 = .ok (.iload_n 2, 1) := by decide +kernel
theorem dX6_hourOf_1 : decode cX6_hourOf 1 = .ok (.ifCond .ne 12, 3) := by decide +kernel
theorem dX6_hourOf_4 : decode cX6_hourOf 4 = .ok (.aload_n 0, 1) := by decide +kernel
theorem dX6_hourOf_5 : decode cX6_hourOf 5 = .ok (.getfield 31, 3) := by decide +kernel
theorem dX6_hourOf_8 : decode cX6_hourOf 8 = .ok (.iload_n 1, 1) := by decide +kernel
theorem dX6_hourOf_9 : decode cX6_hourOf 9 = .ok (.iaload, 1) := by decide +kernel
theorem dX6_hourOf_10 : decode cX6_hourOf 10 = .ok (.goto 58, 3) := by decide +kernel
theorem dX6_hourOf_13 : decode cX6_hourOf 13 = .ok (.iload_n 2, 1) := by decide +kernel
theorem dX6_hourOf_14 : decode cX6_hourOf 14 = .ok (.iconst 1, 1) := by decide +kernel
theorem dX6_hourOf_15 : decode cX6_hourOf 15 = .ok (.if_icmp .ne 19, 3) := by decide +kernel
theorem dX6_hourOf_18 : decode cX6_hourOf 18 = .ok (.aload_n 0, 1) := by decide +kernel
theorem dX6_hourOf_19 : decode cX6_hourOf 19 = .ok (.iload_n 1, 1) := by decide +kernel
theorem dX6_hourOf_20 : decode cX6_hourOf 20 = .ok (.invokevirtual 183, 3) := by decide +kernel
theorem dX6_hourOf_23 : decode cX6_hourOf 23 = .ok (.ifCond .eq 7, 3) := by decide +kernel
theorem dX6_hourOf_26 : decode cX6_hourOf 26 = .ok (.iconst 1, 1) := by decide +kernel
theorem dX6_hourOf_27 : decode cX6_hourOf 27 = .ok (.goto 41, 3) := by decide +kernel
theorem dX6_hourOf_30 : decode cX6_hourOf 30 = .ok (.iconst 0, 1) := by decide +kernel
theorem dX6_hourOf_31 : decode cX6_hourOf 31 = .ok (.goto 37, 3) := by decide +kernel
theorem dX6_hourOf_34 : decode cX6_hourOf 34 = .ok (.iload_n 2, 1) := by decide +kernel
theorem dX6_hourOf_35 : decode cX6_hourOf 35 = .ok (.iconst 2, 1) := by decide +kernel
theorem dX6_hourOf_36 : decode cX6_hourOf 36 = .ok (.if_icmp .ne 11, 3) := by decide +kernel
theorem dX6_hourOf_39 : decode cX6_hourOf 39 = .ok (.aload_n 0, 1) := by decide +kernel
theorem dX6_hourOf_40 : decode cX6_hourOf 40 = .ok (.iload_n 1, 1) := by decide +kernel
theorem dX6_hourOf_41 : decode cX6_hourOf 41 = .ok (.invokevirtual 180, 3) := by decide +kernel
theorem dX6_hourOf_44 : decode cX6_hourOf 44 = .ok (.goto 24, 3) := by decide +kernel
theorem dX6_hourOf_47 : decode cX6_hourOf 47 = .ok (.iload_n 2, 1) := by decide +kernel
theorem dX6_hourOf_48 : decode cX6_hourOf 48 = .ok (.iconst 3, 1) := by decide +kernel
theorem dX6_hourOf_49 : decode cX6_hourOf 49 = .ok (.if_icmp .ne 11, 3) := by decide +kernel
theorem dX6_hourOf_52 : decode cX6_hourOf 52 = .ok (.aload_n 0, 1) := by decide +kernel
theorem dX6_hourOf_53 : decode cX6_hourOf 53 = .ok (.iload_n 1, 1) := by decide +kernel
theorem dX6_hourOf_54 : decode cX6_hourOf 54 = .ok (.invokevirtual 186, 3) := by decide +kernel
theorem dX6_hourOf_57 : decode cX6_hourOf 57 = .ok (.goto 11, 3) := by decide +kernel
theorem dX6_hourOf_60 : decode cX6_hourOf 60 = .ok (.aload_n 0, 1) := by decide +kernel
theorem dX6_hourOf_61 : decode cX6_hourOf 61 = .ok (.getfield 43, 3) := by decide +kernel
theorem dX6_hourOf_64 : decode cX6_hourOf 64 = .ok (.iconst 5, 1) := by decide +kernel
theorem dX6_hourOf_65 : decode cX6_hourOf 65 = .ok (.iload_n 1, 1) := by decide +kernel
theorem dX6_hourOf_66 : decode cX6_hourOf 66 = .ok (.iadd, 1) := by decide +kernel
theorem dX6_hourOf_67 : decode cX6_hourOf 67 = .ok (.iaload, 1) := by decide +kernel
theorem dX6_hourOf_68 : decode cX6_hourOf 68 = .ok (.ireturn, 1) := by decide +kernel
theorem dX6_hour_0 : decode cX6_hour 0 = .ok (.aload_n 0, 1) := by decide +kernel
theorem dX6_hour_1 : decode cX6_hour 1 = .ok (.iload_n 1, 1) := by decide +kernel
theorem dX6_hour_2 : decode cX6_hour 2 = .ok (.invokevirtual 189, 3) := by decide +kernel
theorem dX6_hour_5 : decode cX6_hour 5 = .ok (.ifCond .eq 15, 3) := by decide +kernel
theorem dX6_hour_8 : decode cX6_hour 8 = .ok (.iload_n 2, 1) := by decide +kernel
theorem dX6_hour_9 : decode cX6_hour 9 = .ok (.i2l, 1) := by decide +kernel
theorem dX6_hour_10 : decode cX6_hour 10 = .ok (.lconst 0, 1) := by decide +kernel
theorem dX6_hour_11 : decode cX6_hour 11 = .ok (.ldc2_w 171, 3) := by decide +kernel
theorem dX6_hour_14 : decode cX6_hour 14 = .ok (.invokestatic 93, 3) := by decide +kernel
theorem dX6_hour_17 : decode cX6_hour 17 = .ok (.ifCond .ne 5, 3) := by decide +kernel
theorem dX6_hour_20 : decode cX6_hour 20 = .ok (.iconst (-1), 1) := by decide +kernel
theorem dX6_hour_21 : decode cX6_hour 21 = .ok (.ireturn, 1) := by decide +kernel
theorem dX6_hour_22 : decode cX6_hour 22 = .ok (.aload_n 0, 1) := by decide +kernel
theorem dX6_hour_23 : decode cX6_hour 23 = .ok (.iconst 1, 1) := by decide +kernel
theorem dX6_hour_24 : decode cX6_hour 24 = .ok (.aload_n 0, 1) := by decide +kernel
theorem dX6_hour_25 : decode cX6_hour 25 = .ok (.iload_n 1, 1) := by decide +kernel
theorem dX6_hour_26 : decode cX6_hour 26 = .ok (.iload_n 2, 1) := by decide +kernel
theorem dX6_hour_27 : decode cX6_hour 27 = .ok (.invokevirtual 192, 3) := by decide +kernel
theorem dX6_hour_30 : decode cX6_hour 30 = .ok (.invokevirtual 111, 3) := by decide +kernel
theorem dX6_hour_33 : decode cX6_hour 33 = .ok (.ireturn, 1) := by decide +kernel
theorem dX6_isKind_0 : decode cX6_isKind 0 = .ok (.iload_n 0, 1) := by decide +kernel
theorem dX6_isKind_1 : decode cX6_isKind 1 = .ok (.iload_n 1, 1) := by decide +kernel
theorem dX6_isKind_2 : decode cX6_isKind 2 = .ok (.if_icmp .eq 23, 3) := by decide +kernel
theorem dX6_isKind_5 : decode cX6_isKind 5 = .ok (.iload_n 0, 1) := by decide +kernel
theorem dX6_isKind_6 : decode cX6_isKind 6 = .ok (.iconst 4, 1) := by decide +kernel
theorem dX6_isKind_7 : decode cX6_isKind 7 = .ok (.if_icmp .ne 8, 3) := by decide +kernel
theorem dX6_isKind_10 : decode cX6_isKind 10 = .ok (.iload_n 1, 1) := by decide +kernel
theorem dX6_isKind_11 : decode cX6_isKind 11 = .ok (.iconst 1, 1) := by decide +kernel
theorem dX6_isKind_12 : decode cX6_isKind 12 = .ok (.if_icmp .eq 13, 3) := by decide +kernel
theorem dX6_isKind_15 : decode cX6_isKind 15 = .ok (.iload_n 0, 1) := by decide +kernel
theorem dX6_isKind_16 : decode cX6_isKind 16 = .ok (.iconst 5, 1) := by decide +kernel
theorem dX6_isKind_17 : decode cX6_isKind 17 = .ok (.if_icmp .ne 12, 3) := by decide +kernel
theorem dX6_isKind_20 : decode cX6_isKind 20 = .ok (.iload_n 1, 1) := by decide +kernel
theorem dX6_isKind_21 : decode cX6_isKind 21 = .ok (.iconst 2, 1) := by decide +kernel
theorem dX6_isKind_22 : decode cX6_isKind 22 = .ok (.if_icmp .ne 7, 3) := by decide +kernel
theorem dX6_isKind_25 : decode cX6_isKind 25 = .ok (.iconst 1, 1) := by decide +kernel
theorem dX6_isKind_26 : decode cX6_isKind 26 = .ok (.goto 4, 3) := by decide +kernel
theorem dX6_isKind_29 : decode cX6_isKind 29 = .ok (.iconst 0, 1) := by decide +kernel
theorem dX6_isKind_30 : decode cX6_isKind 30 = .ok (.ireturn, 1) := by decide +kernel
theorem dX6_shelfOn_0 : decode cX6_shelfOn 0 = .ok (.iconst 0, 1) := by decide +kernel
theorem dX6_shelfOn_1 : decode cX6_shelfOn 1 = .ok (.istore_n 2, 1) := by decide +kernel
theorem dX6_shelfOn_2 : decode cX6_shelfOn 2 = .ok (.iconst 0, 1) := by decide +kernel
theorem dX6_shelfOn_3 : decode cX6_shelfOn 3 = .ok (.istore_n 3, 1) := by decide +kernel
theorem dX6_shelfOn_4 : decode cX6_shelfOn 4 = .ok (.iload_n 3, 1) := by decide +kernel
theorem dX6_shelfOn_5 : decode cX6_shelfOn 5 = .ok (.aload_n 0, 1) := by decide +kernel
theorem dX6_shelfOn_6 : decode cX6_shelfOn 6 = .ok (.getfield 159, 3) := by decide +kernel
theorem dX6_shelfOn_9 : decode cX6_shelfOn 9 = .ok (.if_icmp .ge 48, 3) := by decide +kernel
theorem dX6_shelfOn_12 : decode cX6_shelfOn 12 = .ok (.iload_n 2, 1) := by decide +kernel
theorem dX6_shelfOn_13 : decode cX6_shelfOn 13 = .ok (.aload_n 0, 1) := by decide +kernel
theorem dX6_shelfOn_14 : decode cX6_shelfOn 14 = .ok (.iload_n 3, 1) := by decide +kernel
theorem dX6_shelfOn_15 : decode cX6_shelfOn 15 = .ok (.invokevirtual 180, 3) := by decide +kernel
theorem dX6_shelfOn_18 : decode cX6_shelfOn 18 = .ok (.iload_n 1, 1) := by decide +kernel
theorem dX6_shelfOn_19 : decode cX6_shelfOn 19 = .ok (.if_icmp .gt 29, 3) := by decide +kernel
theorem dX6_shelfOn_22 : decode cX6_shelfOn 22 = .ok (.aload_n 0, 1) := by decide +kernel
theorem dX6_shelfOn_23 : decode cX6_shelfOn 23 = .ok (.getfield 43, 3) := by decide +kernel
theorem dX6_shelfOn_26 : decode cX6_shelfOn 26 = .ok (.iconst 1, 1) := by decide +kernel
theorem dX6_shelfOn_27 : decode cX6_shelfOn 27 = .ok (.iaload, 1) := by decide +kernel
theorem dX6_shelfOn_28 : decode cX6_shelfOn 28 = .ok (.aload_n 0, 1) := by decide +kernel
theorem dX6_shelfOn_29 : decode cX6_shelfOn 29 = .ok (.getfield 43, 3) := by decide +kernel
theorem dX6_shelfOn_32 : decode cX6_shelfOn 32 = .ok (.iconst 2, 1) := by decide +kernel
theorem dX6_shelfOn_33 : decode cX6_shelfOn 33 = .ok (.iaload, 1) := by decide +kernel
theorem dX6_shelfOn_34 : decode cX6_shelfOn 34 = .ok (.ior, 1) := by decide +kernel
theorem dX6_shelfOn_35 : decode cX6_shelfOn 35 = .ok (.iload_n 3, 1) := by decide +kernel
theorem dX6_shelfOn_36 : decode cX6_shelfOn 36 = .ok (.invokestatic 136, 3) := by decide +kernel
theorem dX6_shelfOn_39 : decode cX6_shelfOn 39 = .ok (.ifCond .ne 9, 3) := by decide +kernel
theorem dX6_shelfOn_42 : decode cX6_shelfOn 42 = .ok (.iconst 1, 1) := by decide +kernel
theorem dX6_shelfOn_43 : decode cX6_shelfOn 43 = .ok (.iload_n 3, 1) := by decide +kernel
theorem dX6_shelfOn_44 : decode cX6_shelfOn 44 = .ok (.ishl, 1) := by decide +kernel
theorem dX6_shelfOn_45 : decode cX6_shelfOn 45 = .ok (.goto 4, 3) := by decide +kernel
theorem dX6_shelfOn_48 : decode cX6_shelfOn 48 = .ok (.iconst 0, 1) := by decide +kernel
theorem dX6_shelfOn_49 : decode cX6_shelfOn 49 = .ok (.ior, 1) := by decide +kernel
theorem dX6_shelfOn_50 : decode cX6_shelfOn 50 = .ok (.istore_n 2, 1) := by decide +kernel
theorem dX6_shelfOn_51 : decode cX6_shelfOn 51 = .ok (.iinc 3 1, 3) := by decide +kernel
theorem dX6_shelfOn_54 : decode cX6_shelfOn 54 = .ok (.goto (-50), 3) := by decide +kernel
theorem dX6_shelfOn_57 : decode cX6_shelfOn 57 = .ok (.iload_n 2, 1) := by decide +kernel
theorem dX6_shelfOn_58 : decode cX6_shelfOn 58 = .ok (.ireturn, 1) := by decide +kernel
theorem dX6_isLight_0 : decode cX6_isLight 0 = .ok (.aload_n 0, 1) := by decide +kernel
theorem dX6_isLight_1 : decode cX6_isLight 1 = .ok (.getfield 25, 3) := by decide +kernel
theorem dX6_isLight_4 : decode cX6_isLight 4 = .ok (.iload_n 1, 1) := by decide +kernel
theorem dX6_isLight_5 : decode cX6_isLight 5 = .ok (.iaload, 1) := by decide +kernel
theorem dX6_isLight_6 : decode cX6_isLight 6 = .ok (.iconst 2, 1) := by decide +kernel
theorem dX6_isLight_7 : decode cX6_isLight 7 = .ok (.if_icmp .eq 26, 3) := by decide +kernel
theorem dX6_isLight_10 : decode cX6_isLight 10 = .ok (.aload_n 0, 1) := by decide +kernel
theorem dX6_isLight_11 : decode cX6_isLight 11 = .ok (.iload_n 2, 1) := by decide +kernel
theorem dX6_isLight_12 : decode cX6_isLight 12 = .ok (.invokevirtual 183, 3) := by decide +kernel
theorem dX6_isLight_15 : decode cX6_isLight 15 = .ok (.aload_n 0, 1) := by decide +kernel
theorem dX6_isLight_16 : decode cX6_isLight 16 = .ok (.getfield 25, 3) := by decide +kernel
theorem dX6_isLight_19 : decode cX6_isLight 19 = .ok (.iload_n 1, 1) := by decide +kernel
theorem dX6_isLight_20 : decode cX6_isLight 20 = .ok (.iaload, 1) := by decide +kernel
theorem dX6_isLight_21 : decode cX6_isLight 21 = .ok (.iconst 1, 1) := by decide +kernel
theorem dX6_isLight_22 : decode cX6_isLight 22 = .ok (.if_icmp .ne 7, 3) := by decide +kernel
theorem dX6_isLight_25 : decode cX6_isLight 25 = .ok (.iconst 1, 1) := by decide +kernel
theorem dX6_isLight_26 : decode cX6_isLight 26 = .ok (.goto 4, 3) := by decide +kernel
theorem dX6_isLight_29 : decode cX6_isLight 29 = .ok (.iconst 0, 1) := by decide +kernel
theorem dX6_isLight_30 : decode cX6_isLight 30 = .ok (.if_icmp .ne 7, 3) := by decide +kernel
theorem dX6_isLight_33 : decode cX6_isLight 33 = .ok (.iconst 1, 1) := by decide +kernel
theorem dX6_isLight_34 : decode cX6_isLight 34 = .ok (.goto 4, 3) := by decide +kernel
theorem dX6_isLight_37 : decode cX6_isLight 37 = .ok (.iconst 0, 1) := by decide +kernel
theorem dX6_isLight_38 : decode cX6_isLight 38 = .ok (.ireturn, 1) := by decide +kernel
theorem dX6_isAsKind_0 : decode cX6_isAsKind 0 = .ok (.aload_n 0, 1) := by decide +kernel
theorem dX6_isAsKind_1 : decode cX6_isAsKind 1 = .ok (.getfield 22, 3) := by decide +kernel
theorem dX6_isAsKind_4 : decode cX6_isAsKind 4 = .ok (.iload_n 1, 1) := by decide +kernel
theorem dX6_isAsKind_5 : decode cX6_isAsKind 5 = .ok (.iaload, 1) := by decide +kernel
theorem dX6_isAsKind_6 : decode cX6_isAsKind 6 = .ok (.istore 5, 2) := by decide +kernel
theorem dX6_isAsKind_8 : decode cX6_isAsKind 8 = .ok (.iload 5, 2) := by decide +kernel
theorem dX6_isAsKind_10 : decode cX6_isAsKind 10 = .ok (.iconst 1, 1) := by decide +kernel
theorem dX6_isAsKind_11 : decode cX6_isAsKind 11 = .ok (.invokestatic 195, 3) := by decide +kernel
theorem dX6_isAsKind_14 : decode cX6_isAsKind 14 = .ok (.ifCond .eq 11, 3) := by decide +kernel
theorem dX6_isAsKind_17 : decode cX6_isAsKind 17 = .ok (.iload 4, 2) := by decide +kernel
theorem dX6_isAsKind_19 : decode cX6_isAsKind 19 = .ok (.iconst 2, 1) := by decide +kernel
theorem dX6_isAsKind_20 : decode cX6_isAsKind 20 = .ok (.if_icmp .ge 5, 3) := by decide +kernel
theorem dX6_isAsKind_23 : decode cX6_isAsKind 23 = .ok (.iconst 0, 1) := by decide +kernel
theorem dX6_isAsKind_24 : decode cX6_isAsKind 24 = .ok (.ireturn, 1) := by decide +kernel
theorem dX6_isAsKind_25 : decode cX6_isAsKind 25 = .ok (.iload 5, 2) := by decide +kernel
theorem dX6_isAsKind_27 : decode cX6_isAsKind 27 = .ok (.iconst 2, 1) := by decide +kernel
theorem dX6_isAsKind_28 : decode cX6_isAsKind 28 = .ok (.if_icmp .ne 24, 3) := by decide +kernel
theorem dX6_isAsKind_31 : decode cX6_isAsKind 31 = .ok (.aload_n 0, 1) := by decide +kernel
theorem dX6_isAsKind_32 : decode cX6_isAsKind 32 = .ok (.getfield 31, 3) := by decide +kernel
theorem dX6_isAsKind_35 : decode cX6_isAsKind 35 = .ok (.iload_n 2, 1) := by decide +kernel
theorem dX6_isAsKind_36 : decode cX6_isAsKind 36 = .ok (.iaload, 1) := by decide +kernel
theorem dX6_isAsKind_37 : decode cX6_isAsKind 37 = .ok (.i2l, 1) := by decide +kernel
theorem dX6_isAsKind_38 : decode cX6_isAsKind 38 = .ok (.ldc2_w 176, 3) := by decide +kernel
theorem dX6_isAsKind_41 : decode cX6_isAsKind 41 = .ok (.ldc2_w 198, 3) := by decide +kernel
theorem dX6_isAsKind_44 : decode cX6_isAsKind 44 = .ok (.invokestatic 93, 3) := by decide +kernel
theorem dX6_isAsKind_47 : decode cX6_isAsKind 47 = .ok (.ifCond .eq 5, 3) := by decide +kernel
theorem dX6_isAsKind_50 : decode cX6_isAsKind 50 = .ok (.iconst 0, 1) := by decide +kernel
theorem dX6_isAsKind_51 : decode cX6_isAsKind 51 = .ok (.ireturn, 1) := by decide +kernel
theorem dX6_isAsKind_52 : decode cX6_isAsKind 52 = .ok (.iload 5, 2) := by decide +kernel
theorem dX6_isAsKind_54 : decode cX6_isAsKind 54 = .ok (.iconst 4, 1) := by decide +kernel
theorem dX6_isAsKind_55 : decode cX6_isAsKind 55 = .ok (.if_icmp .ne 20, 3) := by decide +kernel
theorem dX6_isAsKind_58 : decode cX6_isAsKind 58 = .ok (.iload_n 3, 1) := by decide +kernel
theorem dX6_isAsKind_59 : decode cX6_isAsKind 59 = .ok (.aload_n 0, 1) := by decide +kernel
theorem dX6_isAsKind_60 : decode cX6_isAsKind 60 = .ok (.getfield 28, 3) := by decide +kernel
theorem dX6_isAsKind_63 : decode cX6_isAsKind 63 = .ok (.iload_n 1, 1) := by decide +kernel
theorem dX6_isAsKind_64 : decode cX6_isAsKind 64 = .ok (.iaload, 1) := by decide +kernel
theorem dX6_isAsKind_65 : decode cX6_isAsKind 65 = .ok (.iconst (-1), 1) := by decide +kernel
theorem dX6_isAsKind_66 : decode cX6_isAsKind 66 = .ok (.ixor, 1) := by decide +kernel
theorem dX6_isAsKind_67 : decode cX6_isAsKind 67 = .ok (.iand, 1) := by decide +kernel
theorem dX6_isAsKind_68 : decode cX6_isAsKind 68 = .ok (.invokestatic 200, 3) := by decide +kernel
theorem dX6_isAsKind_71 : decode cX6_isAsKind 71 = .ok (.iconst 2, 1) := by decide +kernel
theorem dX6_isAsKind_72 : decode cX6_isAsKind 72 = .ok (.if_icmp .lt 7, 3) := by decide +kernel
theorem dX6_isAsKind_75 : decode cX6_isAsKind 75 = .ok (.iconst 1, 1) := by decide +kernel
theorem dX6_isAsKind_76 : decode cX6_isAsKind 76 = .ok (.goto 4, 3) := by decide +kernel
theorem dX6_isAsKind_79 : decode cX6_isAsKind 79 = .ok (.iconst 0, 1) := by decide +kernel
theorem dX6_isAsKind_80 : decode cX6_isAsKind 80 = .ok (.ireturn, 1) := by decide +kernel
theorem dX6_canBe_0 : decode cX6_canBe 0 = .ok (.iload_n 3, 1) := by decide +kernel
theorem dX6_canBe_1 : decode cX6_canBe 1 = .ok (.iload_n 1, 1) := by decide +kernel
theorem dX6_canBe_2 : decode cX6_canBe 2 = .ok (.invokestatic 136, 3) := by decide +kernel
theorem dX6_canBe_5 : decode cX6_canBe 5 = .ok (.ifCond .ne 41, 3) := by decide +kernel
theorem dX6_canBe_8 : decode cX6_canBe 8 = .ok (.aload_n 0, 1) := by decide +kernel
theorem dX6_canBe_9 : decode cX6_canBe 9 = .ok (.getfield 28, 3) := by decide +kernel
theorem dX6_canBe_12 : decode cX6_canBe 12 = .ok (.iload_n 1, 1) := by decide +kernel
theorem dX6_canBe_13 : decode cX6_canBe 13 = .ok (.iaload, 1) := by decide +kernel
theorem dX6_canBe_14 : decode cX6_canBe 14 = .ok (.iload_n 3, 1) := by decide +kernel
theorem dX6_canBe_15 : decode cX6_canBe 15 = .ok (.iconst (-1), 1) := by decide +kernel
theorem dX6_canBe_16 : decode cX6_canBe 16 = .ok (.ixor, 1) := by decide +kernel
theorem dX6_canBe_17 : decode cX6_canBe 17 = .ok (.iand, 1) := by decide +kernel
theorem dX6_canBe_18 : decode cX6_canBe 18 = .ok (.ifCond .ne 28, 3) := by decide +kernel
theorem dX6_canBe_21 : decode cX6_canBe 21 = .ok (.aload_n 0, 1) := by decide +kernel
theorem dX6_canBe_22 : decode cX6_canBe 22 = .ok (.iload_n 1, 1) := by decide +kernel
theorem dX6_canBe_23 : decode cX6_canBe 23 = .ok (.iload_n 2, 1) := by decide +kernel
theorem dX6_canBe_24 : decode cX6_canBe 24 = .ok (.invokevirtual 203, 3) := by decide +kernel
theorem dX6_canBe_27 : decode cX6_canBe 27 = .ok (.ifCond .eq 19, 3) := by decide +kernel
theorem dX6_canBe_30 : decode cX6_canBe 30 = .ok (.aload_n 0, 1) := by decide +kernel
theorem dX6_canBe_31 : decode cX6_canBe 31 = .ok (.iload_n 1, 1) := by decide +kernel
theorem dX6_canBe_32 : decode cX6_canBe 32 = .ok (.iload_n 2, 1) := by decide +kernel
theorem dX6_canBe_33 : decode cX6_canBe 33 = .ok (.iload_n 3, 1) := by decide +kernel
theorem dX6_canBe_34 : decode cX6_canBe 34 = .ok (.iload 4, 2) := by decide +kernel
theorem dX6_canBe_36 : decode cX6_canBe 36 = .ok (.invokevirtual 206, 3) := by decide +kernel
theorem dX6_canBe_39 : decode cX6_canBe 39 = .ok (.ifCond .eq 7, 3) := by decide +kernel
theorem dX6_canBe_42 : decode cX6_canBe 42 = .ok (.iconst 1, 1) := by decide +kernel
theorem dX6_canBe_43 : decode cX6_canBe 43 = .ok (.goto 4, 3) := by decide +kernel
theorem dX6_canBe_46 : decode cX6_canBe 46 = .ok (.iconst 0, 1) := by decide +kernel
theorem dX6_canBe_47 : decode cX6_canBe 47 = .ok (.ireturn, 1) := by decide +kernel
theorem dX6_canNow_0 : decode cX6_canNow 0 = .ok (.aload_n 0, 1) := by decide +kernel
theorem dX6_canNow_1 : decode cX6_canNow 1 = .ok (.iload_n 1, 1) := by decide +kernel
theorem dX6_canNow_2 : decode cX6_canNow 2 = .ok (.iload_n 2, 1) := by decide +kernel
theorem dX6_canNow_3 : decode cX6_canNow 3 = .ok (.aload_n 0, 1) := by decide +kernel
theorem dX6_canNow_4 : decode cX6_canNow 4 = .ok (.getfield 43, 3) := by decide +kernel
theorem dX6_canNow_7 : decode cX6_canNow 7 = .ok (.iconst 3, 1) := by decide +kernel
theorem dX6_canNow_8 : decode cX6_canNow 8 = .ok (.iaload, 1) := by decide +kernel
theorem dX6_canNow_9 : decode cX6_canNow 9 = .ok (.aload_n 0, 1) := by decide +kernel
theorem dX6_canNow_10 : decode cX6_canNow 10 = .ok (.getfield 43, 3) := by decide +kernel
theorem dX6_canNow_13 : decode cX6_canNow 13 = .ok (.iconst 4, 1) := by decide +kernel
theorem dX6_canNow_14 : decode cX6_canNow 14 = .ok (.iaload, 1) := by decide +kernel
theorem dX6_canNow_15 : decode cX6_canNow 15 = .ok (.invokevirtual 210, 3) := by decide +kernel
theorem dX6_canNow_18 : decode cX6_canNow 18 = .ok (.ireturn, 1) := by decide +kernel
theorem dX6_mark_0 : decode cX6_mark 0 = .ok (.aload_n 0, 1) := by decide +kernel
theorem dX6_mark_1 : decode cX6_mark 1 = .ok (.iload_n 1, 1) := by decide +kernel
theorem dX6_mark_2 : decode cX6_mark 2 = .ok (.invokevirtual 168, 3) := by decide +kernel
theorem dX6_mark_5 : decode cX6_mark 5 = .ok (.ifCond .eq 15, 3) := by decide +kernel
theorem dX6_mark_8 : decode cX6_mark 8 = .ok (.iload_n 2, 1) := by decide +kernel
theorem dX6_mark_9 : decode cX6_mark 9 = .ok (.i2l, 1) := by decide +kernel
theorem dX6_mark_10 : decode cX6_mark 10 = .ok (.lconst 1, 1) := by decide +kernel
theorem dX6_mark_11 : decode cX6_mark 11 = .ok (.ldc2_w 91, 3) := by decide +kernel
theorem dX6_mark_14 : decode cX6_mark 14 = .ok (.invokestatic 93, 3) := by decide +kernel
theorem dX6_mark_17 : decode cX6_mark 17 = .ok (.ifCond .ne 5, 3) := by decide +kernel
theorem dX6_mark_20 : decode cX6_mark 20 = .ok (.iconst (-1), 1) := by decide +kernel
theorem dX6_mark_21 : decode cX6_mark 21 = .ok (.ireturn, 1) := by decide +kernel
theorem dX6_mark_22 : decode cX6_mark 22 = .ok (.aload_n 0, 1) := by decide +kernel
theorem dX6_mark_23 : decode cX6_mark 23 = .ok (.getfield 22, 3) := by decide +kernel
theorem dX6_mark_26 : decode cX6_mark 26 = .ok (.iload_n 1, 1) := by decide +kernel
theorem dX6_mark_27 : decode cX6_mark 27 = .ok (.iaload, 1) := by decide +kernel
theorem dX6_mark_28 : decode cX6_mark 28 = .ok (.iload_n 2, 1) := by decide +kernel
theorem dX6_mark_29 : decode cX6_mark 29 = .ok (.invokestatic 195, 3) := by decide +kernel
theorem dX6_mark_32 : decode cX6_mark 32 = .ok (.ifCond .ne 9, 3) := by decide +kernel
theorem dX6_mark_35 : decode cX6_mark 35 = .ok (.aload_n 0, 1) := by decide +kernel
theorem dX6_mark_36 : decode cX6_mark 36 = .ok (.iconst 3, 1) := by decide +kernel
theorem dX6_mark_37 : decode cX6_mark 37 = .ok (.invokevirtual 103, 3) := by decide +kernel
theorem dX6_mark_40 : decode cX6_mark 40 = .ok (.ireturn, 1) := by decide +kernel
theorem dX6_mark_41 : decode cX6_mark 41 = .ok (.aload_n 0, 1) := by decide +kernel
theorem dX6_mark_42 : decode cX6_mark 42 = .ok (.aload_n 0, 1) := by decide +kernel
theorem dX6_mark_43 : decode cX6_mark 43 = .ok (.getfield 43, 3) := by decide +kernel
theorem dX6_mark_46 : decode cX6_mark 46 = .ok (.iconst 0, 1) := by decide +kernel
theorem dX6_mark_47 : decode cX6_mark 47 = .ok (.iaload, 1) := by decide +kernel
theorem dX6_mark_48 : decode cX6_mark 48 = .ok (.invokevirtual 213, 3) := by decide +kernel
theorem dX6_mark_51 : decode cX6_mark 51 = .ok (.istore_n 3, 1) := by decide +kernel
theorem dX6_mark_52 : decode cX6_mark 52 = .ok (.iconst 0, 1) := by decide +kernel
theorem dX6_mark_53 : decode cX6_mark 53 = .ok (.istore 4, 2) := by decide +kernel
theorem dX6_mark_55 : decode cX6_mark 55 = .ok (.iconst 0, 1) := by decide +kernel
theorem dX6_mark_56 : decode cX6_mark 56 = .ok (.istore 5, 2) := by decide +kernel
theorem dX6_mark_58 : decode cX6_mark 58 = .ok (.iload 5, 2) := by decide +kernel
theorem dX6_mark_60 : decode cX6_mark 60 = .ok (.aload_n 0, 1) := by decide +kernel
theorem dX6_mark_61 : decode cX6_mark 61 = .ok (.getfield 159, 3) := by decide +kernel
theorem dX6_mark_64 : decode cX6_mark 64 = .ok (.if_icmp .ge 58, 3) := by decide +kernel
theorem dX6_mark_67 : decode cX6_mark 67 = .ok (.iload 4, 2) := by decide +kernel
theorem dX6_mark_69 : decode cX6_mark 69 = .ok (.iload_n 2, 1) := by decide +kernel
theorem dX6_mark_70 : decode cX6_mark 70 = .ok (.iconst 2, 1) := by decide +kernel
theorem dX6_mark_71 : decode cX6_mark 71 = .ok (.if_icmp .ne 22, 3) := by decide +kernel
theorem dX6_mark_74 : decode cX6_mark 74 = .ok (.iload_n 3, 1) := by decide +kernel
theorem dX6_mark_75 : decode cX6_mark 75 = .ok (.iload 5, 2) := by decide +kernel
theorem dX6_mark_77 : decode cX6_mark 77 = .ok (.invokestatic 136, 3) := by decide +kernel
theorem dX6_mark_80 : decode cX6_mark 80 = .ok (.ifCond .eq 13, 3) := by decide +kernel
theorem dX6_mark_83 : decode cX6_mark 83 = .ok (.aload_n 0, 1) := by decide +kernel
theorem dX6_mark_84 : decode cX6_mark 84 = .ok (.iload_n 1, 1) := by decide +kernel
theorem dX6_mark_85 : decode cX6_mark 85 = .ok (.iload 5, 2) := by decide +kernel
theorem dX6_mark_87 : decode cX6_mark 87 = .ok (.invokevirtual 216, 3) := by decide +kernel
theorem dX6_mark_90 : decode cX6_mark 90 = .ok (.ifCond .ne 18, 3) := by decide +kernel
theorem dX6_mark_93 : decode cX6_mark 93 = .ok (.iload_n 2, 1) := by decide +kernel
theorem dX6_mark_94 : decode cX6_mark 94 = .ok (.iconst 5, 1) := by decide +kernel
theorem dX6_mark_95 : decode cX6_mark 95 = .ok (.if_icmp .ne 17, 3) := by decide +kernel
theorem dX6_mark_98 : decode cX6_mark 98 = .ok (.aload_n 0, 1) := by decide +kernel
theorem dX6_mark_99 : decode cX6_mark 99 = .ok (.iload_n 1, 1) := by decide +kernel
theorem dX6_mark_100 : decode cX6_mark 100 = .ok (.iload 5, 2) := by decide +kernel
theorem dX6_mark_102 : decode cX6_mark 102 = .ok (.invokevirtual 203, 3) := by decide +kernel
theorem dX6_mark_105 : decode cX6_mark 105 = .ok (.ifCond .eq 7, 3) := by decide +kernel
theorem dX6_mark_108 : decode cX6_mark 108 = .ok (.iconst 1, 1) := by decide +kernel
theorem dX6_mark_109 : decode cX6_mark 109 = .ok (.goto 4, 3) := by decide +kernel
theorem dX6_mark_112 : decode cX6_mark 112 = .ok (.iconst 0, 1) := by decide +kernel
theorem dX6_mark_113 : decode cX6_mark 113 = .ok (.iadd, 1) := by decide +kernel
theorem dX6_mark_114 : decode cX6_mark 114 = .ok (.istore 4, 2) := by decide +kernel
theorem dX6_mark_116 : decode cX6_mark 116 = .ok (.iinc 5 1, 3) := by decide +kernel
theorem dX6_mark_119 : decode cX6_mark 119 = .ok (.goto (-61), 3) := by decide +kernel
theorem dX6_mark_122 : decode cX6_mark 122 = .ok (.iconst 0, 1) := by decide +kernel
theorem dX6_mark_123 : decode cX6_mark 123 = .ok (.istore 5, 2) := by decide +kernel
theorem dX6_mark_125 : decode cX6_mark 125 = .ok (.iload 5, 2) := by decide +kernel
theorem dX6_mark_127 : decode cX6_mark 127 = .ok (.aload_n 0, 1) := by decide +kernel
theorem dX6_mark_128 : decode cX6_mark 128 = .ok (.getfield 156, 3) := by decide +kernel
theorem dX6_mark_131 : decode cX6_mark 131 = .ok (.if_icmp .ge 38, 3) := by decide +kernel
theorem dX6_mark_134 : decode cX6_mark 134 = .ok (.iload_n 2, 1) := by decide +kernel
theorem dX6_mark_135 : decode cX6_mark 135 = .ok (.iconst 3, 1) := by decide +kernel
theorem dX6_mark_136 : decode cX6_mark 136 = .ok (.if_icmp .ne 33, 3) := by decide +kernel
theorem dX6_mark_139 : decode cX6_mark 139 = .ok (.iload 4, 2) := by decide +kernel
theorem dX6_mark_141 : decode cX6_mark 141 = .ok (.aload_n 0, 1) := by decide +kernel
theorem dX6_mark_142 : decode cX6_mark 142 = .ok (.getfield 28, 3) := by decide +kernel
theorem dX6_mark_145 : decode cX6_mark 145 = .ok (.iload 5, 2) := by decide +kernel
theorem dX6_mark_147 : decode cX6_mark 147 = .ok (.iaload, 1) := by decide +kernel
theorem dX6_mark_148 : decode cX6_mark 148 = .ok (.iload_n 1, 1) := by decide +kernel
theorem dX6_mark_149 : decode cX6_mark 149 = .ok (.invokestatic 136, 3) := by decide +kernel
theorem dX6_mark_152 : decode cX6_mark 152 = .ok (.ifCond .eq 7, 3) := by decide +kernel
theorem dX6_mark_155 : decode cX6_mark 155 = .ok (.iconst 1, 1) := by decide +kernel
theorem dX6_mark_156 : decode cX6_mark 156 = .ok (.goto 4, 3) := by decide +kernel
theorem dX6_mark_159 : decode cX6_mark 159 = .ok (.iconst 0, 1) := by decide +kernel
theorem dX6_mark_160 : decode cX6_mark 160 = .ok (.iadd, 1) := by decide +kernel
theorem dX6_mark_161 : decode cX6_mark 161 = .ok (.istore 4, 2) := by decide +kernel
theorem dX6_mark_163 : decode cX6_mark 163 = .ok (.iinc 5 1, 3) := by decide +kernel
theorem dX6_mark_166 : decode cX6_mark 166 = .ok (.goto (-41), 3) := by decide +kernel
theorem dX6_mark_169 : decode cX6_mark 169 = .ok (.iload_n 2, 1) := by decide +kernel
theorem dX6_mark_170 : decode cX6_mark 170 = .ok (.iconst 1, 1) := by decide +kernel
theorem dX6_mark_171 : decode cX6_mark 171 = .ok (.if_icmp .ne 12, 3) := by decide +kernel
theorem dX6_mark_174 : decode cX6_mark 174 = .ok (.aload_n 0, 1) := by decide +kernel
theorem dX6_mark_175 : decode cX6_mark 175 = .ok (.getfield 43, 3) := by decide +kernel
theorem dX6_mark_178 : decode cX6_mark 178 = .ok (.iconst 4, 1) := by decide +kernel
theorem dX6_mark_179 : decode cX6_mark 179 = .ok (.iaload, 1) := by decide +kernel
theorem dX6_mark_180 : decode cX6_mark 180 = .ok (.goto 31, 3) := by decide +kernel
theorem dX6_mark_183 : decode cX6_mark 183 = .ok (.iload_n 2, 1) := by decide +kernel
theorem dX6_mark_184 : decode cX6_mark 184 = .ok (.iconst 4, 1) := by decide +kernel
theorem dX6_mark_185 : decode cX6_mark 185 = .ok (.if_icmp .ne 24, 3) := by decide +kernel
theorem dX6_mark_188 : decode cX6_mark 188 = .ok (.aload_n 0, 1) := by decide +kernel
theorem dX6_mark_189 : decode cX6_mark 189 = .ok (.getfield 43, 3) := by decide +kernel
theorem dX6_mark_192 : decode cX6_mark 192 = .ok (.iconst 3, 1) := by decide +kernel
theorem dX6_mark_193 : decode cX6_mark 193 = .ok (.iaload, 1) := by decide +kernel
theorem dX6_mark_194 : decode cX6_mark 194 = .ok (.aload_n 0, 1) := by decide +kernel
theorem dX6_mark_195 : decode cX6_mark 195 = .ok (.getfield 28, 3) := by decide +kernel
theorem dX6_mark_198 : decode cX6_mark 198 = .ok (.iload_n 1, 1) := by decide +kernel
theorem dX6_mark_199 : decode cX6_mark 199 = .ok (.iaload, 1) := by decide +kernel
theorem dX6_mark_200 : decode cX6_mark 200 = .ok (.iconst (-1), 1) := by decide +kernel
theorem dX6_mark_201 : decode cX6_mark 201 = .ok (.ixor, 1) := by decide +kernel
theorem dX6_mark_202 : decode cX6_mark 202 = .ok (.iand, 1) := by decide +kernel
theorem dX6_mark_203 : decode cX6_mark 203 = .ok (.invokestatic 200, 3) := by decide +kernel
theorem dX6_mark_206 : decode cX6_mark 206 = .ok (.goto 5, 3) := by decide +kernel
theorem dX6_mark_209 : decode cX6_mark 209 = .ok (.iload 4, 2) := by decide +kernel
theorem dX6_mark_211 : decode cX6_mark 211 = .ok (.ireturn, 1) := by decide +kernel
theorem dX6_route_0 : decode cX6_route 0 = .ok (.iload_n 1, 1) := by decide +kernel
theorem dX6_route_1 : decode cX6_route 1 = .ok (.i2l, 1) := by decide +kernel
theorem dX6_route_2 : decode cX6_route 2 = .ok (.lconst 0, 1) := by decide +kernel
theorem dX6_route_3 : decode cX6_route 3 = .ok (.ldc2_w 219, 3) := by decide +kernel
theorem dX6_route_6 : decode cX6_route 6 = .ok (.invokestatic 93, 3) := by decide +kernel
theorem dX6_route_9 : decode cX6_route 9 = .ok (.ifCond .eq 15, 3) := by decide +kernel
theorem dX6_route_12 : decode cX6_route 12 = .ok (.iload_n 2, 1) := by decide +kernel
theorem dX6_route_13 : decode cX6_route 13 = .ok (.i2l, 1) := by decide +kernel
theorem dX6_route_14 : decode cX6_route 14 = .ok (.lconst 0, 1) := by decide +kernel
theorem dX6_route_15 : decode cX6_route 15 = .ok (.ldc2_w 221, 3) := by decide +kernel
theorem dX6_route_18 : decode cX6_route 18 = .ok (.invokestatic 93, 3) := by decide +kernel
theorem dX6_route_21 : decode cX6_route 21 = .ok (.ifCond .ne 5, 3) := by decide +kernel
theorem dX6_route_24 : decode cX6_route 24 = .ok (.iconst (-1), 1) := by decide +kernel
theorem dX6_route_25 : decode cX6_route 25 = .ok (.ireturn, 1) := by decide +kernel
theorem dX6_route_26 : decode cX6_route 26 = .ok (.aload_n 0, 1) := by decide +kernel
theorem dX6_route_27 : decode cX6_route 27 = .ok (.getfield 162, 3) := by decide +kernel
theorem dX6_route_30 : decode cX6_route 30 = .ok (.ifCond .le 6, 3) := by decide +kernel
theorem dX6_route_33 : decode cX6_route 33 = .ok (.bipush (-4), 2) := by decide +kernel
theorem dX6_route_35 : decode cX6_route 35 = .ok (.ireturn, 1) := by decide +kernel
theorem dX6_route_36 : decode cX6_route 36 = .ok (.aload_n 0, 1) := by decide +kernel
theorem dX6_route_37 : decode cX6_route 37 = .ok (.getfield 40, 3) := by decide +kernel
theorem dX6_route_40 : decode cX6_route 40 = .ok (.iload_n 1, 1) := by decide +kernel
theorem dX6_route_41 : decode cX6_route 41 = .ok (.iaload, 1) := by decide +kernel
theorem dX6_route_42 : decode cX6_route 42 = .ok (.istore_n 3, 1) := by decide +kernel
theorem dX6_route_43 : decode cX6_route 43 = .ok (.aload_n 0, 1) := by decide +kernel
theorem dX6_route_44 : decode cX6_route 44 = .ok (.getfield 40, 3) := by decide +kernel
theorem dX6_route_47 : decode cX6_route 47 = .ok (.iload_n 1, 1) := by decide +kernel
theorem dX6_route_48 : decode cX6_route 48 = .ok (.iload_n 2, 1) := by decide +kernel
theorem dX6_route_49 : decode cX6_route 49 = .ok (.iastore, 1) := by decide +kernel
theorem dX6_route_50 : decode cX6_route 50 = .ok (.iload_n 3, 1) := by decide +kernel
theorem dX6_route_51 : decode cX6_route 51 = .ok (.ireturn, 1) := by decide +kernel
theorem dX6_note_0 : decode cX6_note 0 = .ok (.iconst 0, 1) := by decide +kernel
theorem dX6_note_1 : decode cX6_note 1 = .ok (.istore_n 1, 1) := by decide +kernel
theorem dX6_note_2 : decode cX6_note 2 = .ok (.iload_n 1, 1) := by decide +kernel
theorem dX6_note_3 : decode cX6_note 3 = .ok (.bipush 12, 2) := by decide +kernel
theorem dX6_note_5 : decode cX6_note 5 = .ok (.if_icmp .ge 29, 3) := by decide +kernel
theorem dX6_note_8 : decode cX6_note 8 = .ok (.aload_n 0, 1) := by decide +kernel
theorem dX6_note_9 : decode cX6_note 9 = .ok (.getfield 46, 3) := by decide +kernel
theorem dX6_note_12 : decode cX6_note 12 = .ok (.bipush 12, 2) := by decide +kernel
theorem dX6_note_14 : decode cX6_note 14 = .ok (.aload_n 0, 1) := by decide +kernel
theorem dX6_note_15 : decode cX6_note 15 = .ok (.getfield 162, 3) := by decide +kernel
theorem dX6_note_18 : decode cX6_note 18 = .ok (.imul, 1) := by decide +kernel
theorem dX6_note_19 : decode cX6_note 19 = .ok (.iload_n 1, 1) := by decide +kernel
theorem dX6_note_20 : decode cX6_note 20 = .ok (.iadd, 1) := by decide +kernel
theorem dX6_note_21 : decode cX6_note 21 = .ok (.aload_n 0, 1) := by decide +kernel
theorem dX6_note_22 : decode cX6_note 22 = .ok (.getfield 43, 3) := by decide +kernel
theorem dX6_note_25 : decode cX6_note 25 = .ok (.iload_n 1, 1) := by decide +kernel
theorem dX6_note_26 : decode cX6_note 26 = .ok (.iaload, 1) := by decide +kernel
theorem dX6_note_27 : decode cX6_note 27 = .ok (.iastore, 1) := by decide +kernel
theorem dX6_note_28 : decode cX6_note 28 = .ok (.iinc 1 1, 3) := by decide +kernel
theorem dX6_note_31 : decode cX6_note 31 = .ok (.goto (-29), 3) := by decide +kernel
theorem dX6_note_34 : decode cX6_note 34 = .ok (.aload_n 0, 1) := by decide +kernel
theorem dX6_note_35 : decode cX6_note 35 = .ok (.dup, 1) := by decide +kernel
theorem dX6_note_36 : decode cX6_note 36 = .ok (.getfield 162, 3) := by decide +kernel
theorem dX6_note_39 : decode cX6_note 39 = .ok (.iconst 1, 1) := by decide +kernel
theorem dX6_note_40 : decode cX6_note 40 = .ok (.iadd, 1) := by decide +kernel
theorem dX6_note_41 : decode cX6_note 41 = .ok (.putfield 162, 3) := by decide +kernel
theorem dX6_note_44 : decode cX6_note 44 = .ok (.return_, 1) := by decide +kernel
theorem dX6_day_0 : decode cX6_day 0 = .ok (.aload_n 0, 1) := by decide +kernel
theorem dX6_day_1 : decode cX6_day 1 = .ok (.getfield 156, 3) := by decide +kernel
theorem dX6_day_4 : decode cX6_day 4 = .ok (.ifCond .ne 6, 3) := by decide +kernel
theorem dX6_day_7 : decode cX6_day 7 = .ok (.bipush (-4), 2) := by decide +kernel
theorem dX6_day_9 : decode cX6_day 9 = .ok (.ireturn, 1) := by decide +kernel
theorem dX6_day_10 : decode cX6_day 10 = .ok (.aload_n 0, 1) := by decide +kernel
theorem dX6_day_11 : decode cX6_day 11 = .ok (.getfield 162, 3) := by decide +kernel
theorem dX6_day_14 : decode cX6_day 14 = .ok (.bipush 40, 2) := by decide +kernel
theorem dX6_day_16 : decode cX6_day 16 = .ok (.if_icmp .ne 6, 3) := by decide +kernel
theorem dX6_day_19 : decode cX6_day 19 = .ok (.bipush (-2), 2) := by decide +kernel
theorem dX6_day_21 : decode cX6_day 21 = .ok (.ireturn, 1) := by decide +kernel
theorem dX6_day_22 : decode cX6_day 22 = .ok (.aload_n 0, 1) := by decide +kernel
theorem dX6_day_23 : decode cX6_day 23 = .ok (.invokevirtual 223, 3) := by decide +kernel
theorem dX6_day_26 : decode cX6_day 26 = .ok (.aload_n 0, 1) := by decide +kernel
theorem dX6_day_27 : decode cX6_day 27 = .ok (.getfield 43, 3) := by decide +kernel
theorem dX6_day_30 : decode cX6_day 30 = .ok (.iconst 0, 1) := by decide +kernel
theorem dX6_day_31 : decode cX6_day 31 = .ok (.dup2, 1) := by decide +kernel
theorem dX6_day_32 : decode cX6_day 32 = .ok (.iaload, 1) := by decide +kernel
theorem dX6_day_33 : decode cX6_day 33 = .ok (.iconst 1, 1) := by decide +kernel
theorem dX6_day_34 : decode cX6_day 34 = .ok (.iadd, 1) := by decide +kernel
theorem dX6_day_35 : decode cX6_day 35 = .ok (.iastore, 1) := by decide +kernel
theorem dX6_day_36 : decode cX6_day 36 = .ok (.aload_n 0, 1) := by decide +kernel
theorem dX6_day_37 : decode cX6_day 37 = .ok (.getfield 43, 3) := by decide +kernel
theorem dX6_day_40 : decode cX6_day 40 = .ok (.iconst 0, 1) := by decide +kernel
theorem dX6_day_41 : decode cX6_day 41 = .ok (.iaload, 1) := by decide +kernel
theorem dX6_day_42 : decode cX6_day 42 = .ok (.ireturn, 1) := by decide +kernel
theorem dX6_isOnShelf_0 : decode cX6_isOnShelf 0 = .ok (.aload_n 0, 1) := by decide +kernel
theorem dX6_isOnShelf_1 : decode cX6_isOnShelf 1 = .ok (.aload_n 0, 1) := by decide +kernel
theorem dX6_isOnShelf_2 : decode cX6_isOnShelf 2 = .ok (.getfield 43, 3) := by decide +kernel
theorem dX6_isOnShelf_5 : decode cX6_isOnShelf 5 = .ok (.iconst 0, 1) := by decide +kernel
theorem dX6_isOnShelf_6 : decode cX6_isOnShelf 6 = .ok (.iaload, 1) := by decide +kernel
theorem dX6_isOnShelf_7 : decode cX6_isOnShelf 7 = .ok (.invokevirtual 213, 3) := by decide +kernel
theorem dX6_isOnShelf_10 : decode cX6_isOnShelf 10 = .ok (.iload_n 1, 1) := by decide +kernel
theorem dX6_isOnShelf_11 : decode cX6_isOnShelf 11 = .ok (.invokestatic 136, 3) := by decide +kernel
theorem dX6_isOnShelf_14 : decode cX6_isOnShelf 14 = .ok (.ireturn, 1) := by decide +kernel
theorem dX6_openNow_0 : decode cX6_openNow 0 = .ok (.aload_n 0, 1) := by decide +kernel
theorem dX6_openNow_1 : decode cX6_openNow 1 = .ok (.invokevirtual 223, 3) := by decide +kernel
theorem dX6_openNow_4 : decode cX6_openNow 4 = .ok (.aload_n 0, 1) := by decide +kernel
theorem dX6_openNow_5 : decode cX6_openNow 5 = .ok (.getfield 43, 3) := by decide +kernel
theorem dX6_openNow_8 : decode cX6_openNow 8 = .ok (.iconst 1, 1) := by decide +kernel
theorem dX6_openNow_9 : decode cX6_openNow 9 = .ok (.dup2, 1) := by decide +kernel
theorem dX6_openNow_10 : decode cX6_openNow 10 = .ok (.iaload, 1) := by decide +kernel
theorem dX6_openNow_11 : decode cX6_openNow 11 = .ok (.iconst 1, 1) := by decide +kernel
theorem dX6_openNow_12 : decode cX6_openNow 12 = .ok (.iload_n 1, 1) := by decide +kernel
theorem dX6_openNow_13 : decode cX6_openNow 13 = .ok (.ishl, 1) := by decide +kernel
theorem dX6_openNow_14 : decode cX6_openNow 14 = .ok (.ior, 1) := by decide +kernel
theorem dX6_openNow_15 : decode cX6_openNow 15 = .ok (.iastore, 1) := by decide +kernel
theorem dX6_openNow_16 : decode cX6_openNow 16 = .ok (.aload_n 0, 1) := by decide +kernel
theorem dX6_openNow_17 : decode cX6_openNow 17 = .ok (.getfield 43, 3) := by decide +kernel
theorem dX6_openNow_20 : decode cX6_openNow 20 = .ok (.iconst 5, 1) := by decide +kernel
theorem dX6_openNow_21 : decode cX6_openNow 21 = .ok (.iload_n 1, 1) := by decide +kernel
theorem dX6_openNow_22 : decode cX6_openNow 22 = .ok (.iadd, 1) := by decide +kernel
theorem dX6_openNow_23 : decode cX6_openNow 23 = .ok (.iload_n 2, 1) := by decide +kernel
theorem dX6_openNow_24 : decode cX6_openNow 24 = .ok (.iastore, 1) := by decide +kernel
theorem dX6_openNow_25 : decode cX6_openNow 25 = .ok (.aload_n 0, 1) := by decide +kernel
theorem dX6_openNow_26 : decode cX6_openNow 26 = .ok (.getfield 43, 3) := by decide +kernel
theorem dX6_openNow_29 : decode cX6_openNow 29 = .ok (.iconst 3, 1) := by decide +kernel
theorem dX6_openNow_30 : decode cX6_openNow 30 = .ok (.dup2, 1) := by decide +kernel
theorem dX6_openNow_31 : decode cX6_openNow 31 = .ok (.iaload, 1) := by decide +kernel
theorem dX6_openNow_32 : decode cX6_openNow 32 = .ok (.iload_n 2, 1) := by decide +kernel
theorem dX6_openNow_33 : decode cX6_openNow 33 = .ok (.ifCond .ge 7, 3) := by decide +kernel
theorem dX6_openNow_36 : decode cX6_openNow 36 = .ok (.iconst 0, 1) := by decide +kernel
theorem dX6_openNow_37 : decode cX6_openNow 37 = .ok (.goto 6, 3) := by decide +kernel
theorem dX6_openNow_40 : decode cX6_openNow 40 = .ok (.iconst 1, 1) := by decide +kernel
theorem dX6_openNow_41 : decode cX6_openNow 41 = .ok (.iload_n 2, 1) := by decide +kernel
theorem dX6_openNow_42 : decode cX6_openNow 42 = .ok (.ishl, 1) := by decide +kernel
theorem dX6_openNow_43 : decode cX6_openNow 43 = .ok (.ior, 1) := by decide +kernel
theorem dX6_openNow_44 : decode cX6_openNow 44 = .ok (.iastore, 1) := by decide +kernel
theorem dX6_openNow_45 : decode cX6_openNow 45 = .ok (.aload_n 0, 1) := by decide +kernel
theorem dX6_openNow_46 : decode cX6_openNow 46 = .ok (.getfield 43, 3) := by decide +kernel
theorem dX6_openNow_49 : decode cX6_openNow 49 = .ok (.iconst 4, 1) := by decide +kernel
theorem dX6_openNow_50 : decode cX6_openNow 50 = .ok (.iload_n 2, 1) := by decide +kernel
theorem dX6_openNow_51 : decode cX6_openNow 51 = .ok (.ifCond .lt 20, 3) := by decide +kernel
theorem dX6_openNow_54 : decode cX6_openNow 54 = .ok (.aload_n 0, 1) := by decide +kernel
theorem dX6_openNow_55 : decode cX6_openNow 55 = .ok (.getfield 22, 3) := by decide +kernel
theorem dX6_openNow_58 : decode cX6_openNow 58 = .ok (.iload_n 2, 1) := by decide +kernel
theorem dX6_openNow_59 : decode cX6_openNow 59 = .ok (.iaload, 1) := by decide +kernel
theorem dX6_openNow_60 : decode cX6_openNow 60 = .ok (.iconst 1, 1) := by decide +kernel
theorem dX6_openNow_61 : decode cX6_openNow 61 = .ok (.invokestatic 195, 3) := by decide +kernel
theorem dX6_openNow_64 : decode cX6_openNow 64 = .ok (.ifCond .eq 7, 3) := by decide +kernel
theorem dX6_openNow_67 : decode cX6_openNow 67 = .ok (.iconst 0, 1) := by decide +kernel
theorem dX6_openNow_68 : decode cX6_openNow 68 = .ok (.goto 11, 3) := by decide +kernel
theorem dX6_openNow_71 : decode cX6_openNow 71 = .ok (.aload_n 0, 1) := by decide +kernel
theorem dX6_openNow_72 : decode cX6_openNow 72 = .ok (.getfield 43, 3) := by decide +kernel
theorem dX6_openNow_75 : decode cX6_openNow 75 = .ok (.iconst 4, 1) := by decide +kernel
theorem dX6_openNow_76 : decode cX6_openNow 76 = .ok (.iaload, 1) := by decide +kernel
theorem dX6_openNow_77 : decode cX6_openNow 77 = .ok (.iconst 1, 1) := by decide +kernel
theorem dX6_openNow_78 : decode cX6_openNow 78 = .ok (.iadd, 1) := by decide +kernel
theorem dX6_openNow_79 : decode cX6_openNow 79 = .ok (.iastore, 1) := by decide +kernel
theorem dX6_openNow_80 : decode cX6_openNow 80 = .ok (.return_, 1) := by decide +kernel
theorem dX6_open_0 : decode cX6_open 0 = .ok (.aload_n 0, 1) := by decide +kernel
theorem dX6_open_1 : decode cX6_open 1 = .ok (.iload_n 1, 1) := by decide +kernel
theorem dX6_open_2 : decode cX6_open 2 = .ok (.invokevirtual 189, 3) := by decide +kernel
theorem dX6_open_5 : decode cX6_open 5 = .ok (.ifCond .eq 17, 3) := by decide +kernel
theorem dX6_open_8 : decode cX6_open 8 = .ok (.iload_n 2, 1) := by decide +kernel
theorem dX6_open_9 : decode cX6_open 9 = .ok (.bipush (-9), 2) := by decide +kernel
theorem dX6_open_11 : decode cX6_open 11 = .ok (.if_icmp .eq 13, 3) := by decide +kernel
theorem dX6_open_14 : decode cX6_open 14 = .ok (.aload_n 0, 1) := by decide +kernel
theorem dX6_open_15 : decode cX6_open 15 = .ok (.iload_n 2, 1) := by decide +kernel
theorem dX6_open_16 : decode cX6_open 16 = .ok (.invokevirtual 168, 3) := by decide +kernel
theorem dX6_open_19 : decode cX6_open 19 = .ok (.ifCond .ne 5, 3) := by decide +kernel
theorem dX6_open_22 : decode cX6_open 22 = .ok (.iconst (-1), 1) := by decide +kernel
theorem dX6_open_23 : decode cX6_open 23 = .ok (.ireturn, 1) := by decide +kernel
theorem dX6_open_24 : decode cX6_open 24 = .ok (.aload_n 0, 1) := by decide +kernel
theorem dX6_open_25 : decode cX6_open 25 = .ok (.iload_n 1, 1) := by decide +kernel
theorem dX6_open_26 : decode cX6_open 26 = .ok (.invokevirtual 226, 3) := by decide +kernel
theorem dX6_open_29 : decode cX6_open 29 = .ok (.ifCond .eq 16, 3) := by decide +kernel
theorem dX6_open_32 : decode cX6_open 32 = .ok (.iload_n 2, 1) := by decide +kernel
theorem dX6_open_33 : decode cX6_open 33 = .ok (.ifCond .lt 15, 3) := by decide +kernel
theorem dX6_open_36 : decode cX6_open 36 = .ok (.aload_n 0, 1) := by decide +kernel
theorem dX6_open_37 : decode cX6_open 37 = .ok (.iload_n 2, 1) := by decide +kernel
theorem dX6_open_38 : decode cX6_open 38 = .ok (.iload_n 1, 1) := by decide +kernel
theorem dX6_open_39 : decode cX6_open 39 = .ok (.invokevirtual 216, 3) := by decide +kernel
theorem dX6_open_42 : decode cX6_open 42 = .ok (.ifCond .ne 6, 3) := by decide +kernel
theorem dX6_open_45 : decode cX6_open 45 = .ok (.bipush (-4), 2) := by decide +kernel
theorem dX6_open_47 : decode cX6_open 47 = .ok (.ireturn, 1) := by decide +kernel
theorem dX6_open_48 : decode cX6_open 48 = .ok (.aload_n 0, 1) := by decide +kernel
theorem dX6_open_49 : decode cX6_open 49 = .ok (.getfield 162, 3) := by decide +kernel
theorem dX6_open_52 : decode cX6_open 52 = .ok (.bipush 40, 2) := by decide +kernel
theorem dX6_open_54 : decode cX6_open 54 = .ok (.if_icmp .ne 6, 3) := by decide +kernel
theorem dX6_open_57 : decode cX6_open 57 = .ok (.bipush (-2), 2) := by decide +kernel
theorem dX6_open_59 : decode cX6_open 59 = .ok (.ireturn, 1) := by decide +kernel
theorem dX6_open_60 : decode cX6_open 60 = .ok (.aload_n 0, 1) := by decide +kernel
theorem dX6_open_61 : decode cX6_open 61 = .ok (.iload_n 1, 1) := by decide +kernel
theorem dX6_open_62 : decode cX6_open 62 = .ok (.iload_n 2, 1) := by decide +kernel
theorem dX6_open_63 : decode cX6_open 63 = .ok (.invokevirtual 229, 3) := by decide +kernel
theorem dX6_open_66 : decode cX6_open 66 = .ok (.aload_n 0, 1) := by decide +kernel
theorem dX6_open_67 : decode cX6_open 67 = .ok (.getfield 43, 3) := by decide +kernel
theorem dX6_open_70 : decode cX6_open 70 = .ok (.iconst 3, 1) := by decide +kernel
theorem dX6_open_71 : decode cX6_open 71 = .ok (.iaload, 1) := by decide +kernel
theorem dX6_open_72 : decode cX6_open 72 = .ok (.ireturn, 1) := by decide +kernel
theorem dX6_send_0 : decode cX6_send 0 = .ok (.aload_n 0, 1) := by decide +kernel
theorem dX6_send_1 : decode cX6_send 1 = .ok (.iload_n 1, 1) := by decide +kernel
theorem dX6_send_2 : decode cX6_send 2 = .ok (.invokevirtual 189, 3) := by decide +kernel
theorem dX6_send_5 : decode cX6_send 5 = .ok (.ifCond .ne 5, 3) := by decide +kernel
theorem dX6_send_8 : decode cX6_send 8 = .ok (.iconst (-1), 1) := by decide +kernel
theorem dX6_send_9 : decode cX6_send 9 = .ok (.ireturn, 1) := by decide +kernel
theorem dX6_send_10 : decode cX6_send 10 = .ok (.aload_n 0, 1) := by decide +kernel
theorem dX6_send_11 : decode cX6_send 11 = .ok (.iload_n 1, 1) := by decide +kernel
theorem dX6_send_12 : decode cX6_send 12 = .ok (.invokevirtual 226, 3) := by decide +kernel
theorem dX6_send_15 : decode cX6_send 15 = .ok (.ifCond .ne 6, 3) := by decide +kernel
theorem dX6_send_18 : decode cX6_send 18 = .ok (.bipush (-4), 2) := by decide +kernel
theorem dX6_send_20 : decode cX6_send 20 = .ok (.ireturn, 1) := by decide +kernel
theorem dX6_send_21 : decode cX6_send 21 = .ok (.aload_n 0, 1) := by decide +kernel
theorem dX6_send_22 : decode cX6_send 22 = .ok (.getfield 162, 3) := by decide +kernel
theorem dX6_send_25 : decode cX6_send 25 = .ok (.bipush 40, 2) := by decide +kernel
theorem dX6_send_27 : decode cX6_send 27 = .ok (.if_icmp .ne 6, 3) := by decide +kernel
theorem dX6_send_30 : decode cX6_send 30 = .ok (.bipush (-2), 2) := by decide +kernel
theorem dX6_send_32 : decode cX6_send 32 = .ok (.ireturn, 1) := by decide +kernel
theorem dX6_send_33 : decode cX6_send 33 = .ok (.aload_n 0, 1) := by decide +kernel
theorem dX6_send_34 : decode cX6_send 34 = .ok (.invokevirtual 223, 3) := by decide +kernel
