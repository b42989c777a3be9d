theorem dX6_send_37 : decode cX6_send 37 = .ok (.aload_n 0, 1) := by decide +kernel
theorem dX6_send_38 : decode cX6_send 38 = .ok (.getfield 43, 3) := by decide +kernel
theorem dX6_send_41 : decode cX6_send 41 = .ok (.iconst 2, 1) := by decide +kernel
theorem dX6_send_42 : decode cX6_send 42 = .ok (.dup2, 1) := by decide +kernel
theorem dX6_send_43 : decode cX6_send 43 = .ok (.iaload, 1) := by decide +kernel
theorem dX6_send_44 : decode cX6_send 44 = .ok (.iconst 1, 1) := by decide +kernel
theorem dX6_send_45 : decode cX6_send 45 = .ok (.iload_n 1, 1) := by decide +kernel
theorem dX6_send_46 : decode cX6_send 46 = .ok (.ishl, 1) := by decide +kernel
theorem dX6_send_47 : decode cX6_send 47 = .ok (.ior, 1) := by decide +kernel
theorem dX6_send_48 : decode cX6_send 48 = .ok (.iastore, 1) := by decide +kernel
theorem dX6_send_49 : decode cX6_send 49 = .ok (.aload_n 0, 1) := by decide +kernel
theorem dX6_send_50 : decode cX6_send 50 = .ok (.aload_n 0, 1) := by decide +kernel
theorem dX6_send_51 : decode cX6_send 51 = .ok (.getfield 43, 3) := by decide +kernel
theorem dX6_send_54 : decode cX6_send 54 = .ok (.iconst 0, 1) := by decide +kernel
theorem dX6_send_55 : decode cX6_send 55 = .ok (.iaload, 1) := by decide +kernel
theorem dX6_send_56 : decode cX6_send 56 = .ok (.invokevirtual 213, 3) := by decide +kernel
theorem dX6_send_59 : decode cX6_send 59 = .ok (.invokestatic 200, 3) := by decide +kernel
theorem dX6_send_62 : decode cX6_send 62 = .ok (.ireturn, 1) := by decide +kernel
theorem dX6_undo_0 : decode cX6_undo 0 = .ok (.iload_n 1, 1) := by decide +kernel
theorem dX6_undo_1 : decode cX6_undo 1 = .ok (.i2l, 1) := by decide +kernel
theorem dX6_undo_2 : decode cX6_undo 2 = .ok (.lconst 0, 1) := by decide +kernel
theorem dX6_undo_3 : decode cX6_undo 3 = .ok (.aload_n 0, 1) := by decide +kernel
theorem dX6_undo_4 : decode cX6_undo 4 = .ok (.getfield 162, 3) := by decide +kernel
theorem dX6_undo_7 : decode cX6_undo 7 = .ok (.i2l, 1) := by decide +kernel
theorem dX6_undo_8 : decode cX6_undo 8 = .ok (.invokestatic 93, 3) := by decide +kernel
theorem dX6_undo_11 : decode cX6_undo 11 = .ok (.ifCond .ne 5, 3) := by decide +kernel
theorem dX6_undo_14 : decode cX6_undo 14 = .ok (.iconst (-1), 1) := by decide +kernel
theorem dX6_undo_15 : decode cX6_undo 15 = .ok (.ireturn, 1) := by decide +kernel
theorem dX6_undo_16 : decode cX6_undo 16 = .ok (.aload_n 0, 1) := by decide +kernel
theorem dX6_undo_17 : decode cX6_undo 17 = .ok (.getfield 162, 3) := by decide +kernel
theorem dX6_undo_20 : decode cX6_undo 20 = .ok (.iload_n 1, 1) := by decide +kernel
theorem dX6_undo_21 : decode cX6_undo 21 = .ok (.isub, 1) := by decide +kernel
theorem dX6_undo_22 : decode cX6_undo 22 = .ok (.istore_n 2, 1) := by decide +kernel
theorem dX6_undo_23 : decode cX6_undo 23 = .ok (.iconst 0, 1) := by decide +kernel
theorem dX6_undo_24 : decode cX6_undo 24 = .ok (.istore_n 3, 1) := by decide +kernel
theorem dX6_undo_25 : decode cX6_undo 25 = .ok (.iload_n 3, 1) := by decide +kernel
theorem dX6_undo_26 : decode cX6_undo 26 = .ok (.bipush 12, 2) := by decide +kernel
theorem dX6_undo_28 : decode cX6_undo 28 = .ok (.if_icmp .ge 30, 3) := by decide +kernel
theorem dX6_undo_31 : decode cX6_undo 31 = .ok (.iload_n 2, 1) := by decide +kernel
theorem dX6_undo_32 : decode cX6_undo 32 = .ok (.ifCond .le 26, 3) := by decide +kernel
theorem dX6_undo_35 : decode cX6_undo 35 = .ok (.aload_n 0, 1) := by decide +kernel
theorem dX6_undo_36 : decode cX6_undo 36 = .ok (.getfield 43, 3) := by decide +kernel
theorem dX6_undo_39 : decode cX6_undo 39 = .ok (.iload_n 3, 1) := by decide +kernel
theorem dX6_undo_40 : decode cX6_undo 40 = .ok (.aload_n 0, 1) := by decide +kernel
theorem dX6_undo_41 : decode cX6_undo 41 = .ok (.getfield 46, 3) := by decide +kernel
theorem dX6_undo_44 : decode cX6_undo 44 = .ok (.bipush 12, 2) := by decide +kernel
theorem dX6_undo_46 : decode cX6_undo 46 = .ok (.iload_n 1, 1) := by decide +kernel
theorem dX6_undo_47 : decode cX6_undo 47 = .ok (.imul, 1) := by decide +kernel
theorem dX6_undo_48 : decode cX6_undo 48 = .ok (.iload_n 3, 1) := by decide +kernel
theorem dX6_undo_49 : decode cX6_undo 49 = .ok (.iadd, 1) := by decide +kernel
theorem dX6_undo_50 : decode cX6_undo 50 = .ok (.iaload, 1) := by decide +kernel
theorem dX6_undo_51 : decode cX6_undo 51 = .ok (.iastore, 1) := by decide +kernel
theorem dX6_undo_52 : decode cX6_undo 52 = .ok (.iinc 3 1, 3) := by decide +kernel
theorem dX6_undo_55 : decode cX6_undo 55 = .ok (.goto (-30), 3) := by decide +kernel
theorem dX6_undo_58 : decode cX6_undo 58 = .ok (.aload_n 0, 1) := by decide +kernel
theorem dX6_undo_59 : decode cX6_undo 59 = .ok (.iload_n 1, 1) := by decide +kernel
theorem dX6_undo_60 : decode cX6_undo 60 = .ok (.putfield 162, 3) := by decide +kernel
theorem dX6_undo_63 : decode cX6_undo 63 = .ok (.iload_n 2, 1) := by decide +kernel
theorem dX6_undo_64 : decode cX6_undo 64 = .ok (.ireturn, 1) := by decide +kernel
theorem dX6_shelf_0 : decode cX6_shelf 0 = .ok (.aload_n 0, 1) := by decide +kernel
theorem dX6_shelf_1 : decode cX6_shelf 1 = .ok (.getfield 156, 3) := by decide +kernel
theorem dX6_shelf_4 : decode cX6_shelf 4 = .ok (.ifCond .ne 8, 3) := by decide +kernel
theorem dX6_shelf_7 : decode cX6_shelf 7 = .ok (.bipush (-4), 2) := by decide +kernel
theorem dX6_shelf_9 : decode cX6_shelf 9 = .ok (.goto 23, 3) := by decide +kernel
theorem dX6_shelf_12 : decode cX6_shelf 12 = .ok (.aload_n 0, 1) := by decide +kernel
theorem dX6_shelf_13 : decode cX6_shelf 13 = .ok (.aload_n 0, 1) := by decide +kernel
theorem dX6_shelf_14 : decode cX6_shelf 14 = .ok (.aload_n 0, 1) := by decide +kernel
theorem dX6_shelf_15 : decode cX6_shelf 15 = .ok (.getfield 43, 3) := by decide +kernel
theorem dX6_shelf_18 : decode cX6_shelf 18 = .ok (.iconst 0, 1) := by decide +kernel
theorem dX6_shelf_19 : decode cX6_shelf 19 = .ok (.iaload, 1) := by decide +kernel
theorem dX6_shelf_20 : decode cX6_shelf 20 = .ok (.invokevirtual 213, 3) := by decide +kernel
theorem dX6_shelf_23 : decode cX6_shelf 23 = .ok (.aload_n 0, 1) := by decide +kernel
theorem dX6_shelf_24 : decode cX6_shelf 24 = .ok (.getfield 43, 3) := by decide +kernel
theorem dX6_shelf_27 : decode cX6_shelf 27 = .ok (.iconst 0, 1) := by decide +kernel
theorem dX6_shelf_28 : decode cX6_shelf 28 = .ok (.iaload, 1) := by decide +kernel
theorem dX6_shelf_29 : decode cX6_shelf 29 = .ok (.invokevirtual 111, 3) := by decide +kernel
theorem dX6_shelf_32 : decode cX6_shelf 32 = .ok (.ireturn, 1) := by decide +kernel
theorem dX6_carry_0 : decode cX6_carry 0 = .ok (.iconst 0, 1) := by decide +kernel
theorem dX6_carry_1 : decode cX6_carry 1 = .ok (.istore 6, 2) := by decide +kernel
theorem dX6_carry_3 : decode cX6_carry 3 = .ok (.iload 6, 2) := by decide +kernel
theorem dX6_carry_5 : decode cX6_carry 5 = .ok (.iload 5, 2) := by decide +kernel
theorem dX6_carry_7 : decode cX6_carry 7 = .ok (.if_icmp .ge 22, 3) := by decide +kernel
theorem dX6_carry_10 : decode cX6_carry 10 = .ok (.aload_n 1, 1) := by decide +kernel
theorem dX6_carry_11 : decode cX6_carry 11 = .ok (.iload_n 2, 1) := by decide +kernel
theorem dX6_carry_12 : decode cX6_carry 12 = .ok (.iload 6, 2) := by decide +kernel
theorem dX6_carry_14 : decode cX6_carry 14 = .ok (.iadd, 1) := by decide +kernel
theorem dX6_carry_15 : decode cX6_carry 15 = .ok (.aload_n 3, 1) := by decide +kernel
theorem dX6_carry_16 : decode cX6_carry 16 = .ok (.iload 4, 2) := by decide +kernel
theorem dX6_carry_18 : decode cX6_carry 18 = .ok (.iload 6, 2) := by decide +kernel
theorem dX6_carry_20 : decode cX6_carry 20 = .ok (.iadd, 1) := by decide +kernel
theorem dX6_carry_21 : decode cX6_carry 21 = .ok (.iaload, 1) := by decide +kernel
theorem dX6_carry_22 : decode cX6_carry 22 = .ok (.iastore, 1) := by decide +kernel
theorem dX6_carry_23 : decode cX6_carry 23 = .ok (.iinc 6 1, 3) := by decide +kernel
theorem dX6_carry_26 : decode cX6_carry 26 = .ok (.goto (-23), 3) := by decide +kernel
theorem dX6_carry_29 : decode cX6_carry 29 = .ok (.return_, 1) := by decide +kernel
theorem dX6_keep_0 : decode cX6_keep 0 = .ok (.iload_n 1, 1) := by decide +kernel
theorem dX6_keep_1 : decode cX6_keep 1 = .ok (.i2l, 1) := by decide +kernel
theorem dX6_keep_2 : decode cX6_keep 2 = .ok (.lconst 0, 1) := by decide +kernel
theorem dX6_keep_3 : decode cX6_keep 3 = .ok (.ldc2_w 219, 3) := by decide +kernel
theorem dX6_keep_6 : decode cX6_keep 6 = .ok (.invokestatic 93, 3) := by decide +kernel
theorem dX6_keep_9 : decode cX6_keep 9 = .ok (.ifCond .ne 5, 3) := by decide +kernel
theorem dX6_keep_12 : decode cX6_keep 12 = .ok (.iconst (-1), 1) := by decide +kernel
theorem dX6_keep_13 : decode cX6_keep 13 = .ok (.ireturn, 1) := by decide +kernel
theorem dX6_keep_14 : decode cX6_keep 14 = .ok (.aload_n 0, 1) := by decide +kernel
theorem dX6_keep_15 : decode cX6_keep 15 = .ok (.getfield 156, 3) := by decide +kernel
theorem dX6_keep_18 : decode cX6_keep 18 = .ok (.ifCond .ne 6, 3) := by decide +kernel
theorem dX6_keep_21 : decode cX6_keep 21 = .ok (.bipush (-4), 2) := by decide +kernel
theorem dX6_keep_23 : decode cX6_keep 23 = .ok (.ireturn, 1) := by decide +kernel
theorem dX6_keep_24 : decode cX6_keep 24 = .ok (.aload_n 0, 1) := by decide +kernel
theorem dX6_keep_25 : decode cX6_keep 25 = .ok (.aload_n 0, 1) := by decide +kernel
theorem dX6_keep_26 : decode cX6_keep 26 = .ok (.getfield 69, 3) := by decide +kernel
theorem dX6_keep_29 : decode cX6_keep 29 = .ok (.sipush 496, 3) := by decide +kernel
theorem dX6_keep_32 : decode cX6_keep 32 = .ok (.iload_n 1, 1) := by decide +kernel
theorem dX6_keep_33 : decode cX6_keep 33 = .ok (.imul, 1) := by decide +kernel
theorem dX6_keep_34 : decode cX6_keep 34 = .ok (.aload_n 0, 1) := by decide +kernel
theorem dX6_keep_35 : decode cX6_keep 35 = .ok (.getfield 46, 3) := by decide +kernel
theorem dX6_keep_38 : decode cX6_keep 38 = .ok (.iconst 0, 1) := by decide +kernel
theorem dX6_keep_39 : decode cX6_keep 39 = .ok (.sipush 480, 3) := by decide +kernel
theorem dX6_keep_42 : decode cX6_keep 42 = .ok (.invokevirtual 233, 3) := by decide +kernel
theorem dX6_keep_45 : decode cX6_keep 45 = .ok (.aload_n 0, 1) := by decide +kernel
theorem dX6_keep_46 : decode cX6_keep 46 = .ok (.aload_n 0, 1) := by decide +kernel
theorem dX6_keep_47 : decode cX6_keep 47 = .ok (.getfield 69, 3) := by decide +kernel
theorem dX6_keep_50 : decode cX6_keep 50 = .ok (.sipush 496, 3) := by decide +kernel
theorem dX6_keep_53 : decode cX6_keep 53 = .ok (.iload_n 1, 1) := by decide +kernel
theorem dX6_keep_54 : decode cX6_keep 54 = .ok (.imul, 1) := by decide +kernel
theorem dX6_keep_55 : decode cX6_keep 55 = .ok (.sipush 480, 3) := by decide +kernel
theorem dX6_keep_58 : decode cX6_keep 58 = .ok (.iadd, 1) := by decide +kernel
theorem dX6_keep_59 : decode cX6_keep 59 = .ok (.aload_n 0, 1) := by decide +kernel
theorem dX6_keep_60 : decode cX6_keep 60 = .ok (.getfield 43, 3) := by decide +kernel
theorem dX6_keep_63 : decode cX6_keep 63 = .ok (.iconst 0, 1) := by decide +kernel
theorem dX6_keep_64 : decode cX6_keep 64 = .ok (.bipush 12, 2) := by decide +kernel
theorem dX6_keep_66 : decode cX6_keep 66 = .ok (.invokevirtual 233, 3) := by decide +kernel
theorem dX6_keep_69 : decode cX6_keep 69 = .ok (.aload_n 0, 1) := by decide +kernel
theorem dX6_keep_70 : decode cX6_keep 70 = .ok (.aload_n 0, 1) := by decide +kernel
theorem dX6_keep_71 : decode cX6_keep 71 = .ok (.getfield 69, 3) := by decide +kernel
theorem dX6_keep_74 : decode cX6_keep 74 = .ok (.sipush 496, 3) := by decide +kernel
theorem dX6_keep_77 : decode cX6_keep 77 = .ok (.iload_n 1, 1) := by decide +kernel
theorem dX6_keep_78 : decode cX6_keep 78 = .ok (.imul, 1) := by decide +kernel
theorem dX6_keep_79 : decode cX6_keep 79 = .ok (.sipush 492, 3) := by decide +kernel
theorem dX6_keep_82 : decode cX6_keep 82 = .ok (.iadd, 1) := by decide +kernel
theorem dX6_keep_83 : decode cX6_keep 83 = .ok (.aload_n 0, 1) := by decide +kernel
theorem dX6_keep_84 : decode cX6_keep 84 = .ok (.getfield 40, 3) := by decide +kernel
theorem dX6_keep_87 : decode cX6_keep 87 = .ok (.iconst 0, 1) := by decide +kernel
theorem dX6_keep_88 : decode cX6_keep 88 = .ok (.iconst 3, 1) := by decide +kernel
theorem dX6_keep_89 : decode cX6_keep 89 = .ok (.invokevirtual 233, 3) := by decide +kernel
theorem dX6_keep_92 : decode cX6_keep 92 = .ok (.aload_n 0, 1) := by decide +kernel
theorem dX6_keep_93 : decode cX6_keep 93 = .ok (.getfield 69, 3) := by decide +kernel
theorem dX6_keep_96 : decode cX6_keep 96 = .ok (.sipush 496, 3) := by decide +kernel
theorem dX6_keep_99 : decode cX6_keep 99 = .ok (.iload_n 1, 1) := by decide +kernel
theorem dX6_keep_100 : decode cX6_keep 100 = .ok (.imul, 1) := by decide +kernel
theorem dX6_keep_101 : decode cX6_keep 101 = .ok (.sipush 495, 3) := by decide +kernel
theorem dX6_keep_104 : decode cX6_keep 104 = .ok (.iadd, 1) := by decide +kernel
theorem dX6_keep_105 : decode cX6_keep 105 = .ok (.aload_n 0, 1) := by decide +kernel
theorem dX6_keep_106 : decode cX6_keep 106 = .ok (.getfield 162, 3) := by decide +kernel
theorem dX6_keep_109 : decode cX6_keep 109 = .ok (.iastore, 1) := by decide +kernel
theorem dX6_keep_110 : decode cX6_keep 110 = .ok (.aload_n 0, 1) := by decide +kernel
theorem dX6_keep_111 : decode cX6_keep 111 = .ok (.getfield 65, 3) := by decide +kernel
theorem dX6_keep_114 : decode cX6_keep 114 = .ok (.iload_n 1, 1) := by decide +kernel
theorem dX6_keep_115 : decode cX6_keep 115 = .ok (.iconst 1, 1) := by decide +kernel
theorem dX6_keep_116 : decode cX6_keep 116 = .ok (.bastore, 1) := by decide +kernel
theorem dX6_keep_117 : decode cX6_keep 117 = .ok (.aload_n 0, 1) := by decide +kernel
theorem dX6_keep_118 : decode cX6_keep 118 = .ok (.getfield 162, 3) := by decide +kernel
theorem dX6_keep_121 : decode cX6_keep 121 = .ok (.ireturn, 1) := by decide +kernel
theorem dX6_on_0 : decode cX6_on 0 = .ok (.iload_n 1, 1) := by decide +kernel
theorem dX6_on_1 : decode cX6_on 1 = .ok (.i2l, 1) := by decide +kernel
theorem dX6_on_2 : decode cX6_on 2 = .ok (.lconst 0, 1) := by decide +kernel
theorem dX6_on_3 : decode cX6_on 3 = .ok (.ldc2_w 219, 3) := by decide +kernel
theorem dX6_on_6 : decode cX6_on 6 = .ok (.invokestatic 93, 3) := by decide +kernel
theorem dX6_on_9 : decode cX6_on 9 = .ok (.ifCond .ne 5, 3) := by decide +kernel
theorem dX6_on_12 : decode cX6_on 12 = .ok (.iconst (-1), 1) := by decide +kernel
theorem dX6_on_13 : decode cX6_on 13 = .ok (.ireturn, 1) := by decide +kernel
theorem dX6_on_14 : decode cX6_on 14 = .ok (.aload_n 0, 1) := by decide +kernel
theorem dX6_on_15 : decode cX6_on 15 = .ok (.getfield 65, 3) := by decide +kernel
theorem dX6_on_18 : decode cX6_on 18 = .ok (.iload_n 1, 1) := by decide +kernel
theorem dX6_on_19 : decode cX6_on 19 = .ok (.baload, 1) := by decide +kernel
theorem dX6_on_20 : decode cX6_on 20 = .ok (.ifCond .ne 9, 3) := by decide +kernel
theorem dX6_on_23 : decode cX6_on 23 = .ok (.aload_n 0, 1) := by decide +kernel
theorem dX6_on_24 : decode cX6_on 24 = .ok (.iconst 1, 1) := by decide +kernel
theorem dX6_on_25 : decode cX6_on 25 = .ok (.invokevirtual 103, 3) := by decide +kernel
theorem dX6_on_28 : decode cX6_on 28 = .ok (.ireturn, 1) := by decide +kernel
theorem dX6_on_29 : decode cX6_on 29 = .ok (.aload_n 0, 1) := by decide +kernel
theorem dX6_on_30 : decode cX6_on 30 = .ok (.aload_n 0, 1) := by decide +kernel
theorem dX6_on_31 : decode cX6_on 31 = .ok (.getfield 46, 3) := by decide +kernel
theorem dX6_on_34 : decode cX6_on 34 = .ok (.iconst 0, 1) := by decide +kernel
theorem dX6_on_35 : decode cX6_on 35 = .ok (.aload_n 0, 1) := by decide +kernel
theorem dX6_on_36 : decode cX6_on 36 = .ok (.getfield 69, 3) := by decide +kernel
theorem dX6_on_39 : decode cX6_on 39 = .ok (.sipush 496, 3) := by decide +kernel
theorem dX6_on_42 : decode cX6_on 42 = .ok (.iload_n 1, 1) := by decide +kernel
theorem dX6_on_43 : decode cX6_on 43 = .ok (.imul, 1) := by decide +kernel
theorem dX6_on_44 : decode cX6_on 44 = .ok (.sipush 480, 3) := by decide +kernel
theorem dX6_on_47 : decode cX6_on 47 = .ok (.invokevirtual 233, 3) := by decide +kernel
theorem dX6_on_50 : decode cX6_on 50 = .ok (.aload_n 0, 1) := by decide +kernel
theorem dX6_on_51 : decode cX6_on 51 = .ok (.aload_n 0, 1) := by decide +kernel
theorem dX6_on_52 : decode cX6_on 52 = .ok (.getfield 43, 3) := by decide +kernel
theorem dX6_on_55 : decode cX6_on 55 = .ok (.iconst 0, 1) := by decide +kernel
theorem dX6_on_56 : decode cX6_on 56 = .ok (.aload_n 0, 1) := by decide +kernel
theorem dX6_on_57 : decode cX6_on 57 = .ok (.getfield 69, 3) := by decide +kernel
theorem dX6_on_60 : decode cX6_on 60 = .ok (.sipush 496, 3) := by decide +kernel
theorem dX6_on_63 : decode cX6_on 63 = .ok (.iload_n 1, 1) := by decide +kernel
theorem dX6_on_64 : decode cX6_on 64 = .ok (.imul, 1) := by decide +kernel
theorem dX6_on_65 : decode cX6_on 65 = .ok (.sipush 480, 3) := by decide +kernel
theorem dX6_on_68 : decode cX6_on 68 = .ok (.iadd, 1) := by decide +kernel
theorem dX6_on_69 : decode cX6_on 69 = .ok (.bipush 12, 2) := by decide +kernel
theorem dX6_on_71 : decode cX6_on 71 = .ok (.invokevirtual 233, 3) := by decide +kernel
theorem dX6_on_74 : decode cX6_on 74 = .ok (.aload_n 0, 1) := by decide +kernel
theorem dX6_on_75 : decode cX6_on 75 = .ok (.aload_n 0, 1) := by decide +kernel
theorem dX6_on_76 : decode cX6_on 76 = .ok (.getfield 40, 3) := by decide +kernel
theorem dX6_on_79 : decode cX6_on 79 = .ok (.iconst 0, 1) := by decide +kernel
theorem dX6_on_80 : decode cX6_on 80 = .ok (.aload_n 0, 1) := by decide +kernel
theorem dX6_on_81 : decode cX6_on 81 = .ok (.getfield 69, 3) := by decide +kernel
theorem dX6_on_84 : decode cX6_on 84 = .ok (.sipush 496, 3) := by decide +kernel
theorem dX6_on_87 : decode cX6_on 87 = .ok (.iload_n 1, 1) := by decide +kernel
theorem dX6_on_88 : decode cX6_on 88 = .ok (.imul, 1) := by decide +kernel
theorem dX6_on_89 : decode cX6_on 89 = .ok (.sipush 492, 3) := by decide +kernel
theorem dX6_on_92 : decode cX6_on 92 = .ok (.iadd, 1) := by decide +kernel
theorem dX6_on_93 : decode cX6_on 93 = .ok (.iconst 3, 1) := by decide +kernel
theorem dX6_on_94 : decode cX6_on 94 = .ok (.invokevirtual 233, 3) := by decide +kernel
theorem dX6_on_97 : decode cX6_on 97 = .ok (.aload_n 0, 1) := by decide +kernel
theorem dX6_on_98 : decode cX6_on 98 = .ok (.aload_n 0, 1) := by decide +kernel
theorem dX6_on_99 : decode cX6_on 99 = .ok (.getfield 69, 3) := by decide +kernel
theorem dX6_on_102 : decode cX6_on 102 = .ok (.sipush 496, 3) := by decide +kernel
theorem dX6_on_105 : decode cX6_on 105 = .ok (.iload_n 1, 1) := by decide +kernel
theorem dX6_on_106 : decode cX6_on 106 = .ok (.imul, 1) := by decide +kernel
theorem dX6_on_107 : decode cX6_on 107 = .ok (.sipush 495, 3) := by decide +kernel
theorem dX6_on_110 : decode cX6_on 110 = .ok (.iadd, 1) := by decide +kernel
theorem dX6_on_111 : decode cX6_on 111 = .ok (.iaload, 1) := by decide +kernel
theorem dX6_on_112 : decode cX6_on 112 = .ok (.putfield 162, 3) := by decide +kernel
theorem dX6_on_115 : decode cX6_on 115 = .ok (.aload_n 0, 1) := by decide +kernel
theorem dX6_on_116 : decode cX6_on 116 = .ok (.getfield 162, 3) := by decide +kernel
theorem dX6_on_119 : decode cX6_on 119 = .ok (.ireturn, 1) := by decide +kernel
theorem dX6_can_0 : decode cX6_can 0 = .ok (.aload_n 0, 1) := by decide +kernel
theorem dX6_can_1 : decode cX6_can 1 = .ok (.iload_n 1, 1) := by decide +kernel
theorem dX6_can_2 : decode cX6_can 2 = .ok (.invokevirtual 189, 3) := by decide +kernel
theorem dX6_can_5 : decode cX6_can 5 = .ok (.ifCond .ne 5, 3) := by decide +kernel
theorem dX6_can_8 : decode cX6_can 8 = .ok (.iconst (-1), 1) := by decide +kernel
theorem dX6_can_9 : decode cX6_can 9 = .ok (.ireturn, 1) := by decide +kernel
theorem dX6_can_10 : decode cX6_can 10 = .ok (.iconst 0, 1) := by decide +kernel
theorem dX6_can_11 : decode cX6_can 11 = .ok (.istore_n 2, 1) := by decide +kernel
theorem dX6_can_12 : decode cX6_can 12 = .ok (.iconst 0, 1) := by decide +kernel
theorem dX6_can_13 : decode cX6_can 13 = .ok (.istore_n 3, 1) := by decide +kernel
theorem dX6_can_14 : decode cX6_can 14 = .ok (.iload_n 3, 1) := by decide +kernel
theorem dX6_can_15 : decode cX6_can 15 = .ok (.aload_n 0, 1) := by decide +kernel
theorem dX6_can_16 : decode cX6_can 16 = .ok (.getfield 156, 3) := by decide +kernel
theorem dX6_can_19 : decode cX6_can 19 = .ok (.if_icmp .ge 28, 3) := by decide +kernel
theorem dX6_can_22 : decode cX6_can 22 = .ok (.iload_n 2, 1) := by decide +kernel
theorem dX6_can_23 : decode cX6_can 23 = .ok (.aload_n 0, 1) := by decide +kernel
theorem dX6_can_24 : decode cX6_can 24 = .ok (.iload_n 3, 1) := by decide +kernel
theorem dX6_can_25 : decode cX6_can 25 = .ok (.iload_n 1, 1) := by decide +kernel
theorem dX6_can_26 : decode cX6_can 26 = .ok (.invokevirtual 216, 3) := by decide +kernel
theorem dX6_can_29 : decode cX6_can 29 = .ok (.ifCond .eq 9, 3) := by decide +kernel
theorem dX6_can_32 : decode cX6_can 32 = .ok (.iconst 1, 1) := by decide +kernel
theorem dX6_can_33 : decode cX6_can 33 = .ok (.iload_n 3, 1) := by decide +kernel
theorem dX6_can_34 : decode cX6_can 34 = .ok (.ishl, 1) := by decide +kernel
theorem dX6_can_35 : decode cX6_can 35 = .ok (.goto 4, 3) := by decide +kernel
theorem dX6_can_38 : decode cX6_can 38 = .ok (.iconst 0, 1) := by decide +kernel
theorem dX6_can_39 : decode cX6_can 39 = .ok (.ior, 1) := by decide +kernel
theorem dX6_can_40 : decode cX6_can 40 = .ok (.istore_n 2, 1) := by decide +kernel
theorem dX6_can_41 : decode cX6_can 41 = .ok (.iinc 3 1, 3) := by decide +kernel
theorem dX6_can_44 : decode cX6_can 44 = .ok (.goto (-30), 3) := by decide +kernel
theorem dX6_can_47 : decode cX6_can 47 = .ok (.iload_n 2, 1) := by decide +kernel
theorem dX6_can_48 : decode cX6_can 48 = .ok (.ireturn, 1) := by decide +kernel
theorem dX6_why_0 : decode cX6_why 0 = .ok (.aload_n 0, 1) := by decide +kernel
theorem dX6_why_1 : decode cX6_why 1 = .ok (.iload_n 1, 1) := by decide +kernel
theorem dX6_why_2 : decode cX6_why 2 = .ok (.invokevirtual 168, 3) := by decide +kernel
theorem dX6_why_5 : decode cX6_why 5 = .ok (.ifCond .eq 11, 3) := by decide +kernel
theorem dX6_why_8 : decode cX6_why 8 = .ok (.aload_n 0, 1) := by decide +kernel
theorem dX6_why_9 : decode cX6_why 9 = .ok (.iload_n 2, 1) := by decide +kernel
theorem dX6_why_10 : decode cX6_why 10 = .ok (.invokevirtual 189, 3) := by decide +kernel
theorem dX6_why_13 : decode cX6_why 13 = .ok (.ifCond .ne 5, 3) := by decide +kernel
theorem dX6_why_16 : decode cX6_why 16 = .ok (.iconst (-1), 1) := by decide +kernel
theorem dX6_why_17 : decode cX6_why 17 = .ok (.ireturn, 1) := by decide +kernel
theorem dX6_why_18 : decode cX6_why 18 = .ok (.aload_n 0, 1) := by decide +kernel
theorem dX6_why_19 : decode cX6_why 19 = .ok (.getfield 43, 3) := by decide +kernel
theorem dX6_why_22 : decode cX6_why 22 = .ok (.iconst 3, 1) := by decide +kernel
theorem dX6_why_23 : decode cX6_why 23 = .ok (.iaload, 1) := by decide +kernel
theorem dX6_why_24 : decode cX6_why 24 = .ok (.iload_n 1, 1) := by decide +kernel
theorem dX6_why_25 : decode cX6_why 25 = .ok (.invokestatic 136, 3) := by decide +kernel
theorem dX6_why_28 : decode cX6_why 28 = .ok (.ifCond .eq 11, 3) := by decide +kernel
theorem dX6_why_31 : decode cX6_why 31 = .ok (.aload_n 0, 1) := by decide +kernel
theorem dX6_why_32 : decode cX6_why 32 = .ok (.iconst 1, 1) := by decide +kernel
theorem dX6_why_33 : decode cX6_why 33 = .ok (.bipush (-9), 2) := by decide +kernel
theorem dX6_why_35 : decode cX6_why 35 = .ok (.invokevirtual 111, 3) := by decide +kernel
theorem dX6_why_38 : decode cX6_why 38 = .ok (.ireturn, 1) := by decide +kernel
theorem dX6_why_39 : decode cX6_why 39 = .ok (.aload_n 0, 1) := by decide +kernel
theorem dX6_why_40 : decode cX6_why 40 = .ok (.getfield 28, 3) := by decide +kernel
theorem dX6_why_43 : decode cX6_why 43 = .ok (.iload_n 1, 1) := by decide +kernel
theorem dX6_why_44 : decode cX6_why 44 = .ok (.iaload, 1) := by decide +kernel
theorem dX6_why_45 : decode cX6_why 45 = .ok (.aload_n 0, 1) := by decide +kernel
theorem dX6_why_46 : decode cX6_why 46 = .ok (.getfield 43, 3) := by decide +kernel
theorem dX6_why_49 : decode cX6_why 49 = .ok (.iconst 3, 1) := by decide +kernel
theorem dX6_why_50 : decode cX6_why 50 = .ok (.iaload, 1) := by decide +kernel
theorem dX6_why_51 : decode cX6_why 51 = .ok (.iconst (-1), 1) := by decide +kernel
theorem dX6_why_52 : decode cX6_why 52 = .ok (.ixor, 1) := by decide +kernel
theorem dX6_why_53 : decode cX6_why 53 = .ok (.iand, 1) := by decide +kernel
theorem dX6_why_54 : decode cX6_why 54 = .ok (.istore_n 3, 1) := by decide +kernel
theorem dX6_why_55 : decode cX6_why 55 = .ok (.iload_n 3, 1) := by decide +kernel
theorem dX6_why_56 : decode cX6_why 56 = .ok (.ifCond .eq 29, 3) := by decide +kernel
theorem dX6_why_59 : decode cX6_why 59 = .ok (.iconst 0, 1) := by decide +kernel
theorem dX6_why_60 : decode cX6_why 60 = .ok (.istore 4, 2) := by decide +kernel
theorem dX6_why_62 : decode cX6_why 62 = .ok (.iload_n 3, 1) := by decide +kernel
theorem dX6_why_63 : decode cX6_why 63 = .ok (.iload 4, 2) := by decide +kernel
theorem dX6_why_65 : decode cX6_why 65 = .ok (.invokestatic 136, 3) := by decide +kernel
theorem dX6_why_68 : decode cX6_why 68 = .ok (.ifCond .ne 9, 3) := by decide +kernel
theorem dX6_why_71 : decode cX6_why 71 = .ok (.iinc 4 1, 3) := by decide +kernel
theorem dX6_why_74 : decode cX6_why 74 = .ok (.goto (-12), 3) := by decide +kernel
theorem dX6_why_77 : decode cX6_why 77 = .ok (.aload_n 0, 1) := by decide +kernel
theorem dX6_why_78 : decode cX6_why 78 = .ok (.iconst 2, 1) := by decide +kernel
theorem dX6_why_79 : decode cX6_why 79 = .ok (.iload 4, 2) := by decide +kernel
theorem dX6_why_81 : decode cX6_why 81 = .ok (.invokevirtual 111, 3) := by decide +kernel
theorem dX6_why_84 : decode cX6_why 84 = .ok (.ireturn, 1) := by decide +kernel
theorem dX6_why_85 : decode cX6_why 85 = .ok (.aload_n 0, 1) := by decide +kernel
theorem dX6_why_86 : decode cX6_why 86 = .ok (.aload_n 0, 1) := by decide +kernel
theorem dX6_why_87 : decode cX6_why 87 = .ok (.iload_n 1, 1) := by decide +kernel
theorem dX6_why_88 : decode cX6_why 88 = .ok (.iload_n 2, 1) := by decide +kernel
theorem dX6_why_89 : decode cX6_why 89 = .ok (.invokevirtual 203, 3) := by decide +kernel
theorem dX6_why_92 : decode cX6_why 92 = .ok (.ifCond .ne 7, 3) := by decide +kernel
theorem dX6_why_95 : decode cX6_why 95 = .ok (.iconst 3, 1) := by decide +kernel
theorem dX6_why_96 : decode cX6_why 96 = .ok (.goto 29, 3) := by decide +kernel
theorem dX6_why_99 : decode cX6_why 99 = .ok (.aload_n 0, 1) := by decide +kernel
theorem dX6_why_100 : decode cX6_why 100 = .ok (.iload_n 1, 1) := by decide +kernel
theorem dX6_why_101 : decode cX6_why 101 = .ok (.iload_n 2, 1) := by decide +kernel
theorem dX6_why_102 : decode cX6_why 102 = .ok (.aload_n 0, 1) := by decide +kernel
theorem dX6_why_103 : decode cX6_why 103 = .ok (.getfield 43, 3) := by decide +kernel
theorem dX6_why_106 : decode cX6_why 106 = .ok (.iconst 3, 1) := by decide +kernel
theorem dX6_why_107 : decode cX6_why 107 = .ok (.iaload, 1) := by decide +kernel
theorem dX6_why_108 : decode cX6_why 108 = .ok (.aload_n 0, 1) := by decide +kernel
theorem dX6_why_109 : decode cX6_why 109 = .ok (.getfield 43, 3) := by decide +kernel
theorem dX6_why_112 : decode cX6_why 112 = .ok (.iconst 4, 1) := by decide +kernel
theorem dX6_why_113 : decode cX6_why 113 = .ok (.iaload, 1) := by decide +kernel
theorem dX6_why_114 : decode cX6_why 114 = .ok (.invokevirtual 206, 3) := by decide +kernel
theorem dX6_why_117 : decode cX6_why 117 = .ok (.ifCond .eq 7, 3) := by decide +kernel
theorem dX6_why_120 : decode cX6_why 120 = .ok (.iconst 0, 1) := by decide +kernel
theorem dX6_why_121 : decode cX6_why 121 = .ok (.goto 4, 3) := by decide +kernel
theorem dX6_why_124 : decode cX6_why 124 = .ok (.iconst 4, 1) := by decide +kernel
theorem dX6_why_125 : decode cX6_why 125 = .ok (.bipush (-9), 2) := by decide +kernel
theorem dX6_why_127 : decode cX6_why 127 = .ok (.invokevirtual 111, 3) := by decide +kernel
theorem dX6_why_130 : decode cX6_why 130 = .ok (.ireturn, 1) := by decide +kernel
theorem dX6_opens_0 : decode cX6_opens 0 = .ok (.aload_n 0, 1) := by decide +kernel
theorem dX6_opens_1 : decode cX6_opens 1 = .ok (.iload_n 1, 1) := by decide +kernel
theorem dX6_opens_2 : decode cX6_opens 2 = .ok (.invokevirtual 168, 3) := by decide +kernel
theorem dX6_opens_5 : decode cX6_opens 5 = .ok (.ifCond .ne 5, 3) := by decide +kernel
theorem dX6_opens_8 : decode cX6_opens 8 = .ok (.iconst (-1), 1) := by decide +kernel
theorem dX6_opens_9 : decode cX6_opens 9 = .ok (.ireturn, 1) := by decide +kernel
theorem dX6_opens_10 : decode cX6_opens 10 = .ok (.iconst 0, 1) := by decide +kernel
theorem dX6_opens_11 : decode cX6_opens 11 = .ok (.istore_n 2, 1) := by decide +kernel
theorem dX6_opens_12 : decode cX6_opens 12 = .ok (.iconst 0, 1) := by decide +kernel
theorem dX6_opens_13 : decode cX6_opens 13 = .ok (.istore_n 3, 1) := by decide +kernel
theorem dX6_opens_14 : decode cX6_opens 14 = .ok (.iload_n 3, 1) := by decide +kernel
theorem dX6_opens_15 : decode cX6_opens 15 = .ok (.aload_n 0, 1) := by decide +kernel
theorem dX6_opens_16 : decode cX6_opens 16 = .ok (.getfield 156, 3) := by decide +kernel
theorem dX6_opens_19 : decode cX6_opens 19 = .ok (.if_icmp .ge 31, 3) := by decide +kernel
theorem dX6_opens_22 : decode cX6_opens 22 = .ok (.iload_n 2, 1) := by decide +kernel
theorem dX6_opens_23 : decode cX6_opens 23 = .ok (.aload_n 0, 1) := by decide +kernel
theorem dX6_opens_24 : decode cX6_opens 24 = .ok (.iload_n 3, 1) := by decide +kernel
theorem dX6_opens_25 : decode cX6_opens 25 = .ok (.invokevirtual 165, 3) := by decide +kernel
theorem dX6_opens_28 : decode cX6_opens 28 = .ok (.iload_n 1, 1) := by decide +kernel
theorem dX6_opens_29 : decode cX6_opens 29 = .ok (.invokestatic 136, 3) := by decide +kernel
theorem dX6_opens_32 : decode cX6_opens 32 = .ok (.ifCond .eq 9, 3) := by decide +kernel
theorem dX6_opens_35 : decode cX6_opens 35 = .ok (.iconst 1, 1) := by decide +kernel
theorem dX6_opens_36 : decode cX6_opens 36 = .ok (.iload_n 3, 1) := by decide +kernel
theorem dX6_opens_37 : decode cX6_opens 37 = .ok (.ishl, 1) := by decide +kernel
theorem dX6_opens_38 : decode cX6_opens 38 = .ok (.goto 4, 3) := by decide +kernel
theorem dX6_opens_41 : decode cX6_opens 41 = .ok (.iconst 0, 1) := by decide +kernel
theorem dX6_opens_42 : decode cX6_opens 42 = .ok (.ior, 1) := by decide +kernel
theorem dX6_opens_43 : decode cX6_opens 43 = .ok (.istore_n 2, 1) := by decide +kernel
theorem dX6_opens_44 : decode cX6_opens 44 = .ok (.iinc 3 1, 3) := by decide +kernel
theorem dX6_opens_47 : decode cX6_opens 47 = .ok (.goto (-33), 3) := by decide +kernel
theorem dX6_opens_50 : decode cX6_opens 50 = .ok (.aload_n 0, 1) := by decide +kernel
theorem dX6_opens_51 : decode cX6_opens 51 = .ok (.iload_n 2, 1) := by decide +kernel
theorem dX6_opens_52 : decode cX6_opens 52 = .ok (.invokestatic 200, 3) := by decide +kernel
theorem dX6_opens_55 : decode cX6_opens 55 = .ok (.iload_n 2, 1) := by decide +kernel
theorem dX6_opens_56 : decode cX6_opens 56 = .ok (.invokevirtual 111, 3) := by decide +kernel
theorem dX6_opens_59 : decode cX6_opens 59 = .ok (.ireturn, 1) := by decide +kernel
theorem dX6_late_0 : decode cX6_late 0 = .ok (.aload_n 0, 1) := by decide +kernel
theorem dX6_late_1 : decode cX6_late 1 = .ok (.getfield 156, 3) := by decide +kernel
theorem dX6_late_4 : decode cX6_late 4 = .ok (.ifCond .ne 6, 3) := by decide +kernel
theorem dX6_late_7 : decode cX6_late 7 = .ok (.bipush (-4), 2) := by decide +kernel
theorem dX6_late_9 : decode cX6_late 9 = .ok (.ireturn, 1) := by decide +kernel
theorem dX6_late_10 : decode cX6_late 10 = .ok (.iconst 0, 1) := by decide +kernel
theorem dX6_late_11 : decode cX6_late 11 = .ok (.istore_n 1, 1) := by decide +kernel
theorem dX6_late_12 : decode cX6_late 12 = .ok (.iconst 0, 1) := by decide +kernel
theorem dX6_late_13 : decode cX6_late 13 = .ok (.istore_n 2, 1) := by decide +kernel
theorem dX6_late_14 : decode cX6_late 14 = .ok (.iconst 0, 1) := by decide +kernel
theorem dX6_late_15 : decode cX6_late 15 = .ok (.istore_n 3, 1) := by decide +kernel
theorem dX6_late_16 : decode cX6_late 16 = .ok (.iload_n 3, 1) := by decide +kernel
theorem dX6_late_17 : decode cX6_late 17 = .ok (.aload_n 0, 1) := by decide +kernel
theorem dX6_late_18 : decode cX6_late 18 = .ok (.getfield 159, 3) := by decide +kernel
theorem dX6_late_21 : decode cX6_late 21 = .ok (.if_icmp .ge 50, 3) := by decide +kernel
theorem dX6_late_24 : decode cX6_late 24 = .ok (.aload_n 0, 1) := by decide +kernel
theorem dX6_late_25 : decode cX6_late 25 = .ok (.iload_n 3, 1) := by decide +kernel
theorem dX6_late_26 : decode cX6_late 26 = .ok (.invokevirtual 180, 3) := by decide +kernel
theorem dX6_late_29 : decode cX6_late 29 = .ok (.iload_n 1, 1) := by decide +kernel
theorem dX6_late_30 : decode cX6_late 30 = .ok (.if_icmp .le 11, 3) := by decide +kernel
theorem dX6_late_33 : decode cX6_late 33 = .ok (.aload_n 0, 1) := by decide +kernel
theorem dX6_late_34 : decode cX6_late 34 = .ok (.iload_n 3, 1) := by decide +kernel
theorem dX6_late_35 : decode cX6_late 35 = .ok (.invokevirtual 180, 3) := by decide +kernel
theorem dX6_late_38 : decode cX6_late 38 = .ok (.goto 4, 3) := by decide +kernel
theorem dX6_late_41 : decode cX6_late 41 = .ok (.iload_n 1, 1) := by decide +kernel
theorem dX6_late_42 : decode cX6_late 42 = .ok (.istore_n 1, 1) := by decide +kernel
theorem dX6_late_43 : decode cX6_late 43 = .ok (.iload_n 2, 1) := by decide +kernel
theorem dX6_late_44 : decode cX6_late 44 = .ok (.aload_n 0, 1) := by decide +kernel
theorem dX6_late_45 : decode cX6_late 45 = .ok (.iload_n 3, 1) := by decide +kernel
theorem dX6_late_46 : decode cX6_late 46 = .ok (.invokevirtual 180, 3) := by decide +kernel
theorem dX6_late_49 : decode cX6_late 49 = .ok (.aload_n 0, 1) := by decide +kernel
theorem dX6_late_50 : decode cX6_late 50 = .ok (.getfield 43, 3) := by decide +kernel
theorem dX6_late_53 : decode cX6_late 53 = .ok (.iconst 0, 1) := by decide +kernel
theorem dX6_late_54 : decode cX6_late 54 = .ok (.iaload, 1) := by decide +kernel
theorem dX6_late_55 : decode cX6_late 55 = .ok (.if_icmp .le 7, 3) := by decide +kernel
theorem dX6_late_58 : decode cX6_late 58 = .ok (.iconst 1, 1) := by decide +kernel
theorem dX6_late_59 : decode cX6_late 59 = .ok (.goto 4, 3) := by decide +kernel
theorem dX6_late_62 : decode cX6_late 62 = .ok (.iconst 0, 1) := by decide +kernel
theorem dX6_late_63 : decode cX6_late 63 = .ok (.iadd, 1) := by decide +kernel
theorem dX6_late_64 : decode cX6_late 64 = .ok (.istore_n 2, 1) := by decide +kernel
theorem dX6_late_65 : decode cX6_late 65 = .ok (.iinc 3 1, 3) := by decide +kernel
theorem dX6_late_68 : decode cX6_late 68 = .ok (.goto (-52), 3) := by decide +kernel
theorem dX6_late_71 : decode cX6_late 71 = .ok (.aload_n 0, 1) := by decide +kernel
theorem dX6_late_72 : decode cX6_late 72 = .ok (.iload_n 1, 1) := by decide +kernel
theorem dX6_late_73 : decode cX6_late 73 = .ok (.iload_n 2, 1) := by decide +kernel
theorem dX6_late_74 : decode cX6_late 74 = .ok (.invokevirtual 111, 3) := by decide +kernel
theorem dX6_late_77 : decode cX6_late 77 = .ok (.ireturn, 1) := by decide +kernel
theorem dX6_lacksRow_0 : decode cX6_lacksRow 0 = .ok (.aload_n 0, 1) := by decide +kernel
theorem dX6_lacksRow_1 : decode cX6_lacksRow 1 = .ok (.getfield 156, 3) := by decide +kernel
theorem dX6_lacksRow_4 : decode cX6_lacksRow 4 = .ok (.ifCond .ne 6, 3) := by decide +kernel
theorem dX6_lacksRow_7 : decode cX6_lacksRow 7 = .ok (.bipush (-4), 2) := by decide +kernel
theorem dX6_lacksRow_9 : decode cX6_lacksRow 9 = .ok (.ireturn, 1) := by decide +kernel
theorem dX6_lacksRow_10 : decode cX6_lacksRow 10 = .ok (.aload_n 0, 1) := by decide +kernel
theorem dX6_lacksRow_11 : decode cX6_lacksRow 11 = .ok (.getfield 7, 3) := by decide +kernel
theorem dX6_lacksRow_14 : decode cX6_lacksRow 14 = .ok (.iload_n 1, 1) := by decide +kernel
theorem dX6_lacksRow_15 : decode cX6_lacksRow 15 = .ok (.iaload, 1) := by decide +kernel
theorem dX6_lacksRow_16 : decode cX6_lacksRow 16 = .ok (.ifCond .ge 11, 3) := by decide +kernel
theorem dX6_lacksRow_19 : decode cX6_lacksRow 19 = .ok (.aload_n 0, 1) := by decide +kernel
theorem dX6_lacksRow_20 : decode cX6_lacksRow 20 = .ok (.iconst 1, 1) := by decide +kernel
theorem dX6_lacksRow_21 : decode cX6_lacksRow 21 = .ok (.invokevirtual 103, 3) := by decide +kernel
theorem dX6_lacksRow_24 : decode cX6_lacksRow 24 = .ok (.goto 4, 3) := by decide +kernel
theorem dX6_lacksRow_27 : decode cX6_lacksRow 27 = .ok (.iconst 0, 1) := by decide +kernel
theorem dX6_lacksRow_28 : decode cX6_lacksRow 28 = .ok (.ireturn, 1) := by decide +kernel
theorem dX6_run_0 : decode cX6_run 0 = .ok (.iload_n 1, 1) := by decide +kernel
theorem dX6_run_1 : decode cX6_run 1 = .ok (.invokestatic 99, 3) := by decide +kernel
theorem dX6_run_4 : decode cX6_run 4 = .ok (.ifCond .ne 5, 3) := by decide +kernel
theorem dX6_run_7 : decode cX6_run 7 = .ok (.iconst (-1), 1) := by decide +kernel
theorem dX6_run_8 : decode cX6_run 8 = .ok (.ireturn, 1) := by decide +kernel
theorem dX6_run_9 : decode cX6_run 9 = .ok (.aload_n 0, 1) := by decide +kernel
theorem dX6_run_10 : decode cX6_run 10 = .ok (.iload_n 1, 1) := by decide +kernel
theorem dX6_run_11 : decode cX6_run 11 = .ok (.invokevirtual 237, 3) := by decide +kernel
theorem dX6_run_14 : decode cX6_run 14 = .ok (.istore_n 2, 1) := by decide +kernel
theorem dX6_run_15 : decode cX6_run 15 = .ok (.iload_n 2, 1) := by decide +kernel
theorem dX6_run_16 : decode cX6_run 16 = .ok (.ifCond .ge 5, 3) := by decide +kernel
theorem dX6_run_19 : decode cX6_run 19 = .ok (.iload_n 2, 1) := by decide +kernel
theorem dX6_run_20 : decode cX6_run 20 = .ok (.ireturn, 1) := by decide +kernel
theorem dX6_run_21 : decode cX6_run 21 = .ok (.aload_n 0, 1) := by decide +kernel
theorem dX6_run_22 : decode cX6_run 22 = .ok (.getfield 7, 3) := by decide +kernel
theorem dX6_run_25 : decode cX6_run 25 = .ok (.iload_n 1, 1) := by decide +kernel
theorem dX6_run_26 : decode cX6_run 26 = .ok (.iaload, 1) := by decide +kernel
theorem dX6_run_27 : decode cX6_run 27 = .ok (.iconst 2, 1) := by decide +kernel
theorem dX6_run_28 : decode cX6_run 28 = .ok (.irem, 1) := by decide +kernel
theorem dX6_run_29 : decode cX6_run 29 = .ok (.iconst 1, 1) := by decide +kernel
theorem dX6_run_30 : decode cX6_run 30 = .ok (.if_icmp .eq 14, 3) := by decide +kernel
theorem dX6_run_33 : decode cX6_run 33 = .ok (.aload_n 0, 1) := by decide +kernel
theorem dX6_run_34 : decode cX6_run 34 = .ok (.getfield 7, 3) := by decide +kernel
theorem dX6_run_37 : decode cX6_run 37 = .ok (.iload_n 1, 1) := by decide +kernel
theorem dX6_run_38 : decode cX6_run 38 = .ok (.iaload, 1) := by decide +kernel
theorem dX6_run_39 : decode cX6_run 39 = .ok (.bipush 14, 2) := by decide +kernel
theorem dX6_run_41 : decode cX6_run 41 = .ok (.if_icmp .le 9, 3) := by decide +kernel
theorem dX6_run_44 : decode cX6_run 44 = .ok (.aload_n 0, 1) := by decide +kernel
theorem dX6_run_45 : decode cX6_run 45 = .ok (.iconst 5, 1) := by decide +kernel
theorem dX6_run_46 : decode cX6_run 46 = .ok (.invokevirtual 103, 3) := by decide +kernel
theorem dX6_run_49 : decode cX6_run 49 = .ok (.ireturn, 1) := by decide +kernel
theorem dX6_run_50 : decode cX6_run 50 = .ok (.aload_n 0, 1) := by decide +kernel
theorem dX6_run_51 : decode cX6_run 51 = .ok (.getfield 7, 3) := by decide +kernel
theorem dX6_run_54 : decode cX6_run 54 = .ok (.iload_n 1, 1) := by decide +kernel
theorem dX6_run_55 : decode cX6_run 55 = .ok (.iaload, 1) := by decide +kernel
theorem dX6_run_56 : decode cX6_run 56 = .ok (.iconst 2, 1) := by decide +kernel
theorem dX6_run_57 : decode cX6_run 57 = .ok (.idiv, 1) := by decide +kernel
theorem dX6_run_58 : decode cX6_run 58 = .ok (.istore_n 3, 1) := by decide +kernel
theorem dX6_run_59 : decode cX6_run 59 = .ok (.iconst 0, 1) := by decide +kernel
theorem dX6_run_60 : decode cX6_run 60 = .ok (.istore 4, 2) := by decide +kernel
theorem dX6_run_62 : decode cX6_run 62 = .ok (.iload 4, 2) := by decide +kernel
theorem dX6_run_64 : decode cX6_run 64 = .ok (.iload_n 3, 1) := by decide +kernel
theorem dX6_run_65 : decode cX6_run 65 = .ok (.if_icmp .ge 70, 3) := by decide +kernel
theorem dX6_run_68 : decode cX6_run 68 = .ok (.aload_n 0, 1) := by decide +kernel
theorem dX6_run_69 : decode cX6_run 69 = .ok (.getfield 13, 3) := by decide +kernel
theorem dX6_run_72 : decode cX6_run 72 = .ok (.bipush 40, 2) := by decide +kernel
theorem dX6_run_74 : decode cX6_run 74 = .ok (.iload_n 1, 1) := by decide +kernel
theorem dX6_run_75 : decode cX6_run 75 = .ok (.imul, 1) := by decide +kernel
theorem dX6_run_76 : decode cX6_run 76 = .ok (.iconst 2, 1) := by decide +kernel
theorem dX6_run_77 : decode cX6_run 77 = .ok (.iload 4, 2) := by decide +kernel
theorem dX6_run_79 : decode cX6_run 79 = .ok (.imul, 1) := by decide +kernel
theorem dX6_run_80 : decode cX6_run 80 = .ok (.iadd, 1) := by decide +kernel
theorem dX6_run_81 : decode cX6_run 81 = .ok (.iconst 1, 1) := by decide +kernel
theorem dX6_run_82 : decode cX6_run 82 = .ok (.iadd, 1) := by decide +kernel
theorem dX6_run_83 : decode cX6_run 83 = .ok (.iaload, 1) := by decide +kernel
theorem dX6_run_84 : decode cX6_run 84 = .ok (.istore 5, 2) := by decide +kernel
theorem dX6_run_86 : decode cX6_run 86 = .ok (.aload_n 0, 1) := by decide +kernel
theorem dX6_run_87 : decode cX6_run 87 = .ok (.aload_n 0, 1) := by decide +kernel
theorem dX6_run_88 : decode cX6_run 88 = .ok (.getfield 13, 3) := by decide +kernel
theorem dX6_run_91 : decode cX6_run 91 = .ok (.bipush 40, 2) := by decide +kernel
theorem dX6_run_93 : decode cX6_run 93 = .ok (.iload_n 1, 1) := by decide +kernel
theorem dX6_run_94 : decode cX6_run 94 = .ok (.imul, 1) := by decide +kernel
theorem dX6_run_95 : decode cX6_run 95 = .ok (.iconst 2, 1) := by decide +kernel
theorem dX6_run_96 : decode cX6_run 96 = .ok (.iload 4, 2) := by decide +kernel
theorem dX6_run_98 : decode cX6_run 98 = .ok (.imul, 1) := by decide +kernel
theorem dX6_run_99 : decode cX6_run 99 = .ok (.iadd, 1) := by decide +kernel
theorem dX6_run_100 : decode cX6_run 100 = .ok (.iaload, 1) := by decide +kernel
theorem dX6_run_101 : decode cX6_run 101 = .ok (.invokevirtual 189, 3) := by decide +kernel
theorem dX6_run_104 : decode cX6_run 104 = .ok (.ifCond .eq 19, 3) := by decide +kernel
theorem dX6_run_107 : decode cX6_run 107 = .ok (.iload 5, 2) := by decide +kernel
theorem dX6_run_109 : decode cX6_run 109 = .ok (.bipush (-9), 2) := by decide +kernel
theorem dX6_run_111 : decode cX6_run 111 = .ok (.if_icmp .eq 18, 3) := by decide +kernel
theorem dX6_run_114 : decode cX6_run 114 = .ok (.aload_n 0, 1) := by decide +kernel
theorem dX6_run_115 : decode cX6_run 115 = .ok (.iload 5, 2) := by decide +kernel
theorem dX6_run_117 : decode cX6_run 117 = .ok (.invokevirtual 168, 3) := by decide +kernel
theorem dX6_run_120 : decode cX6_run 120 = .ok (.ifCond .ne 9, 3) := by decide +kernel
theorem dX6_run_123 : decode cX6_run 123 = .ok (.aload_n 0, 1) := by decide +kernel
theorem dX6_run_124 : decode cX6_run 124 = .ok (.iconst 3, 1) := by decide +kernel
theorem dX6_run_125 : decode cX6_run 125 = .ok (.invokevirtual 103, 3) := by decide +kernel
theorem dX6_run_128 : decode cX6_run 128 = .ok (.ireturn, 1) := by decide +kernel
theorem dX6_run_129 : decode cX6_run 129 = .ok (.iinc 4 1, 3) := by decide +kernel
theorem dX6_run_132 : decode cX6_run 132 = .ok (.goto (-70), 3) := by decide +kernel
theorem dX6_run_135 : decode cX6_run 135 = .ok (.aload_n 0, 1) := by decide +kernel
theorem dX6_run_136 : decode cX6_run 136 = .ok (.aload_n 0, 1) := by decide +kernel
theorem dX6_run_137 : decode cX6_run 137 = .ok (.getfield 43, 3) := by decide +kernel
theorem dX6_run_140 : decode cX6_run 140 = .ok (.iconst 0, 1) := by decide +kernel
theorem dX6_run_141 : decode cX6_run 141 = .ok (.iaload, 1) := by decide +kernel
theorem dX6_run_142 : decode cX6_run 142 = .ok (.invokevirtual 213, 3) := by decide +kernel
theorem dX6_run_145 : decode cX6_run 145 = .ok (.istore 4, 2) := by decide +kernel
theorem dX6_run_147 : decode cX6_run 147 = .ok (.aload_n 0, 1) := by decide +kernel
theorem dX6_run_148 : decode cX6_run 148 = .ok (.getfield 43, 3) := by decide +kernel
theorem dX6_run_151 : decode cX6_run 151 = .ok (.iconst 3, 1) := by decide +kernel
theorem dX6_run_152 : decode cX6_run 152 = .ok (.iaload, 1) := by decide +kernel
theorem dX6_run_153 : decode cX6_run 153 = .ok (.istore 5, 2) := by decide +kernel
theorem dX6_run_155 : decode cX6_run 155 = .ok (.aload_n 0, 1) := by decide +kernel
theorem dX6_run_156 : decode cX6_run 156 = .ok (.getfield 43, 3) := by decide +kernel
theorem dX6_run_159 : decode cX6_run 159 = .ok (.iconst 4, 1) := by decide +kernel
theorem dX6_run_160 : decode cX6_run 160 = .ok (.iaload, 1) := by decide +kernel
theorem dX6_run_161 : decode cX6_run 161 = .ok (.istore 6, 2) := by decide +kernel
theorem dX6_run_163 : decode cX6_run 163 = .ok (.iconst 0, 1) := by decide +kernel
theorem dX6_run_164 : decode cX6_run 164 = .ok (.istore 7, 2) := by decide +kernel
theorem dX6_run_166 : decode cX6_run 166 = .ok (.iconst 1, 1) := by decide +kernel
theorem dX6_run_167 : decode cX6_run 167 = .ok (.istore 8, 2) := by decide +kernel
theorem dX6_run_169 : decode cX6_run 169 = .ok (.iload 7, 2) := by decide +kernel
theorem dX6_run_171 : decode cX6_run 171 = .ok (.iload_n 3, 1) := by decide +kernel
theorem dX6_run_172 : decode cX6_run 172 = .ok (.if_icmp .ge 148, 3) := by decide +kernel
theorem dX6_run_175 : decode cX6_run 175 = .ok (.iload 8, 2) := by decide +kernel
theorem dX6_run_177 : decode cX6_run 177 = .ok (.ifCond .eq 143, 3) := by decide +kernel
theorem dX6_run_180 : decode cX6_run 180 = .ok (.aload_n 0, 1) := by decide +kernel
theorem dX6_run_181 : decode cX6_run 181 = .ok (.getfield 13, 3) := by decide +kernel
theorem dX6_run_184 : decode cX6_run 184 = .ok (.bipush 40, 2) := by decide +kernel
theorem dX6_run_186 : decode cX6_run 186 = .ok (.iload_n 1, 1) := by decide +kernel
theorem dX6_run_187 : decode cX6_run 187 = .ok (.imul, 1) := by decide +kernel
theorem dX6_run_188 : decode cX6_run 188 = .ok (.iconst 2, 1) := by decide +kernel
theorem dX6_run_189 : decode cX6_run 189 = .ok (.iload 7, 2) := by decide +kernel
theorem dX6_run_191 : decode cX6_run 191 = .ok (.imul, 1) := by decide +kernel
theorem dX6_run_192 : decode cX6_run 192 = .ok (.iadd, 1) := by decide +kernel
theorem dX6_run_193 : decode cX6_run 193 = .ok (.iaload, 1) := by decide +kernel
theorem dX6_run_194 : decode cX6_run 194 = .ok (.istore 9, 2) := by decide +kernel
theorem dX6_run_196 : decode cX6_run 196 = .ok (.aload_n 0, 1) := by decide +kernel
theorem dX6_run_197 : decode cX6_run 197 = .ok (.getfield 13, 3) := by decide +kernel
theorem dX6_run_200 : decode cX6_run 200 = .ok (.bipush 40, 2) := by decide +kernel
theorem dX6_run_202 : decode cX6_run 202 = .ok (.iload_n 1, 1) := by decide +kernel
theorem dX6_run_203 : decode cX6_run 203 = .ok (.imul, 1) := by decide +kernel
theorem dX6_run_204 : decode cX6_run 204 = .ok (.iconst 2, 1) := by decide +kernel
theorem dX6_run_205 : decode cX6_run 205 = .ok (.iload 7, 2) := by decide +kernel
theorem dX6_run_207 : decode cX6_run 207 = .ok (.imul, 1) := by decide +kernel
theorem dX6_run_208 : decode cX6_run 208 = .ok (.iadd, 1) := by decide +kernel
theorem dX6_run_209 : decode cX6_run 209 = .ok (.iconst 1, 1) := by decide +kernel
theorem dX6_run_210 : decode cX6_run 210 = .ok (.iadd, 1) := by decide +kernel
theorem dX6_run_211 : decode cX6_run 211 = .ok (.iaload, 1) := by decide +kernel
theorem dX6_run_212 : decode cX6_run 212 = .ok (.istore 10, 2) := by decide +kernel
theorem dX6_run_214 : decode cX6_run 214 = .ok (.iload 4, 2) := by decide +kernel
theorem dX6_run_216 : decode cX6_run 216 = .ok (.iload 9, 2) := by decide +kernel
theorem dX6_run_218 : decode cX6_run 218 = .ok (.invokestatic 136, 3) := by decide +kernel
theorem dX6_run_221 : decode cX6_run 221 = .ok (.ifCond .eq 27, 3) := by decide +kernel
theorem dX6_run_224 : decode cX6_run 224 = .ok (.iload 10, 2) := by decide +kernel
theorem dX6_run_226 : decode cX6_run 226 = .ok (.ifCond .lt 18, 3) := by decide +kernel
theorem dX6_run_229 : decode cX6_run 229 = .ok (.aload_n 0, 1) := by decide +kernel
theorem dX6_run_230 : decode cX6_run 230 = .ok (.iload 10, 2) := by decide +kernel
theorem dX6_run_232 : decode cX6_run 232 = .ok (.iload 9, 2) := by decide +kernel
theorem dX6_run_234 : decode cX6_run 234 = .ok (.iload 5, 2) := by decide +kernel
theorem dX6_run_236 : decode cX6_run 236 = .ok (.iload 6, 2) := by decide +kernel
theorem dX6_run_238 : decode cX6_run 238 = .ok (.invokevirtual 210, 3) := by decide +kernel
theorem dX6_run_241 : decode cX6_run 241 = .ok (.ifCond .eq 7, 3) := by decide +kernel
theorem dX6_run_244 : decode cX6_run 244 = .ok (.iconst 1, 1) := by decide +kernel
theorem dX6_run_245 : decode cX6_run 245 = .ok (.goto 4, 3) := by decide +kernel
theorem dX6_run_248 : decode cX6_run 248 = .ok (.iconst 0, 1) := by decide +kernel
theorem dX6_run_249 : decode cX6_run 249 = .ok (.istore 8, 2) := by decide +kernel
theorem dX6_run_251 : decode cX6_run 251 = .ok (.iload 8, 2) := by decide +kernel
theorem dX6_run_253 : decode cX6_run 253 = .ok (.ifCond .eq 64, 3) := by decide +kernel
theorem dX6_run_256 : decode cX6_run 256 = .ok (.iload 4, 2) := by decide +kernel
theorem dX6_run_258 : decode cX6_run 258 = .ok (.iconst 1, 1) := by decide +kernel
theorem dX6_run_259 : decode cX6_run 259 = .ok (.iload 9, 2) := by decide +kernel
theorem dX6_run_261 : decode cX6_run 261 = .ok (.ishl, 1) := by decide +kernel
theorem dX6_run_262 : decode cX6_run 262 = .ok (.iconst (-1), 1) := by decide +kernel
theorem dX6_run_263 : decode cX6_run 263 = .ok (.ixor, 1) := by decide +kernel
theorem dX6_run_264 : decode cX6_run 264 = .ok (.iand, 1) := by decide +kernel
theorem dX6_run_265 : decode cX6_run 265 = .ok (.istore 4, 2) := by decide +kernel
theorem dX6_run_267 : decode cX6_run 267 = .ok (.iload 5, 2) := by decide +kernel
theorem dX6_run_269 : decode cX6_run 269 = .ok (.iload 10, 2) := by decide +kernel
theorem dX6_run_271 : decode cX6_run 271 = .ok (.ifCond .ge 7, 3) := by decide +kernel
theorem dX6_run_274 : decode cX6_run 274 = .ok (.iconst 0, 1) := by decide +kernel
theorem dX6_run_275 : decode cX6_run 275 = .ok (.goto 7, 3) := by decide +kernel
theorem dX6_run_278 : decode cX6_run 278 = .ok (.iconst 1, 1) := by decide +kernel
theorem dX6_run_279 : decode cX6_run 279 = .ok (.iload 10, 2) := by decide +kernel
theorem dX6_run_281 : decode cX6_run 281 = .ok (.ishl, 1) := by decide +kernel
theorem dX6_run_282 : decode cX6_run 282 = .ok (.ior, 1) := by decide +kernel
theorem dX6_run_283 : decode cX6_run 283 = .ok (.istore 5, 2) := by decide +kernel
theorem dX6_run_285 : decode cX6_run 285 = .ok (.iload 10, 2) := by decide +kernel
theorem dX6_run_287 : decode cX6_run 287 = .ok (.ifCond .lt 21, 3) := by decide +kernel
theorem dX6_run_290 : decode cX6_run 290 = .ok (.aload_n 0, 1) := by decide +kernel
theorem dX6_run_291 : decode cX6_run 291 = .ok (.getfield 22, 3) := by decide +kernel
theorem dX6_run_294 : decode cX6_run 294 = .ok (.iload 10, 2) := by decide +kernel
theorem dX6_run_296 : decode cX6_run 296 = .ok (.iaload, 1) := by decide +kernel
theorem dX6_run_297 : decode cX6_run 297 = .ok (.iconst 1, 1) := by decide +kernel
theorem dX6_run_298 : decode cX6_run 298 = .ok (.invokestatic 195, 3) := by decide +kernel
theorem dX6_run_301 : decode cX6_run 301 = .ok (.ifCond .eq 7, 3) := by decide +kernel
theorem dX6_run_304 : decode cX6_run 304 = .ok (.iconst 0, 1) := by decide +kernel
theorem dX6_run_305 : decode cX6_run 305 = .ok (.goto 7, 3) := by decide +kernel
theorem dX6_run_308 : decode cX6_run 308 = .ok (.iload 6, 2) := by decide +kernel
theorem dX6_run_310 : decode cX6_run 310 = .ok (.iconst 1, 1) := by decide +kernel
theorem dX6_run_311 : decode cX6_run 311 = .ok (.iadd, 1) := by decide +kernel
theorem dX6_run_312 : decode cX6_run 312 = .ok (.istore 6, 2) := by decide +kernel
theorem dX6_run_314 : decode cX6_run 314 = .ok (.iinc 7 1, 3) := by decide +kernel
theorem dX6_run_317 : decode cX6_run 317 = .ok (.goto (-148), 3) := by decide +kernel
theorem dX6_run_320 : decode cX6_run 320 = .ok (.aload_n 0, 1) := by decide +kernel
theorem dX6_run_321 : decode cX6_run 321 = .ok (.iload 7, 2) := by decide +kernel
theorem dX6_run_323 : decode cX6_run 323 = .ok (.iload 5, 2) := by decide +kernel
theorem dX6_run_325 : decode cX6_run 325 = .ok (.invokevirtual 111, 3) := by decide +kernel
theorem dX6_run_328 : decode cX6_run 328 = .ok (.ireturn, 1) := by decide +kernel
theorem dX6_caseOf_0 : decode cX6_caseOf 0 = .ok (.sipush 192, 3) := by decide +kernel
theorem dX6_caseOf_3 : decode cX6_caseOf 3 = .ok (.iload_n 0, 1) := by decide +kernel
theorem dX6_caseOf_4 : decode cX6_caseOf 4 = .ok (.imul, 1) := by decide +kernel
theorem dX6_caseOf_5 : decode cX6_caseOf 5 = .ok (.iconst 3, 1) := by decide +kernel
theorem dX6_caseOf_6 : decode cX6_caseOf 6 = .ok (.iload_n 1, 1) := by decide +kernel
theorem dX6_caseOf_7 : decode cX6_caseOf 7 = .ok (.imul, 1) := by decide +kernel
theorem dX6_caseOf_8 : decode cX6_caseOf 8 = .ok (.iadd, 1) := by decide +kernel
theorem dX6_caseOf_9 : decode cX6_caseOf 9 = .ok (.iload_n 2, 1) := by decide +kernel
theorem dX6_caseOf_10 : decode cX6_caseOf 10 = .ok (.iconst 2, 1) := by decide +kernel
theorem dX6_caseOf_11 : decode cX6_caseOf 11 = .ok (.if_icmp .le 7, 3) := by decide +kernel
theorem dX6_caseOf_14 : decode cX6_caseOf 14 = .ok (.iconst 2, 1) := by decide +kernel
theorem dX6_caseOf_15 : decode cX6_caseOf 15 = .ok (.goto 4, 3) := by decide +kernel
theorem dX6_caseOf_18 : decode cX6_caseOf 18 = .ok (.iload_n 2, 1) := by decide +kernel
theorem dX6_caseOf_19 : decode cX6_caseOf 19 = .ok (.iadd, 1) := by decide +kernel
theorem dX6_caseOf_20 : decode cX6_caseOf 20 = .ok (.ireturn, 1) := by decide +kernel
theorem dX6_behind_0 : decode cX6_behind 0 = .ok (.iload_n 1, 1) := by decide +kernel
theorem dX6_behind_1 : decode cX6_behind 1 = .ok (.iconst 3, 1) := by decide +kernel
theorem dX6_behind_2 : decode cX6_behind 2 = .ok (.idiv, 1) := by decide +kernel
theorem dX6_behind_3 : decode cX6_behind 3 = .ok (.bipush 64, 2) := by decide +kernel
theorem dX6_behind_5 : decode cX6_behind 5 = .ok (.irem, 1) := by decide +kernel
theorem dX6_behind_6 : decode cX6_behind 6 = .ok (.iload_n 3, 1) := by decide +kernel
theorem dX6_behind_7 : decode cX6_behind 7 = .ok (.ifCond .ge 7, 3) := by decide +kernel
theorem dX6_behind_10 : decode cX6_behind 10 = .ok (.iconst 0, 1) := by decide +kernel
theorem dX6_behind_11 : decode cX6_behind 11 = .ok (.goto 6, 3) := by decide +kernel
theorem dX6_behind_14 : decode cX6_behind 14 = .ok (.iconst 1, 1) := by decide +kernel
theorem dX6_behind_15 : decode cX6_behind 15 = .ok (.iload_n 3, 1) := by decide +kernel
theorem dX6_behind_16 : decode cX6_behind 16 = .ok (.ishl, 1) := by decide +kernel
theorem dX6_behind_17 : decode cX6_behind 17 = .ok (.ior, 1) := by decide +kernel
theorem dX6_behind_18 : decode cX6_behind 18 = .ok (.istore 4, 2) := by decide +kernel
theorem dX6_behind_20 : decode cX6_behind 20 = .ok (.iload_n 3, 1) := by decide +kernel
theorem dX6_behind_21 : decode cX6_behind 21 = .ok (.ifCond .lt 20, 3) := by decide +kernel
theorem dX6_behind_24 : decode cX6_behind 24 = .ok (.aload_n 0, 1) := by decide +kernel
theorem dX6_behind_25 : decode cX6_behind 25 = .ok (.getfield 22, 3) := by decide +kernel
theorem dX6_behind_28 : decode cX6_behind 28 = .ok (.iload_n 3, 1) := by decide +kernel
theorem dX6_behind_29 : decode cX6_behind 29 = .ok (.iaload, 1) := by decide +kernel
theorem dX6_behind_30 : decode cX6_behind 30 = .ok (.iconst 1, 1) := by decide +kernel
theorem dX6_behind_31 : decode cX6_behind 31 = .ok (.invokestatic 195, 3) := by decide +kernel
theorem dX6_behind_34 : decode cX6_behind 34 = .ok (.ifCond .eq 7, 3) := by decide +kernel
theorem dX6_behind_37 : decode cX6_behind 37 = .ok (.iconst 0, 1) := by decide +kernel
theorem dX6_behind_38 : decode cX6_behind 38 = .ok (.goto 8, 3) := by decide +kernel
theorem dX6_behind_41 : decode cX6_behind 41 = .ok (.iload_n 1, 1) := by decide +kernel
theorem dX6_behind_42 : decode cX6_behind 42 = .ok (.iconst 3, 1) := by decide +kernel
theorem dX6_behind_43 : decode cX6_behind 43 = .ok (.irem, 1) := by decide +kernel
theorem dX6_behind_44 : decode cX6_behind 44 = .ok (.iconst 1, 1) := by decide +kernel
theorem dX6_behind_45 : decode cX6_behind 45 = .ok (.iadd, 1) := by decide +kernel
theorem dX6_behind_46 : decode cX6_behind 46 = .ok (.istore 5, 2) := by decide +kernel
theorem dX6_behind_48 : decode cX6_behind 48 = .ok (.iload_n 1, 1) := by decide +kernel
theorem dX6_behind_49 : decode cX6_behind 49 = .ok (.sipush 192, 3) := by decide +kernel
theorem dX6_behind_52 : decode cX6_behind 52 = .ok (.idiv, 1) := by decide +kernel
theorem dX6_behind_53 : decode cX6_behind 53 = .ok (.iconst 1, 1) := by decide +kernel
theorem dX6_behind_54 : decode cX6_behind 54 = .ok (.iload_n 2, 1) := by decide +kernel
theorem dX6_behind_55 : decode cX6_behind 55 = .ok (.ishl, 1) := by decide +kernel
theorem dX6_behind_56 : decode cX6_behind 56 = .ok (.ior, 1) := by decide +kernel
theorem dX6_behind_57 : decode cX6_behind 57 = .ok (.iload 4, 2) := by decide +kernel
theorem dX6_behind_59 : decode cX6_behind 59 = .ok (.iload 5, 2) := by decide +kernel
theorem dX6_behind_61 : decode cX6_behind 61 = .ok (.invokestatic 240, 3) := by decide +kernel
theorem dX6_behind_64 : decode cX6_behind 64 = .ok (.ireturn, 1) := by decide +kernel
theorem dX6_leads_0 : decode cX6_leads 0 = .ok (.iload 4, 2) := by decide +kernel
theorem dX6_leads_2 : decode cX6_leads 2 = .ok (.iload_n 2, 1) := by decide +kernel
theorem dX6_leads_3 : decode cX6_leads 3 = .ok (.invokestatic 136, 3) := by decide +kernel
theorem dX6_leads_6 : decode cX6_leads 6 = .ok (.ifCond .eq 41, 3) := by decide +kernel
theorem dX6_leads_9 : decode cX6_leads 9 = .ok (.iload_n 1, 1) := by decide +kernel
theorem dX6_leads_10 : decode cX6_leads 10 = .ok (.sipush 192, 3) := by decide +kernel
theorem dX6_leads_13 : decode cX6_leads 13 = .ok (.idiv, 1) := by decide +kernel
theorem dX6_leads_14 : decode cX6_leads 14 = .ok (.iload_n 2, 1) := by decide +kernel
theorem dX6_leads_15 : decode cX6_leads 15 = .ok (.invokestatic 136, 3) := by decide +kernel
theorem dX6_leads_18 : decode cX6_leads 18 = .ok (.ifCond .ne 29, 3) := by decide +kernel
theorem dX6_leads_21 : decode cX6_leads 21 = .ok (.iload_n 3, 1) := by decide +kernel
theorem dX6_leads_22 : decode cX6_leads 22 = .ok (.ifCond .lt 21, 3) := by decide +kernel
theorem dX6_leads_25 : decode cX6_leads 25 = .ok (.aload_n 0, 1) := by decide +kernel
theorem dX6_leads_26 : decode cX6_leads 26 = .ok (.iload_n 3, 1) := by decide +kernel
theorem dX6_leads_27 : decode cX6_leads 27 = .ok (.iload_n 2, 1) := by decide +kernel
theorem dX6_leads_28 : decode cX6_leads 28 = .ok (.iload_n 1, 1) := by decide +kernel
theorem dX6_leads_29 : decode cX6_leads 29 = .ok (.iconst 3, 1) := by decide +kernel
theorem dX6_leads_30 : decode cX6_leads 30 = .ok (.idiv, 1) := by decide +kernel
theorem dX6_leads_31 : decode cX6_leads 31 = .ok (.bipush 64, 2) := by decide +kernel
theorem dX6_leads_33 : decode cX6_leads 33 = .ok (.irem, 1) := by decide +kernel
theorem dX6_leads_34 : decode cX6_leads 34 = .ok (.iload_n 1, 1) := by decide +kernel
theorem dX6_leads_35 : decode cX6_leads 35 = .ok (.iconst 3, 1) := by decide +kernel
theorem dX6_leads_36 : decode cX6_leads 36 = .ok (.irem, 1) := by decide +kernel
theorem dX6_leads_37 : decode cX6_leads 37 = .ok (.invokevirtual 210, 3) := by decide +kernel
theorem dX6_leads_40 : decode cX6_leads 40 = .ok (.ifCond .eq 7, 3) := by decide +kernel
theorem dX6_leads_43 : decode cX6_leads 43 = .ok (.iconst 1, 1) := by decide +kernel
theorem dX6_leads_44 : decode cX6_leads 44 = .ok (.goto 4, 3) := by decide +kernel
theorem dX6_leads_47 : decode cX6_leads 47 = .ok (.iconst 0, 1) := by decide +kernel
theorem dX6_leads_48 : decode cX6_leads 48 = .ok (.ireturn, 1) := by decide +kernel
theorem dX6_begin_0 : decode cX6_begin 0 = .ok (.iconst 0, 1) := by decide +kernel
theorem dX6_begin_1 : decode cX6_begin 1 = .ok (.aload_n 0, 1) := by decide +kernel
theorem dX6_begin_2 : decode cX6_begin 2 = .ok (.getfield 43, 3) := by decide +kernel
theorem dX6_begin_5 : decode cX6_begin 5 = .ok (.iconst 3, 1) := by decide +kernel
theorem dX6_begin_6 : decode cX6_begin 6 = .ok (.iaload, 1) := by decide +kernel
theorem dX6_begin_7 : decode cX6_begin 7 = .ok (.aload_n 0, 1) := by decide +kernel
theorem dX6_begin_8 : decode cX6_begin 8 = .ok (.getfield 43, 3) := by decide +kernel
theorem dX6_begin_11 : decode cX6_begin 11 = .ok (.iconst 4, 1) := by decide +kernel
theorem dX6_begin_12 : decode cX6_begin 12 = .ok (.iaload, 1) := by decide +kernel
theorem dX6_begin_13 : decode cX6_begin 13 = .ok (.invokestatic 240, 3) := by decide +kernel
theorem dX6_begin_16 : decode cX6_begin 16 = .ok (.ireturn, 1) := by decide +kernel
theorem dX6_reach_0 : decode cX6_reach 0 = .ok (.iconst 0, 1) := by decide +kernel
theorem dX6_reach_1 : decode cX6_reach 1 = .ok (.istore_n 2, 1) := by decide +kernel
theorem dX6_reach_2 : decode cX6_reach 2 = .ok (.iload_n 2, 1) := by decide +kernel
theorem dX6_reach_3 : decode cX6_reach 3 = .ok (.sipush 24576, 3) := by decide +kernel
theorem dX6_reach_6 : decode cX6_reach 6 = .ok (.if_icmp .ge 16, 3) := by decide +kernel
theorem dX6_reach_9 : decode cX6_reach 9 = .ok (.aload_n 0, 1) := by decide +kernel
theorem dX6_reach_10 : decode cX6_reach 10 = .ok (.getfield 72, 3) := by decide +kernel
theorem dX6_reach_13 : decode cX6_reach 13 = .ok (.iload_n 2, 1) := by decide +kernel
theorem dX6_reach_14 : decode cX6_reach 14 = .ok (.iconst 0, 1) := by decide +kernel
theorem dX6_reach_15 : decode cX6_reach 15 = .ok (.bastore, 1) := by decide +kernel
theorem dX6_reach_16 : decode cX6_reach 16 = .ok (.iinc 2 1, 3) := by decide +kernel
theorem dX6_reach_19 : decode cX6_reach 19 = .ok (.goto (-17), 3) := by decide +kernel
theorem dX6_reach_22 : decode cX6_reach 22 = .ok (.aload_n 0, 1) := by decide +kernel
theorem dX6_reach_23 : decode cX6_reach 23 = .ok (.getfield 72, 3) := by decide +kernel
theorem dX6_reach_26 : decode cX6_reach 26 = .ok (.aload_n 0, 1) := by decide +kernel
theorem dX6_reach_27 : decode cX6_reach 27 = .ok (.invokevirtual 243, 3) := by decide +kernel
theorem dX6_reach_30 : decode cX6_reach 30 = .ok (.iconst 1, 1) := by decide +kernel
theorem dX6_reach_31 : decode cX6_reach 31 = .ok (.bastore, 1) := by decide +kernel
theorem dX6_reach_32 : decode cX6_reach 32 = .ok (.iconst 0, 1) := by decide +kernel
theorem dX6_reach_33 : decode cX6_reach 33 = .ok (.istore_n 2, 1) := by decide +kernel
theorem dX6_reach_34 : decode cX6_reach 34 = .ok (.iload_n 2, 1) := by decide +kernel
theorem dX6_reach_35 : decode cX6_reach 35 = .ok (.sipush 24576, 3) := by decide +kernel
theorem dX6_reach_38 : decode cX6_reach 38 = .ok (.if_icmp .ge 78, 3) := by decide +kernel
theorem dX6_reach_41 : decode cX6_reach 41 = .ok (.aload_n 0, 1) := by decide +kernel
theorem dX6_reach_42 : decode cX6_reach 42 = .ok (.getfield 72, 3) := by decide +kernel
theorem dX6_reach_45 : decode cX6_reach 45 = .ok (.iload_n 2, 1) := by decide +kernel
theorem dX6_reach_46 : decode cX6_reach 46 = .ok (.baload, 1) := by decide +kernel
theorem dX6_reach_47 : decode cX6_reach 47 = .ok (.ifCond .eq 63, 3) := by decide +kernel
theorem dX6_reach_50 : decode cX6_reach 50 = .ok (.iconst 0, 1) := by decide +kernel
theorem dX6_reach_51 : decode cX6_reach 51 = .ok (.istore_n 3, 1) := by decide +kernel
theorem dX6_reach_52 : decode cX6_reach 52 = .ok (.iload_n 3, 1) := by decide +kernel
theorem dX6_reach_53 : decode cX6_reach 53 = .ok (.aload_n 0, 1) := by decide +kernel
theorem dX6_reach_54 : decode cX6_reach 54 = .ok (.getfield 159, 3) := by decide +kernel
theorem dX6_reach_57 : decode cX6_reach 57 = .ok (.if_icmp .ge 53, 3) := by decide +kernel
theorem dX6_reach_60 : decode cX6_reach 60 = .ok (.iconst (-1), 1) := by decide +kernel
theorem dX6_reach_61 : decode cX6_reach 61 = .ok (.istore 4, 2) := by decide +kernel
theorem dX6_reach_63 : decode cX6_reach 63 = .ok (.iload 4, 2) := by decide +kernel
theorem dX6_reach_65 : decode cX6_reach 65 = .ok (.aload_n 0, 1) := by decide +kernel
theorem dX6_reach_66 : decode cX6_reach 66 = .ok (.getfield 156, 3) := by decide +kernel
theorem dX6_reach_69 : decode cX6_reach 69 = .ok (.if_icmp .ge 35, 3) := by decide +kernel
theorem dX6_reach_72 : decode cX6_reach 72 = .ok (.aload_n 0, 1) := by decide +kernel
theorem dX6_reach_73 : decode cX6_reach 73 = .ok (.iload_n 2, 1) := by decide +kernel
theorem dX6_reach_74 : decode cX6_reach 74 = .ok (.iload_n 3, 1) := by decide +kernel
theorem dX6_reach_75 : decode cX6_reach 75 = .ok (.iload 4, 2) := by decide +kernel
theorem dX6_reach_77 : decode cX6_reach 77 = .ok (.iload_n 1, 1) := by decide +kernel
theorem dX6_reach_78 : decode cX6_reach 78 = .ok (.invokevirtual 247, 3) := by decide +kernel
theorem dX6_reach_81 : decode cX6_reach 81 = .ok (.ifCond .eq 17, 3) := by decide +kernel
theorem dX6_reach_84 : decode cX6_reach 84 = .ok (.aload_n 0, 1) := by decide +kernel
theorem dX6_reach_85 : decode cX6_reach 85 = .ok (.getfield 72, 3) := by decide +kernel
theorem dX6_reach_88 : decode cX6_reach 88 = .ok (.aload_n 0, 1) := by decide +kernel
theorem dX6_reach_89 : decode cX6_reach 89 = .ok (.iload_n 2, 1) := by decide +kernel
theorem dX6_reach_90 : decode cX6_reach 90 = .ok (.iload_n 3, 1) := by decide +kernel
theorem dX6_reach_91 : decode cX6_reach 91 = .ok (.iload 4, 2) := by decide +kernel
theorem dX6_reach_93 : decode cX6_reach 93 = .ok (.invokevirtual 250, 3) := by decide +kernel
theorem dX6_reach_96 : decode cX6_reach 96 = .ok (.iconst 1, 1) := by decide +kernel
theorem dX6_reach_97 : decode cX6_reach 97 = .ok (.bastore, 1) := by decide +kernel
theorem dX6_reach_98 : decode cX6_reach 98 = .ok (.iinc 4 1, 3) := by decide +kernel
theorem dX6_reach_101 : decode cX6_reach 101 = .ok (.goto (-38), 3) := by decide +kernel
theorem dX6_reach_104 : decode cX6_reach 104 = .ok (.iinc 3 1, 3) := by decide +kernel
theorem dX6_reach_107 : decode cX6_reach 107 = .ok (.goto (-55), 3) := by decide +kernel
theorem dX6_reach_110 : decode cX6_reach 110 = .ok (.iinc 2 1, 3) := by decide +kernel
theorem dX6_reach_113 : decode cX6_reach 113 = .ok (.goto (-79), 3) := by decide +kernel
theorem dX6_reach_116 : decode cX6_reach 116 = .ok (.return_, 1) := by decide +kernel
theorem dX6_findMosts_0 : decode cX6_findMosts 0 = .ok (.iconst 0, 1) := by decide +kernel
theorem dX6_findMosts_1 : decode cX6_findMosts 1 = .ok (.istore_n 2, 1) := by decide +kernel
theorem dX6_findMosts_2 : decode cX6_findMosts 2 = .ok (.iload_n 2, 1) := by decide +kernel
theorem dX6_findMosts_3 : decode cX6_findMosts 3 = .ok (.sipush 128, 3) := by decide +kernel
theorem dX6_findMosts_6 : decode cX6_findMosts 6 = .ok (.if_icmp .ge 117, 3) := by decide +kernel
theorem dX6_findMosts_9 : decode cX6_findMosts 9 = .ok (.aload_n 0, 1) := by decide +kernel
theorem dX6_findMosts_10 : decode cX6_findMosts 10 = .ok (.getfield 78, 3) := by decide +kernel
theorem dX6_findMosts_13 : decode cX6_findMosts 13 = .ok (.iload_n 2, 1) := by decide +kernel
theorem dX6_findMosts_14 : decode cX6_findMosts 14 = .ok (.iconst (-1), 1) := by decide +kernel
theorem dX6_findMosts_15 : decode cX6_findMosts 15 = .ok (.iastore, 1) := by decide +kernel
theorem dX6_findMosts_16 : decode cX6_findMosts 16 = .ok (.sipush 192, 3) := by decide +kernel
theorem dX6_findMosts_19 : decode cX6_findMosts 19 = .ok (.iload_n 2, 1) := by decide +kernel
theorem dX6_findMosts_20 : decode cX6_findMosts 20 = .ok (.imul, 1) := by decide +kernel
theorem dX6_findMosts_21 : decode cX6_findMosts 21 = .ok (.istore_n 3, 1) := by decide +kernel
theorem dX6_findMosts_22 : decode cX6_findMosts 22 = .ok (.iload_n 3, 1) := by decide +kernel
theorem dX6_findMosts_23 : decode cX6_findMosts 23 = .ok (.sipush 192, 3) := by decide +kernel
theorem dX6_findMosts_26 : decode cX6_findMosts 26 = .ok (.iload_n 2, 1) := by decide +kernel
theorem dX6_findMosts_27 : decode cX6_findMosts 27 = .ok (.imul, 1) := by decide +kernel
theorem dX6_findMosts_28 : decode cX6_findMosts 28 = .ok (.sipush 192, 3) := by decide +kernel
theorem dX6_findMosts_31 : decode cX6_findMosts 31 = .ok (.iadd, 1) := by decide +kernel
theorem dX6_findMosts_32 : decode cX6_findMosts 32 = .ok (.if_icmp .ge 85, 3) := by decide +kernel
theorem dX6_findMosts_35 : decode cX6_findMosts 35 = .ok (.iload_n 3, 1) := by decide +kernel
theorem dX6_findMosts_36 : decode cX6_findMosts 36 = .ok (.iconst 3, 1) := by decide +kernel
theorem dX6_findMosts_37 : decode cX6_findMosts 37 = .ok (.idiv, 1) := by decide +kernel
theorem dX6_findMosts_38 : decode cX6_findMosts 38 = .ok (.bipush 64, 2) := by decide +kernel
theorem dX6_findMosts_40 : decode cX6_findMosts 40 = .ok (.irem, 1) := by decide +kernel
theorem dX6_findMosts_41 : decode cX6_findMosts 41 = .ok (.istore 4, 2) := by decide +kernel
theorem dX6_findMosts_43 : decode cX6_findMosts 43 = .ok (.aload_n 0, 1) := by decide +kernel
theorem dX6_findMosts_44 : decode cX6_findMosts 44 = .ok (.getfield 72, 3) := by decide +kernel
theorem dX6_findMosts_47 : decode cX6_findMosts 47 = .ok (.iload_n 3, 1) := by decide +kernel
theorem dX6_findMosts_48 : decode cX6_findMosts 48 = .ok (.baload, 1) := by decide +kernel
theorem dX6_findMosts_49 : decode cX6_findMosts 49 = .ok (.ifCond .eq 20, 3) := by decide +kernel
theorem dX6_findMosts_52 : decode cX6_findMosts 52 = .ok (.iload_n 1, 1) := by decide +kernel
theorem dX6_findMosts_53 : decode cX6_findMosts 53 = .ok (.ifCond .lt 12, 3) := by decide +kernel
theorem dX6_findMosts_56 : decode cX6_findMosts 56 = .ok (.iload 4, 2) := by decide +kernel
theorem dX6_findMosts_58 : decode cX6_findMosts 58 = .ok (.iload_n 1, 1) := by decide +kernel
theorem dX6_findMosts_59 : decode cX6_findMosts 59 = .ok (.invokestatic 136, 3) := by decide +kernel
theorem dX6_findMosts_62 : decode cX6_findMosts 62 = .ok (.ifCond .eq 7, 3) := by decide +kernel
theorem dX6_findMosts_65 : decode cX6_findMosts 65 = .ok (.iconst 1, 1) := by decide +kernel
theorem dX6_findMosts_66 : decode cX6_findMosts 66 = .ok (.goto 4, 3) := by decide +kernel
theorem dX6_findMosts_69 : decode cX6_findMosts 69 = .ok (.iconst 0, 1) := by decide +kernel
theorem dX6_findMosts_70 : decode cX6_findMosts 70 = .ok (.istore 5, 2) := by decide +kernel
theorem dX6_findMosts_72 : decode cX6_findMosts 72 = .ok (.aload_n 0, 1) := by decide +kernel
theorem dX6_findMosts_73 : decode cX6_findMosts 73 = .ok (.getfield 78, 3) := by decide +kernel
theorem dX6_findMosts_76 : decode cX6_findMosts 76 = .ok (.iload_n 2, 1) := by decide +kernel
theorem dX6_findMosts_77 : decode cX6_findMosts 77 = .ok (.iload 5, 2) := by decide +kernel
theorem dX6_findMosts_79 : decode cX6_findMosts 79 = .ok (.ifCond .eq 25, 3) := by decide +kernel
theorem dX6_findMosts_82 : decode cX6_findMosts 82 = .ok (.iload 4, 2) := by decide +kernel
theorem dX6_findMosts_84 : decode cX6_findMosts 84 = .ok (.invokestatic 200, 3) := by decide +kernel
theorem dX6_findMosts_87 : decode cX6_findMosts 87 = .ok (.aload_n 0, 1) := by decide +kernel
theorem dX6_findMosts_88 : decode cX6_findMosts 88 = .ok (.getfield 78, 3) := by decide +kernel
theorem dX6_findMosts_91 : decode cX6_findMosts 91 = .ok (.iload_n 2, 1) := by decide +kernel
theorem dX6_findMosts_92 : decode cX6_findMosts 92 = .ok (.iaload, 1) := by decide +kernel
theorem dX6_findMosts_93 : decode cX6_findMosts 93 = .ok (.if_icmp .le 11, 3) := by decide +kernel
theorem dX6_findMosts_96 : decode cX6_findMosts 96 = .ok (.iload 4, 2) := by decide +kernel
theorem dX6_findMosts_98 : decode cX6_findMosts 98 = .ok (.invokestatic 200, 3) := by decide +kernel
theorem dX6_findMosts_101 : decode cX6_findMosts 101 = .ok (.goto 9, 3) := by decide +kernel
theorem dX6_findMosts_104 : decode cX6_findMosts 104 = .ok (.aload_n 0, 1) := by decide +kernel
theorem dX6_findMosts_105 : decode cX6_findMosts 105 = .ok (.getfield 78, 3) := by decide +kernel
theorem dX6_findMosts_108 : decode cX6_findMosts 108 = .ok (.iload_n 2, 1) := by decide +kernel
theorem dX6_findMosts_109 : decode cX6_findMosts 109 = .ok (.iaload, 1) := by decide +kernel
theorem dX6_findMosts_110 : decode cX6_findMosts 110 = .ok (.iastore, 1) := by decide +kernel
theorem dX6_findMosts_111 : decode cX6_findMosts 111 = .ok (.iinc 3 1, 3) := by decide +kernel
theorem dX6_findMosts_114 : decode cX6_findMosts 114 = .ok (.goto (-92), 3) := by decide +kernel
theorem dX6_findMosts_117 : decode cX6_findMosts 117 = .ok (.iinc 2 1, 3) := by decide +kernel
theorem dX6_findMosts_120 : decode cX6_findMosts 120 = .ok (.goto (-118), 3) := by decide +kernel
theorem dX6_findMosts_123 : decode cX6_findMosts 123 = .ok (.return_, 1) := by decide +kernel
theorem dX6_mostOf_0 : decode cX6_mostOf 0 = .ok (.iconst (-1), 1) := by decide +kernel
theorem dX6_mostOf_1 : decode cX6_mostOf 1 = .ok (.istore_n 2, 1) := by decide +kernel
theorem dX6_mostOf_2 : decode cX6_mostOf 2 = .ok (.iconst 0, 1) := by decide +kernel
theorem dX6_mostOf_3 : decode cX6_mostOf 3 = .ok (.istore_n 3, 1) := by decide +kernel
theorem dX6_mostOf_4 : decode cX6_mostOf 4 = .ok (.iload_n 3, 1) := by decide +kernel
theorem dX6_mostOf_5 : decode cX6_mostOf 5 = .ok (.sipush 128, 3) := by decide +kernel
theorem dX6_mostOf_8 : decode cX6_mostOf 8 = .ok (.if_icmp .ge 38, 3) := by decide +kernel
theorem dX6_mostOf_11 : decode cX6_mostOf 11 = .ok (.iload_n 3, 1) := by decide +kernel
theorem dX6_mostOf_12 : decode cX6_mostOf 12 = .ok (.iload_n 1, 1) := by decide +kernel
theorem dX6_mostOf_13 : decode cX6_mostOf 13 = .ok (.iconst (-1), 1) := by decide +kernel
theorem dX6_mostOf_14 : decode cX6_mostOf 14 = .ok (.ixor, 1) := by decide +kernel
theorem dX6_mostOf_15 : decode cX6_mostOf 15 = .ok (.iand, 1) := by decide +kernel
theorem dX6_mostOf_16 : decode cX6_mostOf 16 = .ok (.ifCond .ne 22, 3) := by decide +kernel
theorem dX6_mostOf_19 : decode cX6_mostOf 19 = .ok (.aload_n 0, 1) := by decide +kernel
theorem dX6_mostOf_20 : decode cX6_mostOf 20 = .ok (.getfield 78, 3) := by decide +kernel
theorem dX6_mostOf_23 : decode cX6_mostOf 23 = .ok (.iload_n 3, 1) := by decide +kernel
theorem dX6_mostOf_24 : decode cX6_mostOf 24 = .ok (.iaload, 1) := by decide +kernel
theorem dX6_mostOf_25 : decode cX6_mostOf 25 = .ok (.iload_n 2, 1) := by decide +kernel
theorem dX6_mostOf_26 : decode cX6_mostOf 26 = .ok (.if_icmp .le 12, 3) := by decide +kernel
theorem dX6_mostOf_29 : decode cX6_mostOf 29 = .ok (.aload_n 0, 1) := by decide +kernel
theorem dX6_mostOf_30 : decode cX6_mostOf 30 = .ok (.getfield 78, 3) := by decide +kernel
theorem dX6_mostOf_33 : decode cX6_mostOf 33 = .ok (.iload_n 3, 1) := by decide +kernel
theorem dX6_mostOf_34 : decode cX6_mostOf 34 = .ok (.iaload, 1) := by decide +kernel
theorem dX6_mostOf_35 : decode cX6_mostOf 35 = .ok (.goto 4, 3) := by decide +kernel
theorem dX6_mostOf_38 : decode cX6_mostOf 38 = .ok (.iload_n 2, 1) := by decide +kernel
theorem dX6_mostOf_39 : decode cX6_mostOf 39 = .ok (.istore_n 2, 1) := by decide +kernel
theorem dX6_mostOf_40 : decode cX6_mostOf 40 = .ok (.iinc 3 1, 3) := by decide +kernel
theorem dX6_mostOf_43 : decode cX6_mostOf 43 = .ok (.goto (-39), 3) := by decide +kernel
theorem dX6_mostOf_46 : decode cX6_mostOf 46 = .ok (.iload_n 2, 1) := by decide +kernel
theorem dX6_mostOf_47 : decode cX6_mostOf 47 = .ok (.ireturn, 1) := by decide +kernel
theorem dX6_most_0 : decode cX6_most 0 = .ok (.aload_n 0, 1) := by decide +kernel
theorem dX6_most_1 : decode cX6_most 1 = .ok (.getfield 156, 3) := by decide +kernel
theorem dX6_most_4 : decode cX6_most 4 = .ok (.ifCond .ne 6, 3) := by decide +kernel
theorem dX6_most_7 : decode cX6_most 7 = .ok (.bipush (-4), 2) := by decide +kernel
theorem dX6_most_9 : decode cX6_most 9 = .ok (.ireturn, 1) := by decide +kernel
theorem dX6_most_10 : decode cX6_most 10 = .ok (.aload_n 0, 1) := by decide +kernel
theorem dX6_most_11 : decode cX6_most 11 = .ok (.aload_n 0, 1) := by decide +kernel
theorem dX6_most_12 : decode cX6_most 12 = .ok (.getfield 43, 3) := by decide +kernel
theorem dX6_most_15 : decode cX6_most 15 = .ok (.iconst 0, 1) := by decide +kernel
theorem dX6_most_16 : decode cX6_most 16 = .ok (.iaload, 1) := by decide +kernel
theorem dX6_most_17 : decode cX6_most 17 = .ok (.invokevirtual 213, 3) := by decide +kernel
theorem dX6_most_20 : decode cX6_most 20 = .ok (.istore_n 1, 1) := by decide +kernel
theorem dX6_most_21 : decode cX6_most 21 = .ok (.aload_n 0, 1) := by decide +kernel
theorem dX6_most_22 : decode cX6_most 22 = .ok (.iload_n 1, 1) := by decide +kernel
theorem dX6_most_23 : decode cX6_most 23 = .ok (.invokevirtual 253, 3) := by decide +kernel
theorem dX6_most_26 : decode cX6_most 26 = .ok (.aload_n 0, 1) := by decide +kernel
theorem dX6_most_27 : decode cX6_most 27 = .ok (.bipush (-9), 2) := by decide +kernel
theorem dX6_most_29 : decode cX6_most 29 = .ok (.invokevirtual 256, 3) := by decide +kernel
theorem dX6_most_32 : decode cX6_most 32 = .ok (.aload_n 0, 1) := by decide +kernel
theorem dX6_most_33 : decode cX6_most 33 = .ok (.iload_n 1, 1) := by decide +kernel
theorem dX6_most_34 : decode cX6_most 34 = .ok (.invokevirtual 259, 3) := by decide +kernel
theorem dX6_most_37 : decode cX6_most 37 = .ok (.istore_n 2, 1) := by decide +kernel
theorem dX6_most_38 : decode cX6_most 38 = .ok (.bipush 7, 2) := by decide +kernel
theorem dX6_most_40 : decode cX6_most 40 = .ok (.istore_n 3, 1) := by decide +kernel
theorem dX6_most_41 : decode cX6_most 41 = .ok (.iconst 0, 1) := by decide +kernel
theorem dX6_most_42 : decode cX6_most 42 = .ok (.istore 4, 2) := by decide +kernel
theorem dX6_most_44 : decode cX6_most 44 = .ok (.iload 4, 2) := by decide +kernel
theorem dX6_most_46 : decode cX6_most 46 = .ok (.sipush 128, 3) := by decide +kernel
theorem dX6_most_49 : decode cX6_most 49 = .ok (.if_icmp .ge 39, 3) := by decide +kernel
theorem dX6_most_52 : decode cX6_most 52 = .ok (.aload_n 0, 1) := by decide +kernel
theorem dX6_most_53 : decode cX6_most 53 = .ok (.getfield 78, 3) := by decide +kernel
theorem dX6_most_56 : decode cX6_most 56 = .ok (.iload 4, 2) := by decide +kernel
theorem dX6_most_58 : decode cX6_most 58 = .ok (.iaload, 1) := by decide +kernel
theorem dX6_most_59 : decode cX6_most 59 = .ok (.iload_n 2, 1) := by decide +kernel
theorem dX6_most_60 : decode cX6_most 60 = .ok (.if_icmp .ne 20, 3) := by decide +kernel
theorem dX6_most_63 : decode cX6_most 63 = .ok (.iload 4, 2) := by decide +kernel
theorem dX6_most_65 : decode cX6_most 65 = .ok (.invokestatic 200, 3) := by decide +kernel
theorem dX6_most_68 : decode cX6_most 68 = .ok (.iload_n 3, 1) := by decide +kernel
theorem dX6_most_69 : decode cX6_most 69 = .ok (.if_icmp .ge 11, 3) := by decide +kernel
theorem dX6_most_72 : decode cX6_most 72 = .ok (.iload 4, 2) := by decide +kernel
theorem dX6_most_74 : decode cX6_most 74 = .ok (.invokestatic 200, 3) := by decide +kernel
theorem dX6_most_77 : decode cX6_most 77 = .ok (.goto 4, 3) := by decide +kernel
theorem dX6_most_80 : decode cX6_most 80 = .ok (.iload_n 3, 1) := by decide +kernel
theorem dX6_most_81 : decode cX6_most 81 = .ok (.istore_n 3, 1) := by decide +kernel
theorem dX6_most_82 : decode cX6_most 82 = .ok (.iinc 4 1, 3) := by decide +kernel
theorem dX6_most_85 : decode cX6_most 85 = .ok (.goto (-41), 3) := by decide +kernel
theorem dX6_most_88 : decode cX6_most 88 = .ok (.aload_n 0, 1) := by decide +kernel
theorem dX6_most_89 : decode cX6_most 89 = .ok (.iload_n 2, 1) := by decide +kernel
theorem dX6_most_90 : decode cX6_most 90 = .ok (.iload_n 3, 1) := by decide +kernel
theorem dX6_most_91 : decode cX6_most 91 = .ok (.invokevirtual 111, 3) := by decide +kernel
theorem dX6_most_94 : decode cX6_most 94 = .ok (.ireturn, 1) := by decide +kernel
theorem dX6_fewest_0 : decode cX6_fewest 0 = .ok (.aload_n 0, 1) := by decide +kernel
theorem dX6_fewest_1 : decode cX6_fewest 1 = .ok (.iload_n 1, 1) := by decide +kernel
theorem dX6_fewest_2 : decode cX6_fewest 2 = .ok (.invokevirtual 168, 3) := by decide +kernel
theorem dX6_fewest_5 : decode cX6_fewest 5 = .ok (.ifCond .ne 5, 3) := by decide +kernel
theorem dX6_fewest_8 : decode cX6_fewest 8 = .ok (.iconst (-1), 1) := by decide +kernel
theorem dX6_fewest_9 : decode cX6_fewest 9 = .ok (.ireturn, 1) := by decide +kernel
theorem dX6_fewest_10 : decode cX6_fewest 10 = .ok (.aload_n 0, 1) := by decide +kernel
theorem dX6_fewest_11 : decode cX6_fewest 11 = .ok (.aload_n 0, 1) := by decide +kernel
theorem dX6_fewest_12 : decode cX6_fewest 12 = .ok (.aload_n 0, 1) := by decide +kernel
theorem dX6_fewest_13 : decode cX6_fewest 13 = .ok (.getfield 43, 3) := by decide +kernel
theorem dX6_fewest_16 : decode cX6_fewest 16 = .ok (.iconst 0, 1) := by decide +kernel
theorem dX6_fewest_17 : decode cX6_fewest 17 = .ok (.iaload, 1) := by decide +kernel
theorem dX6_fewest_18 : decode cX6_fewest 18 = .ok (.invokevirtual 213, 3) := by decide +kernel
theorem dX6_fewest_21 : decode cX6_fewest 21 = .ok (.invokevirtual 253, 3) := by decide +kernel
theorem dX6_fewest_24 : decode cX6_fewest 24 = .ok (.aload_n 0, 1) := by decide +kernel
theorem dX6_fewest_25 : decode cX6_fewest 25 = .ok (.iload_n 1, 1) := by decide +kernel
theorem dX6_fewest_26 : decode cX6_fewest 26 = .ok (.invokevirtual 256, 3) := by decide +kernel
theorem dX6_fewest_29 : decode cX6_fewest 29 = .ok (.bipush 99, 2) := by decide +kernel
theorem dX6_fewest_31 : decode cX6_fewest 31 = .ok (.istore_n 2, 1) := by decide +kernel
theorem dX6_fewest_32 : decode cX6_fewest 32 = .ok (.iconst 0, 1) := by decide +kernel
theorem dX6_fewest_33 : decode cX6_fewest 33 = .ok (.istore_n 3, 1) := by decide +kernel
theorem dX6_fewest_34 : decode cX6_fewest 34 = .ok (.iload_n 3, 1) := by decide +kernel
theorem dX6_fewest_35 : decode cX6_fewest 35 = .ok (.sipush 128, 3) := by decide +kernel
theorem dX6_fewest_38 : decode cX6_fewest 38 = .ok (.if_icmp .ge 35, 3) := by decide +kernel
theorem dX6_fewest_41 : decode cX6_fewest 41 = .ok (.aload_n 0, 1) := by decide +kernel
theorem dX6_fewest_42 : decode cX6_fewest 42 = .ok (.getfield 78, 3) := by decide +kernel
theorem dX6_fewest_45 : decode cX6_fewest 45 = .ok (.iload_n 3, 1) := by decide +kernel
theorem dX6_fewest_46 : decode cX6_fewest 46 = .ok (.iaload, 1) := by decide +kernel
theorem dX6_fewest_47 : decode cX6_fewest 47 = .ok (.ifCond .lt 18, 3) := by decide +kernel
theorem dX6_fewest_50 : decode cX6_fewest 50 = .ok (.iload_n 3, 1) := by decide +kernel
theorem dX6_fewest_51 : decode cX6_fewest 51 = .ok (.invokestatic 200, 3) := by decide +kernel
theorem dX6_fewest_54 : decode cX6_fewest 54 = .ok (.iload_n 2, 1) := by decide +kernel
theorem dX6_fewest_55 : decode cX6_fewest 55 = .ok (.if_icmp .ge 10, 3) := by decide +kernel
theorem dX6_fewest_58 : decode cX6_fewest 58 = .ok (.iload_n 3, 1) := by decide +kernel
theorem dX6_fewest_59 : decode cX6_fewest 59 = .ok (.invokestatic 200, 3) := by decide +kernel
theorem dX6_fewest_62 : decode cX6_fewest 62 = .ok (.goto 4, 3) := by decide +kernel
theorem dX6_fewest_65 : decode cX6_fewest 65 = .ok (.iload_n 2, 1) := by decide +kernel
theorem dX6_fewest_66 : decode cX6_fewest 66 = .ok (.istore_n 2, 1) := by decide +kernel
theorem dX6_fewest_67 : decode cX6_fewest 67 = .ok (.iinc 3 1, 3) := by decide +kernel
theorem dX6_fewest_70 : decode cX6_fewest 70 = .ok (.goto (-36), 3) := by decide +kernel
theorem dX6_fewest_73 : decode cX6_fewest 73 = .ok (.iload_n 2, 1) := by decide +kernel
theorem dX6_fewest_74 : decode cX6_fewest 74 = .ok (.bipush 99, 2) := by decide +kernel
theorem dX6_fewest_76 : decode cX6_fewest 76 = .ok (.if_icmp .ne 8, 3) := by decide +kernel
theorem dX6_fewest_79 : decode cX6_fewest 79 = .ok (.bipush (-9), 2) := by decide +kernel
theorem dX6_fewest_81 : decode cX6_fewest 81 = .ok (.goto 4, 3) := by decide +kernel
theorem dX6_fewest_84 : decode cX6_fewest 84 = .ok (.iload_n 2, 1) := by decide +kernel
theorem dX6_fewest_85 : decode cX6_fewest 85 = .ok (.ireturn, 1) := by decide +kernel
theorem dX6_findNeed_0 : decode cX6_findNeed 0 = .ok (.sipush 24575, 3) := by decide +kernel
theorem dX6_findNeed_3 : decode cX6_findNeed 3 = .ok (.istore_n 3, 1) := by decide +kernel
theorem dX6_findNeed_4 : decode cX6_findNeed 4 = .ok (.iload_n 3, 1) := by decide +kernel
theorem dX6_findNeed_5 : decode cX6_findNeed 5 = .ok (.ifCond .lt 143, 3) := by decide +kernel
theorem dX6_findNeed_8 : decode cX6_findNeed 8 = .ok (.aload_n 0, 1) := by decide +kernel
theorem dX6_findNeed_9 : decode cX6_findNeed 9 = .ok (.getfield 75, 3) := by decide +kernel
theorem dX6_findNeed_12 : decode cX6_findNeed 12 = .ok (.iload_n 3, 1) := by decide +kernel
theorem dX6_findNeed_13 : decode cX6_findNeed 13 = .ok (.iload_n 3, 1) := by decide +kernel
theorem dX6_findNeed_14 : decode cX6_findNeed 14 = .ok (.iconst 3, 1) := by decide +kernel
theorem dX6_findNeed_15 : decode cX6_findNeed 15 = .ok (.idiv, 1) := by decide +kernel
theorem dX6_findNeed_16 : decode cX6_findNeed 16 = .ok (.bipush 64, 2) := by decide +kernel
theorem dX6_findNeed_18 : decode cX6_findNeed 18 = .ok (.irem, 1) := by decide +kernel
theorem dX6_findNeed_19 : decode cX6_findNeed 19 = .ok (.iload_n 1, 1) := by decide +kernel
theorem dX6_findNeed_20 : decode cX6_findNeed 20 = .ok (.invokestatic 136, 3) := by decide +kernel
theorem dX6_findNeed_23 : decode cX6_findNeed 23 = .ok (.ifCond .eq 7, 3) := by decide +kernel
theorem dX6_findNeed_26 : decode cX6_findNeed 26 = .ok (.iconst 0, 1) := by decide +kernel
theorem dX6_findNeed_27 : decode cX6_findNeed 27 = .ok (.goto 5, 3) := by decide +kernel
theorem dX6_findNeed_30 : decode cX6_findNeed 30 = .ok (.bipush 99, 2) := by decide +kernel
theorem dX6_findNeed_32 : decode cX6_findNeed 32 = .ok (.iastore, 1) := by decide +kernel
theorem dX6_findNeed_33 : decode cX6_findNeed 33 = .ok (.iconst 0, 1) := by decide +kernel
theorem dX6_findNeed_34 : decode cX6_findNeed 34 = .ok (.istore 4, 2) := by decide +kernel
theorem dX6_findNeed_36 : decode cX6_findNeed 36 = .ok (.iload 4, 2) := by decide +kernel
theorem dX6_findNeed_38 : decode cX6_findNeed 38 = .ok (.aload_n 0, 1) := by decide +kernel
theorem dX6_findNeed_39 : decode cX6_findNeed 39 = .ok (.getfield 159, 3) := by decide +kernel
theorem dX6_findNeed_42 : decode cX6_findNeed 42 = .ok (.if_icmp .ge 100, 3) := by decide +kernel
theorem dX6_findNeed_45 : decode cX6_findNeed 45 = .ok (.aload_n 0, 1) := by decide +kernel
theorem dX6_findNeed_46 : decode cX6_findNeed 46 = .ok (.getfield 75, 3) := by decide +kernel
theorem dX6_findNeed_49 : decode cX6_findNeed 49 = .ok (.iload_n 3, 1) := by decide +kernel
theorem dX6_findNeed_50 : decode cX6_findNeed 50 = .ok (.iaload, 1) := by decide +kernel
theorem dX6_findNeed_51 : decode cX6_findNeed 51 = .ok (.ifCond .le 91, 3) := by decide +kernel
theorem dX6_findNeed_54 : decode cX6_findNeed 54 = .ok (.iconst (-1), 1) := by decide +kernel
theorem dX6_findNeed_55 : decode cX6_findNeed 55 = .ok (.istore 5, 2) := by decide +kernel
theorem dX6_findNeed_57 : decode cX6_findNeed 57 = .ok (.iload 5, 2) := by decide +kernel
theorem dX6_findNeed_59 : decode cX6_findNeed 59 = .ok (.aload_n 0, 1) := by decide +kernel
theorem dX6_findNeed_60 : decode cX6_findNeed 60 = .ok (.getfield 156, 3) := by decide +kernel
theorem dX6_findNeed_63 : decode cX6_findNeed 63 = .ok (.if_icmp .ge 73, 3) := by decide +kernel
theorem dX6_findNeed_66 : decode cX6_findNeed 66 = .ok (.aload_n 0, 1) := by decide +kernel
theorem dX6_findNeed_67 : decode cX6_findNeed 67 = .ok (.iload_n 3, 1) := by decide +kernel
theorem dX6_findNeed_68 : decode cX6_findNeed 68 = .ok (.iload 4, 2) := by decide +kernel
theorem dX6_findNeed_70 : decode cX6_findNeed 70 = .ok (.iload 5, 2) := by decide +kernel
theorem dX6_findNeed_72 : decode cX6_findNeed 72 = .ok (.iload_n 2, 1) := by decide +kernel
theorem dX6_findNeed_73 : decode cX6_findNeed 73 = .ok (.invokevirtual 247, 3) := by decide +kernel
theorem dX6_findNeed_76 : decode cX6_findNeed 76 = .ok (.ifCond .eq 22, 3) := by decide +kernel
theorem dX6_findNeed_79 : decode cX6_findNeed 79 = .ok (.aload_n 0, 1) := by decide +kernel
theorem dX6_findNeed_80 : decode cX6_findNeed 80 = .ok (.getfield 75, 3) := by decide +kernel
theorem dX6_findNeed_83 : decode cX6_findNeed 83 = .ok (.aload_n 0, 1) := by decide +kernel
theorem dX6_findNeed_84 : decode cX6_findNeed 84 = .ok (.iload_n 3, 1) := by decide +kernel
theorem dX6_findNeed_85 : decode cX6_findNeed 85 = .ok (.iload 4, 2) := by decide +kernel
theorem dX6_findNeed_87 : decode cX6_findNeed 87 = .ok (.iload 5, 2) := by decide +kernel
theorem dX6_findNeed_89 : decode cX6_findNeed 89 = .ok (.invokevirtual 250, 3) := by decide +kernel
theorem dX6_findNeed_92 : decode cX6_findNeed 92 = .ok (.iaload, 1) := by decide +kernel
theorem dX6_findNeed_93 : decode cX6_findNeed 93 = .ok (.iconst 1, 1) := by decide +kernel
theorem dX6_findNeed_94 : decode cX6_findNeed 94 = .ok (.iadd, 1) := by decide +kernel
theorem dX6_findNeed_95 : decode cX6_findNeed 95 = .ok (.goto 5, 3) := by decide +kernel
theorem dX6_findNeed_98 : decode cX6_findNeed 98 = .ok (.bipush 99, 2) := by decide +kernel
theorem dX6_findNeed_100 : decode cX6_findNeed 100 = .ok (.istore 6, 2) := by decide +kernel
theorem dX6_findNeed_102 : decode cX6_findNeed 102 = .ok (.aload_n 0, 1) := by decide +kernel
theorem dX6_findNeed_103 : decode cX6_findNeed 103 = .ok (.getfield 75, 3) := by decide +kernel
theorem dX6_findNeed_106 : decode cX6_findNeed 106 = .ok (.iload_n 3, 1) := by decide +kernel
theorem dX6_findNeed_107 : decode cX6_findNeed 107 = .ok (.iload 6, 2) := by decide +kernel
theorem dX6_findNeed_109 : decode cX6_findNeed 109 = .ok (.aload_n 0, 1) := by decide +kernel
theorem dX6_findNeed_110 : decode cX6_findNeed 110 = .ok (.getfield 75, 3) := by decide +kernel
theorem dX6_findNeed_113 : decode cX6_findNeed 113 = .ok (.iload_n 3, 1) := by decide +kernel
theorem dX6_findNeed_114 : decode cX6_findNeed 114 = .ok (.iaload, 1) := by decide +kernel
theorem dX6_findNeed_115 : decode cX6_findNeed 115 = .ok (.if_icmp .ge 8, 3) := by decide +kernel
theorem dX6_findNeed_118 : decode cX6_findNeed 118 = .ok (.iload 6, 2) := by decide +kernel
theorem dX6_findNeed_120 : decode cX6_findNeed 120 = .ok (.goto 9, 3) := by decide +kernel
theorem dX6_findNeed_123 : decode cX6_findNeed 123 = .ok (.aload_n 0, 1) := by decide +kernel
theorem dX6_findNeed_124 : decode cX6_findNeed 124 = .ok (.getfield 75, 3) := by decide +kernel
theorem dX6_findNeed_127 : decode cX6_findNeed 127 = .ok (.iload_n 3, 1) := by decide +kernel
theorem dX6_findNeed_128 : decode cX6_findNeed 128 = .ok (.iaload, 1) := by decide +kernel
theorem dX6_findNeed_129 : decode cX6_findNeed 129 = .ok (.iastore, 1) := by decide +kernel
theorem dX6_findNeed_130 : decode cX6_findNeed 130 = .ok (.iinc 5 1, 3) := by decide +kernel
theorem dX6_findNeed_133 : decode cX6_findNeed 133 = .ok (.goto (-76), 3) := by decide +kernel
theorem dX6_findNeed_136 : decode cX6_findNeed 136 = .ok (.iinc 4 1, 3) := by decide +kernel
theorem dX6_findNeed_139 : decode cX6_findNeed 139 = .ok (.goto (-103), 3) := by decide +kernel
theorem dX6_findNeed_142 : decode cX6_findNeed 142 = .ok (.iinc 3 (-1), 3) := by decide +kernel
theorem dX6_findNeed_145 : decode cX6_findNeed 145 = .ok (.goto (-141), 3) := by decide +kernel
theorem dX6_findNeed_148 : decode cX6_findNeed 148 = .ok (.return_, 1) := by decide +kernel
theorem dX6_order_0 : decode cX6_order 0 = .ok (.aload_n 0, 1) := by decide +kernel
theorem dX6_order_1 : decode cX6_order 1 = .ok (.iload_n 1, 1) := by decide +kernel
theorem dX6_order_2 : decode cX6_order 2 = .ok (.invokevirtual 168, 3) := by decide +kernel
theorem dX6_order_5 : decode cX6_order 5 = .ok (.ifCond .eq 10, 3) := by decide +kernel
theorem dX6_order_8 : decode cX6_order 8 = .ok (.iload_n 2, 1) := by decide +kernel
theorem dX6_order_9 : decode cX6_order 9 = .ok (.invokestatic 99, 3) := by decide +kernel
theorem dX6_order_12 : decode cX6_order 12 = .ok (.ifCond .ne 5, 3) := by decide +kernel
theorem dX6_order_15 : decode cX6_order 15 = .ok (.iconst (-1), 1) := by decide +kernel
theorem dX6_order_16 : decode cX6_order 16 = .ok (.ireturn, 1) := by decide +kernel
theorem dX6_order_17 : decode cX6_order 17 = .ok (.aload_n 0, 1) := by decide +kernel
theorem dX6_order_18 : decode cX6_order 18 = .ok (.aload_n 0, 1) := by decide +kernel
theorem dX6_order_19 : decode cX6_order 19 = .ok (.getfield 43, 3) := by decide +kernel
theorem dX6_order_22 : decode cX6_order 22 = .ok (.iconst 0, 1) := by decide +kernel
theorem dX6_order_23 : decode cX6_order 23 = .ok (.iaload, 1) := by decide +kernel
theorem dX6_order_24 : decode cX6_order 24 = .ok (.invokevirtual 213, 3) := by decide +kernel
theorem dX6_order_27 : decode cX6_order 27 = .ok (.istore_n 3, 1) := by decide +kernel
theorem dX6_order_28 : decode cX6_order 28 = .ok (.aload_n 0, 1) := by decide +kernel
theorem dX6_order_29 : decode cX6_order 29 = .ok (.iload_n 1, 1) := by decide +kernel
theorem dX6_order_30 : decode cX6_order 30 = .ok (.iload_n 3, 1) := by decide +kernel
theorem dX6_order_31 : decode cX6_order 31 = .ok (.invokevirtual 262, 3) := by decide +kernel
theorem dX6_order_34 : decode cX6_order 34 = .ok (.aload_n 0, 1) := by decide +kernel
theorem dX6_order_35 : decode cX6_order 35 = .ok (.invokevirtual 243, 3) := by decide +kernel
theorem dX6_order_38 : decode cX6_order 38 = .ok (.istore 4, 2) := by decide +kernel
theorem dX6_order_40 : decode cX6_order 40 = .ok (.aload_n 0, 1) := by decide +kernel
theorem dX6_order_41 : decode cX6_order 41 = .ok (.getfield 75, 3) := by decide +kernel
theorem dX6_order_44 : decode cX6_order 44 = .ok (.iload 4, 2) := by decide +kernel
theorem dX6_order_46 : decode cX6_order 46 = .ok (.iaload, 1) := by decide +kernel
theorem dX6_order_47 : decode cX6_order 47 = .ok (.istore 5, 2) := by decide +kernel
theorem dX6_order_49 : decode cX6_order 49 = .ok (.iload 5, 2) := by decide +kernel
theorem dX6_order_51 : decode cX6_order 51 = .ok (.bipush 99, 2) := by decide +kernel
theorem dX6_order_53 : decode cX6_order 53 = .ok (.if_icmp .lt 6, 3) := by decide +kernel
theorem dX6_order_56 : decode cX6_order 56 = .ok (.bipush (-9), 2) := by decide +kernel
theorem dX6_order_58 : decode cX6_order 58 = .ok (.ireturn, 1) := by decide +kernel
theorem dX6_order_59 : decode cX6_order 59 = .ok (.aload_n 0, 1) := by decide +kernel
theorem dX6_order_60 : decode cX6_order 60 = .ok (.iload_n 2, 1) := by decide +kernel
theorem dX6_order_61 : decode cX6_order 61 = .ok (.iconst 2, 1) := by decide +kernel
theorem dX6_order_62 : decode cX6_order 62 = .ok (.iload 5, 2) := by decide +kernel
theorem dX6_order_64 : decode cX6_order 64 = .ok (.imul, 1) := by decide +kernel
theorem dX6_order_65 : decode cX6_order 65 = .ok (.invokevirtual 265, 3) := by decide +kernel
theorem dX6_order_68 : decode cX6_order 68 = .ok (.pop, 1) := by decide +kernel
theorem dX6_order_69 : decode cX6_order 69 = .ok (.iconst 0, 1) := by decide +kernel
theorem dX6_order_70 : decode cX6_order 70 = .ok (.istore 6, 2) := by decide +kernel
theorem dX6_order_72 : decode cX6_order 72 = .ok (.iload 6, 2) := by decide +kernel
theorem dX6_order_74 : decode cX6_order 74 = .ok (.iload 5, 2) := by decide +kernel
theorem dX6_order_76 : decode cX6_order 76 = .ok (.if_icmp .ge 162, 3) := by decide +kernel
theorem dX6_order_79 : decode cX6_order 79 = .ok (.iconst 1, 1) := by decide +kernel
theorem dX6_order_80 : decode cX6_order 80 = .ok (.istore 7, 2) := by decide +kernel
theorem dX6_order_82 : decode cX6_order 82 = .ok (.iload 4, 2) := by decide +kernel
theorem dX6_order_84 : decode cX6_order 84 = .ok (.istore 8, 2) := by decide +kernel
theorem dX6_order_86 : decode cX6_order 86 = .ok (.iconst 0, 1) := by decide +kernel
theorem dX6_order_87 : decode cX6_order 87 = .ok (.istore 9, 2) := by decide +kernel
theorem dX6_order_89 : decode cX6_order 89 = .ok (.iload 9, 2) := by decide +kernel
theorem dX6_order_91 : decode cX6_order 91 = .ok (.aload_n 0, 1) := by decide +kernel
theorem dX6_order_92 : decode cX6_order 92 = .ok (.getfield 159, 3) := by decide +kernel
theorem dX6_order_95 : decode cX6_order 95 = .ok (.if_icmp .ge 137, 3) := by decide +kernel
theorem dX6_order_98 : decode cX6_order 98 = .ok (.iload 7, 2) := by decide +kernel
theorem dX6_order_100 : decode cX6_order 100 = .ok (.ifCond .eq 132, 3) := by decide +kernel
theorem dX6_order_103 : decode cX6_order 103 = .ok (.iconst (-1), 1) := by decide +kernel
theorem dX6_order_104 : decode cX6_order 104 = .ok (.istore 10, 2) := by decide +kernel
theorem dX6_order_106 : decode cX6_order 106 = .ok (.iload 10, 2) := by decide +kernel
theorem dX6_order_108 : decode cX6_order 108 = .ok (.aload_n 0, 1) := by decide +kernel
theorem dX6_order_109 : decode cX6_order 109 = .ok (.getfield 156, 3) := by decide +kernel
theorem dX6_order_112 : decode cX6_order 112 = .ok (.if_icmp .ge 114, 3) := by decide +kernel
theorem dX6_order_115 : decode cX6_order 115 = .ok (.iload 7, 2) := by decide +kernel
theorem dX6_order_117 : decode cX6_order 117 = .ok (.ifCond .eq 109, 3) := by decide +kernel
theorem dX6_order_120 : decode cX6_order 120 = .ok (.aload_n 0, 1) := by decide +kernel
theorem dX6_order_121 : decode cX6_order 121 = .ok (.iload 8, 2) := by decide +kernel
theorem dX6_order_123 : decode cX6_order 123 = .ok (.iload 9, 2) := by decide +kernel
theorem dX6_order_125 : decode cX6_order 125 = .ok (.iload 10, 2) := by decide +kernel
theorem dX6_order_127 : decode cX6_order 127 = .ok (.iload_n 3, 1) := by decide +kernel
theorem dX6_order_128 : decode cX6_order 128 = .ok (.invokevirtual 247, 3) := by decide +kernel
theorem dX6_order_131 : decode cX6_order 131 = .ok (.ifCond .eq 89, 3) := by decide +kernel
theorem dX6_order_134 : decode cX6_order 134 = .ok (.aload_n 0, 1) := by decide +kernel
theorem dX6_order_135 : decode cX6_order 135 = .ok (.getfield 75, 3) := by decide +kernel
theorem dX6_order_138 : decode cX6_order 138 = .ok (.aload_n 0, 1) := by decide +kernel
theorem dX6_order_139 : decode cX6_order 139 = .ok (.iload 8, 2) := by decide +kernel
theorem dX6_order_141 : decode cX6_order 141 = .ok (.iload 9, 2) := by decide +kernel
theorem dX6_order_143 : decode cX6_order 143 = .ok (.iload 10, 2) := by decide +kernel
theorem dX6_order_145 : decode cX6_order 145 = .ok (.invokevirtual 250, 3) := by decide +kernel
theorem dX6_order_148 : decode cX6_order 148 = .ok (.iaload, 1) := by decide +kernel
theorem dX6_order_149 : decode cX6_order 149 = .ok (.aload_n 0, 1) := by decide +kernel
theorem dX6_order_150 : decode cX6_order 150 = .ok (.getfield 75, 3) := by decide +kernel
theorem dX6_order_153 : decode cX6_order 153 = .ok (.iload 8, 2) := by decide +kernel
theorem dX6_order_155 : decode cX6_order 155 = .ok (.iaload, 1) := by decide +kernel
theorem dX6_order_156 : decode cX6_order 156 = .ok (.iconst 1, 1) := by decide +kernel
theorem dX6_order_157 : decode cX6_order 157 = .ok (.isub, 1) := by decide +kernel
theorem dX6_order_158 : decode cX6_order 158 = .ok (.if_icmp .ne 62, 3) := by decide +kernel
theorem dX6_order_161 : decode cX6_order 161 = .ok (.aload_n 0, 1) := by decide +kernel
theorem dX6_order_162 : decode cX6_order 162 = .ok (.getfield 13, 3) := by decide +kernel
theorem dX6_order_165 : decode cX6_order 165 = .ok (.bipush 40, 2) := by decide +kernel
theorem dX6_order_167 : decode cX6_order 167 = .ok (.iload_n 2, 1) := by decide +kernel
theorem dX6_order_168 : decode cX6_order 168 = .ok (.imul, 1) := by decide +kernel
theorem dX6_order_169 : decode cX6_order 169 = .ok (.iconst 2, 1) := by decide +kernel
theorem dX6_order_170 : decode cX6_order 170 = .ok (.iload 6, 2) := by decide +kernel
theorem dX6_order_172 : decode cX6_order 172 = .ok (.imul, 1) := by decide +kernel
theorem dX6_order_173 : decode cX6_order 173 = .ok (.iadd, 1) := by decide +kernel
theorem dX6_order_174 : decode cX6_order 174 = .ok (.iload 9, 2) := by decide +kernel
theorem dX6_order_176 : decode cX6_order 176 = .ok (.iastore, 1) := by decide +kernel
theorem dX6_order_177 : decode cX6_order 177 = .ok (.aload_n 0, 1) := by decide +kernel
theorem dX6_order_178 : decode cX6_order 178 = .ok (.getfield 13, 3) := by decide +kernel
theorem dX6_order_181 : decode cX6_order 181 = .ok (.bipush 40, 2) := by decide +kernel
theorem dX6_order_183 : decode cX6_order 183 = .ok (.iload_n 2, 1) := by decide +kernel
theorem dX6_order_184 : decode cX6_order 184 = .ok (.imul, 1) := by decide +kernel
theorem dX6_order_185 : decode cX6_order 185 = .ok (.iconst 2, 1) := by decide +kernel
theorem dX6_order_186 : decode cX6_order 186 = .ok (.iload 6, 2) := by decide +kernel
theorem dX6_order_188 : decode cX6_order 188 = .ok (.imul, 1) := by decide +kernel
theorem dX6_order_189 : decode cX6_order 189 = .ok (.iadd, 1) := by decide +kernel
theorem dX6_order_190 : decode cX6_order 190 = .ok (.iconst 1, 1) := by decide +kernel
theorem dX6_order_191 : decode cX6_order 191 = .ok (.iadd, 1) := by decide +kernel
theorem dX6_order_192 : decode cX6_order 192 = .ok (.iload 10, 2) := by decide +kernel
theorem dX6_order_194 : decode cX6_order 194 = .ok (.ifCond .ge 8, 3) := by decide +kernel
theorem dX6_order_197 : decode cX6_order 197 = .ok (.bipush (-9), 2) := by decide +kernel
theorem dX6_order_199 : decode cX6_order 199 = .ok (.goto 5, 3) := by decide +kernel
theorem dX6_order_202 : decode cX6_order 202 = .ok (.iload 10, 2) := by decide +kernel
theorem dX6_order_204 : decode cX6_order 204 = .ok (.iastore, 1) := by decide +kernel
theorem dX6_order_205 : decode cX6_order 205 = .ok (.aload_n 0, 1) := by decide +kernel
theorem dX6_order_206 : decode cX6_order 206 = .ok (.iload 8, 2) := by decide +kernel
theorem dX6_order_208 : decode cX6_order 208 = .ok (.iload 9, 2) := by decide +kernel
theorem dX6_order_210 : decode cX6_order 210 = .ok (.iload 10, 2) := by decide +kernel
theorem dX6_order_212 : decode cX6_order 212 = .ok (.invokevirtual 250, 3) := by decide +kernel
theorem dX6_order_215 : decode cX6_order 215 = .ok (.istore 4, 2) := by decide +kernel
theorem dX6_order_217 : decode cX6_order 217 = .ok (.iconst 0, 1) := by decide +kernel
theorem dX6_order_218 : decode cX6_order 218 = .ok (.istore 7, 2) := by decide +kernel
theorem dX6_order_220 : decode cX6_order 220 = .ok (.iinc 10 1, 3) := by decide +kernel
theorem dX6_order_223 : decode cX6_order 223 = .ok (.goto (-117), 3) := by decide +kernel
theorem dX6_order_226 : decode cX6_order 226 = .ok (.iinc 9 1, 3) := by decide +kernel
theorem dX6_order_229 : decode cX6_order 229 = .ok (.goto (-140), 3) := by decide +kernel
theorem dX6_order_232 : decode cX6_order 232 = .ok (.iinc 6 1, 3) := by decide +kernel
theorem dX6_order_235 : decode cX6_order 235 = .ok (.goto (-163), 3) := by decide +kernel
theorem dX6_order_238 : decode cX6_order 238 = .ok (.iload 5, 2) := by decide +kernel
theorem dX6_order_240 : decode cX6_order 240 = .ok (.ireturn, 1) := by decide +kernel
theorem dX6_shut_0 : decode cX6_shut 0 = .ok (.aload_n 0, 1) := by decide +kernel
theorem dX6_shut_1 : decode cX6_shut 1 = .ok (.getfield 156, 3) := by decide +kernel
theorem dX6_shut_4 : decode cX6_shut 4 = .ok (.ifCond .ne 6, 3) := by decide +kernel
theorem dX6_shut_7 : decode cX6_shut 7 = .ok (.bipush (-4), 2) := by decide +kernel
theorem dX6_shut_9 : decode cX6_shut 9 = .ok (.ireturn, 1) := by decide +kernel
theorem dX6_shut_10 : decode cX6_shut 10 = .ok (.aload_n 0, 1) := by decide +kernel
theorem dX6_shut_11 : decode cX6_shut 11 = .ok (.aload_n 0, 1) := by decide +kernel
theorem dX6_shut_12 : decode cX6_shut 12 = .ok (.getfield 43, 3) := by decide +kernel
theorem dX6_shut_15 : decode cX6_shut 15 = .ok (.iconst 0, 1) := by decide +kernel
theorem dX6_shut_16 : decode cX6_shut 16 = .ok (.iaload, 1) := by decide +kernel
theorem dX6_shut_17 : decode cX6_shut 17 = .ok (.invokevirtual 213, 3) := by decide +kernel
theorem dX6_shut_20 : decode cX6_shut 20 = .ok (.istore_n 1, 1) := by decide +kernel
theorem dX6_shut_21 : decode cX6_shut 21 = .ok (.aload_n 0, 1) := by decide +kernel
theorem dX6_shut_22 : decode cX6_shut 22 = .ok (.iload_n 1, 1) := by decide +kernel
theorem dX6_shut_23 : decode cX6_shut 23 = .ok (.invokevirtual 253, 3) := by decide +kernel
theorem dX6_shut_26 : decode cX6_shut 26 = .ok (.aload_n 0, 1) := by decide +kernel
theorem dX6_shut_27 : decode cX6_shut 27 = .ok (.bipush (-9), 2) := by decide +kernel
theorem dX6_shut_29 : decode cX6_shut 29 = .ok (.invokevirtual 256, 3) := by decide +kernel
theorem dX6_shut_32 : decode cX6_shut 32 = .ok (.iconst 0, 1) := by decide +kernel
theorem dX6_shut_33 : decode cX6_shut 33 = .ok (.istore_n 2, 1) := by decide +kernel
theorem dX6_shut_34 : decode cX6_shut 34 = .ok (.iconst 0, 1) := by decide +kernel
theorem dX6_shut_35 : decode cX6_shut 35 = .ok (.istore_n 3, 1) := by decide +kernel
theorem dX6_shut_36 : decode cX6_shut 36 = .ok (.iload_n 3, 1) := by decide +kernel
theorem dX6_shut_37 : decode cX6_shut 37 = .ok (.aload_n 0, 1) := by decide +kernel
theorem dX6_shut_38 : decode cX6_shut 38 = .ok (.getfield 159, 3) := by decide +kernel
theorem dX6_shut_41 : decode cX6_shut 41 = .ok (.if_icmp .ge 46, 3) := by decide +kernel
theorem dX6_shut_44 : decode cX6_shut 44 = .ok (.iload_n 2, 1) := by decide +kernel
theorem dX6_shut_45 : decode cX6_shut 45 = .ok (.iload_n 1, 1) := by decide +kernel
theorem dX6_shut_46 : decode cX6_shut 46 = .ok (.iload_n 3, 1) := by decide +kernel
theorem dX6_shut_47 : decode cX6_shut 47 = .ok (.invokestatic 136, 3) := by decide +kernel
theorem dX6_shut_50 : decode cX6_shut 50 = .ok (.ifCond .eq 28, 3) := by decide +kernel
theorem dX6_shut_53 : decode cX6_shut 53 = .ok (.aload_n 0, 1) := by decide +kernel
theorem dX6_shut_54 : decode cX6_shut 54 = .ok (.iload_n 1, 1) := by decide +kernel
theorem dX6_shut_55 : decode cX6_shut 55 = .ok (.iconst 1, 1) := by decide +kernel
theorem dX6_shut_56 : decode cX6_shut 56 = .ok (.iload_n 3, 1) := by decide +kernel
theorem dX6_shut_57 : decode cX6_shut 57 = .ok (.ishl, 1) := by decide +kernel
theorem dX6_shut_58 : decode cX6_shut 58 = .ok (.iconst (-1), 1) := by decide +kernel
theorem dX6_shut_59 : decode cX6_shut 59 = .ok (.ixor, 1) := by decide +kernel
theorem dX6_shut_60 : decode cX6_shut 60 = .ok (.iand, 1) := by decide +kernel
theorem dX6_shut_61 : decode cX6_shut 61 = .ok (.invokevirtual 259, 3) := by decide +kernel
theorem dX6_shut_64 : decode cX6_shut 64 = .ok (.aload_n 0, 1) := by decide +kernel
theorem dX6_shut_65 : decode cX6_shut 65 = .ok (.iload_n 1, 1) := by decide +kernel
theorem dX6_shut_66 : decode cX6_shut 66 = .ok (.invokevirtual 259, 3) := by decide +kernel
theorem dX6_shut_69 : decode cX6_shut 69 = .ok (.if_icmp .ne 9, 3) := by decide +kernel
theorem dX6_shut_72 : decode cX6_shut 72 = .ok (.iconst 1, 1) := by decide +kernel
theorem dX6_shut_73 : decode cX6_shut 73 = .ok (.iload_n 3, 1) := by decide +kernel
theorem dX6_shut_74 : decode cX6_shut 74 = .ok (.ishl, 1) := by decide +kernel
theorem dX6_shut_75 : decode cX6_shut 75 = .ok (.goto 4, 3) := by decide +kernel
theorem dX6_shut_78 : decode cX6_shut 78 = .ok (.iconst 0, 1) := by decide +kernel
theorem dX6_shut_79 : decode cX6_shut 79 = .ok (.ior, 1) := by decide +kernel
theorem dX6_shut_80 : decode cX6_shut 80 = .ok (.istore_n 2, 1) := by decide +kernel
theorem dX6_shut_81 : decode cX6_shut 81 = .ok (.iinc 3 1, 3) := by decide +kernel
theorem dX6_shut_84 : decode cX6_shut 84 = .ok (.goto (-48), 3) := by decide +kernel
theorem dX6_shut_87 : decode cX6_shut 87 = .ok (.iload_n 2, 1) := by decide +kernel
theorem dX6_shut_88 : decode cX6_shut 88 = .ok (.ireturn, 1) := by decide +kernel
theorem dX6_waits_0 : decode cX6_waits 0 = .ok (.aload_n 0, 1) := by decide +kernel
theorem dX6_waits_1 : decode cX6_waits 1 = .ok (.iload_n 1, 1) := by decide +kernel
theorem dX6_waits_2 : decode cX6_waits 2 = .ok (.invokevirtual 168, 3) := by decide +kernel
theorem dX6_waits_5 : decode cX6_waits 5 = .ok (.ifCond .ne 5, 3) := by decide +kernel
theorem dX6_waits_8 : decode cX6_waits 8 = .ok (.iconst (-1), 1) := by decide +kernel
theorem dX6_waits_9 : decode cX6_waits 9 = .ok (.ireturn, 1) := by decide +kernel
theorem dX6_waits_10 : decode cX6_waits 10 = .ok (.aload_n 0, 1) := by decide +kernel
theorem dX6_waits_11 : decode cX6_waits 11 = .ok (.aload_n 0, 1) := by decide +kernel
theorem dX6_waits_12 : decode cX6_waits 12 = .ok (.bipush 20, 2) := by decide +kernel
theorem dX6_waits_14 : decode cX6_waits 14 = .ok (.invokevirtual 213, 3) := by decide +kernel
theorem dX6_waits_17 : decode cX6_waits 17 = .ok (.invokevirtual 253, 3) := by decide +kernel
theorem dX6_waits_20 : decode cX6_waits 20 = .ok (.aload_n 0, 1) := by decide +kernel
theorem dX6_waits_21 : decode cX6_waits 21 = .ok (.iload_n 1, 1) := by decide +kernel
theorem dX6_waits_22 : decode cX6_waits 22 = .ok (.invokevirtual 256, 3) := by decide +kernel
theorem dX6_waits_25 : decode cX6_waits 25 = .ok (.aload_n 0, 1) := by decide +kernel
theorem dX6_waits_26 : decode cX6_waits 26 = .ok (.getfield 43, 3) := by decide +kernel
theorem dX6_waits_29 : decode cX6_waits 29 = .ok (.iconst 0, 1) := by decide +kernel
theorem dX6_waits_30 : decode cX6_waits 30 = .ok (.iaload, 1) := by decide +kernel
theorem dX6_waits_31 : decode cX6_waits 31 = .ok (.istore_n 2, 1) := by decide +kernel
theorem dX6_waits_32 : decode cX6_waits 32 = .ok (.iload_n 2, 1) := by decide +kernel
theorem dX6_waits_33 : decode cX6_waits 33 = .ok (.bipush 20, 2) := by decide +kernel
theorem dX6_waits_35 : decode cX6_waits 35 = .ok (.if_icmp .gt 23, 3) := by decide +kernel
theorem dX6_waits_38 : decode cX6_waits 38 = .ok (.aload_n 0, 1) := by decide +kernel
theorem dX6_waits_39 : decode cX6_waits 39 = .ok (.aload_n 0, 1) := by decide +kernel
theorem dX6_waits_40 : decode cX6_waits 40 = .ok (.iload_n 2, 1) := by decide +kernel
theorem dX6_waits_41 : decode cX6_waits 41 = .ok (.invokevirtual 213, 3) := by decide +kernel
theorem dX6_waits_44 : decode cX6_waits 44 = .ok (.invokevirtual 259, 3) := by decide +kernel
theorem dX6_waits_47 : decode cX6_waits 47 = .ok (.ifCond .lt 5, 3) := by decide +kernel
theorem dX6_waits_50 : decode cX6_waits 50 = .ok (.iload_n 2, 1) := by decide +kernel
theorem dX6_waits_51 : decode cX6_waits 51 = .ok (.ireturn, 1) := by decide +kernel
theorem dX6_waits_52 : decode cX6_waits 52 = .ok (.iinc 2 1, 3) := by decide +kernel
theorem dX6_waits_55 : decode cX6_waits 55 = .ok (.goto (-23), 3) := by decide +kernel
theorem dX6_waits_58 : decode cX6_waits 58 = .ok (.bipush (-9), 2) := by decide +kernel
theorem dX6_waits_60 : decode cX6_waits 60 = .ok (.ireturn, 1) := by decide +kernel
theorem dX6_hoursOf_0 : decode cX6_hoursOf 0 = .ok (.iconst 0, 1) := by decide +kernel
theorem dX6_hoursOf_1 : decode cX6_hoursOf 1 = .ok (.istore_n 2, 1) := by decide +kernel
theorem dX6_hoursOf_2 : decode cX6_hoursOf 2 = .ok (.iconst 0, 1) := by decide +kernel
theorem dX6_hoursOf_3 : decode cX6_hoursOf 3 = .ok (.istore_n 3, 1) := by decide +kernel
theorem dX6_hoursOf_4 : decode cX6_hoursOf 4 = .ok (.iload_n 3, 1) := by decide +kernel
theorem dX6_hoursOf_5 : decode cX6_hoursOf 5 = .ok (.aload_n 0, 1) := by decide +kernel
theorem dX6_hoursOf_6 : decode cX6_hoursOf 6 = .ok (.getfield 159, 3) := by decide +kernel
theorem dX6_hoursOf_9 : decode cX6_hoursOf 9 = .ok (.if_icmp .ge 27, 3) := by decide +kernel
theorem dX6_hoursOf_12 : decode cX6_hoursOf 12 = .ok (.iload_n 2, 1) := by decide +kernel
theorem dX6_hoursOf_13 : decode cX6_hoursOf 13 = .ok (.aload_n 0, 1) := by decide +kernel
theorem dX6_hoursOf_14 : decode cX6_hoursOf 14 = .ok (.getfield 31, 3) := by decide +kernel
theorem dX6_hoursOf_17 : decode cX6_hoursOf 17 = .ok (.iload_n 3, 1) := by decide +kernel
theorem dX6_hoursOf_18 : decode cX6_hoursOf 18 = .ok (.iaload, 1) := by decide +kernel
theorem dX6_hoursOf_19 : decode cX6_hoursOf 19 = .ok (.iload_n 1, 1) := by decide +kernel
theorem dX6_hoursOf_20 : decode cX6_hoursOf 20 = .ok (.if_icmp .ne 7, 3) := by decide +kernel
theorem dX6_hoursOf_23 : decode cX6_hoursOf 23 = .ok (.iconst 1, 1) := by decide +kernel
theorem dX6_hoursOf_24 : decode cX6_hoursOf 24 = .ok (.goto 4, 3) := by decide +kernel
theorem dX6_hoursOf_27 : decode cX6_hoursOf 27 = .ok (.iconst 0, 1) := by decide +kernel
theorem dX6_hoursOf_28 : decode cX6_hoursOf 28 = .ok (.iadd, 1) := by decide +kernel
theorem dX6_hoursOf_29 : decode cX6_hoursOf 29 = .ok (.istore_n 2, 1) := by decide +kernel
theorem dX6_hoursOf_30 : decode cX6_hoursOf 30 = .ok (.iinc 3 1, 3) := by decide +kernel
theorem dX6_hoursOf_33 : decode cX6_hoursOf 33 = .ok (.goto (-29), 3) := by decide +kernel
theorem dX6_hoursOf_36 : decode cX6_hoursOf 36 = .ok (.iload_n 2, 1) := by decide +kernel
theorem dX6_hoursOf_37 : decode cX6_hoursOf 37 = .ok (.ireturn, 1) := by decide +kernel
theorem dX6_lacksDiary_0 : decode cX6_lacksDiary 0 = .ok (.aload_n 0, 1) := by decide +kernel
theorem dX6_lacksDiary_1 : decode cX6_lacksDiary 1 = .ok (.iload_n 1, 1) := by decide +kernel
theorem dX6_lacksDiary_2 : decode cX6_lacksDiary 2 = .ok (.invokevirtual 237, 3) := by decide +kernel
theorem dX6_lacksDiary_5 : decode cX6_lacksDiary 5 = .ok (.istore_n 2, 1) := by decide +kernel
theorem dX6_lacksDiary_6 : decode cX6_lacksDiary 6 = .ok (.iload_n 2, 1) := by decide +kernel
theorem dX6_lacksDiary_7 : decode cX6_lacksDiary 7 = .ok (.ifCond .ge 5, 3) := by decide +kernel
theorem dX6_lacksDiary_10 : decode cX6_lacksDiary 10 = .ok (.iload_n 2, 1) := by decide +kernel
theorem dX6_lacksDiary_11 : decode cX6_lacksDiary 11 = .ok (.ireturn, 1) := by decide +kernel
theorem dX6_lacksDiary_12 : decode cX6_lacksDiary 12 = .ok (.aload_n 0, 1) := by decide +kernel
theorem dX6_lacksDiary_13 : decode cX6_lacksDiary 13 = .ok (.getfield 7, 3) := by decide +kernel
theorem dX6_lacksDiary_16 : decode cX6_lacksDiary 16 = .ok (.iload_n 1, 1) := by decide +kernel
theorem dX6_lacksDiary_17 : decode cX6_lacksDiary 17 = .ok (.iaload, 1) := by decide +kernel
theorem dX6_lacksDiary_18 : decode cX6_lacksDiary 18 = .ok (.bipush 7, 2) := by decide +kernel
theorem dX6_lacksDiary_20 : decode cX6_lacksDiary 20 = .ok (.if_icmp .le 9, 3) := by decide +kernel
theorem dX6_lacksDiary_23 : decode cX6_lacksDiary 23 = .ok (.aload_n 0, 1) := by decide +kernel
theorem dX6_lacksDiary_24 : decode cX6_lacksDiary 24 = .ok (.iconst 5, 1) := by decide +kernel
theorem dX6_lacksDiary_25 : decode cX6_lacksDiary 25 = .ok (.invokevirtual 103, 3) := by decide +kernel
theorem dX6_lacksDiary_28 : decode cX6_lacksDiary 28 = .ok (.ireturn, 1) := by decide +kernel
theorem dX6_lacksDiary_29 : decode cX6_lacksDiary 29 = .ok (.iconst 0, 1) := by decide +kernel
theorem dX6_lacksDiary_30 : decode cX6_lacksDiary 30 = .ok (.istore_n 3, 1) := by decide +kernel
theorem dX6_lacksDiary_31 : decode cX6_lacksDiary 31 = .ok (.iload_n 3, 1) := by decide +kernel
theorem dX6_lacksDiary_32 : decode cX6_lacksDiary 32 = .ok (.aload_n 0, 1) := by decide +kernel
theorem dX6_lacksDiary_33 : decode cX6_lacksDiary 33 = .ok (.getfield 7, 3) := by decide +kernel
theorem dX6_lacksDiary_36 : decode cX6_lacksDiary 36 = .ok (.iload_n 1, 1) := by decide +kernel
theorem dX6_lacksDiary_37 : decode cX6_lacksDiary 37 = .ok (.iaload, 1) := by decide +kernel
theorem dX6_lacksDiary_38 : decode cX6_lacksDiary 38 = .ok (.if_icmp .ge 37, 3) := by decide +kernel
theorem dX6_lacksDiary_41 : decode cX6_lacksDiary 41 = .ok (.aload_n 0, 1) := by decide +kernel
theorem dX6_lacksDiary_42 : decode cX6_lacksDiary 42 = .ok (.getfield 13, 3) := by decide +kernel
theorem dX6_lacksDiary_45 : decode cX6_lacksDiary 45 = .ok (.bipush 40, 2) := by decide +kernel
theorem dX6_lacksDiary_47 : decode cX6_lacksDiary 47 = .ok (.iload_n 1, 1) := by decide +kernel
theorem dX6_lacksDiary_48 : decode cX6_lacksDiary 48 = .ok (.imul, 1) := by decide +kernel
theorem dX6_lacksDiary_49 : decode cX6_lacksDiary 49 = .ok (.iload_n 3, 1) := by decide +kernel
theorem dX6_lacksDiary_50 : decode cX6_lacksDiary 50 = .ok (.iadd, 1) := by decide +kernel
theorem dX6_lacksDiary_51 : decode cX6_lacksDiary 51 = .ok (.iaload, 1) := by decide +kernel
theorem dX6_lacksDiary_52 : decode cX6_lacksDiary 52 = .ok (.i2l, 1) := by decide +kernel
theorem dX6_lacksDiary_53 : decode cX6_lacksDiary 53 = .ok (.lconst 0, 1) := by decide +kernel
theorem dX6_lacksDiary_54 : decode cX6_lacksDiary 54 = .ok (.ldc2_w 268, 3) := by decide +kernel
theorem dX6_lacksDiary_57 : decode cX6_lacksDiary 57 = .ok (.invokestatic 93, 3) := by decide +kernel
theorem dX6_lacksDiary_60 : decode cX6_lacksDiary 60 = .ok (.ifCond .ne 9, 3) := by decide +kernel
theorem dX6_lacksDiary_63 : decode cX6_lacksDiary 63 = .ok (.aload_n 0, 1) := by decide +kernel
theorem dX6_lacksDiary_64 : decode cX6_lacksDiary 64 = .ok (.iconst 3, 1) := by decide +kernel
theorem dX6_lacksDiary_65 : decode cX6_lacksDiary 65 = .ok (.invokevirtual 103, 3) := by decide +kernel
theorem dX6_lacksDiary_68 : decode cX6_lacksDiary 68 = .ok (.ireturn, 1) := by decide +kernel
theorem dX6_lacksDiary_69 : decode cX6_lacksDiary 69 = .ok (.iinc 3 1, 3) := by decide +kernel
theorem dX6_lacksDiary_72 : decode cX6_lacksDiary 72 = .ok (.goto (-41), 3) := by decide +kernel
theorem dX6_lacksDiary_75 : decode cX6_lacksDiary 75 = .ok (.iconst 0, 1) := by decide +kernel
theorem dX6_lacksDiary_76 : decode cX6_lacksDiary 76 = .ok (.ireturn, 1) := by decide +kernel
theorem dX6_leftFor_0 : decode cX6_leftFor 0 = .ok (.aload_n 0, 1) := by decide +kernel
theorem dX6_leftFor_1 : decode cX6_leftFor 1 = .ok (.aload_n 0, 1) := by decide +kernel
theorem dX6_leftFor_2 : decode cX6_leftFor 2 = .ok (.getfield 13, 3) := by decide +kernel
theorem dX6_leftFor_5 : decode cX6_leftFor 5 = .ok (.bipush 40, 2) := by decide +kernel
theorem dX6_leftFor_7 : decode cX6_leftFor 7 = .ok (.iload_n 1, 1) := by decide +kernel
theorem dX6_leftFor_8 : decode cX6_leftFor 8 = .ok (.imul, 1) := by decide +kernel
theorem dX6_leftFor_9 : decode cX6_leftFor 9 = .ok (.iload_n 2, 1) := by decide +kernel
theorem dX6_leftFor_10 : decode cX6_leftFor 10 = .ok (.iadd, 1) := by decide +kernel
theorem dX6_leftFor_11 : decode cX6_leftFor 11 = .ok (.iaload, 1) := by decide +kernel
theorem dX6_leftFor_12 : decode cX6_leftFor 12 = .ok (.invokevirtual 270, 3) := by decide +kernel
theorem dX6_leftFor_15 : decode cX6_leftFor 15 = .ok (.istore_n 3, 1) := by decide +kernel
theorem dX6_leftFor_16 : decode cX6_leftFor 16 = .ok (.iconst 0, 1) := by decide +kernel
theorem dX6_leftFor_17 : decode cX6_leftFor 17 = .ok (.istore 4, 2) := by decide +kernel
theorem dX6_leftFor_19 : decode cX6_leftFor 19 = .ok (.iload 4, 2) := by decide +kernel
theorem dX6_leftFor_21 : decode cX6_leftFor 21 = .ok (.iload_n 2, 1) := by decide +kernel
theorem dX6_leftFor_22 : decode cX6_leftFor 22 = .ok (.if_icmp .ge 43, 3) := by decide +kernel
theorem dX6_leftFor_25 : decode cX6_leftFor 25 = .ok (.iload_n 3, 1) := by decide +kernel
theorem dX6_leftFor_26 : decode cX6_leftFor 26 = .ok (.aload_n 0, 1) := by decide +kernel
theorem dX6_leftFor_27 : decode cX6_leftFor 27 = .ok (.getfield 13, 3) := by decide +kernel
theorem dX6_leftFor_30 : decode cX6_leftFor 30 = .ok (.bipush 40, 2) := by decide +kernel
theorem dX6_leftFor_32 : decode cX6_leftFor 32 = .ok (.iload_n 1, 1) := by decide +kernel
theorem dX6_leftFor_33 : decode cX6_leftFor 33 = .ok (.imul, 1) := by decide +kernel
theorem dX6_leftFor_34 : decode cX6_leftFor 34 = .ok (.iload 4, 2) := by decide +kernel
theorem dX6_leftFor_36 : decode cX6_leftFor 36 = .ok (.iadd, 1) := by decide +kernel
theorem dX6_leftFor_37 : decode cX6_leftFor 37 = .ok (.iaload, 1) := by decide +kernel
theorem dX6_leftFor_38 : decode cX6_leftFor 38 = .ok (.aload_n 0, 1) := by decide +kernel
theorem dX6_leftFor_39 : decode cX6_leftFor 39 = .ok (.getfield 13, 3) := by decide +kernel
theorem dX6_leftFor_42 : decode cX6_leftFor 42 = .ok (.bipush 40, 2) := by decide +kernel
theorem dX6_leftFor_44 : decode cX6_leftFor 44 = .ok (.iload_n 1, 1) := by decide +kernel
theorem dX6_leftFor_45 : decode cX6_leftFor 45 = .ok (.imul, 1) := by decide +kernel
theorem dX6_leftFor_46 : decode cX6_leftFor 46 = .ok (.iload_n 2, 1) := by decide +kernel
theorem dX6_leftFor_47 : decode cX6_leftFor 47 = .ok (.iadd, 1) := by decide +kernel
theorem dX6_leftFor_48 : decode cX6_leftFor 48 = .ok (.iaload, 1) := by decide +kernel
theorem dX6_leftFor_49 : decode cX6_leftFor 49 = .ok (.if_icmp .ne 7, 3) := by decide +kernel
theorem dX6_leftFor_52 : decode cX6_leftFor 52 = .ok (.iconst 1, 1) := by decide +kernel
theorem dX6_leftFor_53 : decode cX6_leftFor 53 = .ok (.goto 4, 3) := by decide +kernel
theorem dX6_leftFor_56 : decode cX6_leftFor 56 = .ok (.iconst 0, 1) := by decide +kernel
theorem dX6_leftFor_57 : decode cX6_leftFor 57 = .ok (.isub, 1) := by decide +kernel
theorem dX6_leftFor_58 : decode cX6_leftFor 58 = .ok (.istore_n 3, 1) := by decide +kernel
theorem dX6_leftFor_59 : decode cX6_leftFor 59 = .ok (.iinc 4 1, 3) := by decide +kernel
theorem dX6_leftFor_62 : decode cX6_leftFor 62 = .ok (.goto (-43), 3) := by decide +kernel
theorem dX6_leftFor_65 : decode cX6_leftFor 65 = .ok (.iload_n 3, 1) := by decide +kernel
theorem dX6_leftFor_66 : decode cX6_leftFor 66 = .ok (.ireturn, 1) := by decide +kernel
theorem dX6_diary_0 : decode cX6_diary 0 = .ok (.iload_n 1, 1) := by decide +kernel
theorem dX6_diary_1 : decode cX6_diary 1 = .ok (.invokestatic 99, 3) := by decide +kernel
theorem dX6_diary_4 : decode cX6_diary 4 = .ok (.ifCond .ne 5, 3) := by decide +kernel
theorem dX6_diary_7 : decode cX6_diary 7 = .ok (.iconst (-1), 1) := by decide +kernel
theorem dX6_diary_8 : decode cX6_diary 8 = .ok (.ireturn, 1) := by decide +kernel
theorem dX6_diary_9 : decode cX6_diary 9 = .ok (.aload_n 0, 1) := by decide +kernel
theorem dX6_diary_10 : decode cX6_diary 10 = .ok (.iload_n 1, 1) := by decide +kernel
theorem dX6_diary_11 : decode cX6_diary 11 = .ok (.invokevirtual 273, 3) := by decide +kernel
theorem dX6_diary_14 : decode cX6_diary 14 = .ok (.istore_n 2, 1) := by decide +kernel
theorem dX6_diary_15 : decode cX6_diary 15 = .ok (.iload_n 2, 1) := by decide +kernel
theorem dX6_diary_16 : decode cX6_diary 16 = .ok (.ifCond .ge 5, 3) := by decide +kernel
theorem dX6_diary_19 : decode cX6_diary 19 = .ok (.iload_n 2, 1) := by decide +kernel
theorem dX6_diary_20 : decode cX6_diary 20 = .ok (.ireturn, 1) := by decide +kernel
theorem dX6_diary_21 : decode cX6_diary 21 = .ok (.iconst 1, 1) := by decide +kernel
theorem dX6_diary_22 : decode cX6_diary 22 = .ok (.istore_n 3, 1) := by decide +kernel
theorem dX6_diary_23 : decode cX6_diary 23 = .ok (.iconst 0, 1) := by decide +kernel
theorem dX6_diary_24 : decode cX6_diary 24 = .ok (.istore 4, 2) := by decide +kernel
theorem dX6_diary_26 : decode cX6_diary 26 = .ok (.iload 4, 2) := by decide +kernel
theorem dX6_diary_28 : decode cX6_diary 28 = .ok (.aload_n 0, 1) := by decide +kernel
theorem dX6_diary_29 : decode cX6_diary 29 = .ok (.getfield 7, 3) := by decide +kernel
theorem dX6_diary_32 : decode cX6_diary 32 = .ok (.iload_n 1, 1) := by decide +kernel
theorem dX6_diary_33 : decode cX6_diary 33 = .ok (.iaload, 1) := by decide +kernel
theorem dX6_diary_34 : decode cX6_diary 34 = .ok (.if_icmp .ge 33, 3) := by decide +kernel
theorem dX6_diary_37 : decode cX6_diary 37 = .ok (.iload_n 3, 1) := by decide +kernel
theorem dX6_diary_38 : decode cX6_diary 38 = .ok (.aload_n 0, 1) := by decide +kernel
theorem dX6_diary_39 : decode cX6_diary 39 = .ok (.iload_n 1, 1) := by decide +kernel
theorem dX6_diary_40 : decode cX6_diary 40 = .ok (.iload 4, 2) := by decide +kernel
theorem dX6_diary_42 : decode cX6_diary 42 = .ok (.invokevirtual 276, 3) := by decide +kernel
theorem dX6_diary_45 : decode cX6_diary 45 = .ok (.ifCond .ge 7, 3) := by decide +kernel
theorem dX6_diary_48 : decode cX6_diary 48 = .ok (.iconst 0, 1) := by decide +kernel
theorem dX6_diary_49 : decode cX6_diary 49 = .ok (.goto 10, 3) := by decide +kernel
theorem dX6_diary_52 : decode cX6_diary 52 = .ok (.aload_n 0, 1) := by decide +kernel
theorem dX6_diary_53 : decode cX6_diary 53 = .ok (.iload_n 1, 1) := by decide +kernel
theorem dX6_diary_54 : decode cX6_diary 54 = .ok (.iload 4, 2) := by decide +kernel
theorem dX6_diary_56 : decode cX6_diary 56 = .ok (.invokevirtual 276, 3) := by decide +kernel
theorem dX6_diary_59 : decode cX6_diary 59 = .ok (.imul, 1) := by decide +kernel
theorem dX6_diary_60 : decode cX6_diary 60 = .ok (.istore_n 3, 1) := by decide +kernel
theorem dX6_diary_61 : decode cX6_diary 61 = .ok (.iinc 4 1, 3) := by decide +kernel
theorem dX6_diary_64 : decode cX6_diary 64 = .ok (.goto (-38), 3) := by decide +kernel
theorem dX6_diary_67 : decode cX6_diary 67 = .ok (.bipush (-9), 2) := by decide +kernel
theorem dX6_diary_69 : decode cX6_diary 69 = .ok (.istore 4, 2) := by decide +kernel
theorem dX6_diary_71 : decode cX6_diary 71 = .ok (.aload_n 0, 1) := by decide +kernel
theorem dX6_diary_72 : decode cX6_diary 72 = .ok (.getfield 159, 3) := by decide +kernel
theorem dX6_diary_75 : decode cX6_diary 75 = .ok (.iconst 1, 1) := by decide +kernel
theorem dX6_diary_76 : decode cX6_diary 76 = .ok (.isub, 1) := by decide +kernel
theorem dX6_diary_77 : decode cX6_diary 77 = .ok (.istore 5, 2) := by decide +kernel
theorem dX6_diary_79 : decode cX6_diary 79 = .ok (.iload 5, 2) := by decide +kernel
theorem dX6_diary_81 : decode cX6_diary 81 = .ok (.ifCond .lt 50, 3) := by decide +kernel
theorem dX6_diary_84 : decode cX6_diary 84 = .ok (.iload_n 3, 1) := by decide +kernel
theorem dX6_diary_85 : decode cX6_diary 85 = .ok (.ifCond .le 36, 3) := by decide +kernel
theorem dX6_diary_88 : decode cX6_diary 88 = .ok (.aload_n 0, 1) := by decide +kernel
theorem dX6_diary_89 : decode cX6_diary 89 = .ok (.getfield 7, 3) := by decide +kernel
theorem dX6_diary_92 : decode cX6_diary 92 = .ok (.iload_n 1, 1) := by decide +kernel
theorem dX6_diary_93 : decode cX6_diary 93 = .ok (.iaload, 1) := by decide +kernel
theorem dX6_diary_94 : decode cX6_diary 94 = .ok (.ifCond .le 27, 3) := by decide +kernel
theorem dX6_diary_97 : decode cX6_diary 97 = .ok (.aload_n 0, 1) := by decide +kernel
theorem dX6_diary_98 : decode cX6_diary 98 = .ok (.getfield 31, 3) := by decide +kernel
theorem dX6_diary_101 : decode cX6_diary 101 = .ok (.iload 5, 2) := by decide +kernel
theorem dX6_diary_103 : decode cX6_diary 103 = .ok (.iaload, 1) := by decide +kernel
theorem dX6_diary_104 : decode cX6_diary 104 = .ok (.aload_n 0, 1) := by decide +kernel
theorem dX6_diary_105 : decode cX6_diary 105 = .ok (.getfield 13, 3) := by decide +kernel
theorem dX6_diary_108 : decode cX6_diary 108 = .ok (.bipush 40, 2) := by decide +kernel
theorem dX6_diary_110 : decode cX6_diary 110 = .ok (.iload_n 1, 1) := by decide +kernel
theorem dX6_diary_111 : decode cX6_diary 111 = .ok (.imul, 1) := by decide +kernel
theorem dX6_diary_112 : decode cX6_diary 112 = .ok (.iaload, 1) := by decide +kernel
theorem dX6_diary_113 : decode cX6_diary 113 = .ok (.if_icmp .ne 8, 3) := by decide +kernel
theorem dX6_diary_116 : decode cX6_diary 116 = .ok (.iload 5, 2) := by decide +kernel
theorem dX6_diary_118 : decode cX6_diary 118 = .ok (.goto 5, 3) := by decide +kernel
theorem dX6_diary_121 : decode cX6_diary 121 = .ok (.iload 4, 2) := by decide +kernel
theorem dX6_diary_123 : decode cX6_diary 123 = .ok (.istore 4, 2) := by decide +kernel
theorem dX6_diary_125 : decode cX6_diary 125 = .ok (.iinc 5 (-1), 3) := by decide +kernel
theorem dX6_diary_128 : decode cX6_diary 128 = .ok (.goto (-49), 3) := by decide +kernel
theorem dX6_diary_131 : decode cX6_diary 131 = .ok (.aload_n 0, 1) := by decide +kernel
theorem dX6_diary_132 : decode cX6_diary 132 = .ok (.iload_n 3, 1) := by decide +kernel
theorem dX6_diary_133 : decode cX6_diary 133 = .ok (.iload 4, 2) := by decide +kernel
theorem dX6_diary_135 : decode cX6_diary 135 = .ok (.invokevirtual 111, 3) := by decide +kernel
theorem dX6_diary_138 : decode cX6_diary 138 = .ok (.ireturn, 1) := by decide +kernel
theorem dX6_forged_0 : decode cX6_forged 0 = .ok (.iload_n 1, 1) := by decide +kernel
theorem dX6_forged_1 : decode cX6_forged 1 = .ok (.invokestatic 99, 3) := by decide +kernel
theorem dX6_forged_4 : decode cX6_forged 4 = .ok (.ifCond .ne 5, 3) := by decide +kernel
theorem dX6_forged_7 : decode cX6_forged 7 = .ok (.iconst (-1), 1) := by decide +kernel
theorem dX6_forged_8 : decode cX6_forged 8 = .ok (.ireturn, 1) := by decide +kernel
theorem dX6_forged_9 : decode cX6_forged 9 = .ok (.aload_n 0, 1) := by decide +kernel
theorem dX6_forged_10 : decode cX6_forged 10 = .ok (.iload_n 1, 1) := by decide +kernel
theorem dX6_forged_11 : decode cX6_forged 11 = .ok (.invokevirtual 273, 3) := by decide +kernel
theorem dX6_forged_14 : decode cX6_forged 14 = .ok (.istore_n 2, 1) := by decide +kernel
theorem dX6_forged_15 : decode cX6_forged 15 = .ok (.iload_n 2, 1) := by decide +kernel
theorem dX6_forged_16 : decode cX6_forged 16 = .ok (.ifCond .ge 5, 3) := by decide +kernel
theorem dX6_forged_19 : decode cX6_forged 19 = .ok (.iload_n 2, 1) := by decide +kernel
theorem dX6_forged_20 : decode cX6_forged 20 = .ok (.ireturn, 1) := by decide +kernel
theorem dX6_forged_21 : decode cX6_forged 21 = .ok (.iconst 0, 1) := by decide +kernel
theorem dX6_forged_22 : decode cX6_forged 22 = .ok (.istore_n 3, 1) := by decide +kernel
theorem dX6_forged_23 : decode cX6_forged 23 = .ok (.iload_n 3, 1) := by decide +kernel
theorem dX6_forged_24 : decode cX6_forged 24 = .ok (.aload_n 0, 1) := by decide +kernel
theorem dX6_forged_25 : decode cX6_forged 25 = .ok (.getfield 7, 3) := by decide +kernel
theorem dX6_forged_28 : decode cX6_forged 28 = .ok (.iload_n 1, 1) := by decide +kernel
theorem dX6_forged_29 : decode cX6_forged 29 = .ok (.iaload, 1) := by decide +kernel
theorem dX6_forged_30 : decode cX6_forged 30 = .ok (.if_icmp .ge 21, 3) := by decide +kernel
theorem dX6_forged_33 : decode cX6_forged 33 = .ok (.aload_n 0, 1) := by decide +kernel
theorem dX6_forged_34 : decode cX6_forged 34 = .ok (.iload_n 1, 1) := by decide +kernel
theorem dX6_forged_35 : decode cX6_forged 35 = .ok (.iload_n 3, 1) := by decide +kernel
theorem dX6_forged_36 : decode cX6_forged 36 = .ok (.invokevirtual 276, 3) := by decide +kernel
theorem dX6_forged_39 : decode cX6_forged 39 = .ok (.iconst 1, 1) := by decide +kernel
theorem dX6_forged_40 : decode cX6_forged 40 = .ok (.if_icmp .ge 5, 3) := by decide +kernel
theorem dX6_forged_43 : decode cX6_forged 43 = .ok (.iload_n 3, 1) := by decide +kernel
theorem dX6_forged_44 : decode cX6_forged 44 = .ok (.ireturn, 1) := by decide +kernel
theorem dX6_forged_45 : decode cX6_forged 45 = .ok (.iinc 3 1, 3) := by decide +kernel
theorem dX6_forged_48 : decode cX6_forged 48 = .ok (.goto (-25), 3) := by decide +kernel
theorem dX6_forged_51 : decode cX6_forged 51 = .ok (.bipush (-9), 2) := by decide +kernel
theorem dX6_forged_53 : decode cX6_forged 53 = .ok (.ireturn, 1) := by decide +kernel
theorem dX6_stolen_0 : decode cX6_stolen 0 = .ok (.iload_n 1, 1) := by decide +kernel
theorem dX6_stolen_1 : decode cX6_stolen 1 = .ok (.i2l, 1) := by decide +kernel
theorem dX6_stolen_2 : decode cX6_stolen 2 = .ok (.lconst 0, 1) := by decide +kernel
theorem dX6_stolen_3 : decode cX6_stolen 3 = .ok (.ldc2_w 279, 3) := by decide +kernel
theorem dX6_stolen_6 : decode cX6_stolen 6 = .ok (.invokestatic 93, 3) := by decide +kernel
theorem dX6_stolen_9 : decode cX6_stolen 9 = .ok (.ifCond .eq 15, 3) := by decide +kernel
theorem dX6_stolen_12 : decode cX6_stolen 12 = .ok (.iload_n 2, 1) := by decide +kernel
theorem dX6_stolen_13 : decode cX6_stolen 13 = .ok (.i2l, 1) := by decide +kernel
theorem dX6_stolen_14 : decode cX6_stolen 14 = .ok (.lconst 0, 1) := by decide +kernel
theorem dX6_stolen_15 : decode cX6_stolen 15 = .ok (.ldc2_w 281, 3) := by decide +kernel
theorem dX6_stolen_18 : decode cX6_stolen 18 = .ok (.invokestatic 93, 3) := by decide +kernel
theorem dX6_stolen_21 : decode cX6_stolen 21 = .ok (.ifCond .ne 5, 3) := by decide +kernel
theorem dX6_stolen_24 : decode cX6_stolen 24 = .ok (.iconst (-1), 1) := by decide +kernel
theorem dX6_stolen_25 : decode cX6_stolen 25 = .ok (.ireturn, 1) := by decide +kernel
theorem dX6_stolen_26 : decode cX6_stolen 26 = .ok (.iconst 0, 1) := by decide +kernel
theorem dX6_stolen_27 : decode cX6_stolen 27 = .ok (.istore_n 3, 1) := by decide +kernel
theorem dX6_stolen_28 : decode cX6_stolen 28 = .ok (.iconst 0, 1) := by decide +kernel
theorem dX6_stolen_29 : decode cX6_stolen 29 = .ok (.istore 4, 2) := by decide +kernel
theorem dX6_stolen_31 : decode cX6_stolen 31 = .ok (.iload 4, 2) := by decide +kernel
theorem dX6_stolen_33 : decode cX6_stolen 33 = .ok (.aload_n 0, 1) := by decide +kernel
theorem dX6_stolen_34 : decode cX6_stolen 34 = .ok (.getfield 159, 3) := by decide +kernel
theorem dX6_stolen_37 : decode cX6_stolen 37 = .ok (.if_icmp .ge 30, 3) := by decide +kernel
theorem dX6_stolen_40 : decode cX6_stolen 40 = .ok (.iload_n 3, 1) := by decide +kernel
theorem dX6_stolen_41 : decode cX6_stolen 41 = .ok (.aload_n 0, 1) := by decide +kernel
theorem dX6_stolen_42 : decode cX6_stolen 42 = .ok (.iload 4, 2) := by decide +kernel
theorem dX6_stolen_44 : decode cX6_stolen 44 = .ok (.invokevirtual 180, 3) := by decide +kernel
theorem dX6_stolen_47 : decode cX6_stolen 47 = .ok (.iload_n 2, 1) := by decide +kernel
theorem dX6_stolen_48 : decode cX6_stolen 48 = .ok (.if_icmp .gt 10, 3) := by decide +kernel
theorem dX6_stolen_51 : decode cX6_stolen 51 = .ok (.iconst 1, 1) := by decide +kernel
theorem dX6_stolen_52 : decode cX6_stolen 52 = .ok (.iload 4, 2) := by decide +kernel
theorem dX6_stolen_54 : decode cX6_stolen 54 = .ok (.ishl, 1) := by decide +kernel
theorem dX6_stolen_55 : decode cX6_stolen 55 = .ok (.goto 4, 3) := by decide +kernel
theorem dX6_stolen_58 : decode cX6_stolen 58 = .ok (.iconst 0, 1) := by decide +kernel
theorem dX6_stolen_59 : decode cX6_stolen 59 = .ok (.ior, 1) := by decide +kernel
theorem dX6_stolen_60 : decode cX6_stolen 60 = .ok (.istore_n 3, 1) := by decide +kernel
theorem dX6_stolen_61 : decode cX6_stolen 61 = .ok (.iinc 4 1, 3) := by decide +kernel
theorem dX6_stolen_64 : decode cX6_stolen 64 = .ok (.goto (-33), 3) := by decide +kernel
theorem dX6_stolen_67 : decode cX6_stolen 67 = .ok (.iload_n 3, 1) := by decide +kernel
theorem dX6_stolen_68 : decode cX6_stolen 68 = .ok (.invokestatic 200, 3) := by decide +kernel
theorem dX6_stolen_71 : decode cX6_stolen 71 = .ok (.iload_n 1, 1) := by decide +kernel
theorem dX6_stolen_72 : decode cX6_stolen 72 = .ok (.iconst 1, 1) := by decide +kernel
theorem dX6_stolen_73 : decode cX6_stolen 73 = .ok (.iadd, 1) := by decide +kernel
theorem dX6_stolen_74 : decode cX6_stolen 74 = .ok (.if_icmp .ne 7, 3) := by decide +kernel
theorem dX6_stolen_77 : decode cX6_stolen 77 = .ok (.iload_n 3, 1) := by decide +kernel
theorem dX6_stolen_78 : decode cX6_stolen 78 = .ok (.goto 4, 3) := by decide +kernel
theorem dX6_stolen_81 : decode cX6_stolen 81 = .ok (.iconst 0, 1) := by decide +kernel
theorem dX6_stolen_82 : decode cX6_stolen 82 = .ok (.ireturn, 1) := by decide +kernel
theorem dX6_odds_0 : decode cX6_odds 0 = .ok (.aload_n 0, 1) := by decide +kernel
theorem dX6_odds_1 : decode cX6_odds 1 = .ok (.iload_n 1, 1) := by decide +kernel
theorem dX6_odds_2 : decode cX6_odds 2 = .ok (.invokevirtual 168, 3) := by decide +kernel
theorem dX6_odds_5 : decode cX6_odds 5 = .ok (.ifCond .ne 5, 3) := by decide +kernel
theorem dX6_odds_8 : decode cX6_odds 8 = .ok (.iconst (-1), 1) := by decide +kernel
theorem dX6_odds_9 : decode cX6_odds 9 = .ok (.ireturn, 1) := by decide +kernel
theorem dX6_odds_10 : decode cX6_odds 10 = .ok (.aload_n 0, 1) := by decide +kernel
theorem dX6_odds_11 : decode cX6_odds 11 = .ok (.aload_n 0, 1) := by decide +kernel
theorem dX6_odds_12 : decode cX6_odds 12 = .ok (.getfield 43, 3) := by decide +kernel
theorem dX6_odds_15 : decode cX6_odds 15 = .ok (.iconst 0, 1) := by decide +kernel
theorem dX6_odds_16 : decode cX6_odds 16 = .ok (.iaload, 1) := by decide +kernel
theorem dX6_odds_17 : decode cX6_odds 17 = .ok (.invokevirtual 213, 3) := by decide +kernel
theorem dX6_odds_20 : decode cX6_odds 20 = .ok (.istore_n 2, 1) := by decide +kernel
theorem dX6_odds_21 : decode cX6_odds 21 = .ok (.aload_n 0, 1) := by decide +kernel
theorem dX6_odds_22 : decode cX6_odds 22 = .ok (.iload_n 2, 1) := by decide +kernel
theorem dX6_odds_23 : decode cX6_odds 23 = .ok (.invokevirtual 253, 3) := by decide +kernel
theorem dX6_odds_26 : decode cX6_odds 26 = .ok (.aload_n 0, 1) := by decide +kernel
theorem dX6_odds_27 : decode cX6_odds 27 = .ok (.iload_n 1, 1) := by decide +kernel
theorem dX6_odds_28 : decode cX6_odds 28 = .ok (.invokevirtual 256, 3) := by decide +kernel
theorem dX6_odds_31 : decode cX6_odds 31 = .ok (.iconst 0, 1) := by decide +kernel
theorem dX6_odds_32 : decode cX6_odds 32 = .ok (.istore_n 3, 1) := by decide +kernel
theorem dX6_odds_33 : decode cX6_odds 33 = .ok (.iconst 0, 1) := by decide +kernel
theorem dX6_odds_34 : decode cX6_odds 34 = .ok (.istore 4, 2) := by decide +kernel
theorem dX6_odds_36 : decode cX6_odds 36 = .ok (.iload 4, 2) := by decide +kernel
theorem dX6_odds_38 : decode cX6_odds 38 = .ok (.sipush 128, 3) := by decide +kernel
theorem dX6_odds_41 : decode cX6_odds 41 = .ok (.if_icmp .ge 35, 3) := by decide +kernel
theorem dX6_odds_44 : decode cX6_odds 44 = .ok (.iload_n 3, 1) := by decide +kernel
theorem dX6_odds_45 : decode cX6_odds 45 = .ok (.iload 4, 2) := by decide +kernel
theorem dX6_odds_47 : decode cX6_odds 47 = .ok (.iload_n 2, 1) := by decide +kernel
theorem dX6_odds_48 : decode cX6_odds 48 = .ok (.iconst (-1), 1) := by decide +kernel
theorem dX6_odds_49 : decode cX6_odds 49 = .ok (.ixor, 1) := by decide +kernel
theorem dX6_odds_50 : decode cX6_odds 50 = .ok (.iand, 1) := by decide +kernel
theorem dX6_odds_51 : decode cX6_odds 51 = .ok (.ifCond .ne 16, 3) := by decide +kernel
theorem dX6_odds_54 : decode cX6_odds 54 = .ok (.aload_n 0, 1) := by decide +kernel
theorem dX6_odds_55 : decode cX6_odds 55 = .ok (.iload 4, 2) := by decide +kernel
theorem dX6_odds_57 : decode cX6_odds 57 = .ok (.invokevirtual 259, 3) := by decide +kernel
theorem dX6_odds_60 : decode cX6_odds 60 = .ok (.ifCond .lt 7, 3) := by decide +kernel
theorem dX6_odds_63 : decode cX6_odds 63 = .ok (.iconst 1, 1) := by decide +kernel
theorem dX6_odds_64 : decode cX6_odds 64 = .ok (.goto 4, 3) := by decide +kernel
theorem dX6_odds_67 : decode cX6_odds 67 = .ok (.iconst 0, 1) := by decide +kernel
theorem dX6_odds_68 : decode cX6_odds 68 = .ok (.iadd, 1) := by decide +kernel
theorem dX6_odds_69 : decode cX6_odds 69 = .ok (.istore_n 3, 1) := by decide +kernel
theorem dX6_odds_70 : decode cX6_odds 70 = .ok (.iinc 4 1, 3) := by decide +kernel
theorem dX6_odds_73 : decode cX6_odds 73 = .ok (.goto (-37), 3) := by decide +kernel
theorem dX6_odds_76 : decode cX6_odds 76 = .ok (.iconst 1, 1) := by decide +kernel
theorem dX6_odds_77 : decode cX6_odds 77 = .ok (.iload_n 2, 1) := by decide +kernel
theorem dX6_odds_78 : decode cX6_odds 78 = .ok (.invokestatic 200, 3) := by decide +kernel
theorem dX6_odds_81 : decode cX6_odds 81 = .ok (.ishl, 1) := by decide +kernel
theorem dX6_odds_82 : decode cX6_odds 82 = .ok (.istore 4, 2) := by decide +kernel
theorem dX6_odds_84 : decode cX6_odds 84 = .ok (.iload_n 3, 1) := by decide +kernel
theorem dX6_odds_85 : decode cX6_odds 85 = .ok (.iconst 2, 1) := by decide +kernel
theorem dX6_odds_86 : decode cX6_odds 86 = .ok (.irem, 1) := by decide +kernel
theorem dX6_odds_87 : decode cX6_odds 87 = .ok (.ifCond .ne 22, 3) := by decide +kernel
theorem dX6_odds_90 : decode cX6_odds 90 = .ok (.iload 4, 2) := by decide +kernel
theorem dX6_odds_92 : decode cX6_odds 92 = .ok (.iconst 1, 1) := by decide +kernel
theorem dX6_odds_93 : decode cX6_odds 93 = .ok (.if_icmp .le 16, 3) := by decide +kernel
theorem dX6_odds_96 : decode cX6_odds 96 = .ok (.iload_n 3, 1) := by decide +kernel
theorem dX6_odds_97 : decode cX6_odds 97 = .ok (.iconst 2, 1) := by decide +kernel
theorem dX6_odds_98 : decode cX6_odds 98 = .ok (.idiv, 1) := by decide +kernel
theorem dX6_odds_99 : decode cX6_odds 99 = .ok (.istore_n 3, 1) := by decide +kernel
theorem dX6_odds_100 : decode cX6_odds 100 = .ok (.iload 4, 2) := by decide +kernel
theorem dX6_odds_102 : decode cX6_odds 102 = .ok (.iconst 2, 1) := by decide +kernel
theorem dX6_odds_103 : decode cX6_odds 103 = .ok (.idiv, 1) := by decide +kernel
theorem dX6_odds_104 : decode cX6_odds 104 = .ok (.istore 4, 2) := by decide +kernel
theorem dX6_odds_106 : decode cX6_odds 106 = .ok (.goto (-22), 3) := by decide +kernel
theorem dX6_odds_109 : decode cX6_odds 109 = .ok (.aload_n 0, 1) := by decide +kernel
theorem dX6_odds_110 : decode cX6_odds 110 = .ok (.iload_n 3, 1) := by decide +kernel
theorem dX6_odds_111 : decode cX6_odds 111 = .ok (.i2l, 1) := by decide +kernel
theorem dX6_odds_112 : decode cX6_odds 112 = .ok (.putfield 283, 3) := by decide +kernel
theorem dX6_odds_115 : decode cX6_odds 115 = .ok (.aload_n 0, 1) := by decide +kernel
theorem dX6_odds_116 : decode cX6_odds 116 = .ok (.iload 4, 2) := by decide +kernel
theorem dX6_odds_118 : decode cX6_odds 118 = .ok (.i2l, 1) := by decide +kernel
theorem dX6_odds_119 : decode cX6_odds 119 = .ok (.putfield 49, 3) := by decide +kernel
theorem dX6_odds_122 : decode cX6_odds 122 = .ok (.iconst 1, 1) := by decide +kernel
theorem dX6_odds_123 : decode cX6_odds 123 = .ok (.ireturn, 1) := by decide +kernel
theorem dX6_oneOf_0 : decode cX6_oneOf 0 = .ok (.iload_n 1, 1) := by decide +kernel
theorem dX6_oneOf_1 : decode cX6_oneOf 1 = .ok (.istore_n 2, 1) := by decide +kernel
theorem dX6_oneOf_2 : decode cX6_oneOf 2 = .ok (.iconst 0, 1) := by decide +kernel
theorem dX6_oneOf_3 : decode cX6_oneOf 3 = .ok (.istore_n 3, 1) := by decide +kernel
theorem dX6_oneOf_4 : decode cX6_oneOf 4 = .ok (.iload_n 0, 1) := by decide +kernel
theorem dX6_oneOf_5 : decode cX6_oneOf 5 = .ok (.iload_n 3, 1) := by decide +kernel
theorem dX6_oneOf_6 : decode cX6_oneOf 6 = .ok (.invokestatic 136, 3) := by decide +kernel
theorem dX6_oneOf_9 : decode cX6_oneOf 9 = .ok (.ifCond .eq 7, 3) := by decide +kernel
theorem dX6_oneOf_12 : decode cX6_oneOf 12 = .ok (.iload_n 2, 1) := by decide +kernel
theorem dX6_oneOf_13 : decode cX6_oneOf 13 = .ok (.ifCond .le 25, 3) := by decide +kernel
theorem dX6_oneOf_16 : decode cX6_oneOf 16 = .ok (.iload_n 2, 1) := by decide +kernel
theorem dX6_oneOf_17 : decode cX6_oneOf 17 = .ok (.iload_n 0, 1) := by decide +kernel
theorem dX6_oneOf_18 : decode cX6_oneOf 18 = .ok (.iload_n 3, 1) := by decide +kernel
theorem dX6_oneOf_19 : decode cX6_oneOf 19 = .ok (.invokestatic 136, 3) := by decide +kernel
theorem dX6_oneOf_22 : decode cX6_oneOf 22 = .ok (.ifCond .eq 7, 3) := by decide +kernel
theorem dX6_oneOf_25 : decode cX6_oneOf 25 = .ok (.iconst 1, 1) := by decide +kernel
theorem dX6_oneOf_26 : decode cX6_oneOf 26 = .ok (.goto 4, 3) := by decide +kernel
theorem dX6_oneOf_29 : decode cX6_oneOf 29 = .ok (.iconst 0, 1) := by decide +kernel
theorem dX6_oneOf_30 : decode cX6_oneOf 30 = .ok (.isub, 1) := by decide +kernel
theorem dX6_oneOf_31 : decode cX6_oneOf 31 = .ok (.istore_n 2, 1) := by decide +kernel
theorem dX6_oneOf_32 : decode cX6_oneOf 32 = .ok (.iinc 3 1, 3) := by decide +kernel
theorem dX6_oneOf_35 : decode cX6_oneOf 35 = .ok (.goto (-31), 3) := by decide +kernel
theorem dX6_oneOf_38 : decode cX6_oneOf 38 = .ok (.iload_n 3, 1) := by decide +kernel
theorem dX6_oneOf_39 : decode cX6_oneOf 39 = .ok (.ireturn, 1) := by decide +kernel
theorem dX6_lots_0 : decode cX6_lots 0 = .ok (.iload_n 1, 1) := by decide +kernel
theorem dX6_lots_1 : decode cX6_lots 1 = .ok (.i2l, 1) := by decide +kernel
theorem dX6_lots_2 : decode cX6_lots 2 = .ok (.lconst 1, 1) := by decide +kernel
theorem dX6_lots_3 : decode cX6_lots 3 = .ok (.ldc2_w 281, 3) := by decide +kernel
theorem dX6_lots_6 : decode cX6_lots 6 = .ok (.invokestatic 93, 3) := by decide +kernel
theorem dX6_lots_9 : decode cX6_lots 9 = .ok (.ifCond .eq 15, 3) := by decide +kernel
theorem dX6_lots_12 : decode cX6_lots 12 = .ok (.iload_n 2, 1) := by decide +kernel
theorem dX6_lots_13 : decode cX6_lots 13 = .ok (.i2l, 1) := by decide +kernel
theorem dX6_lots_14 : decode cX6_lots 14 = .ok (.lconst 1, 1) := by decide +kernel
theorem dX6_lots_15 : decode cX6_lots 15 = .ok (.ldc2_w 286, 3) := by decide +kernel
theorem dX6_lots_18 : decode cX6_lots 18 = .ok (.invokestatic 93, 3) := by decide +kernel
theorem dX6_lots_21 : decode cX6_lots 21 = .ok (.ifCond .ne 5, 3) := by decide +kernel
theorem dX6_lots_24 : decode cX6_lots 24 = .ok (.iconst (-1), 1) := by decide +kernel
theorem dX6_lots_25 : decode cX6_lots 25 = .ok (.ireturn, 1) := by decide +kernel
theorem dX6_lots_26 : decode cX6_lots 26 = .ok (.aload_n 0, 1) := by decide +kernel
theorem dX6_lots_27 : decode cX6_lots 27 = .ok (.getfield 156, 3) := by decide +kernel
theorem dX6_lots_30 : decode cX6_lots 30 = .ok (.ifCond .ne 6, 3) := by decide +kernel
theorem dX6_lots_33 : decode cX6_lots 33 = .ok (.bipush (-4), 2) := by decide +kernel
theorem dX6_lots_35 : decode cX6_lots 35 = .ok (.ireturn, 1) := by decide +kernel
theorem dX6_lots_36 : decode cX6_lots 36 = .ok (.iload_n 2, 1) := by decide +kernel
theorem dX6_lots_37 : decode cX6_lots 37 = .ok (.i2l, 1) := by decide +kernel
theorem dX6_lots_38 : decode cX6_lots 38 = .ok (.lstore_n 3, 1) := by decide +kernel
theorem dX6_lots_39 : decode cX6_lots 39 = .ok (.iconst 0, 1) := by decide +kernel
theorem dX6_lots_40 : decode cX6_lots 40 = .ok (.istore 5, 2) := by decide +kernel
theorem dX6_lots_42 : decode cX6_lots 42 = .ok (.iconst 0, 1) := by decide +kernel
theorem dX6_lots_43 : decode cX6_lots 43 = .ok (.istore 6, 2) := by decide +kernel
theorem dX6_lots_45 : decode cX6_lots 45 = .ok (.iload 6, 2) := by decide +kernel
theorem dX6_lots_47 : decode cX6_lots 47 = .ok (.iload_n 1, 1) := by decide +kernel
theorem dX6_lots_48 : decode cX6_lots 48 = .ok (.if_icmp .ge 141, 3) := by decide +kernel
theorem dX6_lots_51 : decode cX6_lots 51 = .ok (.aload_n 0, 1) := by decide +kernel
theorem dX6_lots_52 : decode cX6_lots 52 = .ok (.getfield 162, 3) := by decide +kernel
theorem dX6_lots_55 : decode cX6_lots 55 = .ok (.bipush 40, 2) := by decide +kernel
theorem dX6_lots_57 : decode cX6_lots 57 = .ok (.if_icmp .ge 132, 3) := by decide +kernel
theorem dX6_lots_60 : decode cX6_lots 60 = .ok (.lload_n 3, 1) := by decide +kernel
theorem dX6_lots_61 : decode cX6_lots 61 = .ok (.ldc2_w 288, 3) := by decide +kernel
theorem dX6_lots_64 : decode cX6_lots 64 = .ok (.lmul, 1) := by decide +kernel
theorem dX6_lots_65 : decode cX6_lots 65 = .ok (.ldc2_w 290, 3) := by decide +kernel
theorem dX6_lots_68 : decode cX6_lots 68 = .ok (.lrem, 1) := by decide +kernel
theorem dX6_lots_69 : decode cX6_lots 69 = .ok (.lstore_n 3, 1) := by decide +kernel
theorem dX6_lots_70 : decode cX6_lots 70 = .ok (.aload_n 0, 1) := by decide +kernel
theorem dX6_lots_71 : decode cX6_lots 71 = .ok (.aload_n 0, 1) := by decide +kernel
theorem dX6_lots_72 : decode cX6_lots 72 = .ok (.getfield 43, 3) := by decide +kernel
theorem dX6_lots_75 : decode cX6_lots 75 = .ok (.iconst 0, 1) := by decide +kernel
theorem dX6_lots_76 : decode cX6_lots 76 = .ok (.iaload, 1) := by decide +kernel
theorem dX6_lots_77 : decode cX6_lots 77 = .ok (.invokevirtual 213, 3) := by decide +kernel
theorem dX6_lots_80 : decode cX6_lots 80 = .ok (.istore 7, 2) := by decide +kernel
theorem dX6_lots_82 : decode cX6_lots 82 = .ok (.iload 7, 2) := by decide +kernel
theorem dX6_lots_84 : decode cX6_lots 84 = .ok (.ifCond .ne 11, 3) := by decide +kernel
theorem dX6_lots_87 : decode cX6_lots 87 = .ok (.aload_n 0, 1) := by decide +kernel
theorem dX6_lots_88 : decode cX6_lots 88 = .ok (.invokevirtual 292, 3) := by decide +kernel
theorem dX6_lots_91 : decode cX6_lots 91 = .ok (.pop, 1) := by decide +kernel
theorem dX6_lots_92 : decode cX6_lots 92 = .ok (.goto 91, 3) := by decide +kernel
theorem dX6_lots_95 : decode cX6_lots 95 = .ok (.iload 7, 2) := by decide +kernel
theorem dX6_lots_97 : decode cX6_lots 97 = .ok (.lload_n 3, 1) := by decide +kernel
theorem dX6_lots_98 : decode cX6_lots 98 = .ok (.iload 7, 2) := by decide +kernel
theorem dX6_lots_100 : decode cX6_lots 100 = .ok (.invokestatic 200, 3) := by decide +kernel
theorem dX6_lots_103 : decode cX6_lots 103 = .ok (.i2l, 1) := by decide +kernel
theorem dX6_lots_104 : decode cX6_lots 104 = .ok (.lrem, 1) := by decide +kernel
theorem dX6_lots_105 : decode cX6_lots 105 = .ok (.l2i, 1) := by decide +kernel
theorem dX6_lots_106 : decode cX6_lots 106 = .ok (.invokestatic 295, 3) := by decide +kernel
theorem dX6_lots_109 : decode cX6_lots 109 = .ok (.istore 8, 2) := by decide +kernel
theorem dX6_lots_111 : decode cX6_lots 111 = .ok (.aload_n 0, 1) := by decide +kernel
theorem dX6_lots_112 : decode cX6_lots 112 = .ok (.iload 8, 2) := by decide +kernel
theorem dX6_lots_114 : decode cX6_lots 114 = .ok (.invokevirtual 298, 3) := by decide +kernel
theorem dX6_lots_117 : decode cX6_lots 117 = .ok (.istore 9, 2) := by decide +kernel
theorem dX6_lots_119 : decode cX6_lots 119 = .ok (.lload_n 3, 1) := by decide +kernel
theorem dX6_lots_120 : decode cX6_lots 120 = .ok (.ldc2_w 301, 3) := by decide +kernel
theorem dX6_lots_123 : decode cX6_lots 123 = .ok (.ldiv, 1) := by decide +kernel
theorem dX6_lots_124 : decode cX6_lots 124 = .ok (.iload 9, 2) := by decide +kernel
theorem dX6_lots_126 : decode cX6_lots 126 = .ok (.invokestatic 200, 3) := by decide +kernel
theorem dX6_lots_129 : decode cX6_lots 129 = .ok (.iconst 1, 1) := by decide +kernel
theorem dX6_lots_130 : decode cX6_lots 130 = .ok (.iadd, 1) := by decide +kernel
theorem dX6_lots_131 : decode cX6_lots 131 = .ok (.i2l, 1) := by decide +kernel
theorem dX6_lots_132 : decode cX6_lots 132 = .ok (.lrem, 1) := by decide +kernel
theorem dX6_lots_133 : decode cX6_lots 133 = .ok (.l2i, 1) := by decide +kernel
theorem dX6_lots_134 : decode cX6_lots 134 = .ok (.istore 10, 2) := by decide +kernel
theorem dX6_lots_136 : decode cX6_lots 136 = .ok (.iload 10, 2) := by decide +kernel
theorem dX6_lots_138 : decode cX6_lots 138 = .ok (.iload 9, 2) := by decide +kernel
theorem dX6_lots_140 : decode cX6_lots 140 = .ok (.invokestatic 200, 3) := by decide +kernel
theorem dX6_lots_143 : decode cX6_lots 143 = .ok (.if_icmp .ne 8, 3) := by decide +kernel
theorem dX6_lots_146 : decode cX6_lots 146 = .ok (.bipush (-9), 2) := by decide +kernel
theorem dX6_lots_148 : decode cX6_lots 148 = .ok (.goto 10, 3) := by decide +kernel
theorem dX6_lots_151 : decode cX6_lots 151 = .ok (.iload 9, 2) := by decide +kernel
theorem dX6_lots_153 : decode cX6_lots 153 = .ok (.iload 10, 2) := by decide +kernel
theorem dX6_lots_155 : decode cX6_lots 155 = .ok (.invokestatic 295, 3) := by decide +kernel
theorem dX6_lots_158 : decode cX6_lots 158 = .ok (.istore 11, 2) := by decide +kernel
theorem dX6_lots_160 : decode cX6_lots 160 = .ok (.aload_n 0, 1) := by decide +kernel
theorem dX6_lots_161 : decode cX6_lots 161 = .ok (.iload 8, 2) := by decide +kernel
theorem dX6_lots_163 : decode cX6_lots 163 = .ok (.iload 11, 2) := by decide +kernel
theorem dX6_lots_165 : decode cX6_lots 165 = .ok (.invokevirtual 229, 3) := by decide +kernel
theorem dX6_lots_168 : decode cX6_lots 168 = .ok (.iload 5, 2) := by decide +kernel
theorem dX6_lots_170 : decode cX6_lots 170 = .ok (.iload 11, 2) := by decide +kernel
theorem dX6_lots_172 : decode cX6_lots 172 = .ok (.ifCond .ge 7, 3) := by decide +kernel
theorem dX6_lots_175 : decode cX6_lots 175 = .ok (.iconst 0, 1) := by decide +kernel
theorem dX6_lots_176 : decode cX6_lots 176 = .ok (.goto 4, 3) := by decide +kernel
theorem dX6_lots_179 : decode cX6_lots 179 = .ok (.iconst 1, 1) := by decide +kernel
theorem dX6_lots_180 : decode cX6_lots 180 = .ok (.iadd, 1) := by decide +kernel
theorem dX6_lots_181 : decode cX6_lots 181 = .ok (.istore 5, 2) := by decide +kernel
theorem dX6_lots_183 : decode cX6_lots 183 = .ok (.iinc 6 1, 3) := by decide +kernel
theorem dX6_lots_186 : decode cX6_lots 186 = .ok (.goto (-141), 3) := by decide +kernel
theorem dX6_lots_189 : decode cX6_lots 189 = .ok (.iload 5, 2) := by decide +kernel
theorem dX6_lots_191 : decode cX6_lots 191 = .ok (.ireturn, 1) := by decide +kernel
theorem dX6_asked_0 : decode cX6_asked 0 = .ok (.aload_n 0, 1) := by decide +kernel
theorem dX6_asked_1 : decode cX6_asked 1 = .ok (.getfield 88, 3) := by decide +kernel
theorem dX6_asked_4 : decode cX6_asked 4 = .ok (.ireturn, 1) := by decide +kernel
theorem dX6_upper_0 : decode cX6_upper 0 = .ok (.aload_n 0, 1) := by decide +kernel
theorem dX6_upper_1 : decode cX6_upper 1 = .ok (.getfield 283, 3) := by decide +kernel
theorem dX6_upper_4 : decode cX6_upper 4 = .ok (.lreturn, 1) := by decide +kernel
theorem dX6_lower_0 : decode cX6_lower 0 = .ok (.aload_n 0, 1) := by decide +kernel
theorem dX6_lower_1 : decode cX6_lower 1 = .ok (.getfield 49, 3) := by decide +kernel
theorem dX6_lower_4 : decode cX6_lower 4 = .ok (.lreturn, 1) := by decide +kernel
theorem dX6_there_0 : decode cX6_there 0 = .ok (.iconst 0, 1) := by decide +kernel
theorem dX6_there_1 : decode cX6_there 1 = .ok (.istore_n 1, 1) := by decide +kernel
theorem dX6_there_2 : decode cX6_there 2 = .ok (.iconst 0, 1) := by decide +kernel
theorem dX6_there_3 : decode cX6_there 3 = .ok (.istore_n 2, 1) := by decide +kernel
theorem dX6_there_4 : decode cX6_there 4 = .ok (.iload_n 2, 1) := by decide +kernel
theorem dX6_there_5 : decode cX6_there 5 = .ok (.aload_n 0, 1) := by decide +kernel
theorem dX6_there_6 : decode cX6_there 6 = .ok (.arraylength, 1) := by decide +kernel
theorem dX6_there_7 : decode cX6_there 7 = .ok (.if_icmp .ge 23, 3) := by decide +kernel
theorem dX6_there_10 : decode cX6_there 10 = .ok (.iload_n 1, 1) := by decide +kernel
theorem dX6_there_11 : decode cX6_there 11 = .ok (.aload_n 0, 1) := by decide +kernel
theorem dX6_there_12 : decode cX6_there 12 = .ok (.iload_n 2, 1) := by decide +kernel
theorem dX6_there_13 : decode cX6_there 13 = .ok (.iaload, 1) := by decide +kernel
theorem dX6_there_14 : decode cX6_there 14 = .ok (.ifCond .lt 7, 3) := by decide +kernel
theorem dX6_there_17 : decode cX6_there 17 = .ok (.iconst 1, 1) := by decide +kernel
theorem dX6_there_18 : decode cX6_there 18 = .ok (.goto 4, 3) := by decide +kernel
theorem dX6_there_21 : decode cX6_there 21 = .ok (.iconst 0, 1) := by decide +kernel
theorem dX6_there_22 : decode cX6_there 22 = .ok (.iadd, 1) := by decide +kernel
theorem dX6_there_23 : decode cX6_there 23 = .ok (.istore_n 1, 1) := by decide +kernel
theorem dX6_there_24 : decode cX6_there 24 = .ok (.iinc 2 1, 3) := by decide +kernel
theorem dX6_there_27 : decode cX6_there 27 = .ok (.goto (-23), 3) := by decide +kernel
theorem dX6_there_30 : decode cX6_there 30 = .ok (.iload_n 1, 1) := by decide +kernel
theorem dX6_there_31 : decode cX6_there 31 = .ok (.ireturn, 1) := by decide +kernel
theorem dX6_count_0 : decode cX6_count 0 = .ok (.iconst 0, 1) := by decide +kernel
theorem dX6_count_1 : decode cX6_count 1 = .ok (.istore_n 2, 1) := by decide +kernel
theorem dX6_count_2 : decode cX6_count 2 = .ok (.iconst 0, 1) := by decide +kernel
theorem dX6_count_3 : decode cX6_count 3 = .ok (.istore_n 3, 1) := by decide +kernel
theorem dX6_count_4 : decode cX6_count 4 = .ok (.iload_n 3, 1) := by decide +kernel
theorem dX6_count_5 : decode cX6_count 5 = .ok (.aload_n 0, 1) := by decide +kernel
theorem dX6_count_6 : decode cX6_count 6 = .ok (.getfield 156, 3) := by decide +kernel
theorem dX6_count_9 : decode cX6_count 9 = .ok (.if_icmp .ge 30, 3) := by decide +kernel
theorem dX6_count_12 : decode cX6_count 12 = .ok (.iload_n 2, 1) := by decide +kernel
theorem dX6_count_13 : decode cX6_count 13 = .ok (.aload_n 0, 1) := by decide +kernel
theorem dX6_count_14 : decode cX6_count 14 = .ok (.getfield 22, 3) := by decide +kernel
theorem dX6_count_17 : decode cX6_count 17 = .ok (.iload_n 3, 1) := by decide +kernel
theorem dX6_count_18 : decode cX6_count 18 = .ok (.iaload, 1) := by decide +kernel
theorem dX6_count_19 : decode cX6_count 19 = .ok (.iconst 1, 1) := by decide +kernel
theorem dX6_count_20 : decode cX6_count 20 = .ok (.invokestatic 195, 3) := by decide +kernel
theorem dX6_count_23 : decode cX6_count 23 = .ok (.ifCond .eq 7, 3) := by decide +kernel
theorem dX6_count_26 : decode cX6_count 26 = .ok (.iconst 1, 1) := by decide +kernel
theorem dX6_count_27 : decode cX6_count 27 = .ok (.goto 4, 3) := by decide +kernel
theorem dX6_count_30 : decode cX6_count 30 = .ok (.iconst 0, 1) := by decide +kernel
theorem dX6_count_31 : decode cX6_count 31 = .ok (.iadd, 1) := by decide +kernel
theorem dX6_count_32 : decode cX6_count 32 = .ok (.istore_n 2, 1) := by decide +kernel
theorem dX6_count_33 : decode cX6_count 33 = .ok (.iinc 3 1, 3) := by decide +kernel
theorem dX6_count_36 : decode cX6_count 36 = .ok (.goto (-32), 3) := by decide +kernel
theorem dX6_count_39 : decode cX6_count 39 = .ok (.iload_n 1, 1) := by decide +kernel
theorem dX6_count_40 : decode cX6_count 40 = .ok (.tableswitch 150 0 8 #[52, 57, 62, 67, 77, 87, 89, 97, 105], 52) := by decide +kernel
theorem dX6_count_92 : decode cX6_count 92 = .ok (.aload_n 0, 1) := by decide +kernel
theorem dX6_count_93 : decode cX6_count 93 = .ok (.getfield 156, 3) := by decide +kernel
theorem dX6_count_96 : decode cX6_count 96 = .ok (.ireturn, 1) := by decide +kernel
theorem dX6_count_97 : decode cX6_count 97 = .ok (.aload_n 0, 1) := by decide +kernel
theorem dX6_count_98 : decode cX6_count 98 = .ok (.getfield 159, 3) := by decide +kernel
theorem dX6_count_101 : decode cX6_count 101 = .ok (.ireturn, 1) := by decide +kernel
theorem dX6_count_102 : decode cX6_count 102 = .ok (.aload_n 0, 1) := by decide +kernel
theorem dX6_count_103 : decode cX6_count 103 = .ok (.getfield 162, 3) := by decide +kernel
theorem dX6_count_106 : decode cX6_count 106 = .ok (.ireturn, 1) := by decide +kernel
theorem dX6_count_107 : decode cX6_count 107 = .ok (.aload_n 0, 1) := by decide +kernel
theorem dX6_count_108 : decode cX6_count 108 = .ok (.getfield 43, 3) := by decide +kernel
theorem dX6_count_111 : decode cX6_count 111 = .ok (.iconst 3, 1) := by decide +kernel
theorem dX6_count_112 : decode cX6_count 112 = .ok (.iaload, 1) := by decide +kernel
theorem dX6_count_113 : decode cX6_count 113 = .ok (.invokestatic 200, 3) := by decide +kernel
theorem dX6_count_116 : decode cX6_count 116 = .ok (.ireturn, 1) := by decide +kernel
theorem dX6_count_117 : decode cX6_count 117 = .ok (.aload_n 0, 1) := by decide +kernel
theorem dX6_count_118 : decode cX6_count 118 = .ok (.getfield 43, 3) := by decide +kernel
theorem dX6_count_121 : decode cX6_count 121 = .ok (.iconst 1, 1) := by decide +kernel
theorem dX6_count_122 : decode cX6_count 122 = .ok (.iaload, 1) := by decide +kernel
theorem dX6_count_123 : decode cX6_count 123 = .ok (.invokestatic 200, 3) := by decide +kernel
theorem dX6_count_126 : decode cX6_count 126 = .ok (.ireturn, 1) := by decide +kernel
theorem dX6_count_127 : decode cX6_count 127 = .ok (.iload_n 2, 1) := by decide +kernel
theorem dX6_count_128 : decode cX6_count 128 = .ok (.ireturn, 1) := by decide +kernel
theorem dX6_count_129 : decode cX6_count 129 = .ok (.aload_n 0, 1) := by decide +kernel
theorem dX6_count_130 : decode cX6_count 130 = .ok (.getfield 7, 3) := by decide +kernel
theorem dX6_count_133 : decode cX6_count 133 = .ok (.invokestatic 303, 3) := by decide +kernel
theorem dX6_count_136 : decode cX6_count 136 = .ok (.ireturn, 1) := by decide +kernel
theorem dX6_count_137 : decode cX6_count 137 = .ok (.aload_n 0, 1) := by decide +kernel
theorem dX6_count_138 : decode cX6_count 138 = .ok (.getfield 16, 3) := by decide +kernel
theorem dX6_count_141 : decode cX6_count 141 = .ok (.invokestatic 303, 3) := by decide +kernel
theorem dX6_count_144 : decode cX6_count 144 = .ok (.ireturn, 1) := by decide +kernel
theorem dX6_count_145 : decode cX6_count 145 = .ok (.aload_n 0, 1) := by decide +kernel
theorem dX6_count_146 : decode cX6_count 146 = .ok (.getfield 65, 3) := by decide +kernel
theorem dX6_count_149 : decode cX6_count 149 = .ok (.iconst 0, 1) := by decide +kernel
theorem dX6_count_150 : decode cX6_count 150 = .ok (.baload, 1) := by decide +kernel
theorem dX6_count_151 : decode cX6_count 151 = .ok (.ifCond .eq 7, 3) := by decide +kernel
theorem dX6_count_154 : decode cX6_count 154 = .ok (.iconst 1, 1) := by decide +kernel
theorem dX6_count_155 : decode cX6_count 155 = .ok (.goto 4, 3) := by decide +kernel
theorem dX6_count_158 : decode cX6_count 158 = .ok (.iconst 0, 1) := by decide +kernel
theorem dX6_count_159 : decode cX6_count 159 = .ok (.aload_n 0, 1) := by decide +kernel
theorem dX6_count_160 : decode cX6_count 160 = .ok (.getfield 65, 3) := by decide +kernel
theorem dX6_count_163 : decode cX6_count 163 = .ok (.iconst 1, 1) := by decide +kernel
theorem dX6_count_164 : decode cX6_count 164 = .ok (.baload, 1) := by decide +kernel
theorem dX6_count_165 : decode cX6_count 165 = .ok (.ifCond .eq 7, 3) := by decide +kernel
theorem dX6_count_168 : decode cX6_count 168 = .ok (.iconst 1, 1) := by decide +kernel
theorem dX6_count_169 : decode cX6_count 169 = .ok (.goto 4, 3) := by decide +kernel
theorem dX6_count_172 : decode cX6_count 172 = .ok (.iconst 0, 1) := by decide +kernel
theorem dX6_count_173 : decode cX6_count 173 = .ok (.iadd, 1) := by decide +kernel
theorem dX6_count_174 : decode cX6_count 174 = .ok (.aload_n 0, 1) := by decide +kernel
theorem dX6_count_175 : decode cX6_count 175 = .ok (.getfield 65, 3) := by decide +kernel
theorem dX6_count_178 : decode cX6_count 178 = .ok (.iconst 2, 1) := by decide +kernel
theorem dX6_count_179 : decode cX6_count 179 = .ok (.baload, 1) := by decide +kernel
theorem dX6_count_180 : decode cX6_count 180 = .ok (.ifCond .eq 7, 3) := by decide +kernel
theorem dX6_count_183 : decode cX6_count 183 = .ok (.iconst 1, 1) := by decide +kernel
theorem dX6_count_184 : decode cX6_count 184 = .ok (.goto 4, 3) := by decide +kernel
theorem dX6_count_187 : decode cX6_count 187 = .ok (.iconst 0, 1) := by decide +kernel
theorem dX6_count_188 : decode cX6_count 188 = .ok (.iadd, 1) := by decide +kernel
theorem dX6_count_189 : decode cX6_count 189 = .ok (.ireturn, 1) := by decide +kernel
theorem dX6_count_190 : decode cX6_count 190 = .ok (.iconst (-1), 1) := by decide +kernel
theorem dX6_count_191 : decode cX6_count 191 = .ok (.ireturn, 1) := by decide +kernel
theorem dX6_finding_0 : decode cX6_finding 0 = .ok (.aload_n 0, 1) := by decide +kernel
theorem dX6_finding_1 : decode cX6_finding 1 = .ok (.getfield 84, 3) := by decide +kernel
theorem dX6_finding_4 : decode cX6_finding 4 = .ok (.ireturn, 1) := by decide +kernel
theorem dX6_findings_0 : decode cX6_findings 0 = .ok (.iload_n 1, 1) := by decide +kernel
theorem dX6_findings_1 : decode cX6_findings 1 = .ok (.i2l, 1) := by decide +kernel
theorem dX6_findings_2 : decode cX6_findings 2 = .ok (.lconst 1, 1) := by decide +kernel
theorem dX6_findings_3 : decode cX6_findings 3 = .ok (.ldc2_w 91, 3) := by decide +kernel
theorem dX6_findings_6 : decode cX6_findings 6 = .ok (.invokestatic 93, 3) := by decide +kernel
theorem dX6_findings_9 : decode cX6_findings 9 = .ok (.ifCond .eq 12, 3) := by decide +kernel
theorem dX6_findings_12 : decode cX6_findings 12 = .ok (.aload_n 0, 1) := by decide +kernel
theorem dX6_findings_13 : decode cX6_findings 13 = .ok (.getfield 53, 3) := by decide +kernel
theorem dX6_findings_16 : decode cX6_findings 16 = .ok (.iload_n 1, 1) := by decide +kernel
theorem dX6_findings_17 : decode cX6_findings 17 = .ok (.iaload, 1) := by decide +kernel
theorem dX6_findings_18 : decode cX6_findings 18 = .ok (.goto 4, 3) := by decide +kernel
theorem dX6_findings_21 : decode cX6_findings 21 = .ok (.iconst (-1), 1) := by decide +kernel
theorem dX6_findings_22 : decode cX6_findings 22 = .ok (.ireturn, 1) := by decide +kernel
theorem dX6_mix_0 : decode cX6_mix 0 = .ok (.aload_n 0, 1) := by decide +kernel
theorem dX6_mix_1 : decode cX6_mix 1 = .ok (.ldc2_w 307, 3) := by decide +kernel
theorem dX6_mix_4 : decode cX6_mix 4 = .ok (.aload_n 0, 1) := by decide +kernel
theorem dX6_mix_5 : decode cX6_mix 5 = .ok (.getfield 309, 3) := by decide +kernel
theorem dX6_mix_8 : decode cX6_mix 8 = .ok (.lmul, 1) := by decide +kernel
theorem dX6_mix_9 : decode cX6_mix 9 = .ok (.lload_n 1, 1) := by decide +kernel
theorem dX6_mix_10 : decode cX6_mix 10 = .ok (.ladd, 1) := by decide +kernel
theorem dX6_mix_11 : decode cX6_mix 11 = .ok (.putfield 309, 3) := by decide +kernel
theorem dX6_mix_14 : decode cX6_mix 14 = .ok (.return_, 1) := by decide +kernel
theorem dX6_digest_0 : decode cX6_digest 0 = .ok (.aload_n 0, 1) := by decide +kernel
theorem dX6_digest_1 : decode cX6_digest 1 = .ok (.ldc2_w 178, 3) := by decide +kernel
theorem dX6_digest_4 : decode cX6_digest 4 = .ok (.putfield 309, 3) := by decide +kernel
theorem dX6_digest_7 : decode cX6_digest 7 = .ok (.iconst 0, 1) := by decide +kernel
theorem dX6_digest_8 : decode cX6_digest 8 = .ok (.istore_n 1, 1) := by decide +kernel
theorem dX6_digest_9 : decode cX6_digest 9 = .ok (.iload_n 1, 1) := by decide +kernel
theorem dX6_digest_10 : decode cX6_digest 10 = .ok (.bipush 9, 2) := by decide +kernel
theorem dX6_digest_12 : decode cX6_digest 12 = .ok (.if_icmp .ge 19, 3) := by decide +kernel
theorem dX6_digest_15 : decode cX6_digest 15 = .ok (.aload_n 0, 1) := by decide +kernel
theorem dX6_digest_16 : decode cX6_digest 16 = .ok (.aload_n 0, 1) := by decide +kernel
theorem dX6_digest_17 : decode cX6_digest 17 = .ok (.iload_n 1, 1) := by decide +kernel
theorem dX6_digest_18 : decode cX6_digest 18 = .ok (.invokevirtual 312, 3) := by decide +kernel
theorem dX6_digest_21 : decode cX6_digest 21 = .ok (.i2l, 1) := by decide +kernel
theorem dX6_digest_22 : decode cX6_digest 22 = .ok (.invokevirtual 315, 3) := by decide +kernel
theorem dX6_digest_25 : decode cX6_digest 25 = .ok (.iinc 1 1, 3) := by decide +kernel
theorem dX6_digest_28 : decode cX6_digest 28 = .ok (.goto (-19), 3) := by decide +kernel
theorem dX6_digest_31 : decode cX6_digest 31 = .ok (.aload_n 0, 1) := by decide +kernel
theorem dX6_digest_32 : decode cX6_digest 32 = .ok (.aload_n 0, 1) := by decide +kernel
theorem dX6_digest_33 : decode cX6_digest 33 = .ok (.getfield 43, 3) := by decide +kernel
theorem dX6_digest_36 : decode cX6_digest 36 = .ok (.iconst 0, 1) := by decide +kernel
theorem dX6_digest_37 : decode cX6_digest 37 = .ok (.iaload, 1) := by decide +kernel
theorem dX6_digest_38 : decode cX6_digest 38 = .ok (.i2l, 1) := by decide +kernel
theorem dX6_digest_39 : decode cX6_digest 39 = .ok (.invokevirtual 315, 3) := by decide +kernel
theorem dX6_digest_42 : decode cX6_digest 42 = .ok (.iconst 0, 1) := by decide +kernel
theorem dX6_digest_43 : decode cX6_digest 43 = .ok (.istore_n 1, 1) := by decide +kernel
theorem dX6_digest_44 : decode cX6_digest 44 = .ok (.iload_n 1, 1) := by decide +kernel
theorem dX6_digest_45 : decode cX6_digest 45 = .ok (.iconst 3, 1) := by decide +kernel
theorem dX6_digest_46 : decode cX6_digest 46 = .ok (.if_icmp .ge 20, 3) := by decide +kernel
theorem dX6_digest_49 : decode cX6_digest 49 = .ok (.aload_n 0, 1) := by decide +kernel
theorem dX6_digest_50 : decode cX6_digest 50 = .ok (.aload_n 0, 1) := by decide +kernel
theorem dX6_digest_51 : decode cX6_digest 51 = .ok (.getfield 40, 3) := by decide +kernel
theorem dX6_digest_54 : decode cX6_digest 54 = .ok (.iload_n 1, 1) := by decide +kernel
theorem dX6_digest_55 : decode cX6_digest 55 = .ok (.iaload, 1) := by decide +kernel
theorem dX6_digest_56 : decode cX6_digest 56 = .ok (.i2l, 1) := by decide +kernel
theorem dX6_digest_57 : decode cX6_digest 57 = .ok (.invokevirtual 315, 3) := by decide +kernel
theorem dX6_digest_60 : decode cX6_digest 60 = .ok (.iinc 1 1, 3) := by decide +kernel
theorem dX6_digest_63 : decode cX6_digest 63 = .ok (.goto (-19), 3) := by decide +kernel
theorem dX6_digest_66 : decode cX6_digest 66 = .ok (.iconst 0, 1) := by decide +kernel
theorem dX6_digest_67 : decode cX6_digest 67 = .ok (.istore_n 1, 1) := by decide +kernel
theorem dX6_digest_68 : decode cX6_digest 68 = .ok (.iload_n 1, 1) := by decide +kernel
theorem dX6_digest_69 : decode cX6_digest 69 = .ok (.iconst 5, 1) := by decide +kernel
theorem dX6_digest_70 : decode cX6_digest 70 = .ok (.aload_n 0, 1) := by decide +kernel
theorem dX6_digest_71 : decode cX6_digest 71 = .ok (.getfield 156, 3) := by decide +kernel
theorem dX6_digest_74 : decode cX6_digest 74 = .ok (.imul, 1) := by decide +kernel
theorem dX6_digest_75 : decode cX6_digest 75 = .ok (.if_icmp .ge 24, 3) := by decide +kernel
theorem dX6_digest_78 : decode cX6_digest 78 = .ok (.aload_n 0, 1) := by decide +kernel
theorem dX6_digest_79 : decode cX6_digest 79 = .ok (.aload_n 0, 1) := by decide +kernel
theorem dX6_digest_80 : decode cX6_digest 80 = .ok (.iload_n 1, 1) := by decide +kernel
theorem dX6_digest_81 : decode cX6_digest 81 = .ok (.iconst 5, 1) := by decide +kernel
theorem dX6_digest_82 : decode cX6_digest 82 = .ok (.idiv, 1) := by decide +kernel
theorem dX6_digest_83 : decode cX6_digest 83 = .ok (.iload_n 1, 1) := by decide +kernel
theorem dX6_digest_84 : decode cX6_digest 84 = .ok (.iconst 5, 1) := by decide +kernel
theorem dX6_digest_85 : decode cX6_digest 85 = .ok (.irem, 1) := by decide +kernel
theorem dX6_digest_86 : decode cX6_digest 86 = .ok (.invokevirtual 173, 3) := by decide +kernel
theorem dX6_digest_89 : decode cX6_digest 89 = .ok (.i2l, 1) := by decide +kernel
theorem dX6_digest_90 : decode cX6_digest 90 = .ok (.invokevirtual 315, 3) := by decide +kernel
theorem dX6_digest_93 : decode cX6_digest 93 = .ok (.iinc 1 1, 3) := by decide +kernel
theorem dX6_digest_96 : decode cX6_digest 96 = .ok (.goto (-28), 3) := by decide +kernel
theorem dX6_digest_99 : decode cX6_digest 99 = .ok (.iconst 0, 1) := by decide +kernel
theorem dX6_digest_100 : decode cX6_digest 100 = .ok (.istore_n 1, 1) := by decide +kernel
theorem dX6_digest_101 : decode cX6_digest 101 = .ok (.iload_n 1, 1) := by decide +kernel
theorem dX6_digest_102 : decode cX6_digest 102 = .ok (.iconst 5, 1) := by decide +kernel
theorem dX6_digest_103 : decode cX6_digest 103 = .ok (.aload_n 0, 1) := by decide +kernel
theorem dX6_digest_104 : decode cX6_digest 104 = .ok (.getfield 159, 3) := by decide +kernel
theorem dX6_digest_107 : decode cX6_digest 107 = .ok (.imul, 1) := by decide +kernel
theorem dX6_digest_108 : decode cX6_digest 108 = .ok (.if_icmp .ge 24, 3) := by decide +kernel
theorem dX6_digest_111 : decode cX6_digest 111 = .ok (.aload_n 0, 1) := by decide +kernel
theorem dX6_digest_112 : decode cX6_digest 112 = .ok (.aload_n 0, 1) := by decide +kernel
theorem dX6_digest_113 : decode cX6_digest 113 = .ok (.iload_n 1, 1) := by decide +kernel
theorem dX6_digest_114 : decode cX6_digest 114 = .ok (.iconst 5, 1) := by decide +kernel
theorem dX6_digest_115 : decode cX6_digest 115 = .ok (.idiv, 1) := by decide +kernel
theorem dX6_digest_116 : decode cX6_digest 116 = .ok (.iload_n 1, 1) := by decide +kernel
theorem dX6_digest_117 : decode cX6_digest 117 = .ok (.iconst 5, 1) := by decide +kernel
theorem dX6_digest_118 : decode cX6_digest 118 = .ok (.irem, 1) := by decide +kernel
theorem dX6_digest_119 : decode cX6_digest 119 = .ok (.invokevirtual 192, 3) := by decide +kernel
theorem dX6_digest_122 : decode cX6_digest 122 = .ok (.i2l, 1) := by decide +kernel
theorem dX6_digest_123 : decode cX6_digest 123 = .ok (.invokevirtual 315, 3) := by decide +kernel
theorem dX6_digest_126 : decode cX6_digest 126 = .ok (.iinc 1 1, 3) := by decide +kernel
theorem dX6_digest_129 : decode cX6_digest 129 = .ok (.goto (-28), 3) := by decide +kernel
theorem dX6_digest_132 : decode cX6_digest 132 = .ok (.iconst 0, 1) := by decide +kernel
theorem dX6_digest_133 : decode cX6_digest 133 = .ok (.istore_n 1, 1) := by decide +kernel
theorem dX6_digest_134 : decode cX6_digest 134 = .ok (.iload_n 1, 1) := by decide +kernel
theorem dX6_digest_135 : decode cX6_digest 135 = .ok (.iconst 3, 1) := by decide +kernel
theorem dX6_digest_136 : decode cX6_digest 136 = .ok (.if_icmp .ge 43, 3) := by decide +kernel
theorem dX6_digest_139 : decode cX6_digest 139 = .ok (.aload_n 0, 1) := by decide +kernel
theorem dX6_digest_140 : decode cX6_digest 140 = .ok (.aload_n 0, 1) := by decide +kernel
theorem dX6_digest_141 : decode cX6_digest 141 = .ok (.getfield 65, 3) := by decide +kernel
theorem dX6_digest_144 : decode cX6_digest 144 = .ok (.iload_n 1, 1) := by decide +kernel
theorem dX6_digest_145 : decode cX6_digest 145 = .ok (.baload, 1) := by decide +kernel
theorem dX6_digest_146 : decode cX6_digest 146 = .ok (.ifCond .eq 21, 3) := by decide +kernel
theorem dX6_digest_149 : decode cX6_digest 149 = .ok (.aload_n 0, 1) := by decide +kernel
theorem dX6_digest_150 : decode cX6_digest 150 = .ok (.getfield 69, 3) := by decide +kernel
theorem dX6_digest_153 : decode cX6_digest 153 = .ok (.sipush 496, 3) := by decide +kernel
theorem dX6_digest_156 : decode cX6_digest 156 = .ok (.iload_n 1, 1) := by decide +kernel
theorem dX6_digest_157 : decode cX6_digest 157 = .ok (.imul, 1) := by decide +kernel
theorem dX6_digest_158 : decode cX6_digest 158 = .ok (.sipush 495, 3) := by decide +kernel
theorem dX6_digest_161 : decode cX6_digest 161 = .ok (.iadd, 1) := by decide +kernel
theorem dX6_digest_162 : decode cX6_digest 162 = .ok (.iaload, 1) := by decide +kernel
theorem dX6_digest_163 : decode cX6_digest 163 = .ok (.i2l, 1) := by decide +kernel
theorem dX6_digest_164 : decode cX6_digest 164 = .ok (.goto 6, 3) := by decide +kernel
theorem dX6_digest_167 : decode cX6_digest 167 = .ok (.ldc2_w 319, 3) := by decide +kernel
theorem dX6_digest_170 : decode cX6_digest 170 = .ok (.invokevirtual 315, 3) := by decide +kernel
theorem dX6_digest_173 : decode cX6_digest 173 = .ok (.iinc 1 1, 3) := by decide +kernel
theorem dX6_digest_176 : decode cX6_digest 176 = .ok (.goto (-42), 3) := by decide +kernel
theorem dX6_digest_179 : decode cX6_digest 179 = .ok (.iconst 0, 1) := by decide +kernel
theorem dX6_digest_180 : decode cX6_digest 180 = .ok (.istore_n 1, 1) := by decide +kernel
theorem dX6_digest_181 : decode cX6_digest 181 = .ok (.iload_n 1, 1) := by decide +kernel
theorem dX6_digest_182 : decode cX6_digest 182 = .ok (.bipush 6, 2) := by decide +kernel
theorem dX6_digest_184 : decode cX6_digest 184 = .ok (.if_icmp .ge 54, 3) := by decide +kernel
theorem dX6_digest_187 : decode cX6_digest 187 = .ok (.aload_n 0, 1) := by decide +kernel
theorem dX6_digest_188 : decode cX6_digest 188 = .ok (.aload_n 0, 1) := by decide +kernel
theorem dX6_digest_189 : decode cX6_digest 189 = .ok (.getfield 7, 3) := by decide +kernel
theorem dX6_digest_192 : decode cX6_digest 192 = .ok (.iload_n 1, 1) := by decide +kernel
theorem dX6_digest_193 : decode cX6_digest 193 = .ok (.iaload, 1) := by decide +kernel
theorem dX6_digest_194 : decode cX6_digest 194 = .ok (.i2l, 1) := by decide +kernel
theorem dX6_digest_195 : decode cX6_digest 195 = .ok (.invokevirtual 315, 3) := by decide +kernel
theorem dX6_digest_198 : decode cX6_digest 198 = .ok (.iconst 0, 1) := by decide +kernel
theorem dX6_digest_199 : decode cX6_digest 199 = .ok (.istore_n 2, 1) := by decide +kernel
theorem dX6_digest_200 : decode cX6_digest 200 = .ok (.iload_n 2, 1) := by decide +kernel
theorem dX6_digest_201 : decode cX6_digest 201 = .ok (.aload_n 0, 1) := by decide +kernel
theorem dX6_digest_202 : decode cX6_digest 202 = .ok (.getfield 7, 3) := by decide +kernel
theorem dX6_digest_205 : decode cX6_digest 205 = .ok (.iload_n 1, 1) := by decide +kernel
theorem dX6_digest_206 : decode cX6_digest 206 = .ok (.iaload, 1) := by decide +kernel
theorem dX6_digest_207 : decode cX6_digest 207 = .ok (.if_icmp .ge 25, 3) := by decide +kernel
theorem dX6_digest_210 : decode cX6_digest 210 = .ok (.aload_n 0, 1) := by decide +kernel
theorem dX6_digest_211 : decode cX6_digest 211 = .ok (.aload_n 0, 1) := by decide +kernel
theorem dX6_digest_212 : decode cX6_digest 212 = .ok (.getfield 13, 3) := by decide +kernel
theorem dX6_digest_215 : decode cX6_digest 215 = .ok (.bipush 40, 2) := by decide +kernel
theorem dX6_digest_217 : decode cX6_digest 217 = .ok (.iload_n 1, 1) := by decide +kernel
theorem dX6_digest_218 : decode cX6_digest 218 = .ok (.imul, 1) := by decide +kernel
theorem dX6_digest_219 : decode cX6_digest 219 = .ok (.iload_n 2, 1) := by decide +kernel
theorem dX6_digest_220 : decode cX6_digest 220 = .ok (.iadd, 1) := by decide +kernel
theorem dX6_digest_221 : decode cX6_digest 221 = .ok (.iaload, 1) := by decide +kernel
theorem dX6_digest_222 : decode cX6_digest 222 = .ok (.i2l, 1) := by decide +kernel
theorem dX6_digest_223 : decode cX6_digest 223 = .ok (.invokevirtual 315, 3) := by decide +kernel
theorem dX6_digest_226 : decode cX6_digest 226 = .ok (.iinc 2 1, 3) := by decide +kernel
theorem dX6_digest_229 : decode cX6_digest 229 = .ok (.goto (-29), 3) := by decide +kernel
theorem dX6_digest_232 : decode cX6_digest 232 = .ok (.iinc 1 1, 3) := by decide +kernel
theorem dX6_digest_235 : decode cX6_digest 235 = .ok (.goto (-54), 3) := by decide +kernel
theorem dX6_digest_238 : decode cX6_digest 238 = .ok (.iconst 0, 1) := by decide +kernel
theorem dX6_digest_239 : decode cX6_digest 239 = .ok (.istore_n 1, 1) := by decide +kernel
theorem dX6_digest_240 : decode cX6_digest 240 = .ok (.iload_n 1, 1) := by decide +kernel
theorem dX6_digest_241 : decode cX6_digest 241 = .ok (.iconst 4, 1) := by decide +kernel
theorem dX6_digest_242 : decode cX6_digest 242 = .ok (.if_icmp .ge 54, 3) := by decide +kernel
theorem dX6_digest_245 : decode cX6_digest 245 = .ok (.aload_n 0, 1) := by decide +kernel
theorem dX6_digest_246 : decode cX6_digest 246 = .ok (.aload_n 0, 1) := by decide +kernel
theorem dX6_digest_247 : decode cX6_digest 247 = .ok (.getfield 16, 3) := by decide +kernel
theorem dX6_digest_250 : decode cX6_digest 250 = .ok (.iload_n 1, 1) := by decide +kernel
theorem dX6_digest_251 : decode cX6_digest 251 = .ok (.iaload, 1) := by decide +kernel
theorem dX6_digest_252 : decode cX6_digest 252 = .ok (.i2l, 1) := by decide +kernel
theorem dX6_digest_253 : decode cX6_digest 253 = .ok (.invokevirtual 315, 3) := by decide +kernel
theorem dX6_digest_256 : decode cX6_digest 256 = .ok (.iconst 0, 1) := by decide +kernel
theorem dX6_digest_257 : decode cX6_digest 257 = .ok (.istore_n 2, 1) := by decide +kernel
theorem dX6_digest_258 : decode cX6_digest 258 = .ok (.iload_n 2, 1) := by decide +kernel
theorem dX6_digest_259 : decode cX6_digest 259 = .ok (.aload_n 0, 1) := by decide +kernel
theorem dX6_digest_260 : decode cX6_digest 260 = .ok (.getfield 16, 3) := by decide +kernel
theorem dX6_digest_263 : decode cX6_digest 263 = .ok (.iload_n 1, 1) := by decide +kernel
theorem dX6_digest_264 : decode cX6_digest 264 = .ok (.iaload, 1) := by decide +kernel
theorem dX6_digest_265 : decode cX6_digest 265 = .ok (.if_icmp .ge 25, 3) := by decide +kernel
theorem dX6_digest_268 : decode cX6_digest 268 = .ok (.aload_n 0, 1) := by decide +kernel
theorem dX6_digest_269 : decode cX6_digest 269 = .ok (.aload_n 0, 1) := by decide +kernel
theorem dX6_digest_270 : decode cX6_digest 270 = .ok (.getfield 19, 3) := by decide +kernel
theorem dX6_digest_273 : decode cX6_digest 273 = .ok (.bipush 80, 2) := by decide +kernel
theorem dX6_digest_275 : decode cX6_digest 275 = .ok (.iload_n 1, 1) := by decide +kernel
theorem dX6_digest_276 : decode cX6_digest 276 = .ok (.imul, 1) := by decide +kernel
theorem dX6_digest_277 : decode cX6_digest 277 = .ok (.iload_n 2, 1) := by decide +kernel
theorem dX6_digest_278 : decode cX6_digest 278 = .ok (.iadd, 1) := by decide +kernel
theorem dX6_digest_279 : decode cX6_digest 279 = .ok (.iaload, 1) := by decide +kernel
theorem dX6_digest_280 : decode cX6_digest 280 = .ok (.i2l, 1) := by decide +kernel
theorem dX6_digest_281 : decode cX6_digest 281 = .ok (.invokevirtual 315, 3) := by decide +kernel
theorem dX6_digest_284 : decode cX6_digest 284 = .ok (.iinc 2 1, 3) := by decide +kernel
theorem dX6_digest_287 : decode cX6_digest 287 = .ok (.goto (-29), 3) := by decide +kernel
theorem dX6_digest_290 : decode cX6_digest 290 = .ok (.iinc 1 1, 3) := by decide +kernel
theorem dX6_digest_293 : decode cX6_digest 293 = .ok (.goto (-53), 3) := by decide +kernel
theorem dX6_digest_296 : decode cX6_digest 296 = .ok (.aload_n 0, 1) := by decide +kernel
theorem dX6_digest_297 : decode cX6_digest 297 = .ok (.getfield 309, 3) := by decide +kernel
theorem dX6_digest_300 : decode cX6_digest 300 = .ok (.lreturn, 1) := by decide +kernel
theorem dJ6_bitCount_0f7a4_0 : decode cJ6_bitCount_0f7a4 0 = .ok (.iload_n 0, 1) := by decide +kernel
theorem dJ6_bitCount_0f7a4_1 : decode cJ6_bitCount_0f7a4 1 = .ok (.iload_n 0, 1) := by decide +kernel
theorem dJ6_bitCount_0f7a4_2 : decode cJ6_bitCount_0f7a4 2 = .ok (.iconst 1, 1) := by decide +kernel
theorem dJ6_bitCount_0f7a4_3 : decode cJ6_bitCount_0f7a4 3 = .ok (.iushr, 1) := by decide +kernel
theorem dJ6_bitCount_0f7a4_4 : decode cJ6_bitCount_0f7a4 4 = .ok (.ldc_w 265, 3) := by decide +kernel
theorem dJ6_bitCount_0f7a4_7 : decode cJ6_bitCount_0f7a4 7 = .ok (.iand, 1) := by decide +kernel
theorem dJ6_bitCount_0f7a4_8 : decode cJ6_bitCount_0f7a4 8 = .ok (.isub, 1) := by decide +kernel
theorem dJ6_bitCount_0f7a4_9 : decode cJ6_bitCount_0f7a4 9 = .ok (.istore_n 0, 1) := by decide +kernel
theorem dJ6_bitCount_0f7a4_10 : decode cJ6_bitCount_0f7a4 10 = .ok (.iload_n 0, 1) := by decide +kernel
theorem dJ6_bitCount_0f7a4_11 : decode cJ6_bitCount_0f7a4 11 = .ok (.ldc_w 266, 3) := by decide +kernel
theorem dJ6_bitCount_0f7a4_14 : decode cJ6_bitCount_0f7a4 14 = .ok (.iand, 1) := by decide +kernel
theorem dJ6_bitCount_0f7a4_15 : decode cJ6_bitCount_0f7a4 15 = .ok (.iload_n 0, 1) := by decide +kernel
theorem dJ6_bitCount_0f7a4_16 : decode cJ6_bitCount_0f7a4 16 = .ok (.iconst 2, 1) := by decide +kernel
theorem dJ6_bitCount_0f7a4_17 : decode cJ6_bitCount_0f7a4 17 = .ok (.iushr, 1) := by decide +kernel
theorem dJ6_bitCount_0f7a4_18 : decode cJ6_bitCount_0f7a4 18 = .ok (.ldc_w 266, 3) := by decide +kernel
theorem dJ6_bitCount_0f7a4_21 : decode cJ6_bitCount_0f7a4 21 = .ok (.iand, 1) := by decide +kernel
theorem dJ6_bitCount_0f7a4_22 : decode cJ6_bitCount_0f7a4 22 = .ok (.iadd, 1) := by decide +kernel
theorem dJ6_bitCount_0f7a4_23 : decode cJ6_bitCount_0f7a4 23 = .ok (.istore_n 0, 1) := by decide +kernel
theorem dJ6_bitCount_0f7a4_24 : decode cJ6_bitCount_0f7a4 24 = .ok (.iload_n 0, 1) := by decide +kernel
theorem dJ6_bitCount_0f7a4_25 : decode cJ6_bitCount_0f7a4 25 = .ok (.iload_n 0, 1) := by decide +kernel
theorem dJ6_bitCount_0f7a4_26 : decode cJ6_bitCount_0f7a4 26 = .ok (.iconst 4, 1) := by decide +kernel
theorem dJ6_bitCount_0f7a4_27 : decode cJ6_bitCount_0f7a4 27 = .ok (.iushr, 1) := by decide +kernel
theorem dJ6_bitCount_0f7a4_28 : decode cJ6_bitCount_0f7a4 28 = .ok (.iadd, 1) := by decide +kernel
theorem dJ6_bitCount_0f7a4_29 : decode cJ6_bitCount_0f7a4 29 = .ok (.ldc_w 267, 3) := by decide +kernel
theorem dJ6_bitCount_0f7a4_32 : decode cJ6_bitCount_0f7a4 32 = .ok (.iand, 1) := by decide +kernel
theorem dJ6_bitCount_0f7a4_33 : decode cJ6_bitCount_0f7a4 33 = .ok (.istore_n 0, 1) := by decide +kernel
theorem dJ6_bitCount_0f7a4_34 : decode cJ6_bitCount_0f7a4 34 = .ok (.iload_n 0, 1) := by decide +kernel
theorem dJ6_bitCount_0f7a4_35 : decode cJ6_bitCount_0f7a4 35 = .ok (.iload_n 0, 1) := by decide +kernel
theorem dJ6_bitCount_0f7a4_36 : decode cJ6_bitCount_0f7a4 36 = .ok (.bipush 8, 2) := by decide +kernel
theorem dJ6_bitCount_0f7a4_38 : decode cJ6_bitCount_0f7a4 38 = .ok (.iushr, 1) := by decide +kernel
theorem dJ6_bitCount_0f7a4_39 : decode cJ6_bitCount_0f7a4 39 = .ok (.iadd, 1) := by decide +kernel
theorem dJ6_bitCount_0f7a4_40 : decode cJ6_bitCount_0f7a4 40 = .ok (.istore_n 0, 1) := by decide +kernel
theorem dJ6_bitCount_0f7a4_41 : decode cJ6_bitCount_0f7a4 41 = .ok (.iload_n 0, 1) := by decide +kernel
theorem dJ6_bitCount_0f7a4_42 : decode cJ6_bitCount_0f7a4 42 = .ok (.iload_n 0, 1) := by decide +kernel
theorem dJ6_bitCount_0f7a4_43 : decode cJ6_bitCount_0f7a4 43 = .ok (.bipush 16, 2) := by decide +kernel
theorem dJ6_bitCount_0f7a4_45 : decode cJ6_bitCount_0f7a4 45 = .ok (.iushr, 1) := by decide +kernel
theorem dJ6_bitCount_0f7a4_46 : decode cJ6_bitCount_0f7a4 46 = .ok (.iadd, 1) := by decide +kernel
theorem dJ6_bitCount_0f7a4_47 : decode cJ6_bitCount_0f7a4 47 = .ok (.istore_n 0, 1) := by decide +kernel
theorem dJ6_bitCount_0f7a4_48 : decode cJ6_bitCount_0f7a4 48 = .ok (.iload_n 0, 1) := by decide +kernel
theorem dJ6_bitCount_0f7a4_49 : decode cJ6_bitCount_0f7a4 49 = .ok (.bipush 63, 2) := by decide +kernel
theorem dJ6_bitCount_0f7a4_51 : decode cJ6_bitCount_0f7a4 51 = .ok (.iand, 1) := by decide +kernel
theorem dJ6_bitCount_0f7a4_52 : decode cJ6_bitCount_0f7a4 52 = .ok (.ireturn, 1) := by decide +kernel
theorem dJ9_max_7cf53_0 : decode cJ9_max_7cf53 0 = .ok (.iload_n 0, 1) := by decide +kernel
theorem dJ9_max_7cf53_1 : decode cJ9_max_7cf53 1 = .ok (.iload_n 1, 1) := by decide +kernel
theorem dJ9_max_7cf53_2 : decode cJ9_max_7cf53 2 = .ok (.if_icmp .lt 7, 3) := by decide +kernel
theorem dJ9_max_7cf53_5 : decode cJ9_max_7cf53 5 = .ok (.iload_n 0, 1) := by decide +kernel
theorem dJ9_max_7cf53_6 : decode cJ9_max_7cf53 6 = .ok (.goto 4, 3) := by decide +kernel
theorem dJ9_max_7cf53_9 : decode cJ9_max_7cf53 9 = .ok (.iload_n 1, 1) := by decide +kernel
theorem dJ9_max_7cf53_10 : decode cJ9_max_7cf53 10 = .ok (.ireturn, 1) := by decide +kernel
theorem dJ9_min_7cf53_0 : decode cJ9_min_7cf53 0 = .ok (.iload_n 0, 1) := by decide +kernel
theorem dJ9_min_7cf53_1 : decode cJ9_min_7cf53 1 = .ok (.iload_n 1, 1) := by decide +kernel
theorem dJ9_min_7cf53_2 : decode cJ9_min_7cf53 2 = .ok (.if_icmp .gt 7, 3) := by decide +kernel
theorem dJ9_min_7cf53_5 : decode cJ9_min_7cf53 5 = .ok (.iload_n 0, 1) := by decide +kernel
theorem dJ9_min_7cf53_6 : decode cJ9_min_7cf53 6 = .ok (.goto 4, 3) := by decide +kernel
theorem dJ9_min_7cf53_9 : decode cJ9_min_7cf53 9 = .ok (.iload_n 1, 1) := by decide +kernel
theorem dJ9_min_7cf53_10 : decode cJ9_min_7cf53 10 = .ok (.ireturn, 1) := by decide +kernel
theorem dJ7_fill_d0a16_0 : decode cJ7_fill_d0a16 0 = .ok (.iconst 0, 1) := by decide +kernel
theorem dJ7_fill_d0a16_1 : decode cJ7_fill_d0a16 1 = .ok (.istore_n 3, 1) := by decide +kernel
theorem dJ7_fill_d0a16_2 : decode cJ7_fill_d0a16 2 = .ok (.aload_n 0, 1) := by decide +kernel
theorem dJ7_fill_d0a16_3 : decode cJ7_fill_d0a16 3 = .ok (.arraylength, 1) := by decide +kernel
theorem dJ7_fill_d0a16_4 : decode cJ7_fill_d0a16 4 = .ok (.istore 4, 2) := by decide +kernel
theorem dJ7_fill_d0a16_6 : decode cJ7_fill_d0a16 6 = .ok (.iload_n 3, 1) := by decide +kernel
theorem dJ7_fill_d0a16_7 : decode cJ7_fill_d0a16 7 = .ok (.iload 4, 2) := by decide +kernel
theorem dJ7_fill_d0a16_9 : decode cJ7_fill_d0a16 9 = .ok (.if_icmp .ge 13, 3) := by decide +kernel
theorem dJ7_fill_d0a16_12 : decode cJ7_fill_d0a16 12 = .ok (.aload_n 0, 1) := by decide +kernel
theorem dJ7_fill_d0a16_13 : decode cJ7_fill_d0a16 13 = .ok (.iload_n 3, 1) := by decide +kernel
theorem dJ7_fill_d0a16_14 : decode cJ7_fill_d0a16 14 = .ok (.lload_n 1, 1) := by decide +kernel
theorem dJ7_fill_d0a16_15 : decode cJ7_fill_d0a16 15 = .ok (.lastore, 1) := by decide +kernel
theorem dJ7_fill_d0a16_16 : decode cJ7_fill_d0a16 16 = .ok (.iinc 3 1, 3) := by decide +kernel
theorem dJ7_fill_d0a16_19 : decode cJ7_fill_d0a16 19 = .ok (.goto (-13), 3) := by decide +kernel
theorem dJ7_fill_d0a16_22 : decode cJ7_fill_d0a16 22 = .ok (.return_, 1) := by decide +kernel
theorem dJ7_fill_53178_0 : decode cJ7_fill_53178 0 = .ok (.iconst 0, 1) := by decide +kernel
theorem dJ7_fill_53178_1 : decode cJ7_fill_53178 1 = .ok (.istore_n 2, 1) := by decide +kernel
theorem dJ7_fill_53178_2 : decode cJ7_fill_53178 2 = .ok (.aload_n 0, 1) := by decide +kernel
theorem dJ7_fill_53178_3 : decode cJ7_fill_53178 3 = .ok (.arraylength, 1) := by decide +kernel
theorem dJ7_fill_53178_4 : decode cJ7_fill_53178 4 = .ok (.istore_n 3, 1) := by decide +kernel
theorem dJ7_fill_53178_5 : decode cJ7_fill_53178 5 = .ok (.iload_n 2, 1) := by decide +kernel
theorem dJ7_fill_53178_6 : decode cJ7_fill_53178 6 = .ok (.iload_n 3, 1) := by decide +kernel
theorem dJ7_fill_53178_7 : decode cJ7_fill_53178 7 = .ok (.if_icmp .ge 13, 3) := by decide +kernel
theorem dJ7_fill_53178_10 : decode cJ7_fill_53178 10 = .ok (.aload_n 0, 1) := by decide +kernel
theorem dJ7_fill_53178_11 : decode cJ7_fill_53178 11 = .ok (.iload_n 2, 1) := by decide +kernel
theorem dJ7_fill_53178_12 : decode cJ7_fill_53178 12 = .ok (.iload_n 1, 1) := by decide +kernel
theorem dJ7_fill_53178_13 : decode cJ7_fill_53178 13 = .ok (.iastore, 1) := by decide +kernel
theorem dJ7_fill_53178_14 : decode cJ7_fill_53178 14 = .ok (.iinc 2 1, 3) := by decide +kernel
theorem dJ7_fill_53178_17 : decode cJ7_fill_53178 17 = .ok (.goto (-12), 3) := by decide +kernel
theorem dJ7_fill_53178_20 : decode cJ7_fill_53178 20 = .ok (.return_, 1) := by decide +kernel
theorem dL_law_0 : decode cL_law 0 = .ok (.new 7, 3) := by decide +kernel
theorem dL_law_3 : decode cL_law 3 = .ok (.dup, 1) := by decide +kernel
theorem dL_law_4 : decode cL_law 4 = .ok (.invokespecial 9, 3) := by decide +kernel
theorem dL_law_7 : decode cL_law 7 = .ok (.astore_n 1, 1) := by decide +kernel
theorem dL_law_8 : decode cL_law 8 = .ok (.new 10, 3) := by decide +kernel
theorem dL_law_11 : decode cL_law 11 = .ok (.dup, 1) := by decide +kernel
theorem dL_law_12 : decode cL_law 12 = .ok (.invokespecial 12, 3) := by decide +kernel
theorem dL_law_15 : decode cL_law 15 = .ok (.astore_n 2, 1) := by decide +kernel
theorem dL_law_16 : decode cL_law 16 = .ok (.iconst 0, 1) := by decide +kernel
theorem dL_law_17 : decode cL_law 17 = .ok (.istore_n 3, 1) := by decide +kernel
theorem dL_law_18 : decode cL_law 18 = .ok (.iload_n 3, 1) := by decide +kernel
theorem dL_law_19 : decode cL_law 19 = .ok (.aload_n 0, 1) := by decide +kernel
theorem dL_law_20 : decode cL_law 20 = .ok (.arraylength, 1) := by decide +kernel
theorem dL_law_21 : decode cL_law 21 = .ok (.bipush 6, 2) := by decide +kernel
theorem dL_law_23 : decode cL_law 23 = .ok (.isub, 1) := by decide +kernel
theorem dL_law_24 : decode cL_law 24 = .ok (.if_icmp .gt 1294, 3) := by decide +kernel
theorem dL_law_27 : decode cL_law 27 = .ok (.aload_n 0, 1) := by decide +kernel
theorem dL_law_28 : decode cL_law 28 = .ok (.iload_n 3, 1) := by decide +kernel
theorem dL_law_29 : decode cL_law 29 = .ok (.iaload, 1) := by decide +kernel
theorem dL_law_30 : decode cL_law 30 = .ok (.bipush 63, 2) := by decide +kernel
theorem dL_law_32 : decode cL_law 32 = .ok (.iand, 1) := by decide +kernel
theorem dL_law_33 : decode cL_law 33 = .ok (.tableswitch 1279 0 42 #[187, 220, 263, 296, 319, 382, 405, 438, 481, 504, 527, 560, 593, 626, 659, 672, 705, 728, 751, 764, 787, 810, 833, 866, 889, 902, 925, 938, 961, 994, 1007, 1030, 1053, 1076, 1109, 1132, 1165, 1178, 1192, 1206, 1229, 1242, 1265], 187) := by decide +kernel
theorem dL_law_220 : decode cL_law 220 = .ok (.aload_n 1, 1) := by decide +kernel
theorem dL_law_221 : decode cL_law 221 = .ok (.aload_n 0, 1) := by decide +kernel
theorem dL_law_222 : decode cL_law 222 = .ok (.iload_n 3, 1) := by decide +kernel
theorem dL_law_223 : decode cL_law 223 = .ok (.iconst 1, 1) := by decide +kernel
theorem dL_law_224 : decode cL_law 224 = .ok (.iadd, 1) := by decide +kernel
theorem dL_law_225 : decode cL_law 225 = .ok (.iaload, 1) := by decide +kernel
theorem dL_law_226 : decode cL_law 226 = .ok (.aload_n 0, 1) := by decide +kernel
theorem dL_law_227 : decode cL_law 227 = .ok (.iload_n 3, 1) := by decide +kernel
theorem dL_law_228 : decode cL_law 228 = .ok (.iconst 2, 1) := by decide +kernel
theorem dL_law_229 : decode cL_law 229 = .ok (.iadd, 1) := by decide +kernel
theorem dL_law_230 : decode cL_law 230 = .ok (.iaload, 1) := by decide +kernel
theorem dL_law_231 : decode cL_law 231 = .ok (.invokevirtual 13, 3) := by decide +kernel
theorem dL_law_234 : decode cL_law 234 = .ok (.aload_n 2, 1) := by decide +kernel
theorem dL_law_235 : decode cL_law 235 = .ok (.aload_n 0, 1) := by decide +kernel
theorem dL_law_236 : decode cL_law 236 = .ok (.iload_n 3, 1) := by decide +kernel
theorem dL_law_237 : decode cL_law 237 = .ok (.iconst 1, 1) := by decide +kernel
theorem dL_law_238 : decode cL_law 238 = .ok (.iadd, 1) := by decide +kernel
theorem dL_law_239 : decode cL_law 239 = .ok (.iaload, 1) := by decide +kernel
theorem dL_law_240 : decode cL_law 240 = .ok (.aload_n 0, 1) := by decide +kernel
theorem dL_law_241 : decode cL_law 241 = .ok (.iload_n 3, 1) := by decide +kernel
theorem dL_law_242 : decode cL_law 242 = .ok (.iconst 2, 1) := by decide +kernel
theorem dL_law_243 : decode cL_law 243 = .ok (.iadd, 1) := by decide +kernel
theorem dL_law_244 : decode cL_law 244 = .ok (.iaload, 1) := by decide +kernel
theorem dL_law_245 : decode cL_law 245 = .ok (.invokevirtual 17, 3) := by decide +kernel
theorem dL_law_248 : decode cL_law 248 = .ok (.if_icmp .eq 1064, 3) := by decide +kernel
theorem dL_law_251 : decode cL_law 251 = .ok (.iconst 0, 1) := by decide +kernel
theorem dL_law_252 : decode cL_law 252 = .ok (.ireturn, 1) := by decide +kernel
theorem dL_law_253 : decode cL_law 253 = .ok (.aload_n 1, 1) := by decide +kernel
theorem dL_law_254 : decode cL_law 254 = .ok (.aload_n 0, 1) := by decide +kernel
theorem dL_law_255 : decode cL_law 255 = .ok (.iload_n 3, 1) := by decide +kernel
theorem dL_law_256 : decode cL_law 256 = .ok (.iconst 1, 1) := by decide +kernel
theorem dL_law_257 : decode cL_law 257 = .ok (.iadd, 1) := by decide +kernel
theorem dL_law_258 : decode cL_law 258 = .ok (.iaload, 1) := by decide +kernel
theorem dL_law_259 : decode cL_law 259 = .ok (.aload_n 0, 1) := by decide +kernel
theorem dL_law_260 : decode cL_law 260 = .ok (.iload_n 3, 1) := by decide +kernel
theorem dL_law_261 : decode cL_law 261 = .ok (.iconst 2, 1) := by decide +kernel
theorem dL_law_262 : decode cL_law 262 = .ok (.iadd, 1) := by decide +kernel
theorem dL_law_263 : decode cL_law 263 = .ok (.iaload, 1) := by decide +kernel
theorem dL_law_264 : decode cL_law 264 = .ok (.aload_n 0, 1) := by decide +kernel
theorem dL_law_265 : decode cL_law 265 = .ok (.iload_n 3, 1) := by decide +kernel
theorem dL_law_266 : decode cL_law 266 = .ok (.iconst 3, 1) := by decide +kernel
theorem dL_law_267 : decode cL_law 267 = .ok (.iadd, 1) := by decide +kernel
theorem dL_law_268 : decode cL_law 268 = .ok (.iaload, 1) := by decide +kernel
theorem dL_law_269 : decode cL_law 269 = .ok (.invokevirtual 18, 3) := by decide +kernel
theorem dL_law_272 : decode cL_law 272 = .ok (.aload_n 2, 1) := by decide +kernel
theorem dL_law_273 : decode cL_law 273 = .ok (.aload_n 0, 1) := by decide +kernel
theorem dL_law_274 : decode cL_law 274 = .ok (.iload_n 3, 1) := by decide +kernel
theorem dL_law_275 : decode cL_law 275 = .ok (.iconst 1, 1) := by decide +kernel
theorem dL_law_276 : decode cL_law 276 = .ok (.iadd, 1) := by decide +kernel
theorem dL_law_277 : decode cL_law 277 = .ok (.iaload, 1) := by decide +kernel
theorem dL_law_278 : decode cL_law 278 = .ok (.aload_n 0, 1) := by decide +kernel
theorem dL_law_279 : decode cL_law 279 = .ok (.iload_n 3, 1) := by decide +kernel
theorem dL_law_280 : decode cL_law 280 = .ok (.iconst 2, 1) := by decide +kernel
theorem dL_law_281 : decode cL_law 281 = .ok (.iadd, 1) := by decide +kernel
theorem dL_law_282 : decode cL_law 282 = .ok (.iaload, 1) := by decide +kernel
theorem dL_law_283 : decode cL_law 283 = .ok (.aload_n 0, 1) := by decide +kernel
theorem dL_law_284 : decode cL_law 284 = .ok (.iload_n 3, 1) := by decide +kernel
theorem dL_law_285 : decode cL_law 285 = .ok (.iconst 3, 1) := by decide +kernel
theorem dL_law_286 : decode cL_law 286 = .ok (.iadd, 1) := by decide +kernel
theorem dL_law_287 : decode cL_law 287 = .ok (.iaload, 1) := by decide +kernel
theorem dL_law_288 : decode cL_law 288 = .ok (.invokevirtual 22, 3) := by decide +kernel
theorem dL_law_291 : decode cL_law 291 = .ok (.if_icmp .eq 1021, 3) := by decide +kernel
theorem dL_law_294 : decode cL_law 294 = .ok (.iconst 0, 1) := by decide +kernel
theorem dL_law_295 : decode cL_law 295 = .ok (.ireturn, 1) := by decide +kernel
theorem dL_law_296 : decode cL_law 296 = .ok (.aload_n 1, 1) := by decide +kernel
theorem dL_law_297 : decode cL_law 297 = .ok (.aload_n 0, 1) := by decide +kernel
theorem dL_law_298 : decode cL_law 298 = .ok (.iload_n 3, 1) := by decide +kernel
theorem dL_law_299 : decode cL_law 299 = .ok (.iconst 1, 1) := by decide +kernel
theorem dL_law_300 : decode cL_law 300 = .ok (.iadd, 1) := by decide +kernel
theorem dL_law_301 : decode cL_law 301 = .ok (.iaload, 1) := by decide +kernel
theorem dL_law_302 : decode cL_law 302 = .ok (.aload_n 0, 1) := by decide +kernel
theorem dL_law_303 : decode cL_law 303 = .ok (.iload_n 3, 1) := by decide +kernel
theorem dL_law_304 : decode cL_law 304 = .ok (.iconst 2, 1) := by decide +kernel
theorem dL_law_305 : decode cL_law 305 = .ok (.iadd, 1) := by decide +kernel
theorem dL_law_306 : decode cL_law 306 = .ok (.iaload, 1) := by decide +kernel
theorem dL_law_307 : decode cL_law 307 = .ok (.invokevirtual 23, 3) := by decide +kernel
theorem dL_law_310 : decode cL_law 310 = .ok (.aload_n 2, 1) := by decide +kernel
theorem dL_law_311 : decode cL_law 311 = .ok (.aload_n 0, 1) := by decide +kernel
theorem dL_law_312 : decode cL_law 312 = .ok (.iload_n 3, 1) := by decide +kernel
theorem dL_law_313 : decode cL_law 313 = .ok (.iconst 1, 1) := by decide +kernel
theorem dL_law_314 : decode cL_law 314 = .ok (.iadd, 1) := by decide +kernel
theorem dL_law_315 : decode cL_law 315 = .ok (.iaload, 1) := by decide +kernel
theorem dL_law_316 : decode cL_law 316 = .ok (.aload_n 0, 1) := by decide +kernel
theorem dL_law_317 : decode cL_law 317 = .ok (.iload_n 3, 1) := by decide +kernel
theorem dL_law_318 : decode cL_law 318 = .ok (.iconst 2, 1) := by decide +kernel
theorem dL_law_319 : decode cL_law 319 = .ok (.iadd, 1) := by decide +kernel
theorem dL_law_320 : decode cL_law 320 = .ok (.iaload, 1) := by decide +kernel
theorem dL_law_321 : decode cL_law 321 = .ok (.invokevirtual 26, 3) := by decide +kernel
theorem dL_law_324 : decode cL_law 324 = .ok (.if_icmp .eq 988, 3) := by decide +kernel
theorem dL_law_327 : decode cL_law 327 = .ok (.iconst 0, 1) := by decide +kernel
theorem dL_law_328 : decode cL_law 328 = .ok (.ireturn, 1) := by decide +kernel
theorem dL_law_329 : decode cL_law 329 = .ok (.aload_n 1, 1) := by decide +kernel
theorem dL_law_330 : decode cL_law 330 = .ok (.aload_n 0, 1) := by decide +kernel
theorem dL_law_331 : decode cL_law 331 = .ok (.iload_n 3, 1) := by decide +kernel
theorem dL_law_332 : decode cL_law 332 = .ok (.iconst 1, 1) := by decide +kernel
theorem dL_law_333 : decode cL_law 333 = .ok (.iadd, 1) := by decide +kernel
theorem dL_law_334 : decode cL_law 334 = .ok (.iaload, 1) := by decide +kernel
theorem dL_law_335 : decode cL_law 335 = .ok (.invokevirtual 27, 3) := by decide +kernel
theorem dL_law_338 : decode cL_law 338 = .ok (.aload_n 2, 1) := by decide +kernel
theorem dL_law_339 : decode cL_law 339 = .ok (.aload_n 0, 1) := by decide +kernel
theorem dL_law_340 : decode cL_law 340 = .ok (.iload_n 3, 1) := by decide +kernel
theorem dL_law_341 : decode cL_law 341 = .ok (.iconst 1, 1) := by decide +kernel
theorem dL_law_342 : decode cL_law 342 = .ok (.iadd, 1) := by decide +kernel
theorem dL_law_343 : decode cL_law 343 = .ok (.iaload, 1) := by decide +kernel
theorem dL_law_344 : decode cL_law 344 = .ok (.invokevirtual 31, 3) := by decide +kernel
theorem dL_law_347 : decode cL_law 347 = .ok (.if_icmp .eq 965, 3) := by decide +kernel
theorem dL_law_350 : decode cL_law 350 = .ok (.iconst 0, 1) := by decide +kernel
theorem dL_law_351 : decode cL_law 351 = .ok (.ireturn, 1) := by decide +kernel
theorem dL_law_352 : decode cL_law 352 = .ok (.aload_n 1, 1) := by decide +kernel
theorem dL_law_353 : decode cL_law 353 = .ok (.aload_n 0, 1) := by decide +kernel
theorem dL_law_354 : decode cL_law 354 = .ok (.iload_n 3, 1) := by decide +kernel
theorem dL_law_355 : decode cL_law 355 = .ok (.iconst 1, 1) := by decide +kernel
theorem dL_law_356 : decode cL_law 356 = .ok (.iadd, 1) := by decide +kernel
theorem dL_law_357 : decode cL_law 357 = .ok (.iaload, 1) := by decide +kernel
theorem dL_law_358 : decode cL_law 358 = .ok (.aload_n 0, 1) := by decide +kernel
theorem dL_law_359 : decode cL_law 359 = .ok (.iload_n 3, 1) := by decide +kernel
theorem dL_law_360 : decode cL_law 360 = .ok (.iconst 2, 1) := by decide +kernel
theorem dL_law_361 : decode cL_law 361 = .ok (.iadd, 1) := by decide +kernel
theorem dL_law_362 : decode cL_law 362 = .ok (.iaload, 1) := by decide +kernel
theorem dL_law_363 : decode cL_law 363 = .ok (.aload_n 0, 1) := by decide +kernel
theorem dL_law_364 : decode cL_law 364 = .ok (.iload_n 3, 1) := by decide +kernel
theorem dL_law_365 : decode cL_law 365 = .ok (.iconst 3, 1) := by decide +kernel
theorem dL_law_366 : decode cL_law 366 = .ok (.iadd, 1) := by decide +kernel
theorem dL_law_367 : decode cL_law 367 = .ok (.iaload, 1) := by decide +kernel
theorem dL_law_368 : decode cL_law 368 = .ok (.aload_n 0, 1) := by decide +kernel
theorem dL_law_369 : decode cL_law 369 = .ok (.iload_n 3, 1) := by decide +kernel
theorem dL_law_370 : decode cL_law 370 = .ok (.iconst 4, 1) := by decide +kernel
theorem dL_law_371 : decode cL_law 371 = .ok (.iadd, 1) := by decide +kernel
theorem dL_law_372 : decode cL_law 372 = .ok (.iaload, 1) := by decide +kernel
theorem dL_law_373 : decode cL_law 373 = .ok (.aload_n 0, 1) := by decide +kernel
theorem dL_law_374 : decode cL_law 374 = .ok (.iload_n 3, 1) := by decide +kernel
theorem dL_law_375 : decode cL_law 375 = .ok (.iconst 5, 1) := by decide +kernel
theorem dL_law_376 : decode cL_law 376 = .ok (.iadd, 1) := by decide +kernel
theorem dL_law_377 : decode cL_law 377 = .ok (.iaload, 1) := by decide +kernel
theorem dL_law_378 : decode cL_law 378 = .ok (.invokevirtual 32, 3) := by decide +kernel
theorem dL_law_381 : decode cL_law 381 = .ok (.aload_n 2, 1) := by decide +kernel
theorem dL_law_382 : decode cL_law 382 = .ok (.aload_n 0, 1) := by decide +kernel
theorem dL_law_383 : decode cL_law 383 = .ok (.iload_n 3, 1) := by decide +kernel
theorem dL_law_384 : decode cL_law 384 = .ok (.iconst 1, 1) := by decide +kernel
theorem dL_law_385 : decode cL_law 385 = .ok (.iadd, 1) := by decide +kernel
theorem dL_law_386 : decode cL_law 386 = .ok (.iaload, 1) := by decide +kernel
theorem dL_law_387 : decode cL_law 387 = .ok (.aload_n 0, 1) := by decide +kernel
theorem dL_law_388 : decode cL_law 388 = .ok (.iload_n 3, 1) := by decide +kernel
theorem dL_law_389 : decode cL_law 389 = .ok (.iconst 2, 1) := by decide +kernel
theorem dL_law_390 : decode cL_law 390 = .ok (.iadd, 1) := by decide +kernel
theorem dL_law_391 : decode cL_law 391 = .ok (.iaload, 1) := by decide +kernel
theorem dL_law_392 : decode cL_law 392 = .ok (.aload_n 0, 1) := by decide +kernel
theorem dL_law_393 : decode cL_law 393 = .ok (.iload_n 3, 1) := by decide +kernel
theorem dL_law_394 : decode cL_law 394 = .ok (.iconst 3, 1) := by decide +kernel
theorem dL_law_395 : decode cL_law 395 = .ok (.iadd, 1) := by decide +kernel
theorem dL_law_396 : decode cL_law 396 = .ok (.iaload, 1) := by decide +kernel
theorem dL_law_397 : decode cL_law 397 = .ok (.aload_n 0, 1) := by decide +kernel
theorem dL_law_398 : decode cL_law 398 = .ok (.iload_n 3, 1) := by decide +kernel
theorem dL_law_399 : decode cL_law 399 = .ok (.iconst 4, 1) := by decide +kernel
theorem dL_law_400 : decode cL_law 400 = .ok (.iadd, 1) := by decide +kernel
theorem dL_law_401 : decode cL_law 401 = .ok (.iaload, 1) := by decide +kernel
theorem dL_law_402 : decode cL_law 402 = .ok (.aload_n 0, 1) := by decide +kernel
theorem dL_law_403 : decode cL_law 403 = .ok (.iload_n 3, 1) := by decide +kernel
theorem dL_law_404 : decode cL_law 404 = .ok (.iconst 5, 1) := by decide +kernel
theorem dL_law_405 : decode cL_law 405 = .ok (.iadd, 1) := by decide +kernel
theorem dL_law_406 : decode cL_law 406 = .ok (.iaload, 1) := by decide +kernel
theorem dL_law_407 : decode cL_law 407 = .ok (.invokevirtual 36, 3) := by decide +kernel
theorem dL_law_410 : decode cL_law 410 = .ok (.if_icmp .eq 902, 3) := by decide +kernel
theorem dL_law_413 : decode cL_law 413 = .ok (.iconst 0, 1) := by decide +kernel
theorem dL_law_414 : decode cL_law 414 = .ok (.ireturn, 1) := by decide +kernel
theorem dL_law_415 : decode cL_law 415 = .ok (.aload_n 1, 1) := by decide +kernel
theorem dL_law_416 : decode cL_law 416 = .ok (.aload_n 0, 1) := by decide +kernel
theorem dL_law_417 : decode cL_law 417 = .ok (.iload_n 3, 1) := by decide +kernel
theorem dL_law_418 : decode cL_law 418 = .ok (.iconst 1, 1) := by decide +kernel
theorem dL_law_419 : decode cL_law 419 = .ok (.iadd, 1) := by decide +kernel
theorem dL_law_420 : decode cL_law 420 = .ok (.iaload, 1) := by decide +kernel
theorem dL_law_421 : decode cL_law 421 = .ok (.invokevirtual 37, 3) := by decide +kernel
theorem dL_law_424 : decode cL_law 424 = .ok (.aload_n 2, 1) := by decide +kernel
theorem dL_law_425 : decode cL_law 425 = .ok (.aload_n 0, 1) := by decide +kernel
theorem dL_law_426 : decode cL_law 426 = .ok (.iload_n 3, 1) := by decide +kernel
theorem dL_law_427 : decode cL_law 427 = .ok (.iconst 1, 1) := by decide +kernel
theorem dL_law_428 : decode cL_law 428 = .ok (.iadd, 1) := by decide +kernel
theorem dL_law_429 : decode cL_law 429 = .ok (.iaload, 1) := by decide +kernel
theorem dL_law_430 : decode cL_law 430 = .ok (.invokevirtual 40, 3) := by decide +kernel
theorem dL_law_433 : decode cL_law 433 = .ok (.if_icmp .eq 879, 3) := by decide +kernel
theorem dL_law_436 : decode cL_law 436 = .ok (.iconst 0, 1) := by decide +kernel
theorem dL_law_437 : decode cL_law 437 = .ok (.ireturn, 1) := by decide +kernel
theorem dL_law_438 : decode cL_law 438 = .ok (.aload_n 1, 1) := by decide +kernel
theorem dL_law_439 : decode cL_law 439 = .ok (.aload_n 0, 1) := by decide +kernel
theorem dL_law_440 : decode cL_law 440 = .ok (.iload_n 3, 1) := by decide +kernel
theorem dL_law_441 : decode cL_law 441 = .ok (.iconst 1, 1) := by decide +kernel
theorem dL_law_442 : decode cL_law 442 = .ok (.iadd, 1) := by decide +kernel
theorem dL_law_443 : decode cL_law 443 = .ok (.iaload, 1) := by decide +kernel
theorem dL_law_444 : decode cL_law 444 = .ok (.aload_n 0, 1) := by decide +kernel
theorem dL_law_445 : decode cL_law 445 = .ok (.iload_n 3, 1) := by decide +kernel
theorem dL_law_446 : decode cL_law 446 = .ok (.iconst 2, 1) := by decide +kernel
theorem dL_law_447 : decode cL_law 447 = .ok (.iadd, 1) := by decide +kernel
theorem dL_law_448 : decode cL_law 448 = .ok (.iaload, 1) := by decide +kernel
theorem dL_law_449 : decode cL_law 449 = .ok (.invokevirtual 41, 3) := by decide +kernel
theorem dL_law_452 : decode cL_law 452 = .ok (.aload_n 2, 1) := by decide +kernel
theorem dL_law_453 : decode cL_law 453 = .ok (.aload_n 0, 1) := by decide +kernel
theorem dL_law_454 : decode cL_law 454 = .ok (.iload_n 3, 1) := by decide +kernel
theorem dL_law_455 : decode cL_law 455 = .ok (.iconst 1, 1) := by decide +kernel
theorem dL_law_456 : decode cL_law 456 = .ok (.iadd, 1) := by decide +kernel
theorem dL_law_457 : decode cL_law 457 = .ok (.iaload, 1) := by decide +kernel
theorem dL_law_458 : decode cL_law 458 = .ok (.aload_n 0, 1) := by decide +kernel
theorem dL_law_459 : decode cL_law 459 = .ok (.iload_n 3, 1) := by decide +kernel
theorem dL_law_460 : decode cL_law 460 = .ok (.iconst 2, 1) := by decide +kernel
theorem dL_law_461 : decode cL_law 461 = .ok (.iadd, 1) := by decide +kernel
theorem dL_law_462 : decode cL_law 462 = .ok (.iaload, 1) := by decide +kernel
theorem dL_law_463 : decode cL_law 463 = .ok (.invokevirtual 44, 3) := by decide +kernel
theorem dL_law_466 : decode cL_law 466 = .ok (.if_icmp .eq 846, 3) := by decide +kernel
theorem dL_law_469 : decode cL_law 469 = .ok (.iconst 0, 1) := by decide +kernel
theorem dL_law_470 : decode cL_law 470 = .ok (.ireturn, 1) := by decide +kernel
theorem dL_law_471 : decode cL_law 471 = .ok (.aload_n 1, 1) := by decide +kernel
theorem dL_law_472 : decode cL_law 472 = .ok (.aload_n 0, 1) := by decide +kernel
theorem dL_law_473 : decode cL_law 473 = .ok (.iload_n 3, 1) := by decide +kernel
theorem dL_law_474 : decode cL_law 474 = .ok (.iconst 1, 1) := by decide +kernel
theorem dL_law_475 : decode cL_law 475 = .ok (.iadd, 1) := by decide +kernel
theorem dL_law_476 : decode cL_law 476 = .ok (.iaload, 1) := by decide +kernel
theorem dL_law_477 : decode cL_law 477 = .ok (.aload_n 0, 1) := by decide +kernel
theorem dL_law_478 : decode cL_law 478 = .ok (.iload_n 3, 1) := by decide +kernel
theorem dL_law_479 : decode cL_law 479 = .ok (.iconst 2, 1) := by decide +kernel
theorem dL_law_480 : decode cL_law 480 = .ok (.iadd, 1) := by decide +kernel
theorem dL_law_481 : decode cL_law 481 = .ok (.iaload, 1) := by decide +kernel
theorem dL_law_482 : decode cL_law 482 = .ok (.aload_n 0, 1) := by decide +kernel
theorem dL_law_483 : decode cL_law 483 = .ok (.iload_n 3, 1) := by decide +kernel
theorem dL_law_484 : decode cL_law 484 = .ok (.iconst 3, 1) := by decide +kernel
theorem dL_law_485 : decode cL_law 485 = .ok (.iadd, 1) := by decide +kernel
theorem dL_law_486 : decode cL_law 486 = .ok (.iaload, 1) := by decide +kernel
theorem dL_law_487 : decode cL_law 487 = .ok (.invokevirtual 45, 3) := by decide +kernel
theorem dL_law_490 : decode cL_law 490 = .ok (.aload_n 2, 1) := by decide +kernel
theorem dL_law_491 : decode cL_law 491 = .ok (.aload_n 0, 1) := by decide +kernel
theorem dL_law_492 : decode cL_law 492 = .ok (.iload_n 3, 1) := by decide +kernel
theorem dL_law_493 : decode cL_law 493 = .ok (.iconst 1, 1) := by decide +kernel
theorem dL_law_494 : decode cL_law 494 = .ok (.iadd, 1) := by decide +kernel
theorem dL_law_495 : decode cL_law 495 = .ok (.iaload, 1) := by decide +kernel
theorem dL_law_496 : decode cL_law 496 = .ok (.aload_n 0, 1) := by decide +kernel
theorem dL_law_497 : decode cL_law 497 = .ok (.iload_n 3, 1) := by decide +kernel
theorem dL_law_498 : decode cL_law 498 = .ok (.iconst 2, 1) := by decide +kernel
theorem dL_law_499 : decode cL_law 499 = .ok (.iadd, 1) := by decide +kernel
theorem dL_law_500 : decode cL_law 500 = .ok (.iaload, 1) := by decide +kernel
theorem dL_law_501 : decode cL_law 501 = .ok (.aload_n 0, 1) := by decide +kernel
theorem dL_law_502 : decode cL_law 502 = .ok (.iload_n 3, 1) := by decide +kernel
theorem dL_law_503 : decode cL_law 503 = .ok (.iconst 3, 1) := by decide +kernel
theorem dL_law_504 : decode cL_law 504 = .ok (.iadd, 1) := by decide +kernel
theorem dL_law_505 : decode cL_law 505 = .ok (.iaload, 1) := by decide +kernel
theorem dL_law_506 : decode cL_law 506 = .ok (.invokevirtual 48, 3) := by decide +kernel
theorem dL_law_509 : decode cL_law 509 = .ok (.if_icmp .eq 803, 3) := by decide +kernel
theorem dL_law_512 : decode cL_law 512 = .ok (.iconst 0, 1) := by decide +kernel
theorem dL_law_513 : decode cL_law 513 = .ok (.ireturn, 1) := by decide +kernel
theorem dL_law_514 : decode cL_law 514 = .ok (.aload_n 1, 1) := by decide +kernel
theorem dL_law_515 : decode cL_law 515 = .ok (.aload_n 0, 1) := by decide +kernel
theorem dL_law_516 : decode cL_law 516 = .ok (.iload_n 3, 1) := by decide +kernel
theorem dL_law_517 : decode cL_law 517 = .ok (.iconst 1, 1) := by decide +kernel
theorem dL_law_518 : decode cL_law 518 = .ok (.iadd, 1) := by decide +kernel
theorem dL_law_519 : decode cL_law 519 = .ok (.iaload, 1) := by decide +kernel
theorem dL_law_520 : decode cL_law 520 = .ok (.invokevirtual 49, 3) := by decide +kernel
theorem dL_law_523 : decode cL_law 523 = .ok (.aload_n 2, 1) := by decide +kernel
theorem dL_law_524 : decode cL_law 524 = .ok (.aload_n 0, 1) := by decide +kernel
theorem dL_law_525 : decode cL_law 525 = .ok (.iload_n 3, 1) := by decide +kernel
theorem dL_law_526 : decode cL_law 526 = .ok (.iconst 1, 1) := by decide +kernel
theorem dL_law_527 : decode cL_law 527 = .ok (.iadd, 1) := by decide +kernel
theorem dL_law_528 : decode cL_law 528 = .ok (.iaload, 1) := by decide +kernel
theorem dL_law_529 : decode cL_law 529 = .ok (.invokevirtual 52, 3) := by decide +kernel
theorem dL_law_532 : decode cL_law 532 = .ok (.if_icmp .eq 780, 3) := by decide +kernel
theorem dL_law_535 : decode cL_law 535 = .ok (.iconst 0, 1) := by decide +kernel
theorem dL_law_536 : decode cL_law 536 = .ok (.ireturn, 1) := by decide +kernel
theorem dL_law_537 : decode cL_law 537 = .ok (.aload_n 1, 1) := by decide +kernel
theorem dL_law_538 : decode cL_law 538 = .ok (.aload_n 0, 1) := by decide +kernel
theorem dL_law_539 : decode cL_law 539 = .ok (.iload_n 3, 1) := by decide +kernel
theorem dL_law_540 : decode cL_law 540 = .ok (.iconst 1, 1) := by decide +kernel
theorem dL_law_541 : decode cL_law 541 = .ok (.iadd, 1) := by decide +kernel
theorem dL_law_542 : decode cL_law 542 = .ok (.iaload, 1) := by decide +kernel
theorem dL_law_543 : decode cL_law 543 = .ok (.invokevirtual 53, 3) := by decide +kernel
theorem dL_law_546 : decode cL_law 546 = .ok (.aload_n 2, 1) := by decide +kernel
theorem dL_law_547 : decode cL_law 547 = .ok (.aload_n 0, 1) := by decide +kernel
theorem dL_law_548 : decode cL_law 548 = .ok (.iload_n 3, 1) := by decide +kernel
theorem dL_law_549 : decode cL_law 549 = .ok (.iconst 1, 1) := by decide +kernel
theorem dL_law_550 : decode cL_law 550 = .ok (.iadd, 1) := by decide +kernel
theorem dL_law_551 : decode cL_law 551 = .ok (.iaload, 1) := by decide +kernel
theorem dL_law_552 : decode cL_law 552 = .ok (.invokevirtual 56, 3) := by decide +kernel
theorem dL_law_555 : decode cL_law 555 = .ok (.if_icmp .eq 757, 3) := by decide +kernel
theorem dL_law_558 : decode cL_law 558 = .ok (.iconst 0, 1) := by decide +kernel
theorem dL_law_559 : decode cL_law 559 = .ok (.ireturn, 1) := by decide +kernel
theorem dL_law_560 : decode cL_law 560 = .ok (.aload_n 1, 1) := by decide +kernel
theorem dL_law_561 : decode cL_law 561 = .ok (.aload_n 0, 1) := by decide +kernel
theorem dL_law_562 : decode cL_law 562 = .ok (.iload_n 3, 1) := by decide +kernel
theorem dL_law_563 : decode cL_law 563 = .ok (.iconst 1, 1) := by decide +kernel
theorem dL_law_564 : decode cL_law 564 = .ok (.iadd, 1) := by decide +kernel
theorem dL_law_565 : decode cL_law 565 = .ok (.iaload, 1) := by decide +kernel
theorem dL_law_566 : decode cL_law 566 = .ok (.aload_n 0, 1) := by decide +kernel
theorem dL_law_567 : decode cL_law 567 = .ok (.iload_n 3, 1) := by decide +kernel
theorem dL_law_568 : decode cL_law 568 = .ok (.iconst 2, 1) := by decide +kernel
theorem dL_law_569 : decode cL_law 569 = .ok (.iadd, 1) := by decide +kernel
theorem dL_law_570 : decode cL_law 570 = .ok (.iaload, 1) := by decide +kernel
theorem dL_law_571 : decode cL_law 571 = .ok (.invokevirtual 57, 3) := by decide +kernel
theorem dL_law_574 : decode cL_law 574 = .ok (.aload_n 2, 1) := by decide +kernel
theorem dL_law_575 : decode cL_law 575 = .ok (.aload_n 0, 1) := by decide +kernel
theorem dL_law_576 : decode cL_law 576 = .ok (.iload_n 3, 1) := by decide +kernel
theorem dL_law_577 : decode cL_law 577 = .ok (.iconst 1, 1) := by decide +kernel
theorem dL_law_578 : decode cL_law 578 = .ok (.iadd, 1) := by decide +kernel
theorem dL_law_579 : decode cL_law 579 = .ok (.iaload, 1) := by decide +kernel
theorem dL_law_580 : decode cL_law 580 = .ok (.aload_n 0, 1) := by decide +kernel
theorem dL_law_581 : decode cL_law 581 = .ok (.iload_n 3, 1) := by decide +kernel
theorem dL_law_582 : decode cL_law 582 = .ok (.iconst 2, 1) := by decide +kernel
theorem dL_law_583 : decode cL_law 583 = .ok (.iadd, 1) := by decide +kernel
theorem dL_law_584 : decode cL_law 584 = .ok (.iaload, 1) := by decide +kernel
theorem dL_law_585 : decode cL_law 585 = .ok (.invokevirtual 60, 3) := by decide +kernel
theorem dL_law_588 : decode cL_law 588 = .ok (.if_icmp .eq 724, 3) := by decide +kernel
theorem dL_law_591 : decode cL_law 591 = .ok (.iconst 0, 1) := by decide +kernel
theorem dL_law_592 : decode cL_law 592 = .ok (.ireturn, 1) := by decide +kernel
theorem dL_law_593 : decode cL_law 593 = .ok (.aload_n 1, 1) := by decide +kernel
theorem dL_law_594 : decode cL_law 594 = .ok (.aload_n 0, 1) := by decide +kernel
theorem dL_law_595 : decode cL_law 595 = .ok (.iload_n 3, 1) := by decide +kernel
theorem dL_law_596 : decode cL_law 596 = .ok (.iconst 1, 1) := by decide +kernel
theorem dL_law_597 : decode cL_law 597 = .ok (.iadd, 1) := by decide +kernel
theorem dL_law_598 : decode cL_law 598 = .ok (.iaload, 1) := by decide +kernel
theorem dL_law_599 : decode cL_law 599 = .ok (.aload_n 0, 1) := by decide +kernel
theorem dL_law_600 : decode cL_law 600 = .ok (.iload_n 3, 1) := by decide +kernel
theorem dL_law_601 : decode cL_law 601 = .ok (.iconst 2, 1) := by decide +kernel
theorem dL_law_602 : decode cL_law 602 = .ok (.iadd, 1) := by decide +kernel
theorem dL_law_603 : decode cL_law 603 = .ok (.iaload, 1) := by decide +kernel
theorem dL_law_604 : decode cL_law 604 = .ok (.invokevirtual 61, 3) := by decide +kernel
theorem dL_law_607 : decode cL_law 607 = .ok (.aload_n 2, 1) := by decide +kernel
theorem dL_law_608 : decode cL_law 608 = .ok (.aload_n 0, 1) := by decide +kernel
theorem dL_law_609 : decode cL_law 609 = .ok (.iload_n 3, 1) := by decide +kernel
theorem dL_law_610 : decode cL_law 610 = .ok (.iconst 1, 1) := by decide +kernel
theorem dL_law_611 : decode cL_law 611 = .ok (.iadd, 1) := by decide +kernel
theorem dL_law_612 : decode cL_law 612 = .ok (.iaload, 1) := by decide +kernel
theorem dL_law_613 : decode cL_law 613 = .ok (.aload_n 0, 1) := by decide +kernel
theorem dL_law_614 : decode cL_law 614 = .ok (.iload_n 3, 1) := by decide +kernel
theorem dL_law_615 : decode cL_law 615 = .ok (.iconst 2, 1) := by decide +kernel
theorem dL_law_616 : decode cL_law 616 = .ok (.iadd, 1) := by decide +kernel
theorem dL_law_617 : decode cL_law 617 = .ok (.iaload, 1) := by decide +kernel
theorem dL_law_618 : decode cL_law 618 = .ok (.invokevirtual 64, 3) := by decide +kernel
theorem dL_law_621 : decode cL_law 621 = .ok (.if_icmp .eq 691, 3) := by decide +kernel
theorem dL_law_624 : decode cL_law 624 = .ok (.iconst 0, 1) := by decide +kernel
theorem dL_law_625 : decode cL_law 625 = .ok (.ireturn, 1) := by decide +kernel
theorem dL_law_626 : decode cL_law 626 = .ok (.aload_n 1, 1) := by decide +kernel
theorem dL_law_627 : decode cL_law 627 = .ok (.aload_n 0, 1) := by decide +kernel
theorem dL_law_628 : decode cL_law 628 = .ok (.iload_n 3, 1) := by decide +kernel
theorem dL_law_629 : decode cL_law 629 = .ok (.iconst 1, 1) := by decide +kernel
theorem dL_law_630 : decode cL_law 630 = .ok (.iadd, 1) := by decide +kernel
theorem dL_law_631 : decode cL_law 631 = .ok (.iaload, 1) := by decide +kernel
theorem dL_law_632 : decode cL_law 632 = .ok (.aload_n 0, 1) := by decide +kernel
theorem dL_law_633 : decode cL_law 633 = .ok (.iload_n 3, 1) := by decide +kernel
theorem dL_law_634 : decode cL_law 634 = .ok (.iconst 2, 1) := by decide +kernel
theorem dL_law_635 : decode cL_law 635 = .ok (.iadd, 1) := by decide +kernel
theorem dL_law_636 : decode cL_law 636 = .ok (.iaload, 1) := by decide +kernel
theorem dL_law_637 : decode cL_law 637 = .ok (.invokevirtual 65, 3) := by decide +kernel
theorem dL_law_640 : decode cL_law 640 = .ok (.aload_n 2, 1) := by decide +kernel
theorem dL_law_641 : decode cL_law 641 = .ok (.aload_n 0, 1) := by decide +kernel
theorem dL_law_642 : decode cL_law 642 = .ok (.iload_n 3, 1) := by decide +kernel
theorem dL_law_643 : decode cL_law 643 = .ok (.iconst 1, 1) := by decide +kernel
theorem dL_law_644 : decode cL_law 644 = .ok (.iadd, 1) := by decide +kernel
theorem dL_law_645 : decode cL_law 645 = .ok (.iaload, 1) := by decide +kernel
theorem dL_law_646 : decode cL_law 646 = .ok (.aload_n 0, 1) := by decide +kernel
theorem dL_law_647 : decode cL_law 647 = .ok (.iload_n 3, 1) := by decide +kernel
theorem dL_law_648 : decode cL_law 648 = .ok (.iconst 2, 1) := by decide +kernel
theorem dL_law_649 : decode cL_law 649 = .ok (.iadd, 1) := by decide +kernel
theorem dL_law_650 : decode cL_law 650 = .ok (.iaload, 1) := by decide +kernel
theorem dL_law_651 : decode cL_law 651 = .ok (.invokevirtual 68, 3) := by decide +kernel
theorem dL_law_654 : decode cL_law 654 = .ok (.if_icmp .eq 658, 3) := by decide +kernel
theorem dL_law_657 : decode cL_law 657 = .ok (.iconst 0, 1) := by decide +kernel
theorem dL_law_658 : decode cL_law 658 = .ok (.ireturn, 1) := by decide +kernel
theorem dL_law_659 : decode cL_law 659 = .ok (.aload_n 1, 1) := by decide +kernel
theorem dL_law_660 : decode cL_law 660 = .ok (.aload_n 0, 1) := by decide +kernel
theorem dL_law_661 : decode cL_law 661 = .ok (.iload_n 3, 1) := by decide +kernel
theorem dL_law_662 : decode cL_law 662 = .ok (.iconst 1, 1) := by decide +kernel
theorem dL_law_663 : decode cL_law 663 = .ok (.iadd, 1) := by decide +kernel
theorem dL_law_664 : decode cL_law 664 = .ok (.iaload, 1) := by decide +kernel
theorem dL_law_665 : decode cL_law 665 = .ok (.aload_n 0, 1) := by decide +kernel
theorem dL_law_666 : decode cL_law 666 = .ok (.iload_n 3, 1) := by decide +kernel
theorem dL_law_667 : decode cL_law 667 = .ok (.iconst 2, 1) := by decide +kernel
theorem dL_law_668 : decode cL_law 668 = .ok (.iadd, 1) := by decide +kernel
theorem dL_law_669 : decode cL_law 669 = .ok (.iaload, 1) := by decide +kernel
theorem dL_law_670 : decode cL_law 670 = .ok (.invokevirtual 69, 3) := by decide +kernel
theorem dL_law_673 : decode cL_law 673 = .ok (.aload_n 2, 1) := by decide +kernel
theorem dL_law_674 : decode cL_law 674 = .ok (.aload_n 0, 1) := by decide +kernel
theorem dL_law_675 : decode cL_law 675 = .ok (.iload_n 3, 1) := by decide +kernel
theorem dL_law_676 : decode cL_law 676 = .ok (.iconst 1, 1) := by decide +kernel
theorem dL_law_677 : decode cL_law 677 = .ok (.iadd, 1) := by decide +kernel
theorem dL_law_678 : decode cL_law 678 = .ok (.iaload, 1) := by decide +kernel
theorem dL_law_679 : decode cL_law 679 = .ok (.aload_n 0, 1) := by decide +kernel
theorem dL_law_680 : decode cL_law 680 = .ok (.iload_n 3, 1) := by decide +kernel
theorem dL_law_681 : decode cL_law 681 = .ok (.iconst 2, 1) := by decide +kernel
theorem dL_law_682 : decode cL_law 682 = .ok (.iadd, 1) := by decide +kernel
theorem dL_law_683 : decode cL_law 683 = .ok (.iaload, 1) := by decide +kernel
theorem dL_law_684 : decode cL_law 684 = .ok (.invokevirtual 72, 3) := by decide +kernel
theorem dL_law_687 : decode cL_law 687 = .ok (.if_icmp .eq 625, 3) := by decide +kernel
theorem dL_law_690 : decode cL_law 690 = .ok (.iconst 0, 1) := by decide +kernel
theorem dL_law_691 : decode cL_law 691 = .ok (.ireturn, 1) := by decide +kernel
theorem dL_law_692 : decode cL_law 692 = .ok (.aload_n 1, 1) := by decide +kernel
theorem dL_law_693 : decode cL_law 693 = .ok (.invokevirtual 73, 3) := by decide +kernel
theorem dL_law_696 : decode cL_law 696 = .ok (.aload_n 2, 1) := by decide +kernel
theorem dL_law_697 : decode cL_law 697 = .ok (.invokevirtual 77, 3) := by decide +kernel
theorem dL_law_700 : decode cL_law 700 = .ok (.if_icmp .eq 612, 3) := by decide +kernel
theorem dL_law_703 : decode cL_law 703 = .ok (.iconst 0, 1) := by decide +kernel
theorem dL_law_704 : decode cL_law 704 = .ok (.ireturn, 1) := by decide +kernel
theorem dL_law_705 : decode cL_law 705 = .ok (.aload_n 1, 1) := by decide +kernel
theorem dL_law_706 : decode cL_law 706 = .ok (.aload_n 0, 1) := by decide +kernel
theorem dL_law_707 : decode cL_law 707 = .ok (.iload_n 3, 1) := by decide +kernel
theorem dL_law_708 : decode cL_law 708 = .ok (.iconst 1, 1) := by decide +kernel
theorem dL_law_709 : decode cL_law 709 = .ok (.iadd, 1) := by decide +kernel
theorem dL_law_710 : decode cL_law 710 = .ok (.iaload, 1) := by decide +kernel
theorem dL_law_711 : decode cL_law 711 = .ok (.aload_n 0, 1) := by decide +kernel
theorem dL_law_712 : decode cL_law 712 = .ok (.iload_n 3, 1) := by decide +kernel
theorem dL_law_713 : decode cL_law 713 = .ok (.iconst 2, 1) := by decide +kernel
theorem dL_law_714 : decode cL_law 714 = .ok (.iadd, 1) := by decide +kernel
theorem dL_law_715 : decode cL_law 715 = .ok (.iaload, 1) := by decide +kernel
theorem dL_law_716 : decode cL_law 716 = .ok (.invokevirtual 78, 3) := by decide +kernel
theorem dL_law_719 : decode cL_law 719 = .ok (.aload_n 2, 1) := by decide +kernel
theorem dL_law_720 : decode cL_law 720 = .ok (.aload_n 0, 1) := by decide +kernel
theorem dL_law_721 : decode cL_law 721 = .ok (.iload_n 3, 1) := by decide +kernel
theorem dL_law_722 : decode cL_law 722 = .ok (.iconst 1, 1) := by decide +kernel
theorem dL_law_723 : decode cL_law 723 = .ok (.iadd, 1) := by decide +kernel
theorem dL_law_724 : decode cL_law 724 = .ok (.iaload, 1) := by decide +kernel
theorem dL_law_725 : decode cL_law 725 = .ok (.aload_n 0, 1) := by decide +kernel
theorem dL_law_726 : decode cL_law 726 = .ok (.iload_n 3, 1) := by decide +kernel
theorem dL_law_727 : decode cL_law 727 = .ok (.iconst 2, 1) := by decide +kernel
theorem dL_law_728 : decode cL_law 728 = .ok (.iadd, 1) := by decide +kernel
theorem dL_law_729 : decode cL_law 729 = .ok (.iaload, 1) := by decide +kernel
theorem dL_law_730 : decode cL_law 730 = .ok (.invokevirtual 81, 3) := by decide +kernel
theorem dL_law_733 : decode cL_law 733 = .ok (.if_icmp .eq 579, 3) := by decide +kernel
theorem dL_law_736 : decode cL_law 736 = .ok (.iconst 0, 1) := by decide +kernel
theorem dL_law_737 : decode cL_law 737 = .ok (.ireturn, 1) := by decide +kernel
theorem dL_law_738 : decode cL_law 738 = .ok (.aload_n 1, 1) := by decide +kernel
theorem dL_law_739 : decode cL_law 739 = .ok (.aload_n 0, 1) := by decide +kernel
theorem dL_law_740 : decode cL_law 740 = .ok (.iload_n 3, 1) := by decide +kernel
theorem dL_law_741 : decode cL_law 741 = .ok (.iconst 1, 1) := by decide +kernel
theorem dL_law_742 : decode cL_law 742 = .ok (.iadd, 1) := by decide +kernel
theorem dL_law_743 : decode cL_law 743 = .ok (.iaload, 1) := by decide +kernel
theorem dL_law_744 : decode cL_law 744 = .ok (.invokevirtual 82, 3) := by decide +kernel
theorem dL_law_747 : decode cL_law 747 = .ok (.aload_n 2, 1) := by decide +kernel
theorem dL_law_748 : decode cL_law 748 = .ok (.aload_n 0, 1) := by decide +kernel
theorem dL_law_749 : decode cL_law 749 = .ok (.iload_n 3, 1) := by decide +kernel
theorem dL_law_750 : decode cL_law 750 = .ok (.iconst 1, 1) := by decide +kernel
theorem dL_law_751 : decode cL_law 751 = .ok (.iadd, 1) := by decide +kernel
theorem dL_law_752 : decode cL_law 752 = .ok (.iaload, 1) := by decide +kernel
theorem dL_law_753 : decode cL_law 753 = .ok (.invokevirtual 85, 3) := by decide +kernel
theorem dL_law_756 : decode cL_law 756 = .ok (.if_icmp .eq 556, 3) := by decide +kernel
theorem dL_law_759 : decode cL_law 759 = .ok (.iconst 0, 1) := by decide +kernel
theorem dL_law_760 : decode cL_law 760 = .ok (.ireturn, 1) := by decide +kernel
theorem dL_law_761 : decode cL_law 761 = .ok (.aload_n 1, 1) := by decide +kernel
theorem dL_law_762 : decode cL_law 762 = .ok (.aload_n 0, 1) := by decide +kernel
theorem dL_law_763 : decode cL_law 763 = .ok (.iload_n 3, 1) := by decide +kernel
theorem dL_law_764 : decode cL_law 764 = .ok (.iconst 1, 1) := by decide +kernel
theorem dL_law_765 : decode cL_law 765 = .ok (.iadd, 1) := by decide +kernel
theorem dL_law_766 : decode cL_law 766 = .ok (.iaload, 1) := by decide +kernel
theorem dL_law_767 : decode cL_law 767 = .ok (.invokevirtual 86, 3) := by decide +kernel
theorem dL_law_770 : decode cL_law 770 = .ok (.aload_n 2, 1) := by decide +kernel
theorem dL_law_771 : decode cL_law 771 = .ok (.aload_n 0, 1) := by decide +kernel
theorem dL_law_772 : decode cL_law 772 = .ok (.iload_n 3, 1) := by decide +kernel
theorem dL_law_773 : decode cL_law 773 = .ok (.iconst 1, 1) := by decide +kernel
theorem dL_law_774 : decode cL_law 774 = .ok (.iadd, 1) := by decide +kernel
theorem dL_law_775 : decode cL_law 775 = .ok (.iaload, 1) := by decide +kernel
theorem dL_law_776 : decode cL_law 776 = .ok (.invokevirtual 89, 3) := by decide +kernel
theorem dL_law_779 : decode cL_law 779 = .ok (.if_icmp .eq 533, 3) := by decide +kernel
theorem dL_law_782 : decode cL_law 782 = .ok (.iconst 0, 1) := by decide +kernel
theorem dL_law_783 : decode cL_law 783 = .ok (.ireturn, 1) := by decide +kernel
theorem dL_law_784 : decode cL_law 784 = .ok (.aload_n 1, 1) := by decide +kernel
theorem dL_law_785 : decode cL_law 785 = .ok (.invokevirtual 90, 3) := by decide +kernel
theorem dL_law_788 : decode cL_law 788 = .ok (.aload_n 2, 1) := by decide +kernel
theorem dL_law_789 : decode cL_law 789 = .ok (.invokevirtual 93, 3) := by decide +kernel
theorem dL_law_792 : decode cL_law 792 = .ok (.if_icmp .eq 520, 3) := by decide +kernel
theorem dL_law_795 : decode cL_law 795 = .ok (.iconst 0, 1) := by decide +kernel
theorem dL_law_796 : decode cL_law 796 = .ok (.ireturn, 1) := by decide +kernel
theorem dL_law_797 : decode cL_law 797 = .ok (.aload_n 1, 1) := by decide +kernel
theorem dL_law_798 : decode cL_law 798 = .ok (.aload_n 0, 1) := by decide +kernel
theorem dL_law_799 : decode cL_law 799 = .ok (.iload_n 3, 1) := by decide +kernel
theorem dL_law_800 : decode cL_law 800 = .ok (.iconst 1, 1) := by decide +kernel
theorem dL_law_801 : decode cL_law 801 = .ok (.iadd, 1) := by decide +kernel
theorem dL_law_802 : decode cL_law 802 = .ok (.iaload, 1) := by decide +kernel
theorem dL_law_803 : decode cL_law 803 = .ok (.invokevirtual 94, 3) := by decide +kernel
theorem dL_law_806 : decode cL_law 806 = .ok (.aload_n 2, 1) := by decide +kernel
theorem dL_law_807 : decode cL_law 807 = .ok (.aload_n 0, 1) := by decide +kernel
theorem dL_law_808 : decode cL_law 808 = .ok (.iload_n 3, 1) := by decide +kernel
theorem dL_law_809 : decode cL_law 809 = .ok (.iconst 1, 1) := by decide +kernel
theorem dL_law_810 : decode cL_law 810 = .ok (.iadd, 1) := by decide +kernel
theorem dL_law_811 : decode cL_law 811 = .ok (.iaload, 1) := by decide +kernel
theorem dL_law_812 : decode cL_law 812 = .ok (.invokevirtual 97, 3) := by decide +kernel
theorem dL_law_815 : decode cL_law 815 = .ok (.if_icmp .eq 497, 3) := by decide +kernel
theorem dL_law_818 : decode cL_law 818 = .ok (.iconst 0, 1) := by decide +kernel
theorem dL_law_819 : decode cL_law 819 = .ok (.ireturn, 1) := by decide +kernel
theorem dL_law_820 : decode cL_law 820 = .ok (.aload_n 1, 1) := by decide +kernel
theorem dL_law_821 : decode cL_law 821 = .ok (.aload_n 0, 1) := by decide +kernel
theorem dL_law_822 : decode cL_law 822 = .ok (.iload_n 3, 1) := by decide +kernel
theorem dL_law_823 : decode cL_law 823 = .ok (.iconst 1, 1) := by decide +kernel
theorem dL_law_824 : decode cL_law 824 = .ok (.iadd, 1) := by decide +kernel
theorem dL_law_825 : decode cL_law 825 = .ok (.iaload, 1) := by decide +kernel
theorem dL_law_826 : decode cL_law 826 = .ok (.invokevirtual 98, 3) := by decide +kernel
theorem dL_law_829 : decode cL_law 829 = .ok (.aload_n 2, 1) := by decide +kernel
theorem dL_law_830 : decode cL_law 830 = .ok (.aload_n 0, 1) := by decide +kernel
theorem dL_law_831 : decode cL_law 831 = .ok (.iload_n 3, 1) := by decide +kernel
theorem dL_law_832 : decode cL_law 832 = .ok (.iconst 1, 1) := by decide +kernel
theorem dL_law_833 : decode cL_law 833 = .ok (.iadd, 1) := by decide +kernel
theorem dL_law_834 : decode cL_law 834 = .ok (.iaload, 1) := by decide +kernel
theorem dL_law_835 : decode cL_law 835 = .ok (.invokevirtual 101, 3) := by decide +kernel
theorem dL_law_838 : decode cL_law 838 = .ok (.if_icmp .eq 474, 3) := by decide +kernel
theorem dL_law_841 : decode cL_law 841 = .ok (.iconst 0, 1) := by decide +kernel
theorem dL_law_842 : decode cL_law 842 = .ok (.ireturn, 1) := by decide +kernel
theorem dL_law_843 : decode cL_law 843 = .ok (.aload_n 1, 1) := by decide +kernel
theorem dL_law_844 : decode cL_law 844 = .ok (.aload_n 0, 1) := by decide +kernel
theorem dL_law_845 : decode cL_law 845 = .ok (.iload_n 3, 1) := by decide +kernel
theorem dL_law_846 : decode cL_law 846 = .ok (.iconst 1, 1) := by decide +kernel
theorem dL_law_847 : decode cL_law 847 = .ok (.iadd, 1) := by decide +kernel
theorem dL_law_848 : decode cL_law 848 = .ok (.iaload, 1) := by decide +kernel
theorem dL_law_849 : decode cL_law 849 = .ok (.invokevirtual 102, 3) := by decide +kernel
theorem dL_law_852 : decode cL_law 852 = .ok (.aload_n 2, 1) := by decide +kernel
theorem dL_law_853 : decode cL_law 853 = .ok (.aload_n 0, 1) := by decide +kernel
theorem dL_law_854 : decode cL_law 854 = .ok (.iload_n 3, 1) := by decide +kernel
theorem dL_law_855 : decode cL_law 855 = .ok (.iconst 1, 1) := by decide +kernel
theorem dL_law_856 : decode cL_law 856 = .ok (.iadd, 1) := by decide +kernel
theorem dL_law_857 : decode cL_law 857 = .ok (.iaload, 1) := by decide +kernel
theorem dL_law_858 : decode cL_law 858 = .ok (.invokevirtual 105, 3) := by decide +kernel
theorem dL_law_861 : decode cL_law 861 = .ok (.if_icmp .eq 451, 3) := by decide +kernel
theorem dL_law_864 : decode cL_law 864 = .ok (.iconst 0, 1) := by decide +kernel
theorem dL_law_865 : decode cL_law 865 = .ok (.ireturn, 1) := by decide +kernel
theorem dL_law_866 : decode cL_law 866 = .ok (.aload_n 1, 1) := by decide +kernel
theorem dL_law_867 : decode cL_law 867 = .ok (.aload_n 0, 1) := by decide +kernel
theorem dL_law_868 : decode cL_law 868 = .ok (.iload_n 3, 1) := by decide +kernel
theorem dL_law_869 : decode cL_law 869 = .ok (.iconst 1, 1) := by decide +kernel
theorem dL_law_870 : decode cL_law 870 = .ok (.iadd, 1) := by decide +kernel
theorem dL_law_871 : decode cL_law 871 = .ok (.iaload, 1) := by decide +kernel
theorem dL_law_872 : decode cL_law 872 = .ok (.aload_n 0, 1) := by decide +kernel
theorem dL_law_873 : decode cL_law 873 = .ok (.iload_n 3, 1) := by decide +kernel
theorem dL_law_874 : decode cL_law 874 = .ok (.iconst 2, 1) := by decide +kernel
theorem dL_law_875 : decode cL_law 875 = .ok (.iadd, 1) := by decide +kernel
theorem dL_law_876 : decode cL_law 876 = .ok (.iaload, 1) := by decide +kernel
theorem dL_law_877 : decode cL_law 877 = .ok (.invokevirtual 106, 3) := by decide +kernel
theorem dL_law_880 : decode cL_law 880 = .ok (.aload_n 2, 1) := by decide +kernel
theorem dL_law_881 : decode cL_law 881 = .ok (.aload_n 0, 1) := by decide +kernel
theorem dL_law_882 : decode cL_law 882 = .ok (.iload_n 3, 1) := by decide +kernel
theorem dL_law_883 : decode cL_law 883 = .ok (.iconst 1, 1) := by decide +kernel
theorem dL_law_884 : decode cL_law 884 = .ok (.iadd, 1) := by decide +kernel
theorem dL_law_885 : decode cL_law 885 = .ok (.iaload, 1) := by decide +kernel
theorem dL_law_886 : decode cL_law 886 = .ok (.aload_n 0, 1) := by decide +kernel
theorem dL_law_887 : decode cL_law 887 = .ok (.iload_n 3, 1) := by decide +kernel
theorem dL_law_888 : decode cL_law 888 = .ok (.iconst 2, 1) := by decide +kernel
theorem dL_law_889 : decode cL_law 889 = .ok (.iadd, 1) := by decide +kernel
theorem dL_law_890 : decode cL_law 890 = .ok (.iaload, 1) := by decide +kernel
theorem dL_law_891 : decode cL_law 891 = .ok (.invokevirtual 109, 3) := by decide +kernel
theorem dL_law_894 : decode cL_law 894 = .ok (.if_icmp .eq 418, 3) := by decide +kernel
theorem dL_law_897 : decode cL_law 897 = .ok (.iconst 0, 1) := by decide +kernel
theorem dL_law_898 : decode cL_law 898 = .ok (.ireturn, 1) := by decide +kernel
theorem dL_law_899 : decode cL_law 899 = .ok (.aload_n 1, 1) := by decide +kernel
theorem dL_law_900 : decode cL_law 900 = .ok (.aload_n 0, 1) := by decide +kernel
theorem dL_law_901 : decode cL_law 901 = .ok (.iload_n 3, 1) := by decide +kernel
theorem dL_law_902 : decode cL_law 902 = .ok (.iconst 1, 1) := by decide +kernel
theorem dL_law_903 : decode cL_law 903 = .ok (.iadd, 1) := by decide +kernel
theorem dL_law_904 : decode cL_law 904 = .ok (.iaload, 1) := by decide +kernel
theorem dL_law_905 : decode cL_law 905 = .ok (.invokevirtual 110, 3) := by decide +kernel
theorem dL_law_908 : decode cL_law 908 = .ok (.aload_n 2, 1) := by decide +kernel
theorem dL_law_909 : decode cL_law 909 = .ok (.aload_n 0, 1) := by decide +kernel
theorem dL_law_910 : decode cL_law 910 = .ok (.iload_n 3, 1) := by decide +kernel
theorem dL_law_911 : decode cL_law 911 = .ok (.iconst 1, 1) := by decide +kernel
theorem dL_law_912 : decode cL_law 912 = .ok (.iadd, 1) := by decide +kernel
theorem dL_law_913 : decode cL_law 913 = .ok (.iaload, 1) := by decide +kernel
theorem dL_law_914 : decode cL_law 914 = .ok (.invokevirtual 113, 3) := by decide +kernel
theorem dL_law_917 : decode cL_law 917 = .ok (.if_icmp .eq 395, 3) := by decide +kernel
theorem dL_law_920 : decode cL_law 920 = .ok (.iconst 0, 1) := by decide +kernel
theorem dL_law_921 : decode cL_law 921 = .ok (.ireturn, 1) := by decide +kernel
theorem dL_law_922 : decode cL_law 922 = .ok (.aload_n 1, 1) := by decide +kernel
theorem dL_law_923 : decode cL_law 923 = .ok (.invokevirtual 114, 3) := by decide +kernel
theorem dL_law_926 : decode cL_law 926 = .ok (.aload_n 2, 1) := by decide +kernel
theorem dL_law_927 : decode cL_law 927 = .ok (.invokevirtual 117, 3) := by decide +kernel
theorem dL_law_930 : decode cL_law 930 = .ok (.if_icmp .eq 382, 3) := by decide +kernel
theorem dL_law_933 : decode cL_law 933 = .ok (.iconst 0, 1) := by decide +kernel
theorem dL_law_934 : decode cL_law 934 = .ok (.ireturn, 1) := by decide +kernel
theorem dL_law_935 : decode cL_law 935 = .ok (.aload_n 1, 1) := by decide +kernel
theorem dL_law_936 : decode cL_law 936 = .ok (.aload_n 0, 1) := by decide +kernel
theorem dL_law_937 : decode cL_law 937 = .ok (.iload_n 3, 1) := by decide +kernel
theorem dL_law_938 : decode cL_law 938 = .ok (.iconst 1, 1) := by decide +kernel
theorem dL_law_939 : decode cL_law 939 = .ok (.iadd, 1) := by decide +kernel
theorem dL_law_940 : decode cL_law 940 = .ok (.iaload, 1) := by decide +kernel
theorem dL_law_941 : decode cL_law 941 = .ok (.invokevirtual 118, 3) := by decide +kernel
theorem dL_law_944 : decode cL_law 944 = .ok (.aload_n 2, 1) := by decide +kernel
theorem dL_law_945 : decode cL_law 945 = .ok (.aload_n 0, 1) := by decide +kernel
theorem dL_law_946 : decode cL_law 946 = .ok (.iload_n 3, 1) := by decide +kernel
theorem dL_law_947 : decode cL_law 947 = .ok (.iconst 1, 1) := by decide +kernel
theorem dL_law_948 : decode cL_law 948 = .ok (.iadd, 1) := by decide +kernel
theorem dL_law_949 : decode cL_law 949 = .ok (.iaload, 1) := by decide +kernel
theorem dL_law_950 : decode cL_law 950 = .ok (.invokevirtual 121, 3) := by decide +kernel
theorem dL_law_953 : decode cL_law 953 = .ok (.if_icmp .eq 359, 3) := by decide +kernel
theorem dL_law_956 : decode cL_law 956 = .ok (.iconst 0, 1) := by decide +kernel
theorem dL_law_957 : decode cL_law 957 = .ok (.ireturn, 1) := by decide +kernel
theorem dL_law_958 : decode cL_law 958 = .ok (.aload_n 1, 1) := by decide +kernel
theorem dL_law_959 : decode cL_law 959 = .ok (.invokevirtual 122, 3) := by decide +kernel
theorem dL_law_962 : decode cL_law 962 = .ok (.aload_n 2, 1) := by decide +kernel
theorem dL_law_963 : decode cL_law 963 = .ok (.invokevirtual 125, 3) := by decide +kernel
theorem dL_law_966 : decode cL_law 966 = .ok (.if_icmp .eq 346, 3) := by decide +kernel
theorem dL_law_969 : decode cL_law 969 = .ok (.iconst 0, 1) := by decide +kernel
theorem dL_law_970 : decode cL_law 970 = .ok (.ireturn, 1) := by decide +kernel
theorem dL_law_971 : decode cL_law 971 = .ok (.aload_n 1, 1) := by decide +kernel
theorem dL_law_972 : decode cL_law 972 = .ok (.aload_n 0, 1) := by decide +kernel
theorem dL_law_973 : decode cL_law 973 = .ok (.iload_n 3, 1) := by decide +kernel
theorem dL_law_974 : decode cL_law 974 = .ok (.iconst 1, 1) := by decide +kernel
theorem dL_law_975 : decode cL_law 975 = .ok (.iadd, 1) := by decide +kernel
theorem dL_law_976 : decode cL_law 976 = .ok (.iaload, 1) := by decide +kernel
theorem dL_law_977 : decode cL_law 977 = .ok (.invokevirtual 126, 3) := by decide +kernel
theorem dL_law_980 : decode cL_law 980 = .ok (.aload_n 2, 1) := by decide +kernel
theorem dL_law_981 : decode cL_law 981 = .ok (.aload_n 0, 1) := by decide +kernel
theorem dL_law_982 : decode cL_law 982 = .ok (.iload_n 3, 1) := by decide +kernel
theorem dL_law_983 : decode cL_law 983 = .ok (.iconst 1, 1) := by decide +kernel
theorem dL_law_984 : decode cL_law 984 = .ok (.iadd, 1) := by decide +kernel
theorem dL_law_985 : decode cL_law 985 = .ok (.iaload, 1) := by decide +kernel
theorem dL_law_986 : decode cL_law 986 = .ok (.invokevirtual 129, 3) := by decide +kernel
theorem dL_law_989 : decode cL_law 989 = .ok (.if_icmp .eq 323, 3) := by decide +kernel
theorem dL_law_992 : decode cL_law 992 = .ok (.iconst 0, 1) := by decide +kernel
theorem dL_law_993 : decode cL_law 993 = .ok (.ireturn, 1) := by decide +kernel
theorem dL_law_994 : decode cL_law 994 = .ok (.aload_n 1, 1) := by decide +kernel
theorem dL_law_995 : decode cL_law 995 = .ok (.aload_n 0, 1) := by decide +kernel
theorem dL_law_996 : decode cL_law 996 = .ok (.iload_n 3, 1) := by decide +kernel
theorem dL_law_997 : decode cL_law 997 = .ok (.iconst 1, 1) := by decide +kernel
theorem dL_law_998 : decode cL_law 998 = .ok (.iadd, 1) := by decide +kernel
theorem dL_law_999 : decode cL_law 999 = .ok (.iaload, 1) := by decide +kernel
theorem dL_law_1000 : decode cL_law 1000 = .ok (.aload_n 0, 1) := by decide +kernel
theorem dL_law_1001 : decode cL_law 1001 = .ok (.iload_n 3, 1) := by decide +kernel
theorem dL_law_1002 : decode cL_law 1002 = .ok (.iconst 2, 1) := by decide +kernel
theorem dL_law_1003 : decode cL_law 1003 = .ok (.iadd, 1) := by decide +kernel
theorem dL_law_1004 : decode cL_law 1004 = .ok (.iaload, 1) := by decide +kernel
theorem dL_law_1005 : decode cL_law 1005 = .ok (.invokevirtual 130, 3) := by decide +kernel
theorem dL_law_1008 : decode cL_law 1008 = .ok (.aload_n 2, 1) := by decide +kernel
theorem dL_law_1009 : decode cL_law 1009 = .ok (.aload_n 0, 1) := by decide +kernel
theorem dL_law_1010 : decode cL_law 1010 = .ok (.iload_n 3, 1) := by decide +kernel
theorem dL_law_1011 : decode cL_law 1011 = .ok (.iconst 1, 1) := by decide +kernel
theorem dL_law_1012 : decode cL_law 1012 = .ok (.iadd, 1) := by decide +kernel
theorem dL_law_1013 : decode cL_law 1013 = .ok (.iaload, 1) := by decide +kernel
theorem dL_law_1014 : decode cL_law 1014 = .ok (.aload_n 0, 1) := by decide +kernel
theorem dL_law_1015 : decode cL_law 1015 = .ok (.iload_n 3, 1) := by decide +kernel
theorem dL_law_1016 : decode cL_law 1016 = .ok (.iconst 2, 1) := by decide +kernel
theorem dL_law_1017 : decode cL_law 1017 = .ok (.iadd, 1) := by decide +kernel
theorem dL_law_1018 : decode cL_law 1018 = .ok (.iaload, 1) := by decide +kernel
theorem dL_law_1019 : decode cL_law 1019 = .ok (.invokevirtual 133, 3) := by decide +kernel
theorem dL_law_1022 : decode cL_law 1022 = .ok (.if_icmp .eq 290, 3) := by decide +kernel
theorem dL_law_1025 : decode cL_law 1025 = .ok (.iconst 0, 1) := by decide +kernel
theorem dL_law_1026 : decode cL_law 1026 = .ok (.ireturn, 1) := by decide +kernel
theorem dL_law_1027 : decode cL_law 1027 = .ok (.aload_n 1, 1) := by decide +kernel
theorem dL_law_1028 : decode cL_law 1028 = .ok (.invokevirtual 134, 3) := by decide +kernel
theorem dL_law_1031 : decode cL_law 1031 = .ok (.aload_n 2, 1) := by decide +kernel
theorem dL_law_1032 : decode cL_law 1032 = .ok (.invokevirtual 137, 3) := by decide +kernel
theorem dL_law_1035 : decode cL_law 1035 = .ok (.if_icmp .eq 277, 3) := by decide +kernel
theorem dL_law_1038 : decode cL_law 1038 = .ok (.iconst 0, 1) := by decide +kernel
theorem dL_law_1039 : decode cL_law 1039 = .ok (.ireturn, 1) := by decide +kernel
theorem dL_law_1040 : decode cL_law 1040 = .ok (.aload_n 1, 1) := by decide +kernel
theorem dL_law_1041 : decode cL_law 1041 = .ok (.aload_n 0, 1) := by decide +kernel
theorem dL_law_1042 : decode cL_law 1042 = .ok (.iload_n 3, 1) := by decide +kernel
theorem dL_law_1043 : decode cL_law 1043 = .ok (.iconst 1, 1) := by decide +kernel
theorem dL_law_1044 : decode cL_law 1044 = .ok (.iadd, 1) := by decide +kernel
theorem dL_law_1045 : decode cL_law 1045 = .ok (.iaload, 1) := by decide +kernel
theorem dL_law_1046 : decode cL_law 1046 = .ok (.invokevirtual 138, 3) := by decide +kernel
theorem dL_law_1049 : decode cL_law 1049 = .ok (.aload_n 2, 1) := by decide +kernel
theorem dL_law_1050 : decode cL_law 1050 = .ok (.aload_n 0, 1) := by decide +kernel
theorem dL_law_1051 : decode cL_law 1051 = .ok (.iload_n 3, 1) := by decide +kernel
theorem dL_law_1052 : decode cL_law 1052 = .ok (.iconst 1, 1) := by decide +kernel
theorem dL_law_1053 : decode cL_law 1053 = .ok (.iadd, 1) := by decide +kernel
theorem dL_law_1054 : decode cL_law 1054 = .ok (.iaload, 1) := by decide +kernel
theorem dL_law_1055 : decode cL_law 1055 = .ok (.invokevirtual 141, 3) := by decide +kernel
theorem dL_law_1058 : decode cL_law 1058 = .ok (.if_icmp .eq 254, 3) := by decide +kernel
theorem dL_law_1061 : decode cL_law 1061 = .ok (.iconst 0, 1) := by decide +kernel
theorem dL_law_1062 : decode cL_law 1062 = .ok (.ireturn, 1) := by decide +kernel
theorem dL_law_1063 : decode cL_law 1063 = .ok (.aload_n 1, 1) := by decide +kernel
theorem dL_law_1064 : decode cL_law 1064 = .ok (.aload_n 0, 1) := by decide +kernel
theorem dL_law_1065 : decode cL_law 1065 = .ok (.iload_n 3, 1) := by decide +kernel
theorem dL_law_1066 : decode cL_law 1066 = .ok (.iconst 1, 1) := by decide +kernel
theorem dL_law_1067 : decode cL_law 1067 = .ok (.iadd, 1) := by decide +kernel
theorem dL_law_1068 : decode cL_law 1068 = .ok (.iaload, 1) := by decide +kernel
theorem dL_law_1069 : decode cL_law 1069 = .ok (.invokevirtual 142, 3) := by decide +kernel
theorem dL_law_1072 : decode cL_law 1072 = .ok (.aload_n 2, 1) := by decide +kernel
theorem dL_law_1073 : decode cL_law 1073 = .ok (.aload_n 0, 1) := by decide +kernel
theorem dL_law_1074 : decode cL_law 1074 = .ok (.iload_n 3, 1) := by decide +kernel
theorem dL_law_1075 : decode cL_law 1075 = .ok (.iconst 1, 1) := by decide +kernel
theorem dL_law_1076 : decode cL_law 1076 = .ok (.iadd, 1) := by decide +kernel
theorem dL_law_1077 : decode cL_law 1077 = .ok (.iaload, 1) := by decide +kernel
theorem dL_law_1078 : decode cL_law 1078 = .ok (.invokevirtual 145, 3) := by decide +kernel
theorem dL_law_1081 : decode cL_law 1081 = .ok (.if_icmp .eq 231, 3) := by decide +kernel
theorem dL_law_1084 : decode cL_law 1084 = .ok (.iconst 0, 1) := by decide +kernel
theorem dL_law_1085 : decode cL_law 1085 = .ok (.ireturn, 1) := by decide +kernel
theorem dL_law_1086 : decode cL_law 1086 = .ok (.aload_n 1, 1) := by decide +kernel
theorem dL_law_1087 : decode cL_law 1087 = .ok (.aload_n 0, 1) := by decide +kernel
theorem dL_law_1088 : decode cL_law 1088 = .ok (.iload_n 3, 1) := by decide +kernel
theorem dL_law_1089 : decode cL_law 1089 = .ok (.iconst 1, 1) := by decide +kernel
theorem dL_law_1090 : decode cL_law 1090 = .ok (.iadd, 1) := by decide +kernel
theorem dL_law_1091 : decode cL_law 1091 = .ok (.iaload, 1) := by decide +kernel
theorem dL_law_1092 : decode cL_law 1092 = .ok (.invokevirtual 146, 3) := by decide +kernel
theorem dL_law_1095 : decode cL_law 1095 = .ok (.aload_n 2, 1) := by decide +kernel
theorem dL_law_1096 : decode cL_law 1096 = .ok (.aload_n 0, 1) := by decide +kernel
theorem dL_law_1097 : decode cL_law 1097 = .ok (.iload_n 3, 1) := by decide +kernel
theorem dL_law_1098 : decode cL_law 1098 = .ok (.iconst 1, 1) := by decide +kernel
theorem dL_law_1099 : decode cL_law 1099 = .ok (.iadd, 1) := by decide +kernel
theorem dL_law_1100 : decode cL_law 1100 = .ok (.iaload, 1) := by decide +kernel
theorem dL_law_1101 : decode cL_law 1101 = .ok (.invokevirtual 149, 3) := by decide +kernel
theorem dL_law_1104 : decode cL_law 1104 = .ok (.if_icmp .eq 208, 3) := by decide +kernel
theorem dL_law_1107 : decode cL_law 1107 = .ok (.iconst 0, 1) := by decide +kernel
theorem dL_law_1108 : decode cL_law 1108 = .ok (.ireturn, 1) := by decide +kernel
theorem dL_law_1109 : decode cL_law 1109 = .ok (.aload_n 1, 1) := by decide +kernel
theorem dL_law_1110 : decode cL_law 1110 = .ok (.aload_n 0, 1) := by decide +kernel
theorem dL_law_1111 : decode cL_law 1111 = .ok (.iload_n 3, 1) := by decide +kernel
theorem dL_law_1112 : decode cL_law 1112 = .ok (.iconst 1, 1) := by decide +kernel
theorem dL_law_1113 : decode cL_law 1113 = .ok (.iadd, 1) := by decide +kernel
theorem dL_law_1114 : decode cL_law 1114 = .ok (.iaload, 1) := by decide +kernel
theorem dL_law_1115 : decode cL_law 1115 = .ok (.aload_n 0, 1) := by decide +kernel
theorem dL_law_1116 : decode cL_law 1116 = .ok (.iload_n 3, 1) := by decide +kernel
theorem dL_law_1117 : decode cL_law 1117 = .ok (.iconst 2, 1) := by decide +kernel
theorem dL_law_1118 : decode cL_law 1118 = .ok (.iadd, 1) := by decide +kernel
theorem dL_law_1119 : decode cL_law 1119 = .ok (.iaload, 1) := by decide +kernel
theorem dL_law_1120 : decode cL_law 1120 = .ok (.invokevirtual 150, 3) := by decide +kernel
theorem dL_law_1123 : decode cL_law 1123 = .ok (.aload_n 2, 1) := by decide +kernel
theorem dL_law_1124 : decode cL_law 1124 = .ok (.aload_n 0, 1) := by decide +kernel
theorem dL_law_1125 : decode cL_law 1125 = .ok (.iload_n 3, 1) := by decide +kernel
theorem dL_law_1126 : decode cL_law 1126 = .ok (.iconst 1, 1) := by decide +kernel
theorem dL_law_1127 : decode cL_law 1127 = .ok (.iadd, 1) := by decide +kernel
theorem dL_law_1128 : decode cL_law 1128 = .ok (.iaload, 1) := by decide +kernel
theorem dL_law_1129 : decode cL_law 1129 = .ok (.aload_n 0, 1) := by decide +kernel
theorem dL_law_1130 : decode cL_law 1130 = .ok (.iload_n 3, 1) := by decide +kernel
theorem dL_law_1131 : decode cL_law 1131 = .ok (.iconst 2, 1) := by decide +kernel
theorem dL_law_1132 : decode cL_law 1132 = .ok (.iadd, 1) := by decide +kernel
theorem dL_law_1133 : decode cL_law 1133 = .ok (.iaload, 1) := by decide +kernel
theorem dL_law_1134 : decode cL_law 1134 = .ok (.invokevirtual 153, 3) := by decide +kernel
theorem dL_law_1137 : decode cL_law 1137 = .ok (.if_icmp .eq 175, 3) := by decide +kernel
theorem dL_law_1140 : decode cL_law 1140 = .ok (.iconst 0, 1) := by decide +kernel
theorem dL_law_1141 : decode cL_law 1141 = .ok (.ireturn, 1) := by decide +kernel
theorem dL_law_1142 : decode cL_law 1142 = .ok (.aload_n 1, 1) := by decide +kernel
theorem dL_law_1143 : decode cL_law 1143 = .ok (.aload_n 0, 1) := by decide +kernel
theorem dL_law_1144 : decode cL_law 1144 = .ok (.iload_n 3, 1) := by decide +kernel
theorem dL_law_1145 : decode cL_law 1145 = .ok (.iconst 1, 1) := by decide +kernel
theorem dL_law_1146 : decode cL_law 1146 = .ok (.iadd, 1) := by decide +kernel
theorem dL_law_1147 : decode cL_law 1147 = .ok (.iaload, 1) := by decide +kernel
theorem dL_law_1148 : decode cL_law 1148 = .ok (.invokevirtual 154, 3) := by decide +kernel
theorem dL_law_1151 : decode cL_law 1151 = .ok (.aload_n 2, 1) := by decide +kernel
theorem dL_law_1152 : decode cL_law 1152 = .ok (.aload_n 0, 1) := by decide +kernel
theorem dL_law_1153 : decode cL_law 1153 = .ok (.iload_n 3, 1) := by decide +kernel
theorem dL_law_1154 : decode cL_law 1154 = .ok (.iconst 1, 1) := by decide +kernel
theorem dL_law_1155 : decode cL_law 1155 = .ok (.iadd, 1) := by decide +kernel
theorem dL_law_1156 : decode cL_law 1156 = .ok (.iaload, 1) := by decide +kernel
theorem dL_law_1157 : decode cL_law 1157 = .ok (.invokevirtual 157, 3) := by decide +kernel
theorem dL_law_1160 : decode cL_law 1160 = .ok (.if_icmp .eq 152, 3) := by decide +kernel
theorem dL_law_1163 : decode cL_law 1163 = .ok (.iconst 0, 1) := by decide +kernel
theorem dL_law_1164 : decode cL_law 1164 = .ok (.ireturn, 1) := by decide +kernel
theorem dL_law_1165 : decode cL_law 1165 = .ok (.aload_n 1, 1) := by decide +kernel
theorem dL_law_1166 : decode cL_law 1166 = .ok (.aload_n 0, 1) := by decide +kernel
theorem dL_law_1167 : decode cL_law 1167 = .ok (.iload_n 3, 1) := by decide +kernel
theorem dL_law_1168 : decode cL_law 1168 = .ok (.iconst 1, 1) := by decide +kernel
theorem dL_law_1169 : decode cL_law 1169 = .ok (.iadd, 1) := by decide +kernel
theorem dL_law_1170 : decode cL_law 1170 = .ok (.iaload, 1) := by decide +kernel
theorem dL_law_1171 : decode cL_law 1171 = .ok (.aload_n 0, 1) := by decide +kernel
theorem dL_law_1172 : decode cL_law 1172 = .ok (.iload_n 3, 1) := by decide +kernel
theorem dL_law_1173 : decode cL_law 1173 = .ok (.iconst 2, 1) := by decide +kernel
theorem dL_law_1174 : decode cL_law 1174 = .ok (.iadd, 1) := by decide +kernel
theorem dL_law_1175 : decode cL_law 1175 = .ok (.iaload, 1) := by decide +kernel
theorem dL_law_1176 : decode cL_law 1176 = .ok (.invokevirtual 158, 3) := by decide +kernel
theorem dL_law_1179 : decode cL_law 1179 = .ok (.aload_n 2, 1) := by decide +kernel
theorem dL_law_1180 : decode cL_law 1180 = .ok (.aload_n 0, 1) := by decide +kernel
theorem dL_law_1181 : decode cL_law 1181 = .ok (.iload_n 3, 1) := by decide +kernel
theorem dL_law_1182 : decode cL_law 1182 = .ok (.iconst 1, 1) := by decide +kernel
theorem dL_law_1183 : decode cL_law 1183 = .ok (.iadd, 1) := by decide +kernel
theorem dL_law_1184 : decode cL_law 1184 = .ok (.iaload, 1) := by decide +kernel
theorem dL_law_1185 : decode cL_law 1185 = .ok (.aload_n 0, 1) := by decide +kernel
theorem dL_law_1186 : decode cL_law 1186 = .ok (.iload_n 3, 1) := by decide +kernel
theorem dL_law_1187 : decode cL_law 1187 = .ok (.iconst 2, 1) := by decide +kernel
theorem dL_law_1188 : decode cL_law 1188 = .ok (.iadd, 1) := by decide +kernel
theorem dL_law_1189 : decode cL_law 1189 = .ok (.iaload, 1) := by decide +kernel
theorem dL_law_1190 : decode cL_law 1190 = .ok (.invokevirtual 161, 3) := by decide +kernel
theorem dL_law_1193 : decode cL_law 1193 = .ok (.if_icmp .eq 119, 3) := by decide +kernel
theorem dL_law_1196 : decode cL_law 1196 = .ok (.iconst 0, 1) := by decide +kernel
theorem dL_law_1197 : decode cL_law 1197 = .ok (.ireturn, 1) := by decide +kernel
theorem dL_law_1198 : decode cL_law 1198 = .ok (.aload_n 1, 1) := by decide +kernel
theorem dL_law_1199 : decode cL_law 1199 = .ok (.invokevirtual 162, 3) := by decide +kernel
theorem dL_law_1202 : decode cL_law 1202 = .ok (.aload_n 2, 1) := by decide +kernel
theorem dL_law_1203 : decode cL_law 1203 = .ok (.invokevirtual 165, 3) := by decide +kernel
theorem dL_law_1206 : decode cL_law 1206 = .ok (.if_icmp .eq 106, 3) := by decide +kernel
theorem dL_law_1209 : decode cL_law 1209 = .ok (.iconst 0, 1) := by decide +kernel
theorem dL_law_1210 : decode cL_law 1210 = .ok (.ireturn, 1) := by decide +kernel
theorem dL_law_1211 : decode cL_law 1211 = .ok (.aload_n 1, 1) := by decide +kernel
theorem dL_law_1212 : decode cL_law 1212 = .ok (.invokevirtual 166, 3) := by decide +kernel
theorem dL_law_1215 : decode cL_law 1215 = .ok (.aload_n 2, 1) := by decide +kernel
theorem dL_law_1216 : decode cL_law 1216 = .ok (.invokevirtual 170, 3) := by decide +kernel
theorem dL_law_1219 : decode cL_law 1219 = .ok (.lcmp, 1) := by decide +kernel
theorem dL_law_1220 : decode cL_law 1220 = .ok (.ifCond .eq 92, 3) := by decide +kernel
theorem dL_law_1223 : decode cL_law 1223 = .ok (.iconst 0, 1) := by decide +kernel
theorem dL_law_1224 : decode cL_law 1224 = .ok (.ireturn, 1) := by decide +kernel
theorem dL_law_1225 : decode cL_law 1225 = .ok (.aload_n 1, 1) := by decide +kernel
theorem dL_law_1226 : decode cL_law 1226 = .ok (.invokevirtual 171, 3) := by decide +kernel
theorem dL_law_1229 : decode cL_law 1229 = .ok (.aload_n 2, 1) := by decide +kernel
theorem dL_law_1230 : decode cL_law 1230 = .ok (.invokevirtual 174, 3) := by decide +kernel
theorem dL_law_1233 : decode cL_law 1233 = .ok (.lcmp, 1) := by decide +kernel
theorem dL_law_1234 : decode cL_law 1234 = .ok (.ifCond .eq 78, 3) := by decide +kernel
theorem dL_law_1237 : decode cL_law 1237 = .ok (.iconst 0, 1) := by decide +kernel
theorem dL_law_1238 : decode cL_law 1238 = .ok (.ireturn, 1) := by decide +kernel
theorem dL_law_1239 : decode cL_law 1239 = .ok (.aload_n 1, 1) := by decide +kernel
theorem dL_law_1240 : decode cL_law 1240 = .ok (.aload_n 0, 1) := by decide +kernel
theorem dL_law_1241 : decode cL_law 1241 = .ok (.iload_n 3, 1) := by decide +kernel
theorem dL_law_1242 : decode cL_law 1242 = .ok (.iconst 1, 1) := by decide +kernel
theorem dL_law_1243 : decode cL_law 1243 = .ok (.iadd, 1) := by decide +kernel
theorem dL_law_1244 : decode cL_law 1244 = .ok (.iaload, 1) := by decide +kernel
theorem dL_law_1245 : decode cL_law 1245 = .ok (.invokevirtual 175, 3) := by decide +kernel
theorem dL_law_1248 : decode cL_law 1248 = .ok (.aload_n 2, 1) := by decide +kernel
theorem dL_law_1249 : decode cL_law 1249 = .ok (.aload_n 0, 1) := by decide +kernel
theorem dL_law_1250 : decode cL_law 1250 = .ok (.iload_n 3, 1) := by decide +kernel
theorem dL_law_1251 : decode cL_law 1251 = .ok (.iconst 1, 1) := by decide +kernel
theorem dL_law_1252 : decode cL_law 1252 = .ok (.iadd, 1) := by decide +kernel
theorem dL_law_1253 : decode cL_law 1253 = .ok (.iaload, 1) := by decide +kernel
theorem dL_law_1254 : decode cL_law 1254 = .ok (.invokevirtual 178, 3) := by decide +kernel
theorem dL_law_1257 : decode cL_law 1257 = .ok (.if_icmp .eq 55, 3) := by decide +kernel
theorem dL_law_1260 : decode cL_law 1260 = .ok (.iconst 0, 1) := by decide +kernel
theorem dL_law_1261 : decode cL_law 1261 = .ok (.ireturn, 1) := by decide +kernel
theorem dL_law_1262 : decode cL_law 1262 = .ok (.aload_n 1, 1) := by decide +kernel
theorem dL_law_1263 : decode cL_law 1263 = .ok (.invokevirtual 179, 3) := by decide +kernel
theorem dL_law_1266 : decode cL_law 1266 = .ok (.aload_n 2, 1) := by decide +kernel
theorem dL_law_1267 : decode cL_law 1267 = .ok (.invokevirtual 182, 3) := by decide +kernel
theorem dL_law_1270 : decode cL_law 1270 = .ok (.if_icmp .eq 42, 3) := by decide +kernel
theorem dL_law_1273 : decode cL_law 1273 = .ok (.iconst 0, 1) := by decide +kernel
theorem dL_law_1274 : decode cL_law 1274 = .ok (.ireturn, 1) := by decide +kernel
theorem dL_law_1275 : decode cL_law 1275 = .ok (.aload_n 1, 1) := by decide +kernel
theorem dL_law_1276 : decode cL_law 1276 = .ok (.aload_n 0, 1) := by decide +kernel
theorem dL_law_1277 : decode cL_law 1277 = .ok (.iload_n 3, 1) := by decide +kernel
theorem dL_law_1278 : decode cL_law 1278 = .ok (.iconst 1, 1) := by decide +kernel
theorem dL_law_1279 : decode cL_law 1279 = .ok (.iadd, 1) := by decide +kernel
theorem dL_law_1280 : decode cL_law 1280 = .ok (.iaload, 1) := by decide +kernel
theorem dL_law_1281 : decode cL_law 1281 = .ok (.invokevirtual 183, 3) := by decide +kernel
theorem dL_law_1284 : decode cL_law 1284 = .ok (.aload_n 2, 1) := by decide +kernel
theorem dL_law_1285 : decode cL_law 1285 = .ok (.aload_n 0, 1) := by decide +kernel
theorem dL_law_1286 : decode cL_law 1286 = .ok (.iload_n 3, 1) := by decide +kernel
theorem dL_law_1287 : decode cL_law 1287 = .ok (.iconst 1, 1) := by decide +kernel
theorem dL_law_1288 : decode cL_law 1288 = .ok (.iadd, 1) := by decide +kernel
theorem dL_law_1289 : decode cL_law 1289 = .ok (.iaload, 1) := by decide +kernel
theorem dL_law_1290 : decode cL_law 1290 = .ok (.invokevirtual 186, 3) := by decide +kernel
theorem dL_law_1293 : decode cL_law 1293 = .ok (.if_icmp .eq 19, 3) := by decide +kernel
theorem dL_law_1296 : decode cL_law 1296 = .ok (.iconst 0, 1) := by decide +kernel
theorem dL_law_1297 : decode cL_law 1297 = .ok (.ireturn, 1) := by decide +kernel
theorem dL_law_1298 : decode cL_law 1298 = .ok (.aload_n 1, 1) := by decide +kernel
theorem dL_law_1299 : decode cL_law 1299 = .ok (.invokevirtual 187, 3) := by decide +kernel
theorem dL_law_1302 : decode cL_law 1302 = .ok (.aload_n 2, 1) := by decide +kernel
theorem dL_law_1303 : decode cL_law 1303 = .ok (.invokevirtual 190, 3) := by decide +kernel
theorem dL_law_1306 : decode cL_law 1306 = .ok (.lcmp, 1) := by decide +kernel
theorem dL_law_1307 : decode cL_law 1307 = .ok (.ifCond .eq 5, 3) := by decide +kernel
theorem dL_law_1310 : decode cL_law 1310 = .ok (.iconst 0, 1) := by decide +kernel
theorem dL_law_1311 : decode cL_law 1311 = .ok (.ireturn, 1) := by decide +kernel
theorem dL_law_1312 : decode cL_law 1312 = .ok (.iinc 3 6, 3) := by decide +kernel
theorem dL_law_1315 : decode cL_law 1315 = .ok (.goto (-1297), 3) := by decide +kernel
theorem dL_law_1318 : decode cL_law 1318 = .ok (.iconst 1, 1) := by decide +kernel
theorem dL_law_1319 : decode cL_law 1319 = .ok (.ireturn, 1) := by decide +kernel
