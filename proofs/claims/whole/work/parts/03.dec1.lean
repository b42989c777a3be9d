theorem dX0_init_0 : decode cX0_init 0 = .ok (.aload_n 0, 1) := by decide +kernel
theorem dX0_init_1 : decode cX0_init 1 = .ok (.invokespecial 3, 3) := by decide +kernel
theorem dX0_init_4 : decode cX0_init 4 = .ok (.aload_n 0, 1) := by decide +kernel
theorem dX0_init_5 : decode cX0_init 5 = .ok (.iconst 3, 1) := by decide +kernel
theorem dX0_init_6 : decode cX0_init 6 = .ok (.newarray .int, 2) := by decide +kernel
theorem dX0_init_8 : decode cX0_init 8 = .ok (.putfield 9, 3) := by decide +kernel
theorem dX0_init_11 : decode cX0_init 11 = .ok (.aload_n 0, 1) := by decide +kernel
theorem dX0_init_12 : decode cX0_init 12 = .ok (.bipush 40, 2) := by decide +kernel
theorem dX0_init_14 : decode cX0_init 14 = .ok (.newarray .int, 2) := by decide +kernel
theorem dX0_init_16 : decode cX0_init 16 = .ok (.putfield 15, 3) := by decide +kernel
theorem dX0_init_19 : decode cX0_init 19 = .ok (.aload_n 0, 1) := by decide +kernel
theorem dX0_init_20 : decode cX0_init 20 = .ok (.bipush 40, 2) := by decide +kernel
theorem dX0_init_22 : decode cX0_init 22 = .ok (.newarray .int, 2) := by decide +kernel
theorem dX0_init_24 : decode cX0_init 24 = .ok (.putfield 18, 3) := by decide +kernel
theorem dX0_init_27 : decode cX0_init 27 = .ok (.aload_n 0, 1) := by decide +kernel
theorem dX0_init_28 : decode cX0_init 28 = .ok (.bipush 40, 2) := by decide +kernel
theorem dX0_init_30 : decode cX0_init 30 = .ok (.newarray .int, 2) := by decide +kernel
theorem dX0_init_32 : decode cX0_init 32 = .ok (.putfield 21, 3) := by decide +kernel
theorem dX0_init_35 : decode cX0_init 35 = .ok (.aload_n 0, 1) := by decide +kernel
theorem dX0_init_36 : decode cX0_init 36 = .ok (.bipush 7, 2) := by decide +kernel
theorem dX0_init_38 : decode cX0_init 38 = .ok (.newarray .int, 2) := by decide +kernel
theorem dX0_init_40 : decode cX0_init 40 = .ok (.putfield 24, 3) := by decide +kernel
theorem dX0_init_43 : decode cX0_init 43 = .ok (.aload_n 0, 1) := by decide +kernel
theorem dX0_init_44 : decode cX0_init 44 = .ok (.iconst 0, 1) := by decide +kernel
theorem dX0_init_45 : decode cX0_init 45 = .ok (.putfield 27, 3) := by decide +kernel
theorem dX0_init_48 : decode cX0_init 48 = .ok (.aload_n 0, 1) := by decide +kernel
theorem dX0_init_49 : decode cX0_init 49 = .ok (.iconst 0, 1) := by decide +kernel
theorem dX0_init_50 : decode cX0_init 50 = .ok (.putfield 31, 3) := by decide +kernel
theorem dX0_init_53 : decode cX0_init 53 = .ok (.aload_n 0, 1) := by decide +kernel
theorem dX0_init_54 : decode cX0_init 54 = .ok (.iconst 0, 1) := by decide +kernel
theorem dX0_init_55 : decode cX0_init 55 = .ok (.putfield 34, 3) := by decide +kernel
theorem dX0_init_58 : decode cX0_init 58 = .ok (.aload_n 0, 1) := by decide +kernel
theorem dX0_init_59 : decode cX0_init 59 = .ok (.iconst 0, 1) := by decide +kernel
theorem dX0_init_60 : decode cX0_init 60 = .ok (.putfield 37, 3) := by decide +kernel
theorem dX0_init_63 : decode cX0_init 63 = .ok (.aload_n 0, 1) := by decide +kernel
theorem dX0_init_64 : decode cX0_init 64 = .ok (.iconst 0, 1) := by decide +kernel
theorem dX0_init_65 : decode cX0_init 65 = .ok (.putfield 40, 3) := by decide +kernel
theorem dX0_init_68 : decode cX0_init 68 = .ok (.aload_n 0, 1) := by decide +kernel
theorem dX0_init_69 : decode cX0_init 69 = .ok (.iconst 0, 1) := by decide +kernel
theorem dX0_init_70 : decode cX0_init 70 = .ok (.putfield 43, 3) := by decide +kernel
theorem dX0_init_73 : decode cX0_init 73 = .ok (.aload_n 0, 1) := by decide +kernel
theorem dX0_init_74 : decode cX0_init 74 = .ok (.aload_n 1, 1) := by decide +kernel
theorem dX0_init_75 : decode cX0_init 75 = .ok (.putfield 46, 3) := by decide +kernel
theorem dX0_init_78 : decode cX0_init 78 = .ok (.getstatic 50, 3) := by decide +kernel
theorem dX0_init_81 : decode cX0_init 81 = .ok (.iconst 0, 1) := by decide +kernel
theorem dX0_init_82 : decode cX0_init 82 = .ok (.aload_n 0, 1) := by decide +kernel
theorem dX0_init_83 : decode cX0_init 83 = .ok (.getfield 9, 3) := by decide +kernel
theorem dX0_init_86 : decode cX0_init 86 = .ok (.iconst 0, 1) := by decide +kernel
theorem dX0_init_87 : decode cX0_init 87 = .ok (.iconst 3, 1) := by decide +kernel
theorem dX0_init_88 : decode cX0_init 88 = .ok (.invokestatic 53, 3) := by decide +kernel
theorem dX0_init_91 : decode cX0_init 91 = .ok (.aload_n 0, 1) := by decide +kernel
theorem dX0_init_92 : decode cX0_init 92 = .ok (.getfield 24, 3) := by decide +kernel
theorem dX0_init_95 : decode cX0_init 95 = .ok (.bipush (-9), 2) := by decide +kernel
theorem dX0_init_97 : decode cX0_init 97 = .ok (.invokestatic 59, 3) := by decide +kernel
theorem dX0_init_100 : decode cX0_init 100 = .ok (.return_, 1) := by decide +kernel
theorem dX0_begin_0 : decode cX0_begin 0 = .ok (.getstatic 50, 3) := by decide +kernel
theorem dX0_begin_3 : decode cX0_begin 3 = .ok (.iconst 0, 1) := by decide +kernel
theorem dX0_begin_4 : decode cX0_begin 4 = .ok (.aload_n 0, 1) := by decide +kernel
theorem dX0_begin_5 : decode cX0_begin 5 = .ok (.getfield 9, 3) := by decide +kernel
theorem dX0_begin_8 : decode cX0_begin 8 = .ok (.iconst 0, 1) := by decide +kernel
theorem dX0_begin_9 : decode cX0_begin 9 = .ok (.iconst 3, 1) := by decide +kernel
theorem dX0_begin_10 : decode cX0_begin 10 = .ok (.invokestatic 53, 3) := by decide +kernel
theorem dX0_begin_13 : decode cX0_begin 13 = .ok (.aload_n 0, 1) := by decide +kernel
theorem dX0_begin_14 : decode cX0_begin 14 = .ok (.invokevirtual 65, 3) := by decide +kernel
theorem dX0_begin_17 : decode cX0_begin 17 = .ok (.return_, 1) := by decide +kernel
theorem dX0_rewind_0 : decode cX0_rewind 0 = .ok (.aload_n 0, 1) := by decide +kernel
theorem dX0_rewind_1 : decode cX0_rewind 1 = .ok (.getfield 24, 3) := by decide +kernel
theorem dX0_rewind_4 : decode cX0_rewind 4 = .ok (.bipush (-9), 2) := by decide +kernel
theorem dX0_rewind_6 : decode cX0_rewind 6 = .ok (.invokestatic 59, 3) := by decide +kernel
theorem dX0_rewind_9 : decode cX0_rewind 9 = .ok (.aload_n 0, 1) := by decide +kernel
theorem dX0_rewind_10 : decode cX0_rewind 10 = .ok (.iconst 0, 1) := by decide +kernel
theorem dX0_rewind_11 : decode cX0_rewind 11 = .ok (.putfield 27, 3) := by decide +kernel
theorem dX0_rewind_14 : decode cX0_rewind 14 = .ok (.aload_n 0, 1) := by decide +kernel
theorem dX0_rewind_15 : decode cX0_rewind 15 = .ok (.iconst 0, 1) := by decide +kernel
theorem dX0_rewind_16 : decode cX0_rewind 16 = .ok (.putfield 31, 3) := by decide +kernel
theorem dX0_rewind_19 : decode cX0_rewind 19 = .ok (.aload_n 0, 1) := by decide +kernel
theorem dX0_rewind_20 : decode cX0_rewind 20 = .ok (.iconst 0, 1) := by decide +kernel
theorem dX0_rewind_21 : decode cX0_rewind 21 = .ok (.putfield 34, 3) := by decide +kernel
theorem dX0_rewind_24 : decode cX0_rewind 24 = .ok (.aload_n 0, 1) := by decide +kernel
theorem dX0_rewind_25 : decode cX0_rewind 25 = .ok (.iconst 0, 1) := by decide +kernel
theorem dX0_rewind_26 : decode cX0_rewind 26 = .ok (.putfield 37, 3) := by decide +kernel
theorem dX0_rewind_29 : decode cX0_rewind 29 = .ok (.aload_n 0, 1) := by decide +kernel
theorem dX0_rewind_30 : decode cX0_rewind 30 = .ok (.iconst 0, 1) := by decide +kernel
theorem dX0_rewind_31 : decode cX0_rewind 31 = .ok (.putfield 40, 3) := by decide +kernel
theorem dX0_rewind_34 : decode cX0_rewind 34 = .ok (.aload_n 0, 1) := by decide +kernel
theorem dX0_rewind_35 : decode cX0_rewind 35 = .ok (.iconst 0, 1) := by decide +kernel
theorem dX0_rewind_36 : decode cX0_rewind 36 = .ok (.putfield 43, 3) := by decide +kernel
theorem dX0_rewind_39 : decode cX0_rewind 39 = .ok (.return_, 1) := by decide +kernel
theorem dX0_become_0 : decode cX0_become 0 = .ok (.aload_n 1, 1) := by decide +kernel
theorem dX0_become_1 : decode cX0_become 1 = .ok (.getfield 9, 3) := by decide +kernel
theorem dX0_become_4 : decode cX0_become 4 = .ok (.iconst 0, 1) := by decide +kernel
theorem dX0_become_5 : decode cX0_become 5 = .ok (.aload_n 0, 1) := by decide +kernel
theorem dX0_become_6 : decode cX0_become 6 = .ok (.getfield 9, 3) := by decide +kernel
theorem dX0_become_9 : decode cX0_become 9 = .ok (.iconst 0, 1) := by decide +kernel
theorem dX0_become_10 : decode cX0_become 10 = .ok (.iconst 3, 1) := by decide +kernel
theorem dX0_become_11 : decode cX0_become 11 = .ok (.invokestatic 53, 3) := by decide +kernel
theorem dX0_become_14 : decode cX0_become 14 = .ok (.aload_n 1, 1) := by decide +kernel
theorem dX0_become_15 : decode cX0_become 15 = .ok (.getfield 15, 3) := by decide +kernel
theorem dX0_become_18 : decode cX0_become 18 = .ok (.iconst 0, 1) := by decide +kernel
theorem dX0_become_19 : decode cX0_become 19 = .ok (.aload_n 0, 1) := by decide +kernel
theorem dX0_become_20 : decode cX0_become 20 = .ok (.getfield 15, 3) := by decide +kernel
theorem dX0_become_23 : decode cX0_become 23 = .ok (.iconst 0, 1) := by decide +kernel
theorem dX0_become_24 : decode cX0_become 24 = .ok (.bipush 40, 2) := by decide +kernel
theorem dX0_become_26 : decode cX0_become 26 = .ok (.invokestatic 53, 3) := by decide +kernel
theorem dX0_become_29 : decode cX0_become 29 = .ok (.aload_n 1, 1) := by decide +kernel
theorem dX0_become_30 : decode cX0_become 30 = .ok (.getfield 18, 3) := by decide +kernel
theorem dX0_become_33 : decode cX0_become 33 = .ok (.iconst 0, 1) := by decide +kernel
theorem dX0_become_34 : decode cX0_become 34 = .ok (.aload_n 0, 1) := by decide +kernel
theorem dX0_become_35 : decode cX0_become 35 = .ok (.getfield 18, 3) := by decide +kernel
theorem dX0_become_38 : decode cX0_become 38 = .ok (.iconst 0, 1) := by decide +kernel
theorem dX0_become_39 : decode cX0_become 39 = .ok (.bipush 40, 2) := by decide +kernel
theorem dX0_become_41 : decode cX0_become 41 = .ok (.invokestatic 53, 3) := by decide +kernel
theorem dX0_become_44 : decode cX0_become 44 = .ok (.aload_n 1, 1) := by decide +kernel
theorem dX0_become_45 : decode cX0_become 45 = .ok (.getfield 21, 3) := by decide +kernel
theorem dX0_become_48 : decode cX0_become 48 = .ok (.iconst 0, 1) := by decide +kernel
theorem dX0_become_49 : decode cX0_become 49 = .ok (.aload_n 0, 1) := by decide +kernel
theorem dX0_become_50 : decode cX0_become 50 = .ok (.getfield 21, 3) := by decide +kernel
theorem dX0_become_53 : decode cX0_become 53 = .ok (.iconst 0, 1) := by decide +kernel
theorem dX0_become_54 : decode cX0_become 54 = .ok (.bipush 40, 2) := by decide +kernel
theorem dX0_become_56 : decode cX0_become 56 = .ok (.invokestatic 53, 3) := by decide +kernel
theorem dX0_become_59 : decode cX0_become 59 = .ok (.aload_n 1, 1) := by decide +kernel
theorem dX0_become_60 : decode cX0_become 60 = .ok (.getfield 24, 3) := by decide +kernel
theorem dX0_become_63 : decode cX0_become 63 = .ok (.iconst 0, 1) := by decide +kernel
theorem dX0_become_64 : decode cX0_become 64 = .ok (.aload_n 0, 1) := by decide +kernel
theorem dX0_become_65 : decode cX0_become 65 = .ok (.getfield 24, 3) := by decide +kernel
theorem dX0_become_68 : decode cX0_become 68 = .ok (.iconst 0, 1) := by decide +kernel
theorem dX0_become_69 : decode cX0_become 69 = .ok (.bipush 7, 2) := by decide +kernel
theorem dX0_become_71 : decode cX0_become 71 = .ok (.invokestatic 53, 3) := by decide +kernel
theorem dX0_become_74 : decode cX0_become 74 = .ok (.aload_n 0, 1) := by decide +kernel
theorem dX0_become_75 : decode cX0_become 75 = .ok (.aload_n 1, 1) := by decide +kernel
theorem dX0_become_76 : decode cX0_become 76 = .ok (.getfield 27, 3) := by decide +kernel
theorem dX0_become_79 : decode cX0_become 79 = .ok (.putfield 27, 3) := by decide +kernel
theorem dX0_become_82 : decode cX0_become 82 = .ok (.aload_n 0, 1) := by decide +kernel
theorem dX0_become_83 : decode cX0_become 83 = .ok (.aload_n 1, 1) := by decide +kernel
theorem dX0_become_84 : decode cX0_become 84 = .ok (.getfield 31, 3) := by decide +kernel
theorem dX0_become_87 : decode cX0_become 87 = .ok (.putfield 31, 3) := by decide +kernel
theorem dX0_become_90 : decode cX0_become 90 = .ok (.aload_n 0, 1) := by decide +kernel
theorem dX0_become_91 : decode cX0_become 91 = .ok (.aload_n 1, 1) := by decide +kernel
theorem dX0_become_92 : decode cX0_become 92 = .ok (.getfield 34, 3) := by decide +kernel
theorem dX0_become_95 : decode cX0_become 95 = .ok (.putfield 34, 3) := by decide +kernel
theorem dX0_become_98 : decode cX0_become 98 = .ok (.aload_n 0, 1) := by decide +kernel
theorem dX0_become_99 : decode cX0_become 99 = .ok (.aload_n 1, 1) := by decide +kernel
theorem dX0_become_100 : decode cX0_become 100 = .ok (.getfield 37, 3) := by decide +kernel
theorem dX0_become_103 : decode cX0_become 103 = .ok (.putfield 37, 3) := by decide +kernel
theorem dX0_become_106 : decode cX0_become 106 = .ok (.aload_n 0, 1) := by decide +kernel
theorem dX0_become_107 : decode cX0_become 107 = .ok (.aload_n 1, 1) := by decide +kernel
theorem dX0_become_108 : decode cX0_become 108 = .ok (.getfield 40, 3) := by decide +kernel
theorem dX0_become_111 : decode cX0_become 111 = .ok (.putfield 40, 3) := by decide +kernel
theorem dX0_become_114 : decode cX0_become 114 = .ok (.aload_n 0, 1) := by decide +kernel
theorem dX0_become_115 : decode cX0_become 115 = .ok (.aload_n 1, 1) := by decide +kernel
theorem dX0_become_116 : decode cX0_become 116 = .ok (.getfield 43, 3) := by decide +kernel
theorem dX0_become_119 : decode cX0_become 119 = .ok (.putfield 43, 3) := by decide +kernel
theorem dX0_become_122 : decode cX0_become 122 = .ok (.return_, 1) := by decide +kernel
theorem dX0_isFull_0 : decode cX0_isFull 0 = .ok (.aload_n 0, 1) := by decide +kernel
theorem dX0_isFull_1 : decode cX0_isFull 1 = .ok (.getfield 27, 3) := by decide +kernel
theorem dX0_isFull_4 : decode cX0_isFull 4 = .ok (.bipush 40, 2) := by decide +kernel
theorem dX0_isFull_6 : decode cX0_isFull 6 = .ok (.if_icmp .lt 7, 3) := by decide +kernel
theorem dX0_isFull_9 : decode cX0_isFull 9 = .ok (.iconst 1, 1) := by decide +kernel
theorem dX0_isFull_10 : decode cX0_isFull 10 = .ok (.goto 4, 3) := by decide +kernel
theorem dX0_isFull_13 : decode cX0_isFull 13 = .ok (.iconst 0, 1) := by decide +kernel
theorem dX0_isFull_14 : decode cX0_isFull 14 = .ok (.ireturn, 1) := by decide +kernel
theorem dX0_take_0 : decode cX0_take 0 = .ok (.aload_n 0, 1) := by decide +kernel
theorem dX0_take_1 : decode cX0_take 1 = .ok (.invokevirtual 68, 3) := by decide +kernel
theorem dX0_take_4 : decode cX0_take 4 = .ok (.ifCond .eq 4, 3) := by decide +kernel
theorem dX0_take_7 : decode cX0_take 7 = .ok (.return_, 1) := by decide +kernel
theorem dX0_take_8 : decode cX0_take 8 = .ok (.aload_n 0, 1) := by decide +kernel
theorem dX0_take_9 : decode cX0_take 9 = .ok (.getfield 15, 3) := by decide +kernel
theorem dX0_take_12 : decode cX0_take 12 = .ok (.aload_n 0, 1) := by decide +kernel
theorem dX0_take_13 : decode cX0_take 13 = .ok (.getfield 27, 3) := by decide +kernel
theorem dX0_take_16 : decode cX0_take 16 = .ok (.iload_n 1, 1) := by decide +kernel
theorem dX0_take_17 : decode cX0_take 17 = .ok (.iastore, 1) := by decide +kernel
theorem dX0_take_18 : decode cX0_take 18 = .ok (.aload_n 0, 1) := by decide +kernel
theorem dX0_take_19 : decode cX0_take 19 = .ok (.getfield 18, 3) := by decide +kernel
theorem dX0_take_22 : decode cX0_take 22 = .ok (.aload_n 0, 1) := by decide +kernel
theorem dX0_take_23 : decode cX0_take 23 = .ok (.getfield 27, 3) := by decide +kernel
theorem dX0_take_26 : decode cX0_take 26 = .ok (.iload_n 2, 1) := by decide +kernel
theorem dX0_take_27 : decode cX0_take 27 = .ok (.iastore, 1) := by decide +kernel
theorem dX0_take_28 : decode cX0_take 28 = .ok (.aload_n 0, 1) := by decide +kernel
theorem dX0_take_29 : decode cX0_take 29 = .ok (.getfield 21, 3) := by decide +kernel
theorem dX0_take_32 : decode cX0_take 32 = .ok (.aload_n 0, 1) := by decide +kernel
theorem dX0_take_33 : decode cX0_take 33 = .ok (.getfield 27, 3) := by decide +kernel
theorem dX0_take_36 : decode cX0_take 36 = .ok (.iload_n 3, 1) := by decide +kernel
theorem dX0_take_37 : decode cX0_take 37 = .ok (.iastore, 1) := by decide +kernel
theorem dX0_take_38 : decode cX0_take 38 = .ok (.aload_n 0, 1) := by decide +kernel
theorem dX0_take_39 : decode cX0_take 39 = .ok (.dup, 1) := by decide +kernel
theorem dX0_take_40 : decode cX0_take 40 = .ok (.getfield 27, 3) := by decide +kernel
theorem dX0_take_43 : decode cX0_take 43 = .ok (.iconst 1, 1) := by decide +kernel
theorem dX0_take_44 : decode cX0_take 44 = .ok (.iadd, 1) := by decide +kernel
theorem dX0_take_45 : decode cX0_take 45 = .ok (.putfield 27, 3) := by decide +kernel
theorem dX0_take_48 : decode cX0_take 48 = .ok (.iload_n 1, 1) := by decide +kernel
theorem dX0_take_49 : decode cX0_take 49 = .ok (.ifCond .ne 16, 3) := by decide +kernel
theorem dX0_take_52 : decode cX0_take 52 = .ok (.aload_n 0, 1) := by decide +kernel
theorem dX0_take_53 : decode cX0_take 53 = .ok (.dup, 1) := by decide +kernel
theorem dX0_take_54 : decode cX0_take 54 = .ok (.getfield 31, 3) := by decide +kernel
theorem dX0_take_57 : decode cX0_take 57 = .ok (.iconst 1, 1) := by decide +kernel
theorem dX0_take_58 : decode cX0_take 58 = .ok (.iadd, 1) := by decide +kernel
theorem dX0_take_59 : decode cX0_take 59 = .ok (.putfield 31, 3) := by decide +kernel
theorem dX0_take_62 : decode cX0_take 62 = .ok (.goto 29, 3) := by decide +kernel
theorem dX0_take_65 : decode cX0_take 65 = .ok (.iload_n 1, 1) := by decide +kernel
theorem dX0_take_66 : decode cX0_take 66 = .ok (.iconst 2, 1) := by decide +kernel
theorem dX0_take_67 : decode cX0_take 67 = .ok (.if_icmp .ne 18, 3) := by decide +kernel
theorem dX0_take_70 : decode cX0_take 70 = .ok (.aload_n 0, 1) := by decide +kernel
theorem dX0_take_71 : decode cX0_take 71 = .ok (.dup, 1) := by decide +kernel
theorem dX0_take_72 : decode cX0_take 72 = .ok (.getfield 37, 3) := by decide +kernel
theorem dX0_take_75 : decode cX0_take 75 = .ok (.iconst 1, 1) := by decide +kernel
theorem dX0_take_76 : decode cX0_take 76 = .ok (.iload_n 2, 1) := by decide +kernel
theorem dX0_take_77 : decode cX0_take 77 = .ok (.ishl, 1) := by decide +kernel
theorem dX0_take_78 : decode cX0_take 78 = .ok (.ior, 1) := by decide +kernel
theorem dX0_take_79 : decode cX0_take 79 = .ok (.putfield 37, 3) := by decide +kernel
theorem dX0_take_82 : decode cX0_take 82 = .ok (.goto 9, 3) := by decide +kernel
theorem dX0_take_85 : decode cX0_take 85 = .ok (.aload_n 0, 1) := by decide +kernel
theorem dX0_take_86 : decode cX0_take 86 = .ok (.iload_n 2, 1) := by decide +kernel
theorem dX0_take_87 : decode cX0_take 87 = .ok (.iload_n 3, 1) := by decide +kernel
theorem dX0_take_88 : decode cX0_take 88 = .ok (.invokevirtual 72, 3) := by decide +kernel
theorem dX0_take_91 : decode cX0_take 91 = .ok (.return_, 1) := by decide +kernel
theorem dX0_live_0 : decode cX0_live 0 = .ok (.aload_n 0, 1) := by decide +kernel
theorem dX0_live_1 : decode cX0_live 1 = .ok (.dup, 1) := by decide +kernel
theorem dX0_live_2 : decode cX0_live 2 = .ok (.getfield 34, 3) := by decide +kernel
theorem dX0_live_5 : decode cX0_live 5 = .ok (.iconst 1, 1) := by decide +kernel
theorem dX0_live_6 : decode cX0_live 6 = .ok (.iload_n 1, 1) := by decide +kernel
theorem dX0_live_7 : decode cX0_live 7 = .ok (.ishl, 1) := by decide +kernel
theorem dX0_live_8 : decode cX0_live 8 = .ok (.ior, 1) := by decide +kernel
theorem dX0_live_9 : decode cX0_live 9 = .ok (.putfield 34, 3) := by decide +kernel
theorem dX0_live_12 : decode cX0_live 12 = .ok (.aload_n 0, 1) := by decide +kernel
theorem dX0_live_13 : decode cX0_live 13 = .ok (.dup, 1) := by decide +kernel
theorem dX0_live_14 : decode cX0_live 14 = .ok (.getfield 43, 3) := by decide +kernel
theorem dX0_live_17 : decode cX0_live 17 = .ok (.iconst 1, 1) := by decide +kernel
theorem dX0_live_18 : decode cX0_live 18 = .ok (.iadd, 1) := by decide +kernel
theorem dX0_live_19 : decode cX0_live 19 = .ok (.putfield 43, 3) := by decide +kernel
theorem dX0_live_22 : decode cX0_live 22 = .ok (.aload_n 0, 1) := by decide +kernel
theorem dX0_live_23 : decode cX0_live 23 = .ok (.getfield 46, 3) := by decide +kernel
theorem dX0_live_26 : decode cX0_live 26 = .ok (.iload_n 2, 1) := by decide +kernel
theorem dX0_live_27 : decode cX0_live 27 = .ok (.invokevirtual 76, 3) := by decide +kernel
theorem dX0_live_30 : decode cX0_live 30 = .ok (.ifCond .eq 14, 3) := by decide +kernel
theorem dX0_live_33 : decode cX0_live 33 = .ok (.aload_n 0, 1) := by decide +kernel
theorem dX0_live_34 : decode cX0_live 34 = .ok (.getfield 46, 3) := by decide +kernel
theorem dX0_live_37 : decode cX0_live 37 = .ok (.iload_n 1, 1) := by decide +kernel
theorem dX0_live_38 : decode cX0_live 38 = .ok (.invokevirtual 82, 3) := by decide +kernel
theorem dX0_live_41 : decode cX0_live 41 = .ok (.ifCond .ne 4, 3) := by decide +kernel
theorem dX0_live_44 : decode cX0_live 44 = .ok (.return_, 1) := by decide +kernel
theorem dX0_live_45 : decode cX0_live 45 = .ok (.aload_n 0, 1) := by decide +kernel
theorem dX0_live_46 : decode cX0_live 46 = .ok (.getfield 24, 3) := by decide +kernel
theorem dX0_live_49 : decode cX0_live 49 = .ok (.iload_n 1, 1) := by decide +kernel
theorem dX0_live_50 : decode cX0_live 50 = .ok (.iload_n 2, 1) := by decide +kernel
theorem dX0_live_51 : decode cX0_live 51 = .ok (.iastore, 1) := by decide +kernel
theorem dX0_live_52 : decode cX0_live 52 = .ok (.aload_n 0, 1) := by decide +kernel
theorem dX0_live_53 : decode cX0_live 53 = .ok (.dup, 1) := by decide +kernel
theorem dX0_live_54 : decode cX0_live 54 = .ok (.getfield 40, 3) := by decide +kernel
theorem dX0_live_57 : decode cX0_live 57 = .ok (.iconst 1, 1) := by decide +kernel
theorem dX0_live_58 : decode cX0_live 58 = .ok (.iload_n 2, 1) := by decide +kernel
theorem dX0_live_59 : decode cX0_live 59 = .ok (.ishl, 1) := by decide +kernel
theorem dX0_live_60 : decode cX0_live 60 = .ok (.ior, 1) := by decide +kernel
theorem dX0_live_61 : decode cX0_live 61 = .ok (.putfield 40, 3) := by decide +kernel
theorem dX0_live_64 : decode cX0_live 64 = .ok (.aload_n 0, 1) := by decide +kernel
theorem dX0_live_65 : decode cX0_live 65 = .ok (.getfield 46, 3) := by decide +kernel
theorem dX0_live_68 : decode cX0_live 68 = .ok (.iload_n 2, 1) := by decide +kernel
theorem dX0_live_69 : decode cX0_live 69 = .ok (.iconst 1, 1) := by decide +kernel
theorem dX0_live_70 : decode cX0_live 70 = .ok (.invokevirtual 85, 3) := by decide +kernel
theorem dX0_live_73 : decode cX0_live 73 = .ok (.ifCond .eq 8, 3) := by decide +kernel
theorem dX0_live_76 : decode cX0_live 76 = .ok (.aload_n 0, 1) := by decide +kernel
theorem dX0_live_77 : decode cX0_live 77 = .ok (.iconst 0, 1) := by decide +kernel
theorem dX0_live_78 : decode cX0_live 78 = .ok (.putfield 43, 3) := by decide +kernel
theorem dX0_live_81 : decode cX0_live 81 = .ok (.return_, 1) := by decide +kernel
theorem dX0_goBackTo_0 : decode cX0_goBackTo 0 = .ok (.aload_n 0, 1) := by decide +kernel
theorem dX0_goBackTo_1 : decode cX0_goBackTo 1 = .ok (.getfield 27, 3) := by decide +kernel
theorem dX0_goBackTo_4 : decode cX0_goBackTo 4 = .ok (.iload_n 1, 1) := by decide +kernel
theorem dX0_goBackTo_5 : decode cX0_goBackTo 5 = .ok (.isub, 1) := by decide +kernel
theorem dX0_goBackTo_6 : decode cX0_goBackTo 6 = .ok (.istore_n 2, 1) := by decide +kernel
theorem dX0_goBackTo_7 : decode cX0_goBackTo 7 = .ok (.aload_n 0, 1) := by decide +kernel
theorem dX0_goBackTo_8 : decode cX0_goBackTo 8 = .ok (.invokevirtual 65, 3) := by decide +kernel
theorem dX0_goBackTo_11 : decode cX0_goBackTo 11 = .ok (.iconst 0, 1) := by decide +kernel
theorem dX0_goBackTo_12 : decode cX0_goBackTo 12 = .ok (.istore_n 3, 1) := by decide +kernel
theorem dX0_goBackTo_13 : decode cX0_goBackTo 13 = .ok (.iload_n 3, 1) := by decide +kernel
theorem dX0_goBackTo_14 : decode cX0_goBackTo 14 = .ok (.iload_n 1, 1) := by decide +kernel
theorem dX0_goBackTo_15 : decode cX0_goBackTo 15 = .ok (.if_icmp .ge 37, 3) := by decide +kernel
theorem dX0_goBackTo_18 : decode cX0_goBackTo 18 = .ok (.iload_n 3, 1) := by decide +kernel
theorem dX0_goBackTo_19 : decode cX0_goBackTo 19 = .ok (.bipush 40, 2) := by decide +kernel
theorem dX0_goBackTo_21 : decode cX0_goBackTo 21 = .ok (.if_icmp .ge 31, 3) := by decide +kernel
theorem dX0_goBackTo_24 : decode cX0_goBackTo 24 = .ok (.aload_n 0, 1) := by decide +kernel
theorem dX0_goBackTo_25 : decode cX0_goBackTo 25 = .ok (.aload_n 0, 1) := by decide +kernel
theorem dX0_goBackTo_26 : decode cX0_goBackTo 26 = .ok (.getfield 15, 3) := by decide +kernel
theorem dX0_goBackTo_29 : decode cX0_goBackTo 29 = .ok (.iload_n 3, 1) := by decide +kernel
theorem dX0_goBackTo_30 : decode cX0_goBackTo 30 = .ok (.iaload, 1) := by decide +kernel
theorem dX0_goBackTo_31 : decode cX0_goBackTo 31 = .ok (.aload_n 0, 1) := by decide +kernel
theorem dX0_goBackTo_32 : decode cX0_goBackTo 32 = .ok (.getfield 18, 3) := by decide +kernel
theorem dX0_goBackTo_35 : decode cX0_goBackTo 35 = .ok (.iload_n 3, 1) := by decide +kernel
theorem dX0_goBackTo_36 : decode cX0_goBackTo 36 = .ok (.iaload, 1) := by decide +kernel
theorem dX0_goBackTo_37 : decode cX0_goBackTo 37 = .ok (.aload_n 0, 1) := by decide +kernel
theorem dX0_goBackTo_38 : decode cX0_goBackTo 38 = .ok (.getfield 21, 3) := by decide +kernel
theorem dX0_goBackTo_41 : decode cX0_goBackTo 41 = .ok (.iload_n 3, 1) := by decide +kernel
theorem dX0_goBackTo_42 : decode cX0_goBackTo 42 = .ok (.iaload, 1) := by decide +kernel
theorem dX0_goBackTo_43 : decode cX0_goBackTo 43 = .ok (.invokevirtual 89, 3) := by decide +kernel
theorem dX0_goBackTo_46 : decode cX0_goBackTo 46 = .ok (.iinc 3 1, 3) := by decide +kernel
theorem dX0_goBackTo_49 : decode cX0_goBackTo 49 = .ok (.goto (-36), 3) := by decide +kernel
theorem dX0_goBackTo_52 : decode cX0_goBackTo 52 = .ok (.iload_n 2, 1) := by decide +kernel
theorem dX0_goBackTo_53 : decode cX0_goBackTo 53 = .ok (.ireturn, 1) := by decide +kernel
theorem dX0_comingDay_0 : decode cX0_comingDay 0 = .ok (.aload_n 0, 1) := by decide +kernel
theorem dX0_comingDay_1 : decode cX0_comingDay 1 = .ok (.getfield 46, 3) := by decide +kernel
theorem dX0_comingDay_4 : decode cX0_comingDay 4 = .ok (.getfield 93, 3) := by decide +kernel
theorem dX0_comingDay_7 : decode cX0_comingDay 7 = .ok (.iload_n 1, 1) := by decide +kernel
theorem dX0_comingDay_8 : decode cX0_comingDay 8 = .ok (.iaload, 1) := by decide +kernel
theorem dX0_comingDay_9 : decode cX0_comingDay 9 = .ok (.aload_n 0, 1) := by decide +kernel
theorem dX0_comingDay_10 : decode cX0_comingDay 10 = .ok (.getfield 9, 3) := by decide +kernel
theorem dX0_comingDay_13 : decode cX0_comingDay 13 = .ok (.aload_n 0, 1) := by decide +kernel
theorem dX0_comingDay_14 : decode cX0_comingDay 14 = .ok (.getfield 46, 3) := by decide +kernel
theorem dX0_comingDay_17 : decode cX0_comingDay 17 = .ok (.getfield 96, 3) := by decide +kernel
theorem dX0_comingDay_20 : decode cX0_comingDay 20 = .ok (.iload_n 1, 1) := by decide +kernel
theorem dX0_comingDay_21 : decode cX0_comingDay 21 = .ok (.iaload, 1) := by decide +kernel
theorem dX0_comingDay_22 : decode cX0_comingDay 22 = .ok (.iaload, 1) := by decide +kernel
theorem dX0_comingDay_23 : decode cX0_comingDay 23 = .ok (.iadd, 1) := by decide +kernel
theorem dX0_comingDay_24 : decode cX0_comingDay 24 = .ok (.ireturn, 1) := by decide +kernel
theorem dX0_comeBits_0 : decode cX0_comeBits 0 = .ok (.iconst 0, 1) := by decide +kernel
theorem dX0_comeBits_1 : decode cX0_comeBits 1 = .ok (.istore_n 2, 1) := by decide +kernel
theorem dX0_comeBits_2 : decode cX0_comeBits 2 = .ok (.iconst 0, 1) := by decide +kernel
theorem dX0_comeBits_3 : decode cX0_comeBits 3 = .ok (.istore_n 3, 1) := by decide +kernel
theorem dX0_comeBits_4 : decode cX0_comeBits 4 = .ok (.iload_n 3, 1) := by decide +kernel
theorem dX0_comeBits_5 : decode cX0_comeBits 5 = .ok (.aload_n 0, 1) := by decide +kernel
theorem dX0_comeBits_6 : decode cX0_comeBits 6 = .ok (.getfield 46, 3) := by decide +kernel
theorem dX0_comeBits_9 : decode cX0_comeBits 9 = .ok (.getfield 99, 3) := by decide +kernel
theorem dX0_comeBits_12 : decode cX0_comeBits 12 = .ok (.if_icmp .ge 28, 3) := by decide +kernel
theorem dX0_comeBits_15 : decode cX0_comeBits 15 = .ok (.iload_n 2, 1) := by decide +kernel
theorem dX0_comeBits_16 : decode cX0_comeBits 16 = .ok (.aload_n 0, 1) := by decide +kernel
theorem dX0_comeBits_17 : decode cX0_comeBits 17 = .ok (.iload_n 3, 1) := by decide +kernel
theorem dX0_comeBits_18 : decode cX0_comeBits 18 = .ok (.invokevirtual 102, 3) := by decide +kernel
theorem dX0_comeBits_21 : decode cX0_comeBits 21 = .ok (.iload_n 1, 1) := by decide +kernel
theorem dX0_comeBits_22 : decode cX0_comeBits 22 = .ok (.if_icmp .gt 9, 3) := by decide +kernel
theorem dX0_comeBits_25 : decode cX0_comeBits 25 = .ok (.iconst 1, 1) := by decide +kernel
theorem dX0_comeBits_26 : decode cX0_comeBits 26 = .ok (.iload_n 3, 1) := by decide +kernel
theorem dX0_comeBits_27 : decode cX0_comeBits 27 = .ok (.ishl, 1) := by decide +kernel
theorem dX0_comeBits_28 : decode cX0_comeBits 28 = .ok (.goto 4, 3) := by decide +kernel
theorem dX0_comeBits_31 : decode cX0_comeBits 31 = .ok (.iconst 0, 1) := by decide +kernel
theorem dX0_comeBits_32 : decode cX0_comeBits 32 = .ok (.ior, 1) := by decide +kernel
theorem dX0_comeBits_33 : decode cX0_comeBits 33 = .ok (.istore_n 2, 1) := by decide +kernel
theorem dX0_comeBits_34 : decode cX0_comeBits 34 = .ok (.iinc 3 1, 3) := by decide +kernel
theorem dX0_comeBits_37 : decode cX0_comeBits 37 = .ok (.goto (-33), 3) := by decide +kernel
theorem dX0_comeBits_40 : decode cX0_comeBits 40 = .ok (.iload_n 2, 1) := by decide +kernel
theorem dX0_comeBits_41 : decode cX0_comeBits 41 = .ok (.ireturn, 1) := by decide +kernel
theorem dX0_shelfBits_0 : decode cX0_shelfBits 0 = .ok (.aload_n 0, 1) := by decide +kernel
theorem dX0_shelfBits_1 : decode cX0_shelfBits 1 = .ok (.aload_n 0, 1) := by decide +kernel
theorem dX0_shelfBits_2 : decode cX0_shelfBits 2 = .ok (.getfield 31, 3) := by decide +kernel
theorem dX0_shelfBits_5 : decode cX0_shelfBits 5 = .ok (.invokevirtual 106, 3) := by decide +kernel
theorem dX0_shelfBits_8 : decode cX0_shelfBits 8 = .ok (.aload_n 0, 1) := by decide +kernel
theorem dX0_shelfBits_9 : decode cX0_shelfBits 9 = .ok (.invokevirtual 109, 3) := by decide +kernel
theorem dX0_shelfBits_12 : decode cX0_shelfBits 12 = .ok (.iand, 1) := by decide +kernel
theorem dX0_shelfBits_13 : decode cX0_shelfBits 13 = .ok (.ireturn, 1) := by decide +kernel
theorem dX0_unopenedBits_0 : decode cX0_unopenedBits 0 = .ok (.iconst 1, 1) := by decide +kernel
theorem dX0_unopenedBits_1 : decode cX0_unopenedBits 1 = .ok (.aload_n 0, 1) := by decide +kernel
theorem dX0_unopenedBits_2 : decode cX0_unopenedBits 2 = .ok (.getfield 46, 3) := by decide +kernel
theorem dX0_unopenedBits_5 : decode cX0_unopenedBits 5 = .ok (.getfield 99, 3) := by decide +kernel
theorem dX0_unopenedBits_8 : decode cX0_unopenedBits 8 = .ok (.ishl, 1) := by decide +kernel
theorem dX0_unopenedBits_9 : decode cX0_unopenedBits 9 = .ok (.iconst 1, 1) := by decide +kernel
theorem dX0_unopenedBits_10 : decode cX0_unopenedBits 10 = .ok (.isub, 1) := by decide +kernel
theorem dX0_unopenedBits_11 : decode cX0_unopenedBits 11 = .ok (.aload_n 0, 1) := by decide +kernel
theorem dX0_unopenedBits_12 : decode cX0_unopenedBits 12 = .ok (.getfield 34, 3) := by decide +kernel
theorem dX0_unopenedBits_15 : decode cX0_unopenedBits 15 = .ok (.aload_n 0, 1) := by decide +kernel
theorem dX0_unopenedBits_16 : decode cX0_unopenedBits 16 = .ok (.getfield 37, 3) := by decide +kernel
theorem dX0_unopenedBits_19 : decode cX0_unopenedBits 19 = .ok (.ior, 1) := by decide +kernel
theorem dX0_unopenedBits_20 : decode cX0_unopenedBits 20 = .ok (.iconst (-1), 1) := by decide +kernel
theorem dX0_unopenedBits_21 : decode cX0_unopenedBits 21 = .ok (.ixor, 1) := by decide +kernel
theorem dX0_unopenedBits_22 : decode cX0_unopenedBits 22 = .ok (.iand, 1) := by decide +kernel
theorem dX0_unopenedBits_23 : decode cX0_unopenedBits 23 = .ok (.ireturn, 1) := by decide +kernel
theorem dX0_dayOfAll_0 : decode cX0_dayOfAll 0 = .ok (.aload_n 0, 1) := by decide +kernel
theorem dX0_dayOfAll_1 : decode cX0_dayOfAll 1 = .ok (.getfield 31, 3) := by decide +kernel
theorem dX0_dayOfAll_4 : decode cX0_dayOfAll 4 = .ok (.istore_n 2, 1) := by decide +kernel
theorem dX0_dayOfAll_5 : decode cX0_dayOfAll 5 = .ok (.iconst 0, 1) := by decide +kernel
theorem dX0_dayOfAll_6 : decode cX0_dayOfAll 6 = .ok (.istore_n 3, 1) := by decide +kernel
theorem dX0_dayOfAll_7 : decode cX0_dayOfAll 7 = .ok (.iload_n 3, 1) := by decide +kernel
theorem dX0_dayOfAll_8 : decode cX0_dayOfAll 8 = .ok (.aload_n 0, 1) := by decide +kernel
theorem dX0_dayOfAll_9 : decode cX0_dayOfAll 9 = .ok (.getfield 46, 3) := by decide +kernel
theorem dX0_dayOfAll_12 : decode cX0_dayOfAll 12 = .ok (.getfield 99, 3) := by decide +kernel
theorem dX0_dayOfAll_15 : decode cX0_dayOfAll 15 = .ok (.if_icmp .ge 31, 3) := by decide +kernel
theorem dX0_dayOfAll_18 : decode cX0_dayOfAll 18 = .ok (.iload_n 1, 1) := by decide +kernel
theorem dX0_dayOfAll_19 : decode cX0_dayOfAll 19 = .ok (.iload_n 3, 1) := by decide +kernel
theorem dX0_dayOfAll_20 : decode cX0_dayOfAll 20 = .ok (.invokestatic 113, 3) := by decide +kernel
theorem dX0_dayOfAll_23 : decode cX0_dayOfAll 23 = .ok (.ifCond .eq 15, 3) := by decide +kernel
theorem dX0_dayOfAll_26 : decode cX0_dayOfAll 26 = .ok (.iload_n 2, 1) := by decide +kernel
theorem dX0_dayOfAll_27 : decode cX0_dayOfAll 27 = .ok (.aload_n 0, 1) := by decide +kernel
theorem dX0_dayOfAll_28 : decode cX0_dayOfAll 28 = .ok (.iload_n 3, 1) := by decide +kernel
theorem dX0_dayOfAll_29 : decode cX0_dayOfAll 29 = .ok (.invokevirtual 102, 3) := by decide +kernel
theorem dX0_dayOfAll_32 : decode cX0_dayOfAll 32 = .ok (.invokestatic 116, 3) := by decide +kernel
theorem dX0_dayOfAll_35 : decode cX0_dayOfAll 35 = .ok (.goto 4, 3) := by decide +kernel
theorem dX0_dayOfAll_38 : decode cX0_dayOfAll 38 = .ok (.iload_n 2, 1) := by decide +kernel
theorem dX0_dayOfAll_39 : decode cX0_dayOfAll 39 = .ok (.istore_n 2, 1) := by decide +kernel
theorem dX0_dayOfAll_40 : decode cX0_dayOfAll 40 = .ok (.iinc 3 1, 3) := by decide +kernel
theorem dX0_dayOfAll_43 : decode cX0_dayOfAll 43 = .ok (.goto (-36), 3) := by decide +kernel
theorem dX0_dayOfAll_46 : decode cX0_dayOfAll 46 = .ok (.iload_n 2, 1) := by decide +kernel
theorem dX0_dayOfAll_47 : decode cX0_dayOfAll 47 = .ok (.ireturn, 1) := by decide +kernel
theorem dX0_whereIs_0 : decode cX0_whereIs 0 = .ok (.aload_n 0, 1) := by decide +kernel
theorem dX0_whereIs_1 : decode cX0_whereIs 1 = .ok (.getfield 34, 3) := by decide +kernel
theorem dX0_whereIs_4 : decode cX0_whereIs 4 = .ok (.iload_n 1, 1) := by decide +kernel
theorem dX0_whereIs_5 : decode cX0_whereIs 5 = .ok (.invokestatic 113, 3) := by decide +kernel
theorem dX0_whereIs_8 : decode cX0_whereIs 8 = .ok (.ifCond .eq 5, 3) := by decide +kernel
theorem dX0_whereIs_11 : decode cX0_whereIs 11 = .ok (.iconst 2, 1) := by decide +kernel
theorem dX0_whereIs_12 : decode cX0_whereIs 12 = .ok (.ireturn, 1) := by decide +kernel
theorem dX0_whereIs_13 : decode cX0_whereIs 13 = .ok (.aload_n 0, 1) := by decide +kernel
theorem dX0_whereIs_14 : decode cX0_whereIs 14 = .ok (.getfield 37, 3) := by decide +kernel
theorem dX0_whereIs_17 : decode cX0_whereIs 17 = .ok (.iload_n 1, 1) := by decide +kernel
theorem dX0_whereIs_18 : decode cX0_whereIs 18 = .ok (.invokestatic 113, 3) := by decide +kernel
theorem dX0_whereIs_21 : decode cX0_whereIs 21 = .ok (.ifCond .eq 5, 3) := by decide +kernel
theorem dX0_whereIs_24 : decode cX0_whereIs 24 = .ok (.iconst 3, 1) := by decide +kernel
theorem dX0_whereIs_25 : decode cX0_whereIs 25 = .ok (.ireturn, 1) := by decide +kernel
theorem dX0_whereIs_26 : decode cX0_whereIs 26 = .ok (.aload_n 0, 1) := by decide +kernel
theorem dX0_whereIs_27 : decode cX0_whereIs 27 = .ok (.iload_n 1, 1) := by decide +kernel
theorem dX0_whereIs_28 : decode cX0_whereIs 28 = .ok (.invokevirtual 102, 3) := by decide +kernel
theorem dX0_whereIs_31 : decode cX0_whereIs 31 = .ok (.aload_n 0, 1) := by decide +kernel
theorem dX0_whereIs_32 : decode cX0_whereIs 32 = .ok (.getfield 31, 3) := by decide +kernel
theorem dX0_whereIs_35 : decode cX0_whereIs 35 = .ok (.if_icmp .gt 7, 3) := by decide +kernel
theorem dX0_whereIs_38 : decode cX0_whereIs 38 = .ok (.iconst 1, 1) := by decide +kernel
theorem dX0_whereIs_39 : decode cX0_whereIs 39 = .ok (.goto 4, 3) := by decide +kernel
theorem dX0_whereIs_42 : decode cX0_whereIs 42 = .ok (.iconst 0, 1) := by decide +kernel
theorem dX0_whereIs_43 : decode cX0_whereIs 43 = .ok (.ireturn, 1) := by decide +kernel
theorem dX0_hindrance_0 : decode cX0_hindrance 0 = .ok (.aload_n 0, 1) := by decide +kernel
theorem dX0_hindrance_1 : decode cX0_hindrance 1 = .ok (.getfield 46, 3) := by decide +kernel
theorem dX0_hindrance_4 : decode cX0_hindrance 4 = .ok (.iload_n 1, 1) := by decide +kernel
theorem dX0_hindrance_5 : decode cX0_hindrance 5 = .ok (.iload_n 2, 1) := by decide +kernel
theorem dX0_hindrance_6 : decode cX0_hindrance 6 = .ok (.aload_n 0, 1) := by decide +kernel
theorem dX0_hindrance_7 : decode cX0_hindrance 7 = .ok (.getfield 40, 3) := by decide +kernel
theorem dX0_hindrance_10 : decode cX0_hindrance 10 = .ok (.aload_n 0, 1) := by decide +kernel
theorem dX0_hindrance_11 : decode cX0_hindrance 11 = .ok (.getfield 43, 3) := by decide +kernel
theorem dX0_hindrance_14 : decode cX0_hindrance 14 = .ok (.invokevirtual 122, 3) := by decide +kernel
theorem dX0_hindrance_17 : decode cX0_hindrance 17 = .ok (.ireturn, 1) := by decide +kernel
theorem dX0_deedsFor_0 : decode cX0_deedsFor 0 = .ok (.iconst 0, 1) := by decide +kernel
theorem dX0_deedsFor_1 : decode cX0_deedsFor 1 = .ok (.istore_n 2, 1) := by decide +kernel
theorem dX0_deedsFor_2 : decode cX0_deedsFor 2 = .ok (.iconst 0, 1) := by decide +kernel
theorem dX0_deedsFor_3 : decode cX0_deedsFor 3 = .ok (.istore_n 3, 1) := by decide +kernel
theorem dX0_deedsFor_4 : decode cX0_deedsFor 4 = .ok (.iload_n 3, 1) := by decide +kernel
theorem dX0_deedsFor_5 : decode cX0_deedsFor 5 = .ok (.aload_n 0, 1) := by decide +kernel
theorem dX0_deedsFor_6 : decode cX0_deedsFor 6 = .ok (.getfield 46, 3) := by decide +kernel
theorem dX0_deedsFor_9 : decode cX0_deedsFor 9 = .ok (.getfield 126, 3) := by decide +kernel
theorem dX0_deedsFor_12 : decode cX0_deedsFor 12 = .ok (.if_icmp .ge 28, 3) := by decide +kernel
theorem dX0_deedsFor_15 : decode cX0_deedsFor 15 = .ok (.iload_n 2, 1) := by decide +kernel
theorem dX0_deedsFor_16 : decode cX0_deedsFor 16 = .ok (.aload_n 0, 1) := by decide +kernel
theorem dX0_deedsFor_17 : decode cX0_deedsFor 17 = .ok (.iload_n 3, 1) := by decide +kernel
theorem dX0_deedsFor_18 : decode cX0_deedsFor 18 = .ok (.iload_n 1, 1) := by decide +kernel
theorem dX0_deedsFor_19 : decode cX0_deedsFor 19 = .ok (.invokevirtual 129, 3) := by decide +kernel
theorem dX0_deedsFor_22 : decode cX0_deedsFor 22 = .ok (.ifCond .ne 9, 3) := by decide +kernel
theorem dX0_deedsFor_25 : decode cX0_deedsFor 25 = .ok (.iconst 1, 1) := by decide +kernel
theorem dX0_deedsFor_26 : decode cX0_deedsFor 26 = .ok (.iload_n 3, 1) := by decide +kernel
theorem dX0_deedsFor_27 : decode cX0_deedsFor 27 = .ok (.ishl, 1) := by decide +kernel
theorem dX0_deedsFor_28 : decode cX0_deedsFor 28 = .ok (.goto 4, 3) := by decide +kernel
theorem dX0_deedsFor_31 : decode cX0_deedsFor 31 = .ok (.iconst 0, 1) := by decide +kernel
theorem dX0_deedsFor_32 : decode cX0_deedsFor 32 = .ok (.ior, 1) := by decide +kernel
theorem dX0_deedsFor_33 : decode cX0_deedsFor 33 = .ok (.istore_n 2, 1) := by decide +kernel
theorem dX0_deedsFor_34 : decode cX0_deedsFor 34 = .ok (.iinc 3 1, 3) := by decide +kernel
theorem dX0_deedsFor_37 : decode cX0_deedsFor 37 = .ok (.goto (-33), 3) := by decide +kernel
theorem dX0_deedsFor_40 : decode cX0_deedsFor 40 = .ok (.iload_n 2, 1) := by decide +kernel
theorem dX0_deedsFor_41 : decode cX0_deedsFor 41 = .ok (.ireturn, 1) := by decide +kernel
theorem dX1_init_0 : decode cX1_init 0 = .ok (.aload_n 0, 1) := by decide +kernel
theorem dX1_init_1 : decode cX1_init 1 = .ok (.invokespecial 3, 3) := by decide +kernel
theorem dX1_init_4 : decode cX1_init 4 = .ok (.aload_n 0, 1) := by decide +kernel
theorem dX1_init_5 : decode cX1_init 5 = .ok (.sipush 384, 3) := by decide +kernel
theorem dX1_init_8 : decode cX1_init 8 = .ok (.newarray .long, 2) := by decide +kernel
theorem dX1_init_10 : decode cX1_init 10 = .ok (.putfield 9, 3) := by decide +kernel
theorem dX1_init_13 : decode cX1_init 13 = .ok (.aload_n 0, 1) := by decide +kernel
theorem dX1_init_14 : decode cX1_init 14 = .ok (.sipush 384, 3) := by decide +kernel
theorem dX1_init_17 : decode cX1_init 17 = .ok (.newarray .long, 2) := by decide +kernel
theorem dX1_init_19 : decode cX1_init 19 = .ok (.putfield 15, 3) := by decide +kernel
theorem dX1_init_22 : decode cX1_init 22 = .ok (.aload_n 0, 1) := by decide +kernel
theorem dX1_init_23 : decode cX1_init 23 = .ok (.iconst 0, 1) := by decide +kernel
theorem dX1_init_24 : decode cX1_init 24 = .ok (.putfield 18, 3) := by decide +kernel
theorem dX1_init_27 : decode cX1_init 27 = .ok (.aload_n 0, 1) := by decide +kernel
theorem dX1_init_28 : decode cX1_init 28 = .ok (.iconst 0, 1) := by decide +kernel
theorem dX1_init_29 : decode cX1_init 29 = .ok (.putfield 22, 3) := by decide +kernel
theorem dX1_init_32 : decode cX1_init 32 = .ok (.aload_n 0, 1) := by decide +kernel
theorem dX1_init_33 : decode cX1_init 33 = .ok (.iconst 0, 1) := by decide +kernel
theorem dX1_init_34 : decode cX1_init 34 = .ok (.putfield 25, 3) := by decide +kernel
theorem dX1_init_37 : decode cX1_init 37 = .ok (.aload_n 0, 1) := by decide +kernel
theorem dX1_init_38 : decode cX1_init 38 = .ok (.iconst 0, 1) := by decide +kernel
theorem dX1_init_39 : decode cX1_init 39 = .ok (.putfield 28, 3) := by decide +kernel
theorem dX1_init_42 : decode cX1_init 42 = .ok (.aload_n 0, 1) := by decide +kernel
theorem dX1_init_43 : decode cX1_init 43 = .ok (.aload_n 1, 1) := by decide +kernel
theorem dX1_init_44 : decode cX1_init 44 = .ok (.putfield 31, 3) := by decide +kernel
theorem dX1_init_47 : decode cX1_init 47 = .ok (.return_, 1) := by decide +kernel
theorem dX1_start_0 : decode cX1_start 0 = .ok (.aload_n 0, 1) := by decide +kernel
theorem dX1_start_1 : decode cX1_start 1 = .ok (.iload_n 2, 1) := by decide +kernel
theorem dX1_start_2 : decode cX1_start 2 = .ok (.putfield 18, 3) := by decide +kernel
theorem dX1_start_5 : decode cX1_start 5 = .ok (.aload_n 0, 1) := by decide +kernel
theorem dX1_start_6 : decode cX1_start 6 = .ok (.iconst 0, 1) := by decide +kernel
theorem dX1_start_7 : decode cX1_start 7 = .ok (.putfield 22, 3) := by decide +kernel
theorem dX1_start_10 : decode cX1_start 10 = .ok (.aload_n 0, 1) := by decide +kernel
theorem dX1_start_11 : decode cX1_start 11 = .ok (.aload_n 1, 1) := by decide +kernel
theorem dX1_start_12 : decode cX1_start 12 = .ok (.getfield 35, 3) := by decide +kernel
theorem dX1_start_15 : decode cX1_start 15 = .ok (.iconst 2, 1) := by decide +kernel
theorem dX1_start_16 : decode cX1_start 16 = .ok (.invokestatic 40, 3) := by decide +kernel
theorem dX1_start_19 : decode cX1_start 19 = .ok (.putfield 25, 3) := by decide +kernel
theorem dX1_start_22 : decode cX1_start 22 = .ok (.aload_n 0, 1) := by decide +kernel
theorem dX1_start_23 : decode cX1_start 23 = .ok (.aload_n 1, 1) := by decide +kernel
theorem dX1_start_24 : decode cX1_start 24 = .ok (.getfield 46, 3) := by decide +kernel
theorem dX1_start_27 : decode cX1_start 27 = .ok (.putfield 28, 3) := by decide +kernel
theorem dX1_start_30 : decode cX1_start 30 = .ok (.return_, 1) := by decide +kernel
theorem dX1_follow_0 : decode cX1_follow 0 = .ok (.iconst 0, 1) := by decide +kernel
theorem dX1_follow_1 : decode cX1_follow 1 = .ok (.istore_n 3, 1) := by decide +kernel
theorem dX1_follow_2 : decode cX1_follow 2 = .ok (.iload_n 3, 1) := by decide +kernel
theorem dX1_follow_3 : decode cX1_follow 3 = .ok (.iload_n 2, 1) := by decide +kernel
theorem dX1_follow_4 : decode cX1_follow 4 = .ok (.if_icmp .ge 44, 3) := by decide +kernel
theorem dX1_follow_7 : decode cX1_follow 7 = .ok (.aload_n 0, 1) := by decide +kernel
theorem dX1_follow_8 : decode cX1_follow 8 = .ok (.aload_n 1, 1) := by decide +kernel
theorem dX1_follow_9 : decode cX1_follow 9 = .ok (.iconst 2, 1) := by decide +kernel
theorem dX1_follow_10 : decode cX1_follow 10 = .ok (.iload_n 3, 1) := by decide +kernel
theorem dX1_follow_11 : decode cX1_follow 11 = .ok (.imul, 1) := by decide +kernel
theorem dX1_follow_12 : decode cX1_follow 12 = .ok (.iaload, 1) := by decide +kernel
theorem dX1_follow_13 : decode cX1_follow 13 = .ok (.aload_n 1, 1) := by decide +kernel
theorem dX1_follow_14 : decode cX1_follow 14 = .ok (.iconst 2, 1) := by decide +kernel
theorem dX1_follow_15 : decode cX1_follow 15 = .ok (.iload_n 3, 1) := by decide +kernel
theorem dX1_follow_16 : decode cX1_follow 16 = .ok (.imul, 1) := by decide +kernel
theorem dX1_follow_17 : decode cX1_follow 17 = .ok (.iconst 1, 1) := by decide +kernel
theorem dX1_follow_18 : decode cX1_follow 18 = .ok (.iadd, 1) := by decide +kernel
theorem dX1_follow_19 : decode cX1_follow 19 = .ok (.iaload, 1) := by decide +kernel
theorem dX1_follow_20 : decode cX1_follow 20 = .ok (.invokevirtual 47, 3) := by decide +kernel
theorem dX1_follow_23 : decode cX1_follow 23 = .ok (.ifCond .eq 25, 3) := by decide +kernel
theorem dX1_follow_26 : decode cX1_follow 26 = .ok (.aload_n 0, 1) := by decide +kernel
theorem dX1_follow_27 : decode cX1_follow 27 = .ok (.aload_n 1, 1) := by decide +kernel
theorem dX1_follow_28 : decode cX1_follow 28 = .ok (.iconst 2, 1) := by decide +kernel
theorem dX1_follow_29 : decode cX1_follow 29 = .ok (.iload_n 3, 1) := by decide +kernel
theorem dX1_follow_30 : decode cX1_follow 30 = .ok (.imul, 1) := by decide +kernel
theorem dX1_follow_31 : decode cX1_follow 31 = .ok (.iaload, 1) := by decide +kernel
theorem dX1_follow_32 : decode cX1_follow 32 = .ok (.aload_n 1, 1) := by decide +kernel
theorem dX1_follow_33 : decode cX1_follow 33 = .ok (.iconst 2, 1) := by decide +kernel
theorem dX1_follow_34 : decode cX1_follow 34 = .ok (.iload_n 3, 1) := by decide +kernel
theorem dX1_follow_35 : decode cX1_follow 35 = .ok (.imul, 1) := by decide +kernel
theorem dX1_follow_36 : decode cX1_follow 36 = .ok (.iconst 1, 1) := by decide +kernel
theorem dX1_follow_37 : decode cX1_follow 37 = .ok (.iadd, 1) := by decide +kernel
theorem dX1_follow_38 : decode cX1_follow 38 = .ok (.iaload, 1) := by decide +kernel
theorem dX1_follow_39 : decode cX1_follow 39 = .ok (.invokevirtual 51, 3) := by decide +kernel
theorem dX1_follow_42 : decode cX1_follow 42 = .ok (.iinc 3 1, 3) := by decide +kernel
theorem dX1_follow_45 : decode cX1_follow 45 = .ok (.goto (-43), 3) := by decide +kernel
theorem dX1_follow_48 : decode cX1_follow 48 = .ok (.iload_n 3, 1) := by decide +kernel
theorem dX1_follow_49 : decode cX1_follow 49 = .ok (.ireturn, 1) := by decide +kernel
theorem dX1_fits_0 : decode cX1_fits 0 = .ok (.aload_n 0, 1) := by decide +kernel
theorem dX1_fits_1 : decode cX1_fits 1 = .ok (.getfield 18, 3) := by decide +kernel
theorem dX1_fits_4 : decode cX1_fits 4 = .ok (.aload_n 0, 1) := by decide +kernel
theorem dX1_fits_5 : decode cX1_fits 5 = .ok (.getfield 22, 3) := by decide +kernel
theorem dX1_fits_8 : decode cX1_fits 8 = .ok (.iconst (-1), 1) := by decide +kernel
theorem dX1_fits_9 : decode cX1_fits 9 = .ok (.ixor, 1) := by decide +kernel
theorem dX1_fits_10 : decode cX1_fits 10 = .ok (.iand, 1) := by decide +kernel
theorem dX1_fits_11 : decode cX1_fits 11 = .ok (.iload_n 1, 1) := by decide +kernel
theorem dX1_fits_12 : decode cX1_fits 12 = .ok (.invokestatic 55, 3) := by decide +kernel
theorem dX1_fits_15 : decode cX1_fits 15 = .ok (.ifCond .eq 33, 3) := by decide +kernel
theorem dX1_fits_18 : decode cX1_fits 18 = .ok (.iload_n 2, 1) := by decide +kernel
theorem dX1_fits_19 : decode cX1_fits 19 = .ok (.bipush (-9), 2) := by decide +kernel
theorem dX1_fits_21 : decode cX1_fits 21 = .ok (.if_icmp .eq 23, 3) := by decide +kernel
theorem dX1_fits_24 : decode cX1_fits 24 = .ok (.aload_n 0, 1) := by decide +kernel
theorem dX1_fits_25 : decode cX1_fits 25 = .ok (.getfield 31, 3) := by decide +kernel
theorem dX1_fits_28 : decode cX1_fits 28 = .ok (.iload_n 2, 1) := by decide +kernel
theorem dX1_fits_29 : decode cX1_fits 29 = .ok (.iload_n 1, 1) := by decide +kernel
theorem dX1_fits_30 : decode cX1_fits 30 = .ok (.aload_n 0, 1) := by decide +kernel
theorem dX1_fits_31 : decode cX1_fits 31 = .ok (.getfield 28, 3) := by decide +kernel
theorem dX1_fits_34 : decode cX1_fits 34 = .ok (.aload_n 0, 1) := by decide +kernel
theorem dX1_fits_35 : decode cX1_fits 35 = .ok (.getfield 25, 3) := by decide +kernel
theorem dX1_fits_38 : decode cX1_fits 38 = .ok (.invokevirtual 58, 3) := by decide +kernel
theorem dX1_fits_41 : decode cX1_fits 41 = .ok (.ifCond .ne 7, 3) := by decide +kernel
theorem dX1_fits_44 : decode cX1_fits 44 = .ok (.iconst 1, 1) := by decide +kernel
theorem dX1_fits_45 : decode cX1_fits 45 = .ok (.goto 4, 3) := by decide +kernel
theorem dX1_fits_48 : decode cX1_fits 48 = .ok (.iconst 0, 1) := by decide +kernel
theorem dX1_fits_49 : decode cX1_fits 49 = .ok (.ireturn, 1) := by decide +kernel
theorem dX1_live_0 : decode cX1_live 0 = .ok (.aload_n 0, 1) := by decide +kernel
theorem dX1_live_1 : decode cX1_live 1 = .ok (.dup, 1) := by decide +kernel
theorem dX1_live_2 : decode cX1_live 2 = .ok (.getfield 22, 3) := by decide +kernel
theorem dX1_live_5 : decode cX1_live 5 = .ok (.iconst 1, 1) := by decide +kernel
theorem dX1_live_6 : decode cX1_live 6 = .ok (.iload_n 1, 1) := by decide +kernel
theorem dX1_live_7 : decode cX1_live 7 = .ok (.ishl, 1) := by decide +kernel
theorem dX1_live_8 : decode cX1_live 8 = .ok (.ior, 1) := by decide +kernel
theorem dX1_live_9 : decode cX1_live 9 = .ok (.putfield 22, 3) := by decide +kernel
theorem dX1_live_12 : decode cX1_live 12 = .ok (.aload_n 0, 1) := by decide +kernel
theorem dX1_live_13 : decode cX1_live 13 = .ok (.aload_n 0, 1) := by decide +kernel
theorem dX1_live_14 : decode cX1_live 14 = .ok (.aload_n 0, 1) := by decide +kernel
theorem dX1_live_15 : decode cX1_live 15 = .ok (.getfield 25, 3) := by decide +kernel
theorem dX1_live_18 : decode cX1_live 18 = .ok (.iload_n 2, 1) := by decide +kernel
theorem dX1_live_19 : decode cX1_live 19 = .ok (.invokevirtual 64, 3) := by decide +kernel
theorem dX1_live_22 : decode cX1_live 22 = .ok (.putfield 25, 3) := by decide +kernel
theorem dX1_live_25 : decode cX1_live 25 = .ok (.aload_n 0, 1) := by decide +kernel
theorem dX1_live_26 : decode cX1_live 26 = .ok (.dup, 1) := by decide +kernel
theorem dX1_live_27 : decode cX1_live 27 = .ok (.getfield 28, 3) := by decide +kernel
theorem dX1_live_30 : decode cX1_live 30 = .ok (.iload_n 2, 1) := by decide +kernel
theorem dX1_live_31 : decode cX1_live 31 = .ok (.invokestatic 67, 3) := by decide +kernel
theorem dX1_live_34 : decode cX1_live 34 = .ok (.ior, 1) := by decide +kernel
theorem dX1_live_35 : decode cX1_live 35 = .ok (.putfield 28, 3) := by decide +kernel
theorem dX1_live_38 : decode cX1_live 38 = .ok (.return_, 1) := by decide +kernel
theorem dX1_gapBehind_0 : decode cX1_gapBehind 0 = .ok (.iload_n 2, 1) := by decide +kernel
theorem dX1_gapBehind_1 : decode cX1_gapBehind 1 = .ok (.bipush (-9), 2) := by decide +kernel
theorem dX1_gapBehind_3 : decode cX1_gapBehind 3 = .ok (.if_icmp .eq 19, 3) := by decide +kernel
theorem dX1_gapBehind_6 : decode cX1_gapBehind 6 = .ok (.aload_n 0, 1) := by decide +kernel
theorem dX1_gapBehind_7 : decode cX1_gapBehind 7 = .ok (.getfield 31, 3) := by decide +kernel
theorem dX1_gapBehind_10 : decode cX1_gapBehind 10 = .ok (.iload_n 2, 1) := by decide +kernel
theorem dX1_gapBehind_11 : decode cX1_gapBehind 11 = .ok (.iconst 1, 1) := by decide +kernel
theorem dX1_gapBehind_12 : decode cX1_gapBehind 12 = .ok (.invokevirtual 71, 3) := by decide +kernel
theorem dX1_gapBehind_15 : decode cX1_gapBehind 15 = .ok (.ifCond .eq 7, 3) := by decide +kernel
theorem dX1_gapBehind_18 : decode cX1_gapBehind 18 = .ok (.iconst 1, 1) := by decide +kernel
theorem dX1_gapBehind_19 : decode cX1_gapBehind 19 = .ok (.goto 4, 3) := by decide +kernel
theorem dX1_gapBehind_22 : decode cX1_gapBehind 22 = .ok (.iconst 0, 1) := by decide +kernel
theorem dX1_gapBehind_23 : decode cX1_gapBehind 23 = .ok (.istore_n 3, 1) := by decide +kernel
theorem dX1_gapBehind_24 : decode cX1_gapBehind 24 = .ok (.iload_n 3, 1) := by decide +kernel
theorem dX1_gapBehind_25 : decode cX1_gapBehind 25 = .ok (.ifCond .eq 7, 3) := by decide +kernel
theorem dX1_gapBehind_28 : decode cX1_gapBehind 28 = .ok (.iconst 0, 1) := by decide +kernel
theorem dX1_gapBehind_29 : decode cX1_gapBehind 29 = .ok (.goto 10, 3) := by decide +kernel
theorem dX1_gapBehind_32 : decode cX1_gapBehind 32 = .ok (.iload_n 1, 1) := by decide +kernel
theorem dX1_gapBehind_33 : decode cX1_gapBehind 33 = .ok (.iconst 1, 1) := by decide +kernel
theorem dX1_gapBehind_34 : decode cX1_gapBehind 34 = .ok (.iadd, 1) := by decide +kernel
theorem dX1_gapBehind_35 : decode cX1_gapBehind 35 = .ok (.iconst 2, 1) := by decide +kernel
theorem dX1_gapBehind_36 : decode cX1_gapBehind 36 = .ok (.invokestatic 40, 3) := by decide +kernel
theorem dX1_gapBehind_39 : decode cX1_gapBehind 39 = .ok (.ireturn, 1) := by decide +kernel
theorem dX1_deedBit_0 : decode cX1_deedBit 0 = .ok (.iload_n 0, 1) := by decide +kernel
theorem dX1_deedBit_1 : decode cX1_deedBit 1 = .ok (.bipush (-9), 2) := by decide +kernel
theorem dX1_deedBit_3 : decode cX1_deedBit 3 = .ok (.if_icmp .ne 7, 3) := by decide +kernel
theorem dX1_deedBit_6 : decode cX1_deedBit 6 = .ok (.iconst 0, 1) := by decide +kernel
theorem dX1_deedBit_7 : decode cX1_deedBit 7 = .ok (.goto 6, 3) := by decide +kernel
theorem dX1_deedBit_10 : decode cX1_deedBit 10 = .ok (.iconst 1, 1) := by decide +kernel
theorem dX1_deedBit_11 : decode cX1_deedBit 11 = .ok (.iload_n 0, 1) := by decide +kernel
theorem dX1_deedBit_12 : decode cX1_deedBit 12 = .ok (.ishl, 1) := by decide +kernel
theorem dX1_deedBit_13 : decode cX1_deedBit 13 = .ok (.ireturn, 1) := by decide +kernel
theorem dX1_explore_0 : decode cX1_explore 0 = .ok (.aload_n 0, 1) := by decide +kernel
theorem dX1_explore_1 : decode cX1_explore 1 = .ok (.aload_n 1, 1) := by decide +kernel
theorem dX1_explore_2 : decode cX1_explore 2 = .ok (.iload_n 2, 1) := by decide +kernel
theorem dX1_explore_3 : decode cX1_explore 3 = .ok (.invokevirtual 74, 3) := by decide +kernel
theorem dX1_explore_6 : decode cX1_explore 6 = .ok (.aload_n 0, 1) := by decide +kernel
theorem dX1_explore_7 : decode cX1_explore 7 = .ok (.getfield 9, 3) := by decide +kernel
theorem dX1_explore_10 : decode cX1_explore 10 = .ok (.lconst 0, 1) := by decide +kernel
theorem dX1_explore_11 : decode cX1_explore 11 = .ok (.invokestatic 78, 3) := by decide +kernel
theorem dX1_explore_14 : decode cX1_explore 14 = .ok (.aload_n 0, 1) := by decide +kernel
theorem dX1_explore_15 : decode cX1_explore 15 = .ok (.getfield 9, 3) := by decide +kernel
theorem dX1_explore_18 : decode cX1_explore 18 = .ok (.aload_n 0, 1) := by decide +kernel
theorem dX1_explore_19 : decode cX1_explore 19 = .ok (.getfield 25, 3) := by decide +kernel
theorem dX1_explore_22 : decode cX1_explore 22 = .ok (.lconst 1, 1) := by decide +kernel
theorem dX1_explore_23 : decode cX1_explore 23 = .ok (.aload_n 0, 1) := by decide +kernel
theorem dX1_explore_24 : decode cX1_explore 24 = .ok (.getfield 28, 3) := by decide +kernel
theorem dX1_explore_27 : decode cX1_explore 27 = .ok (.lshl, 1) := by decide +kernel
theorem dX1_explore_28 : decode cX1_explore 28 = .ok (.lastore, 1) := by decide +kernel
theorem dX1_explore_29 : decode cX1_explore 29 = .ok (.iconst 0, 1) := by decide +kernel
theorem dX1_explore_30 : decode cX1_explore 30 = .ok (.istore_n 3, 1) := by decide +kernel
theorem dX1_explore_31 : decode cX1_explore 31 = .ok (.iload_n 3, 1) := by decide +kernel
theorem dX1_explore_32 : decode cX1_explore 32 = .ok (.sipush 128, 3) := by decide +kernel
theorem dX1_explore_35 : decode cX1_explore 35 = .ok (.if_icmp .ge 47, 3) := by decide +kernel
theorem dX1_explore_38 : decode cX1_explore 38 = .ok (.iconst 0, 1) := by decide +kernel
theorem dX1_explore_39 : decode cX1_explore 39 = .ok (.istore 4, 2) := by decide +kernel
theorem dX1_explore_41 : decode cX1_explore 41 = .ok (.iload 4, 2) := by decide +kernel
theorem dX1_explore_43 : decode cX1_explore 43 = .ok (.iconst 3, 1) := by decide +kernel
theorem dX1_explore_44 : decode cX1_explore 44 = .ok (.if_icmp .ge 32, 3) := by decide +kernel
theorem dX1_explore_47 : decode cX1_explore 47 = .ok (.aload_n 0, 1) := by decide +kernel
theorem dX1_explore_48 : decode cX1_explore 48 = .ok (.getfield 9, 3) := by decide +kernel
theorem dX1_explore_51 : decode cX1_explore 51 = .ok (.iload_n 3, 1) := by decide +kernel
theorem dX1_explore_52 : decode cX1_explore 52 = .ok (.iconst 3, 1) := by decide +kernel
theorem dX1_explore_53 : decode cX1_explore 53 = .ok (.imul, 1) := by decide +kernel
theorem dX1_explore_54 : decode cX1_explore 54 = .ok (.iload 4, 2) := by decide +kernel
theorem dX1_explore_56 : decode cX1_explore 56 = .ok (.iadd, 1) := by decide +kernel
theorem dX1_explore_57 : decode cX1_explore 57 = .ok (.laload, 1) := by decide +kernel
theorem dX1_explore_58 : decode cX1_explore 58 = .ok (.lconst 0, 1) := by decide +kernel
theorem dX1_explore_59 : decode cX1_explore 59 = .ok (.lcmp, 1) := by decide +kernel
theorem dX1_explore_60 : decode cX1_explore 60 = .ok (.ifCond .eq 10, 3) := by decide +kernel
theorem dX1_explore_63 : decode cX1_explore 63 = .ok (.aload_n 0, 1) := by decide +kernel
theorem dX1_explore_64 : decode cX1_explore 64 = .ok (.iload_n 3, 1) := by decide +kernel
theorem dX1_explore_65 : decode cX1_explore 65 = .ok (.iload 4, 2) := by decide +kernel
theorem dX1_explore_67 : decode cX1_explore 67 = .ok (.invokevirtual 84, 3) := by decide +kernel
theorem dX1_explore_70 : decode cX1_explore 70 = .ok (.iinc 4 1, 3) := by decide +kernel
theorem dX1_explore_73 : decode cX1_explore 73 = .ok (.goto (-32), 3) := by decide +kernel
theorem dX1_explore_76 : decode cX1_explore 76 = .ok (.iinc 3 1, 3) := by decide +kernel
theorem dX1_explore_79 : decode cX1_explore 79 = .ok (.goto (-48), 3) := by decide +kernel
theorem dX1_explore_82 : decode cX1_explore 82 = .ok (.return_, 1) := by decide +kernel
theorem dX1_spread_0 : decode cX1_spread 0 = .ok (.aload_n 0, 1) := by decide +kernel
theorem dX1_spread_1 : decode cX1_spread 1 = .ok (.getfield 9, 3) := by decide +kernel
theorem dX1_spread_4 : decode cX1_spread 4 = .ok (.iload_n 1, 1) := by decide +kernel
theorem dX1_spread_5 : decode cX1_spread 5 = .ok (.iconst 3, 1) := by decide +kernel
theorem dX1_spread_6 : decode cX1_spread 6 = .ok (.imul, 1) := by decide +kernel
theorem dX1_spread_7 : decode cX1_spread 7 = .ok (.iload_n 2, 1) := by decide +kernel
theorem dX1_spread_8 : decode cX1_spread 8 = .ok (.iadd, 1) := by decide +kernel
theorem dX1_spread_9 : decode cX1_spread 9 = .ok (.laload, 1) := by decide +kernel
theorem dX1_spread_10 : decode cX1_spread 10 = .ok (.lstore_n 3, 1) := by decide +kernel
theorem dX1_spread_11 : decode cX1_spread 11 = .ok (.aload_n 0, 1) := by decide +kernel
theorem dX1_spread_12 : decode cX1_spread 12 = .ok (.lload_n 3, 1) := by decide +kernel
theorem dX1_spread_13 : decode cX1_spread 13 = .ok (.iload_n 1, 1) := by decide +kernel
theorem dX1_spread_14 : decode cX1_spread 14 = .ok (.aload_n 0, 1) := by decide +kernel
theorem dX1_spread_15 : decode cX1_spread 15 = .ok (.iload_n 2, 1) := by decide +kernel
theorem dX1_spread_16 : decode cX1_spread 16 = .ok (.bipush (-9), 2) := by decide +kernel
theorem dX1_spread_18 : decode cX1_spread 18 = .ok (.invokevirtual 64, 3) := by decide +kernel
theorem dX1_spread_21 : decode cX1_spread 21 = .ok (.aload_n 0, 1) := by decide +kernel
theorem dX1_spread_22 : decode cX1_spread 22 = .ok (.getfield 18, 3) := by decide +kernel
theorem dX1_spread_25 : decode cX1_spread 25 = .ok (.invokevirtual 87, 3) := by decide +kernel
theorem dX1_spread_28 : decode cX1_spread 28 = .ok (.iconst 0, 1) := by decide +kernel
theorem dX1_spread_29 : decode cX1_spread 29 = .ok (.istore 5, 2) := by decide +kernel
theorem dX1_spread_31 : decode cX1_spread 31 = .ok (.iload 5, 2) := by decide +kernel
theorem dX1_spread_33 : decode cX1_spread 33 = .ok (.aload_n 0, 1) := by decide +kernel
theorem dX1_spread_34 : decode cX1_spread 34 = .ok (.getfield 31, 3) := by decide +kernel
theorem dX1_spread_37 : decode cX1_spread 37 = .ok (.getfield 91, 3) := by decide +kernel
theorem dX1_spread_40 : decode cX1_spread 40 = .ok (.if_icmp .ge 78, 3) := by decide +kernel
theorem dX1_spread_43 : decode cX1_spread 43 = .ok (.lload_n 3, 1) := by decide +kernel
theorem dX1_spread_44 : decode cX1_spread 44 = .ok (.aload_n 0, 1) := by decide +kernel
theorem dX1_spread_45 : decode cX1_spread 45 = .ok (.getfield 31, 3) := by decide +kernel
theorem dX1_spread_48 : decode cX1_spread 48 = .ok (.getfield 94, 3) := by decide +kernel
theorem dX1_spread_51 : decode cX1_spread 51 = .ok (.iload 5, 2) := by decide +kernel
theorem dX1_spread_53 : decode cX1_spread 53 = .ok (.laload, 1) := by decide +kernel
theorem dX1_spread_54 : decode cX1_spread 54 = .ok (.land, 1) := by decide +kernel
theorem dX1_spread_55 : decode cX1_spread 55 = .ok (.lstore 6, 2) := by decide +kernel
theorem dX1_spread_57 : decode cX1_spread 57 = .ok (.lload 6, 2) := by decide +kernel
theorem dX1_spread_59 : decode cX1_spread 59 = .ok (.lconst 0, 1) := by decide +kernel
theorem dX1_spread_60 : decode cX1_spread 60 = .ok (.lcmp, 1) := by decide +kernel
theorem dX1_spread_61 : decode cX1_spread 61 = .ok (.ifCond .eq 51, 3) := by decide +kernel
theorem dX1_spread_64 : decode cX1_spread 64 = .ok (.aload_n 0, 1) := by decide +kernel
theorem dX1_spread_65 : decode cX1_spread 65 = .ok (.getfield 31, 3) := by decide +kernel
theorem dX1_spread_68 : decode cX1_spread 68 = .ok (.iload 5, 2) := by decide +kernel
theorem dX1_spread_70 : decode cX1_spread 70 = .ok (.iload_n 2, 1) := by decide +kernel
theorem dX1_spread_71 : decode cX1_spread 71 = .ok (.invokevirtual 97, 3) := by decide +kernel
theorem dX1_spread_74 : decode cX1_spread 74 = .ok (.ifCond .eq 38, 3) := by decide +kernel
theorem dX1_spread_77 : decode cX1_spread 77 = .ok (.aload_n 0, 1) := by decide +kernel
theorem dX1_spread_78 : decode cX1_spread 78 = .ok (.lload 6, 2) := by decide +kernel
theorem dX1_spread_80 : decode cX1_spread 80 = .ok (.iload 5, 2) := by decide +kernel
theorem dX1_spread_82 : decode cX1_spread 82 = .ok (.invokestatic 67, 3) := by decide +kernel
theorem dX1_spread_85 : decode cX1_spread 85 = .ok (.lshl, 1) := by decide +kernel
theorem dX1_spread_86 : decode cX1_spread 86 = .ok (.iload_n 1, 1) := by decide +kernel
theorem dX1_spread_87 : decode cX1_spread 87 = .ok (.aload_n 0, 1) := by decide +kernel
theorem dX1_spread_88 : decode cX1_spread 88 = .ok (.iload_n 2, 1) := by decide +kernel
theorem dX1_spread_89 : decode cX1_spread 89 = .ok (.iload 5, 2) := by decide +kernel
theorem dX1_spread_91 : decode cX1_spread 91 = .ok (.invokevirtual 64, 3) := by decide +kernel
theorem dX1_spread_94 : decode cX1_spread 94 = .ok (.aload_n 0, 1) := by decide +kernel
theorem dX1_spread_95 : decode cX1_spread 95 = .ok (.getfield 18, 3) := by decide +kernel
theorem dX1_spread_98 : decode cX1_spread 98 = .ok (.aload_n 0, 1) := by decide +kernel
theorem dX1_spread_99 : decode cX1_spread 99 = .ok (.getfield 31, 3) := by decide +kernel
theorem dX1_spread_102 : decode cX1_spread 102 = .ok (.getfield 100, 3) := by decide +kernel
theorem dX1_spread_105 : decode cX1_spread 105 = .ok (.iload 5, 2) := by decide +kernel
theorem dX1_spread_107 : decode cX1_spread 107 = .ok (.iaload, 1) := by decide +kernel
theorem dX1_spread_108 : decode cX1_spread 108 = .ok (.iand, 1) := by decide +kernel
theorem dX1_spread_109 : decode cX1_spread 109 = .ok (.invokevirtual 87, 3) := by decide +kernel
theorem dX1_spread_112 : decode cX1_spread 112 = .ok (.iinc 5 1, 3) := by decide +kernel
theorem dX1_spread_115 : decode cX1_spread 115 = .ok (.goto (-84), 3) := by decide +kernel
theorem dX1_spread_118 : decode cX1_spread 118 = .ok (.return_, 1) := by decide +kernel
theorem dX1_pass_0 : decode cX1_pass 0 = .ok (.iload 5, 2) := by decide +kernel
theorem dX1_pass_2 : decode cX1_pass 2 = .ok (.iload_n 3, 1) := by decide +kernel
theorem dX1_pass_3 : decode cX1_pass 3 = .ok (.iconst (-1), 1) := by decide +kernel
theorem dX1_pass_4 : decode cX1_pass 4 = .ok (.ixor, 1) := by decide +kernel
theorem dX1_pass_5 : decode cX1_pass 5 = .ok (.iand, 1) := by decide +kernel
theorem dX1_pass_6 : decode cX1_pass 6 = .ok (.istore 6, 2) := by decide +kernel
theorem dX1_pass_8 : decode cX1_pass 8 = .ok (.iconst 0, 1) := by decide +kernel
theorem dX1_pass_9 : decode cX1_pass 9 = .ok (.istore 7, 2) := by decide +kernel
theorem dX1_pass_11 : decode cX1_pass 11 = .ok (.iload 7, 2) := by decide +kernel
theorem dX1_pass_13 : decode cX1_pass 13 = .ok (.bipush 7, 2) := by decide +kernel
theorem dX1_pass_15 : decode cX1_pass 15 = .ok (.if_icmp .ge 47, 3) := by decide +kernel
theorem dX1_pass_18 : decode cX1_pass 18 = .ok (.iload 6, 2) := by decide +kernel
theorem dX1_pass_20 : decode cX1_pass 20 = .ok (.ifCond .eq 42, 3) := by decide +kernel
theorem dX1_pass_23 : decode cX1_pass 23 = .ok (.iload 6, 2) := by decide +kernel
theorem dX1_pass_25 : decode cX1_pass 25 = .ok (.iload 6, 2) := by decide +kernel
theorem dX1_pass_27 : decode cX1_pass 27 = .ok (.ineg, 1) := by decide +kernel
theorem dX1_pass_28 : decode cX1_pass 28 = .ok (.iand, 1) := by decide +kernel
theorem dX1_pass_29 : decode cX1_pass 29 = .ok (.istore 8, 2) := by decide +kernel
theorem dX1_pass_31 : decode cX1_pass 31 = .ok (.iload 6, 2) := by decide +kernel
theorem dX1_pass_33 : decode cX1_pass 33 = .ok (.iload 8, 2) := by decide +kernel
theorem dX1_pass_35 : decode cX1_pass 35 = .ok (.isub, 1) := by decide +kernel
theorem dX1_pass_36 : decode cX1_pass 36 = .ok (.istore 6, 2) := by decide +kernel
theorem dX1_pass_38 : decode cX1_pass 38 = .ok (.aload_n 0, 1) := by decide +kernel
theorem dX1_pass_39 : decode cX1_pass 39 = .ok (.getfield 9, 3) := by decide +kernel
theorem dX1_pass_42 : decode cX1_pass 42 = .ok (.iload_n 3, 1) := by decide +kernel
theorem dX1_pass_43 : decode cX1_pass 43 = .ok (.iload 8, 2) := by decide +kernel
theorem dX1_pass_45 : decode cX1_pass 45 = .ok (.ior, 1) := by decide +kernel
theorem dX1_pass_46 : decode cX1_pass 46 = .ok (.iconst 3, 1) := by decide +kernel
theorem dX1_pass_47 : decode cX1_pass 47 = .ok (.imul, 1) := by decide +kernel
theorem dX1_pass_48 : decode cX1_pass 48 = .ok (.iload 4, 2) := by decide +kernel
theorem dX1_pass_50 : decode cX1_pass 50 = .ok (.iadd, 1) := by decide +kernel
theorem dX1_pass_51 : decode cX1_pass 51 = .ok (.dup2, 1) := by decide +kernel
theorem dX1_pass_52 : decode cX1_pass 52 = .ok (.laload, 1) := by decide +kernel
theorem dX1_pass_53 : decode cX1_pass 53 = .ok (.lload_n 1, 1) := by decide +kernel
theorem dX1_pass_54 : decode cX1_pass 54 = .ok (.lor, 1) := by decide +kernel
theorem dX1_pass_55 : decode cX1_pass 55 = .ok (.lastore, 1) := by decide +kernel
theorem dX1_pass_56 : decode cX1_pass 56 = .ok (.iinc 7 1, 3) := by decide +kernel
theorem dX1_pass_59 : decode cX1_pass 59 = .ok (.goto (-48), 3) := by decide +kernel
theorem dX1_pass_62 : decode cX1_pass 62 = .ok (.return_, 1) := by decide +kernel
theorem dX1_doneBy_0 : decode cX1_doneBy 0 = .ok (.lconst 0, 1) := by decide +kernel
theorem dX1_doneBy_1 : decode cX1_doneBy 1 = .ok (.lstore_n 2, 1) := by decide +kernel
theorem dX1_doneBy_2 : decode cX1_doneBy 2 = .ok (.iconst 0, 1) := by decide +kernel
theorem dX1_doneBy_3 : decode cX1_doneBy 3 = .ok (.istore 4, 2) := by decide +kernel
theorem dX1_doneBy_5 : decode cX1_doneBy 5 = .ok (.iload 4, 2) := by decide +kernel
theorem dX1_doneBy_7 : decode cX1_doneBy 7 = .ok (.iconst 3, 1) := by decide +kernel
theorem dX1_doneBy_8 : decode cX1_doneBy 8 = .ok (.if_icmp .ge 23, 3) := by decide +kernel
theorem dX1_doneBy_11 : decode cX1_doneBy 11 = .ok (.lload_n 2, 1) := by decide +kernel
theorem dX1_doneBy_12 : decode cX1_doneBy 12 = .ok (.aload_n 0, 1) := by decide +kernel
theorem dX1_doneBy_13 : decode cX1_doneBy 13 = .ok (.getfield 9, 3) := by decide +kernel
theorem dX1_doneBy_16 : decode cX1_doneBy 16 = .ok (.iload_n 1, 1) := by decide +kernel
theorem dX1_doneBy_17 : decode cX1_doneBy 17 = .ok (.iconst 3, 1) := by decide +kernel
theorem dX1_doneBy_18 : decode cX1_doneBy 18 = .ok (.imul, 1) := by decide +kernel
theorem dX1_doneBy_19 : decode cX1_doneBy 19 = .ok (.iload 4, 2) := by decide +kernel
theorem dX1_doneBy_21 : decode cX1_doneBy 21 = .ok (.iadd, 1) := by decide +kernel
theorem dX1_doneBy_22 : decode cX1_doneBy 22 = .ok (.laload, 1) := by decide +kernel
theorem dX1_doneBy_23 : decode cX1_doneBy 23 = .ok (.lor, 1) := by decide +kernel
theorem dX1_doneBy_24 : decode cX1_doneBy 24 = .ok (.lstore_n 2, 1) := by decide +kernel
theorem dX1_doneBy_25 : decode cX1_doneBy 25 = .ok (.iinc 4 1, 3) := by decide +kernel
theorem dX1_doneBy_28 : decode cX1_doneBy 28 = .ok (.goto (-23), 3) := by decide +kernel
theorem dX1_doneBy_31 : decode cX1_doneBy 31 = .ok (.lload_n 2, 1) := by decide +kernel
theorem dX1_doneBy_32 : decode cX1_doneBy 32 = .ok (.lreturn, 1) := by decide +kernel
theorem dX1_does_0 : decode cX1_does 0 = .ok (.aload_n 0, 1) := by decide +kernel
theorem dX1_does_1 : decode cX1_does 1 = .ok (.iload_n 2, 1) := by decide +kernel
theorem dX1_does_2 : decode cX1_does 2 = .ok (.invokevirtual 104, 3) := by decide +kernel
theorem dX1_does_5 : decode cX1_does 5 = .ok (.getstatic 108, 3) := by decide +kernel
theorem dX1_does_8 : decode cX1_does 8 = .ok (.iload_n 1, 1) := by decide +kernel
theorem dX1_does_9 : decode cX1_does 9 = .ok (.laload, 1) := by decide +kernel
theorem dX1_does_10 : decode cX1_does 10 = .ok (.land, 1) := by decide +kernel
theorem dX1_does_11 : decode cX1_does 11 = .ok (.lconst 0, 1) := by decide +kernel
theorem dX1_does_12 : decode cX1_does 12 = .ok (.lcmp, 1) := by decide +kernel
theorem dX1_does_13 : decode cX1_does 13 = .ok (.ifCond .eq 7, 3) := by decide +kernel
theorem dX1_does_16 : decode cX1_does 16 = .ok (.iconst 1, 1) := by decide +kernel
theorem dX1_does_17 : decode cX1_does 17 = .ok (.goto 4, 3) := by decide +kernel
theorem dX1_does_20 : decode cX1_does 20 = .ok (.iconst 0, 1) := by decide +kernel
theorem dX1_does_21 : decode cX1_does 21 = .ok (.ireturn, 1) := by decide +kernel
theorem dX1_largestOf_0 : decode cX1_largestOf 0 = .ok (.bipush 6, 2) := by decide +kernel
theorem dX1_largestOf_2 : decode cX1_largestOf 2 = .ok (.istore_n 2, 1) := by decide +kernel
theorem dX1_largestOf_3 : decode cX1_largestOf 3 = .ok (.iload_n 2, 1) := by decide +kernel
theorem dX1_largestOf_4 : decode cX1_largestOf 4 = .ok (.ifCond .le 21, 3) := by decide +kernel
theorem dX1_largestOf_7 : decode cX1_largestOf 7 = .ok (.lload_n 0, 1) := by decide +kernel
theorem dX1_largestOf_8 : decode cX1_largestOf 8 = .ok (.getstatic 111, 3) := by decide +kernel
theorem dX1_largestOf_11 : decode cX1_largestOf 11 = .ok (.iload_n 2, 1) := by decide +kernel
theorem dX1_largestOf_12 : decode cX1_largestOf 12 = .ok (.laload, 1) := by decide +kernel
theorem dX1_largestOf_13 : decode cX1_largestOf 13 = .ok (.land, 1) := by decide +kernel
theorem dX1_largestOf_14 : decode cX1_largestOf 14 = .ok (.lconst 0, 1) := by decide +kernel
theorem dX1_largestOf_15 : decode cX1_largestOf 15 = .ok (.lcmp, 1) := by decide +kernel
theorem dX1_largestOf_16 : decode cX1_largestOf 16 = .ok (.ifCond .ne 9, 3) := by decide +kernel
theorem dX1_largestOf_19 : decode cX1_largestOf 19 = .ok (.iinc 2 (-1), 3) := by decide +kernel
theorem dX1_largestOf_22 : decode cX1_largestOf 22 = .ok (.goto (-19), 3) := by decide +kernel
theorem dX1_largestOf_25 : decode cX1_largestOf 25 = .ok (.iload_n 2, 1) := by decide +kernel
theorem dX1_largestOf_26 : decode cX1_largestOf 26 = .ok (.ireturn, 1) := by decide +kernel
theorem dX1_mostDone_0 : decode cX1_mostDone 0 = .ok (.lconst 0, 1) := by decide +kernel
theorem dX1_mostDone_1 : decode cX1_mostDone 1 = .ok (.lstore_n 2, 1) := by decide +kernel
theorem dX1_mostDone_2 : decode cX1_mostDone 2 = .ok (.iconst 0, 1) := by decide +kernel
theorem dX1_mostDone_3 : decode cX1_mostDone 3 = .ok (.istore 4, 2) := by decide +kernel
theorem dX1_mostDone_5 : decode cX1_mostDone 5 = .ok (.iload 4, 2) := by decide +kernel
theorem dX1_mostDone_7 : decode cX1_mostDone 7 = .ok (.sipush 128, 3) := by decide +kernel
theorem dX1_mostDone_10 : decode cX1_mostDone 10 = .ok (.if_icmp .ge 29, 3) := by decide +kernel
theorem dX1_mostDone_13 : decode cX1_mostDone 13 = .ok (.lload_n 2, 1) := by decide +kernel
theorem dX1_mostDone_14 : decode cX1_mostDone 14 = .ok (.iload 4, 2) := by decide +kernel
theorem dX1_mostDone_16 : decode cX1_mostDone 16 = .ok (.iload_n 1, 1) := by decide +kernel
theorem dX1_mostDone_17 : decode cX1_mostDone 17 = .ok (.iand, 1) := by decide +kernel
theorem dX1_mostDone_18 : decode cX1_mostDone 18 = .ok (.ifCond .ne 12, 3) := by decide +kernel
theorem dX1_mostDone_21 : decode cX1_mostDone 21 = .ok (.aload_n 0, 1) := by decide +kernel
theorem dX1_mostDone_22 : decode cX1_mostDone 22 = .ok (.iload 4, 2) := by decide +kernel
theorem dX1_mostDone_24 : decode cX1_mostDone 24 = .ok (.invokevirtual 104, 3) := by decide +kernel
theorem dX1_mostDone_27 : decode cX1_mostDone 27 = .ok (.goto 4, 3) := by decide +kernel
theorem dX1_mostDone_30 : decode cX1_mostDone 30 = .ok (.lconst 0, 1) := by decide +kernel
theorem dX1_mostDone_31 : decode cX1_mostDone 31 = .ok (.lor, 1) := by decide +kernel
theorem dX1_mostDone_32 : decode cX1_mostDone 32 = .ok (.lstore_n 2, 1) := by decide +kernel
theorem dX1_mostDone_33 : decode cX1_mostDone 33 = .ok (.iinc 4 1, 3) := by decide +kernel
theorem dX1_mostDone_36 : decode cX1_mostDone 36 = .ok (.goto (-31), 3) := by decide +kernel
theorem dX1_mostDone_39 : decode cX1_mostDone 39 = .ok (.lload_n 2, 1) := by decide +kernel
theorem dX1_mostDone_40 : decode cX1_mostDone 40 = .ok (.invokestatic 114, 3) := by decide +kernel
theorem dX1_mostDone_43 : decode cX1_mostDone 43 = .ok (.ireturn, 1) := by decide +kernel
theorem dX1_fewestHoursFor_0 : decode cX1_fewestHoursFor 0 = .ok (.bipush 7, 2) := by decide +kernel
theorem dX1_fewestHoursFor_2 : decode cX1_fewestHoursFor 2 = .ok (.istore_n 2, 1) := by decide +kernel
theorem dX1_fewestHoursFor_3 : decode cX1_fewestHoursFor 3 = .ok (.iconst 0, 1) := by decide +kernel
theorem dX1_fewestHoursFor_4 : decode cX1_fewestHoursFor 4 = .ok (.istore_n 3, 1) := by decide +kernel
theorem dX1_fewestHoursFor_5 : decode cX1_fewestHoursFor 5 = .ok (.iload_n 3, 1) := by decide +kernel
theorem dX1_fewestHoursFor_6 : decode cX1_fewestHoursFor 6 = .ok (.sipush 128, 3) := by decide +kernel
theorem dX1_fewestHoursFor_9 : decode cX1_fewestHoursFor 9 = .ok (.if_icmp .ge 40, 3) := by decide +kernel
theorem dX1_fewestHoursFor_12 : decode cX1_fewestHoursFor 12 = .ok (.iload_n 3, 1) := by decide +kernel
theorem dX1_fewestHoursFor_13 : decode cX1_fewestHoursFor 13 = .ok (.invokestatic 118, 3) := by decide +kernel
theorem dX1_fewestHoursFor_16 : decode cX1_fewestHoursFor 16 = .ok (.istore 4, 2) := by decide +kernel
theorem dX1_fewestHoursFor_18 : decode cX1_fewestHoursFor 18 = .ok (.iload 4, 2) := by decide +kernel
theorem dX1_fewestHoursFor_20 : decode cX1_fewestHoursFor 20 = .ok (.iload_n 2, 1) := by decide +kernel
theorem dX1_fewestHoursFor_21 : decode cX1_fewestHoursFor 21 = .ok (.if_icmp .ge 22, 3) := by decide +kernel
theorem dX1_fewestHoursFor_24 : decode cX1_fewestHoursFor 24 = .ok (.aload_n 0, 1) := by decide +kernel
theorem dX1_fewestHoursFor_25 : decode cX1_fewestHoursFor 25 = .ok (.iload_n 3, 1) := by decide +kernel
theorem dX1_fewestHoursFor_26 : decode cX1_fewestHoursFor 26 = .ok (.invokevirtual 104, 3) := by decide +kernel
theorem dX1_fewestHoursFor_29 : decode cX1_fewestHoursFor 29 = .ok (.getstatic 111, 3) := by decide +kernel
theorem dX1_fewestHoursFor_32 : decode cX1_fewestHoursFor 32 = .ok (.iload_n 1, 1) := by decide +kernel
theorem dX1_fewestHoursFor_33 : decode cX1_fewestHoursFor 33 = .ok (.laload, 1) := by decide +kernel
theorem dX1_fewestHoursFor_34 : decode cX1_fewestHoursFor 34 = .ok (.land, 1) := by decide +kernel
theorem dX1_fewestHoursFor_35 : decode cX1_fewestHoursFor 35 = .ok (.lconst 0, 1) := by decide +kernel
theorem dX1_fewestHoursFor_36 : decode cX1_fewestHoursFor 36 = .ok (.lcmp, 1) := by decide +kernel
theorem dX1_fewestHoursFor_37 : decode cX1_fewestHoursFor 37 = .ok (.ifCond .eq 6, 3) := by decide +kernel
theorem dX1_fewestHoursFor_40 : decode cX1_fewestHoursFor 40 = .ok (.iload 4, 2) := by decide +kernel
theorem dX1_fewestHoursFor_42 : decode cX1_fewestHoursFor 42 = .ok (.istore_n 2, 1) := by decide +kernel
theorem dX1_fewestHoursFor_43 : decode cX1_fewestHoursFor 43 = .ok (.iinc 3 1, 3) := by decide +kernel
theorem dX1_fewestHoursFor_46 : decode cX1_fewestHoursFor 46 = .ok (.goto (-41), 3) := by decide +kernel
theorem dX1_fewestHoursFor_49 : decode cX1_fewestHoursFor 49 = .ok (.iload_n 2, 1) := by decide +kernel
theorem dX1_fewestHoursFor_50 : decode cX1_fewestHoursFor 50 = .ok (.ireturn, 1) := by decide +kernel
theorem dX1_fewestHoursTo_0 : decode cX1_fewestHoursTo 0 = .ok (.bipush (-9), 2) := by decide +kernel
theorem dX1_fewestHoursTo_2 : decode cX1_fewestHoursTo 2 = .ok (.istore_n 2, 1) := by decide +kernel
theorem dX1_fewestHoursTo_3 : decode cX1_fewestHoursTo 3 = .ok (.iconst 0, 1) := by decide +kernel
theorem dX1_fewestHoursTo_4 : decode cX1_fewestHoursTo 4 = .ok (.istore_n 3, 1) := by decide +kernel
theorem dX1_fewestHoursTo_5 : decode cX1_fewestHoursTo 5 = .ok (.iload_n 3, 1) := by decide +kernel
theorem dX1_fewestHoursTo_6 : decode cX1_fewestHoursTo 6 = .ok (.sipush 128, 3) := by decide +kernel
theorem dX1_fewestHoursTo_9 : decode cX1_fewestHoursTo 9 = .ok (.if_icmp .ge 42, 3) := by decide +kernel
theorem dX1_fewestHoursTo_12 : decode cX1_fewestHoursTo 12 = .ok (.aload_n 0, 1) := by decide +kernel
theorem dX1_fewestHoursTo_13 : decode cX1_fewestHoursTo 13 = .ok (.iload_n 1, 1) := by decide +kernel
theorem dX1_fewestHoursTo_14 : decode cX1_fewestHoursTo 14 = .ok (.iload_n 3, 1) := by decide +kernel
theorem dX1_fewestHoursTo_15 : decode cX1_fewestHoursTo 15 = .ok (.invokevirtual 123, 3) := by decide +kernel
theorem dX1_fewestHoursTo_18 : decode cX1_fewestHoursTo 18 = .ok (.ifCond .eq 27, 3) := by decide +kernel
theorem dX1_fewestHoursTo_21 : decode cX1_fewestHoursTo 21 = .ok (.iload_n 3, 1) := by decide +kernel
theorem dX1_fewestHoursTo_22 : decode cX1_fewestHoursTo 22 = .ok (.invokestatic 118, 3) := by decide +kernel
theorem dX1_fewestHoursTo_25 : decode cX1_fewestHoursTo 25 = .ok (.istore 4, 2) := by decide +kernel
theorem dX1_fewestHoursTo_27 : decode cX1_fewestHoursTo 27 = .ok (.iload_n 2, 1) := by decide +kernel
theorem dX1_fewestHoursTo_28 : decode cX1_fewestHoursTo 28 = .ok (.bipush (-9), 2) := by decide +kernel
theorem dX1_fewestHoursTo_30 : decode cX1_fewestHoursTo 30 = .ok (.if_icmp .ne 8, 3) := by decide +kernel
theorem dX1_fewestHoursTo_33 : decode cX1_fewestHoursTo 33 = .ok (.iload 4, 2) := by decide +kernel
theorem dX1_fewestHoursTo_35 : decode cX1_fewestHoursTo 35 = .ok (.goto 9, 3) := by decide +kernel
theorem dX1_fewestHoursTo_38 : decode cX1_fewestHoursTo 38 = .ok (.iload_n 2, 1) := by decide +kernel
theorem dX1_fewestHoursTo_39 : decode cX1_fewestHoursTo 39 = .ok (.iload 4, 2) := by decide +kernel
theorem dX1_fewestHoursTo_41 : decode cX1_fewestHoursTo 41 = .ok (.invokestatic 40, 3) := by decide +kernel
theorem dX1_fewestHoursTo_44 : decode cX1_fewestHoursTo 44 = .ok (.istore_n 2, 1) := by decide +kernel
theorem dX1_fewestHoursTo_45 : decode cX1_fewestHoursTo 45 = .ok (.iinc 3 1, 3) := by decide +kernel
theorem dX1_fewestHoursTo_48 : decode cX1_fewestHoursTo 48 = .ok (.goto (-43), 3) := by decide +kernel
theorem dX1_fewestHoursTo_51 : decode cX1_fewestHoursTo 51 = .ok (.iload_n 2, 1) := by decide +kernel
theorem dX1_fewestHoursTo_52 : decode cX1_fewestHoursTo 52 = .ok (.ireturn, 1) := by decide +kernel
theorem dX1_setsEnoughFor_0 : decode cX1_setsEnoughFor 0 = .ok (.iconst 0, 1) := by decide +kernel
theorem dX1_setsEnoughFor_1 : decode cX1_setsEnoughFor 1 = .ok (.istore_n 2, 1) := by decide +kernel
theorem dX1_setsEnoughFor_2 : decode cX1_setsEnoughFor 2 = .ok (.iconst 0, 1) := by decide +kernel
theorem dX1_setsEnoughFor_3 : decode cX1_setsEnoughFor 3 = .ok (.istore_n 3, 1) := by decide +kernel
theorem dX1_setsEnoughFor_4 : decode cX1_setsEnoughFor 4 = .ok (.iload_n 3, 1) := by decide +kernel
theorem dX1_setsEnoughFor_5 : decode cX1_setsEnoughFor 5 = .ok (.sipush 128, 3) := by decide +kernel
theorem dX1_setsEnoughFor_8 : decode cX1_setsEnoughFor 8 = .ok (.if_icmp .ge 26, 3) := by decide +kernel
theorem dX1_setsEnoughFor_11 : decode cX1_setsEnoughFor 11 = .ok (.iload_n 2, 1) := by decide +kernel
theorem dX1_setsEnoughFor_12 : decode cX1_setsEnoughFor 12 = .ok (.aload_n 0, 1) := by decide +kernel
theorem dX1_setsEnoughFor_13 : decode cX1_setsEnoughFor 13 = .ok (.iload_n 1, 1) := by decide +kernel
theorem dX1_setsEnoughFor_14 : decode cX1_setsEnoughFor 14 = .ok (.iload_n 3, 1) := by decide +kernel
theorem dX1_setsEnoughFor_15 : decode cX1_setsEnoughFor 15 = .ok (.invokevirtual 123, 3) := by decide +kernel
theorem dX1_setsEnoughFor_18 : decode cX1_setsEnoughFor 18 = .ok (.ifCond .eq 7, 3) := by decide +kernel
theorem dX1_setsEnoughFor_21 : decode cX1_setsEnoughFor 21 = .ok (.iconst 1, 1) := by decide +kernel
theorem dX1_setsEnoughFor_22 : decode cX1_setsEnoughFor 22 = .ok (.goto 4, 3) := by decide +kernel
theorem dX1_setsEnoughFor_25 : decode cX1_setsEnoughFor 25 = .ok (.iconst 0, 1) := by decide +kernel
theorem dX1_setsEnoughFor_26 : decode cX1_setsEnoughFor 26 = .ok (.iadd, 1) := by decide +kernel
theorem dX1_setsEnoughFor_27 : decode cX1_setsEnoughFor 27 = .ok (.istore_n 2, 1) := by decide +kernel
theorem dX1_setsEnoughFor_28 : decode cX1_setsEnoughFor 28 = .ok (.iinc 3 1, 3) := by decide +kernel
theorem dX1_setsEnoughFor_31 : decode cX1_setsEnoughFor 31 = .ok (.goto (-27), 3) := by decide +kernel
theorem dX1_setsEnoughFor_34 : decode cX1_setsEnoughFor 34 = .ok (.iload_n 2, 1) := by decide +kernel
theorem dX1_setsEnoughFor_35 : decode cX1_setsEnoughFor 35 = .ok (.ireturn, 1) := by decide +kernel
theorem dX1_writeFirst_0 : decode cX1_writeFirst 0 = .ok (.aload_n 0, 1) := by decide +kernel
theorem dX1_writeFirst_1 : decode cX1_writeFirst 1 = .ok (.iload_n 1, 1) := by decide +kernel
theorem dX1_writeFirst_2 : decode cX1_writeFirst 2 = .ok (.iload_n 2, 1) := by decide +kernel
theorem dX1_writeFirst_3 : decode cX1_writeFirst 3 = .ok (.invokevirtual 126, 3) := by decide +kernel
theorem dX1_writeFirst_6 : decode cX1_writeFirst 6 = .ok (.iconst 0, 1) := by decide +kernel
theorem dX1_writeFirst_7 : decode cX1_writeFirst 7 = .ok (.istore 4, 2) := by decide +kernel
theorem dX1_writeFirst_9 : decode cX1_writeFirst 9 = .ok (.iload 4, 2) := by decide +kernel
theorem dX1_writeFirst_11 : decode cX1_writeFirst 11 = .ok (.iload_n 2, 1) := by decide +kernel
theorem dX1_writeFirst_12 : decode cX1_writeFirst 12 = .ok (.if_icmp .ge 29, 3) := by decide +kernel
theorem dX1_writeFirst_15 : decode cX1_writeFirst 15 = .ok (.iconst 2, 1) := by decide +kernel
theorem dX1_writeFirst_16 : decode cX1_writeFirst 16 = .ok (.iload 4, 2) := by decide +kernel
theorem dX1_writeFirst_18 : decode cX1_writeFirst 18 = .ok (.imul, 1) := by decide +kernel
theorem dX1_writeFirst_19 : decode cX1_writeFirst 19 = .ok (.iconst 1, 1) := by decide +kernel
theorem dX1_writeFirst_20 : decode cX1_writeFirst 20 = .ok (.iadd, 1) := by decide +kernel
theorem dX1_writeFirst_21 : decode cX1_writeFirst 21 = .ok (.aload_n 3, 1) := by decide +kernel
theorem dX1_writeFirst_22 : decode cX1_writeFirst 22 = .ok (.arraylength, 1) := by decide +kernel
theorem dX1_writeFirst_23 : decode cX1_writeFirst 23 = .ok (.if_icmp .ge 18, 3) := by decide +kernel
theorem dX1_writeFirst_26 : decode cX1_writeFirst 26 = .ok (.aload_n 0, 1) := by decide +kernel
theorem dX1_writeFirst_27 : decode cX1_writeFirst 27 = .ok (.iconst 2, 1) := by decide +kernel
theorem dX1_writeFirst_28 : decode cX1_writeFirst 28 = .ok (.iload 4, 2) := by decide +kernel
theorem dX1_writeFirst_30 : decode cX1_writeFirst 30 = .ok (.imul, 1) := by decide +kernel
theorem dX1_writeFirst_31 : decode cX1_writeFirst 31 = .ok (.aload_n 3, 1) := by decide +kernel
theorem dX1_writeFirst_32 : decode cX1_writeFirst 32 = .ok (.invokevirtual 129, 3) := by decide +kernel
theorem dX1_writeFirst_35 : decode cX1_writeFirst 35 = .ok (.iinc 4 1, 3) := by decide +kernel
theorem dX1_writeFirst_38 : decode cX1_writeFirst 38 = .ok (.goto (-29), 3) := by decide +kernel
theorem dX1_writeFirst_41 : decode cX1_writeFirst 41 = .ok (.return_, 1) := by decide +kernel
theorem dX1_writeFirstPair_0 : decode cX1_writeFirstPair 0 = .ok (.iconst 0, 1) := by decide +kernel
theorem dX1_writeFirstPair_1 : decode cX1_writeFirstPair 1 = .ok (.istore_n 3, 1) := by decide +kernel
theorem dX1_writeFirstPair_2 : decode cX1_writeFirstPair 2 = .ok (.iload_n 3, 1) := by decide +kernel
theorem dX1_writeFirstPair_3 : decode cX1_writeFirstPair 3 = .ok (.aload_n 0, 1) := by decide +kernel
theorem dX1_writeFirstPair_4 : decode cX1_writeFirstPair 4 = .ok (.getfield 31, 3) := by decide +kernel
theorem dX1_writeFirstPair_7 : decode cX1_writeFirstPair 7 = .ok (.getfield 133, 3) := by decide +kernel
theorem dX1_writeFirstPair_10 : decode cX1_writeFirstPair 10 = .ok (.if_icmp .ge 83, 3) := by decide +kernel
theorem dX1_writeFirstPair_13 : decode cX1_writeFirstPair 13 = .ok (.iconst (-1), 1) := by decide +kernel
theorem dX1_writeFirstPair_14 : decode cX1_writeFirstPair 14 = .ok (.istore 4, 2) := by decide +kernel
theorem dX1_writeFirstPair_16 : decode cX1_writeFirstPair 16 = .ok (.iload 4, 2) := by decide +kernel
theorem dX1_writeFirstPair_18 : decode cX1_writeFirstPair 18 = .ok (.aload_n 0, 1) := by decide +kernel
theorem dX1_writeFirstPair_19 : decode cX1_writeFirstPair 19 = .ok (.getfield 31, 3) := by decide +kernel
theorem dX1_writeFirstPair_22 : decode cX1_writeFirstPair 22 = .ok (.getfield 91, 3) := by decide +kernel
theorem dX1_writeFirstPair_25 : decode cX1_writeFirstPair 25 = .ok (.if_icmp .ge 62, 3) := by decide +kernel
theorem dX1_writeFirstPair_28 : decode cX1_writeFirstPair 28 = .ok (.iload 4, 2) := by decide +kernel
theorem dX1_writeFirstPair_30 : decode cX1_writeFirstPair 30 = .ok (.ifCond .ge 8, 3) := by decide +kernel
theorem dX1_writeFirstPair_33 : decode cX1_writeFirstPair 33 = .ok (.bipush (-9), 2) := by decide +kernel
theorem dX1_writeFirstPair_35 : decode cX1_writeFirstPair 35 = .ok (.goto 5, 3) := by decide +kernel
theorem dX1_writeFirstPair_38 : decode cX1_writeFirstPair 38 = .ok (.iload 4, 2) := by decide +kernel
theorem dX1_writeFirstPair_40 : decode cX1_writeFirstPair 40 = .ok (.istore 5, 2) := by decide +kernel
theorem dX1_writeFirstPair_42 : decode cX1_writeFirstPair 42 = .ok (.aload_n 0, 1) := by decide +kernel
theorem dX1_writeFirstPair_43 : decode cX1_writeFirstPair 43 = .ok (.iload_n 3, 1) := by decide +kernel
theorem dX1_writeFirstPair_44 : decode cX1_writeFirstPair 44 = .ok (.iload 5, 2) := by decide +kernel
theorem dX1_writeFirstPair_46 : decode cX1_writeFirstPair 46 = .ok (.invokevirtual 47, 3) := by decide +kernel
theorem dX1_writeFirstPair_49 : decode cX1_writeFirstPair 49 = .ok (.ifCond .eq 32, 3) := by decide +kernel
theorem dX1_writeFirstPair_52 : decode cX1_writeFirstPair 52 = .ok (.aload_n 0, 1) := by decide +kernel
theorem dX1_writeFirstPair_53 : decode cX1_writeFirstPair 53 = .ok (.iload_n 3, 1) := by decide +kernel
theorem dX1_writeFirstPair_54 : decode cX1_writeFirstPair 54 = .ok (.iload 5, 2) := by decide +kernel
theorem dX1_writeFirstPair_56 : decode cX1_writeFirstPair 56 = .ok (.invokevirtual 136, 3) := by decide +kernel
theorem dX1_writeFirstPair_59 : decode cX1_writeFirstPair 59 = .ok (.ifCond .eq 22, 3) := by decide +kernel
theorem dX1_writeFirstPair_62 : decode cX1_writeFirstPair 62 = .ok (.aload_n 2, 1) := by decide +kernel
theorem dX1_writeFirstPair_63 : decode cX1_writeFirstPair 63 = .ok (.iload_n 1, 1) := by decide +kernel
theorem dX1_writeFirstPair_64 : decode cX1_writeFirstPair 64 = .ok (.iload_n 3, 1) := by decide +kernel
theorem dX1_writeFirstPair_65 : decode cX1_writeFirstPair 65 = .ok (.iastore, 1) := by decide +kernel
theorem dX1_writeFirstPair_66 : decode cX1_writeFirstPair 66 = .ok (.aload_n 2, 1) := by decide +kernel
theorem dX1_writeFirstPair_67 : decode cX1_writeFirstPair 67 = .ok (.iload_n 1, 1) := by decide +kernel
theorem dX1_writeFirstPair_68 : decode cX1_writeFirstPair 68 = .ok (.iconst 1, 1) := by decide +kernel
theorem dX1_writeFirstPair_69 : decode cX1_writeFirstPair 69 = .ok (.iadd, 1) := by decide +kernel
theorem dX1_writeFirstPair_70 : decode cX1_writeFirstPair 70 = .ok (.iload 5, 2) := by decide +kernel
theorem dX1_writeFirstPair_72 : decode cX1_writeFirstPair 72 = .ok (.iastore, 1) := by decide +kernel
theorem dX1_writeFirstPair_73 : decode cX1_writeFirstPair 73 = .ok (.aload_n 0, 1) := by decide +kernel
theorem dX1_writeFirstPair_74 : decode cX1_writeFirstPair 74 = .ok (.iload_n 3, 1) := by decide +kernel
theorem dX1_writeFirstPair_75 : decode cX1_writeFirstPair 75 = .ok (.iload 5, 2) := by decide +kernel
theorem dX1_writeFirstPair_77 : decode cX1_writeFirstPair 77 = .ok (.invokevirtual 51, 3) := by decide +kernel
theorem dX1_writeFirstPair_80 : decode cX1_writeFirstPair 80 = .ok (.return_, 1) := by decide +kernel
theorem dX1_writeFirstPair_81 : decode cX1_writeFirstPair 81 = .ok (.iinc 4 1, 3) := by decide +kernel
theorem dX1_writeFirstPair_84 : decode cX1_writeFirstPair 84 = .ok (.goto (-68), 3) := by decide +kernel
theorem dX1_writeFirstPair_87 : decode cX1_writeFirstPair 87 = .ok (.iinc 3 1, 3) := by decide +kernel
theorem dX1_writeFirstPair_90 : decode cX1_writeFirstPair 90 = .ok (.goto (-88), 3) := by decide +kernel
theorem dX1_writeFirstPair_93 : decode cX1_writeFirstPair 93 = .ok (.return_, 1) := by decide +kernel
theorem dX1_isWinning_0 : decode cX1_isWinning 0 = .ok (.aload_n 0, 1) := by decide +kernel
theorem dX1_isWinning_1 : decode cX1_isWinning 1 = .ok (.getfield 22, 3) := by decide +kernel
theorem dX1_isWinning_4 : decode cX1_isWinning 4 = .ok (.iconst 1, 1) := by decide +kernel
theorem dX1_isWinning_5 : decode cX1_isWinning 5 = .ok (.iload_n 1, 1) := by decide +kernel
theorem dX1_isWinning_6 : decode cX1_isWinning 6 = .ok (.ishl, 1) := by decide +kernel
theorem dX1_isWinning_7 : decode cX1_isWinning 7 = .ok (.ior, 1) := by decide +kernel
theorem dX1_isWinning_8 : decode cX1_isWinning 8 = .ok (.iconst 3, 1) := by decide +kernel
theorem dX1_isWinning_9 : decode cX1_isWinning 9 = .ok (.imul, 1) := by decide +kernel
theorem dX1_isWinning_10 : decode cX1_isWinning 10 = .ok (.aload_n 0, 1) := by decide +kernel
theorem dX1_isWinning_11 : decode cX1_isWinning 11 = .ok (.aload_n 0, 1) := by decide +kernel
theorem dX1_isWinning_12 : decode cX1_isWinning 12 = .ok (.getfield 25, 3) := by decide +kernel
theorem dX1_isWinning_15 : decode cX1_isWinning 15 = .ok (.iload_n 2, 1) := by decide +kernel
theorem dX1_isWinning_16 : decode cX1_isWinning 16 = .ok (.invokevirtual 64, 3) := by decide +kernel
theorem dX1_isWinning_19 : decode cX1_isWinning 19 = .ok (.iadd, 1) := by decide +kernel
theorem dX1_isWinning_20 : decode cX1_isWinning 20 = .ok (.istore_n 3, 1) := by decide +kernel
theorem dX1_isWinning_21 : decode cX1_isWinning 21 = .ok (.aload_n 0, 1) := by decide +kernel
theorem dX1_isWinning_22 : decode cX1_isWinning 22 = .ok (.getfield 15, 3) := by decide +kernel
theorem dX1_isWinning_25 : decode cX1_isWinning 25 = .ok (.iload_n 3, 1) := by decide +kernel
theorem dX1_isWinning_26 : decode cX1_isWinning 26 = .ok (.laload, 1) := by decide +kernel
theorem dX1_isWinning_27 : decode cX1_isWinning 27 = .ok (.aload_n 0, 1) := by decide +kernel
theorem dX1_isWinning_28 : decode cX1_isWinning 28 = .ok (.getfield 28, 3) := by decide +kernel
theorem dX1_isWinning_31 : decode cX1_isWinning 31 = .ok (.iload_n 2, 1) := by decide +kernel
theorem dX1_isWinning_32 : decode cX1_isWinning 32 = .ok (.invokestatic 67, 3) := by decide +kernel
theorem dX1_isWinning_35 : decode cX1_isWinning 35 = .ok (.ior, 1) := by decide +kernel
theorem dX1_isWinning_36 : decode cX1_isWinning 36 = .ok (.lushr, 1) := by decide +kernel
theorem dX1_isWinning_37 : decode cX1_isWinning 37 = .ok (.lconst 1, 1) := by decide +kernel
theorem dX1_isWinning_38 : decode cX1_isWinning 38 = .ok (.land, 1) := by decide +kernel
theorem dX1_isWinning_39 : decode cX1_isWinning 39 = .ok (.lconst 1, 1) := by decide +kernel
theorem dX1_isWinning_40 : decode cX1_isWinning 40 = .ok (.lcmp, 1) := by decide +kernel
theorem dX1_isWinning_41 : decode cX1_isWinning 41 = .ok (.ifCond .ne 7, 3) := by decide +kernel
theorem dX1_isWinning_44 : decode cX1_isWinning 44 = .ok (.iconst 1, 1) := by decide +kernel
theorem dX1_isWinning_45 : decode cX1_isWinning 45 = .ok (.goto 4, 3) := by decide +kernel
theorem dX1_isWinning_48 : decode cX1_isWinning 48 = .ok (.iconst 0, 1) := by decide +kernel
theorem dX1_isWinning_49 : decode cX1_isWinning 49 = .ok (.ireturn, 1) := by decide +kernel
theorem dX1_findWinning_0 : decode cX1_findWinning 0 = .ok (.bipush 127, 2) := by decide +kernel
theorem dX1_findWinning_2 : decode cX1_findWinning 2 = .ok (.istore_n 3, 1) := by decide +kernel
theorem dX1_findWinning_3 : decode cX1_findWinning 3 = .ok (.iload_n 3, 1) := by decide +kernel
theorem dX1_findWinning_4 : decode cX1_findWinning 4 = .ok (.ifCond .lt 95, 3) := by decide +kernel
theorem dX1_findWinning_7 : decode cX1_findWinning 7 = .ok (.iload_n 3, 1) := by decide +kernel
theorem dX1_findWinning_8 : decode cX1_findWinning 8 = .ok (.invokestatic 118, 3) := by decide +kernel
theorem dX1_findWinning_11 : decode cX1_findWinning 11 = .ok (.istore 4, 2) := by decide +kernel
theorem dX1_findWinning_13 : decode cX1_findWinning 13 = .ok (.iconst 0, 1) := by decide +kernel
theorem dX1_findWinning_14 : decode cX1_findWinning 14 = .ok (.istore 5, 2) := by decide +kernel
theorem dX1_findWinning_16 : decode cX1_findWinning 16 = .ok (.iload 5, 2) := by decide +kernel
theorem dX1_findWinning_18 : decode cX1_findWinning 18 = .ok (.iconst 3, 1) := by decide +kernel
theorem dX1_findWinning_19 : decode cX1_findWinning 19 = .ok (.if_icmp .ge 74, 3) := by decide +kernel
theorem dX1_findWinning_22 : decode cX1_findWinning 22 = .ok (.iload_n 3, 1) := by decide +kernel
theorem dX1_findWinning_23 : decode cX1_findWinning 23 = .ok (.iconst 3, 1) := by decide +kernel
theorem dX1_findWinning_24 : decode cX1_findWinning 24 = .ok (.imul, 1) := by decide +kernel
theorem dX1_findWinning_25 : decode cX1_findWinning 25 = .ok (.iload 5, 2) := by decide +kernel
theorem dX1_findWinning_27 : decode cX1_findWinning 27 = .ok (.iadd, 1) := by decide +kernel
theorem dX1_findWinning_28 : decode cX1_findWinning 28 = .ok (.istore 6, 2) := by decide +kernel
theorem dX1_findWinning_30 : decode cX1_findWinning 30 = .ok (.iload 4, 2) := by decide +kernel
theorem dX1_findWinning_32 : decode cX1_findWinning 32 = .ok (.iload_n 2, 1) := by decide +kernel
theorem dX1_findWinning_33 : decode cX1_findWinning 33 = .ok (.if_icmp .gt 15, 3) := by decide +kernel
theorem dX1_findWinning_36 : decode cX1_findWinning 36 = .ok (.aload_n 0, 1) := by decide +kernel
theorem dX1_findWinning_37 : decode cX1_findWinning 37 = .ok (.getfield 9, 3) := by decide +kernel
theorem dX1_findWinning_40 : decode cX1_findWinning 40 = .ok (.iload 6, 2) := by decide +kernel
theorem dX1_findWinning_42 : decode cX1_findWinning 42 = .ok (.laload, 1) := by decide +kernel
theorem dX1_findWinning_43 : decode cX1_findWinning 43 = .ok (.lconst 0, 1) := by decide +kernel
theorem dX1_findWinning_44 : decode cX1_findWinning 44 = .ok (.lcmp, 1) := by decide +kernel
theorem dX1_findWinning_45 : decode cX1_findWinning 45 = .ok (.ifCond .ne 14, 3) := by decide +kernel
theorem dX1_findWinning_48 : decode cX1_findWinning 48 = .ok (.aload_n 0, 1) := by decide +kernel
theorem dX1_findWinning_49 : decode cX1_findWinning 49 = .ok (.getfield 15, 3) := by decide +kernel
theorem dX1_findWinning_52 : decode cX1_findWinning 52 = .ok (.iload 6, 2) := by decide +kernel
theorem dX1_findWinning_54 : decode cX1_findWinning 54 = .ok (.lconst 0, 1) := by decide +kernel
theorem dX1_findWinning_55 : decode cX1_findWinning 55 = .ok (.lastore, 1) := by decide +kernel
theorem dX1_findWinning_56 : decode cX1_findWinning 56 = .ok (.goto 31, 3) := by decide +kernel
theorem dX1_findWinning_59 : decode cX1_findWinning 59 = .ok (.aload_n 0, 1) := by decide +kernel
theorem dX1_findWinning_60 : decode cX1_findWinning 60 = .ok (.getfield 15, 3) := by decide +kernel
theorem dX1_findWinning_63 : decode cX1_findWinning 63 = .ok (.iload 6, 2) := by decide +kernel
theorem dX1_findWinning_65 : decode cX1_findWinning 65 = .ok (.iload 4, 2) := by decide +kernel
theorem dX1_findWinning_67 : decode cX1_findWinning 67 = .ok (.iload_n 2, 1) := by decide +kernel
theorem dX1_findWinning_68 : decode cX1_findWinning 68 = .ok (.if_icmp .ne 11, 3) := by decide +kernel
theorem dX1_findWinning_71 : decode cX1_findWinning 71 = .ok (.getstatic 108, 3) := by decide +kernel
theorem dX1_findWinning_74 : decode cX1_findWinning 74 = .ok (.iload_n 1, 1) := by decide +kernel
theorem dX1_findWinning_75 : decode cX1_findWinning 75 = .ok (.laload, 1) := by decide +kernel
theorem dX1_findWinning_76 : decode cX1_findWinning 76 = .ok (.goto 10, 3) := by decide +kernel
theorem dX1_findWinning_79 : decode cX1_findWinning 79 = .ok (.aload_n 0, 1) := by decide +kernel
theorem dX1_findWinning_80 : decode cX1_findWinning 80 = .ok (.iload_n 3, 1) := by decide +kernel
theorem dX1_findWinning_81 : decode cX1_findWinning 81 = .ok (.iload 5, 2) := by decide +kernel
theorem dX1_findWinning_83 : decode cX1_findWinning 83 = .ok (.invokevirtual 139, 3) := by decide +kernel
theorem dX1_findWinning_86 : decode cX1_findWinning 86 = .ok (.lastore, 1) := by decide +kernel
theorem dX1_findWinning_87 : decode cX1_findWinning 87 = .ok (.iinc 5 1, 3) := by decide +kernel
theorem dX1_findWinning_90 : decode cX1_findWinning 90 = .ok (.goto (-74), 3) := by decide +kernel
theorem dX1_findWinning_93 : decode cX1_findWinning 93 = .ok (.iinc 3 (-1), 3) := by decide +kernel
theorem dX1_findWinning_96 : decode cX1_findWinning 96 = .ok (.goto (-93), 3) := by decide +kernel
theorem dX1_findWinning_99 : decode cX1_findWinning 99 = .ok (.return_, 1) := by decide +kernel
theorem dX1_winningAhead_0 : decode cX1_winningAhead 0 = .ok (.aload_n 0, 1) := by decide +kernel
theorem dX1_winningAhead_1 : decode cX1_winningAhead 1 = .ok (.iload_n 1, 1) := by decide +kernel
theorem dX1_winningAhead_2 : decode cX1_winningAhead 2 = .ok (.aload_n 0, 1) := by decide +kernel
theorem dX1_winningAhead_3 : decode cX1_winningAhead 3 = .ok (.iload_n 2, 1) := by decide +kernel
theorem dX1_winningAhead_4 : decode cX1_winningAhead 4 = .ok (.bipush (-9), 2) := by decide +kernel
theorem dX1_winningAhead_6 : decode cX1_winningAhead 6 = .ok (.invokevirtual 64, 3) := by decide +kernel
theorem dX1_winningAhead_9 : decode cX1_winningAhead 9 = .ok (.aload_n 0, 1) := by decide +kernel
theorem dX1_winningAhead_10 : decode cX1_winningAhead 10 = .ok (.getfield 18, 3) := by decide +kernel
theorem dX1_winningAhead_13 : decode cX1_winningAhead 13 = .ok (.invokevirtual 143, 3) := by decide +kernel
theorem dX1_winningAhead_16 : decode cX1_winningAhead 16 = .ok (.lstore_n 3, 1) := by decide +kernel
theorem dX1_winningAhead_17 : decode cX1_winningAhead 17 = .ok (.iconst 0, 1) := by decide +kernel
theorem dX1_winningAhead_18 : decode cX1_winningAhead 18 = .ok (.istore 5, 2) := by decide +kernel
theorem dX1_winningAhead_20 : decode cX1_winningAhead 20 = .ok (.iload 5, 2) := by decide +kernel
theorem dX1_winningAhead_22 : decode cX1_winningAhead 22 = .ok (.aload_n 0, 1) := by decide +kernel
theorem dX1_winningAhead_23 : decode cX1_winningAhead 23 = .ok (.getfield 31, 3) := by decide +kernel
theorem dX1_winningAhead_26 : decode cX1_winningAhead 26 = .ok (.getfield 91, 3) := by decide +kernel
theorem dX1_winningAhead_29 : decode cX1_winningAhead 29 = .ok (.if_icmp .ge 73, 3) := by decide +kernel
theorem dX1_winningAhead_32 : decode cX1_winningAhead 32 = .ok (.aload_n 0, 1) := by decide +kernel
theorem dX1_winningAhead_33 : decode cX1_winningAhead 33 = .ok (.getfield 31, 3) := by decide +kernel
theorem dX1_winningAhead_36 : decode cX1_winningAhead 36 = .ok (.iload 5, 2) := by decide +kernel
theorem dX1_winningAhead_38 : decode cX1_winningAhead 38 = .ok (.iload_n 2, 1) := by decide +kernel
theorem dX1_winningAhead_39 : decode cX1_winningAhead 39 = .ok (.invokevirtual 97, 3) := by decide +kernel
theorem dX1_winningAhead_42 : decode cX1_winningAhead 42 = .ok (.ifCond .eq 54, 3) := by decide +kernel
theorem dX1_winningAhead_45 : decode cX1_winningAhead 45 = .ok (.aload_n 0, 1) := by decide +kernel
theorem dX1_winningAhead_46 : decode cX1_winningAhead 46 = .ok (.iload_n 1, 1) := by decide +kernel
theorem dX1_winningAhead_47 : decode cX1_winningAhead 47 = .ok (.aload_n 0, 1) := by decide +kernel
theorem dX1_winningAhead_48 : decode cX1_winningAhead 48 = .ok (.iload_n 2, 1) := by decide +kernel
theorem dX1_winningAhead_49 : decode cX1_winningAhead 49 = .ok (.iload 5, 2) := by decide +kernel
theorem dX1_winningAhead_51 : decode cX1_winningAhead 51 = .ok (.invokevirtual 64, 3) := by decide +kernel
theorem dX1_winningAhead_54 : decode cX1_winningAhead 54 = .ok (.aload_n 0, 1) := by decide +kernel
theorem dX1_winningAhead_55 : decode cX1_winningAhead 55 = .ok (.getfield 18, 3) := by decide +kernel
theorem dX1_winningAhead_58 : decode cX1_winningAhead 58 = .ok (.aload_n 0, 1) := by decide +kernel
theorem dX1_winningAhead_59 : decode cX1_winningAhead 59 = .ok (.getfield 31, 3) := by decide +kernel
theorem dX1_winningAhead_62 : decode cX1_winningAhead 62 = .ok (.getfield 100, 3) := by decide +kernel
theorem dX1_winningAhead_65 : decode cX1_winningAhead 65 = .ok (.iload 5, 2) := by decide +kernel
theorem dX1_winningAhead_67 : decode cX1_winningAhead 67 = .ok (.iaload, 1) := by decide +kernel
theorem dX1_winningAhead_68 : decode cX1_winningAhead 68 = .ok (.iand, 1) := by decide +kernel
theorem dX1_winningAhead_69 : decode cX1_winningAhead 69 = .ok (.invokevirtual 143, 3) := by decide +kernel
theorem dX1_winningAhead_72 : decode cX1_winningAhead 72 = .ok (.lstore 6, 2) := by decide +kernel
theorem dX1_winningAhead_74 : decode cX1_winningAhead 74 = .ok (.lload_n 3, 1) := by decide +kernel
theorem dX1_winningAhead_75 : decode cX1_winningAhead 75 = .ok (.lload 6, 2) := by decide +kernel
theorem dX1_winningAhead_77 : decode cX1_winningAhead 77 = .ok (.iload 5, 2) := by decide +kernel
theorem dX1_winningAhead_79 : decode cX1_winningAhead 79 = .ok (.invokestatic 67, 3) := by decide +kernel
theorem dX1_winningAhead_82 : decode cX1_winningAhead 82 = .ok (.lushr, 1) := by decide +kernel
theorem dX1_winningAhead_83 : decode cX1_winningAhead 83 = .ok (.aload_n 0, 1) := by decide +kernel
theorem dX1_winningAhead_84 : decode cX1_winningAhead 84 = .ok (.getfield 31, 3) := by decide +kernel
theorem dX1_winningAhead_87 : decode cX1_winningAhead 87 = .ok (.getfield 94, 3) := by decide +kernel
theorem dX1_winningAhead_90 : decode cX1_winningAhead 90 = .ok (.iload 5, 2) := by decide +kernel
theorem dX1_winningAhead_92 : decode cX1_winningAhead 92 = .ok (.laload, 1) := by decide +kernel
theorem dX1_winningAhead_93 : decode cX1_winningAhead 93 = .ok (.land, 1) := by decide +kernel
theorem dX1_winningAhead_94 : decode cX1_winningAhead 94 = .ok (.lor, 1) := by decide +kernel
theorem dX1_winningAhead_95 : decode cX1_winningAhead 95 = .ok (.lstore_n 3, 1) := by decide +kernel
theorem dX1_winningAhead_96 : decode cX1_winningAhead 96 = .ok (.iinc 5 1, 3) := by decide +kernel
theorem dX1_winningAhead_99 : decode cX1_winningAhead 99 = .ok (.goto (-79), 3) := by decide +kernel
theorem dX1_winningAhead_102 : decode cX1_winningAhead 102 = .ok (.lload_n 3, 1) := by decide +kernel
theorem dX1_winningAhead_103 : decode cX1_winningAhead 103 = .ok (.lreturn, 1) := by decide +kernel
theorem dX1_winningBy_0 : decode cX1_winningBy 0 = .ok (.lconst 0, 1) := by decide +kernel
theorem dX1_winningBy_1 : decode cX1_winningBy 1 = .ok (.lstore 4, 2) := by decide +kernel
theorem dX1_winningBy_3 : decode cX1_winningBy 3 = .ok (.iload_n 3, 1) := by decide +kernel
theorem dX1_winningBy_4 : decode cX1_winningBy 4 = .ok (.iload_n 1, 1) := by decide +kernel
theorem dX1_winningBy_5 : decode cX1_winningBy 5 = .ok (.iconst (-1), 1) := by decide +kernel
theorem dX1_winningBy_6 : decode cX1_winningBy 6 = .ok (.ixor, 1) := by decide +kernel
theorem dX1_winningBy_7 : decode cX1_winningBy 7 = .ok (.iand, 1) := by decide +kernel
theorem dX1_winningBy_8 : decode cX1_winningBy 8 = .ok (.istore 6, 2) := by decide +kernel
theorem dX1_winningBy_10 : decode cX1_winningBy 10 = .ok (.iconst 0, 1) := by decide +kernel
theorem dX1_winningBy_11 : decode cX1_winningBy 11 = .ok (.istore 7, 2) := by decide +kernel
theorem dX1_winningBy_13 : decode cX1_winningBy 13 = .ok (.iload 7, 2) := by decide +kernel
theorem dX1_winningBy_15 : decode cX1_winningBy 15 = .ok (.bipush 7, 2) := by decide +kernel
theorem dX1_winningBy_17 : decode cX1_winningBy 17 = .ok (.if_icmp .ge 47, 3) := by decide +kernel
theorem dX1_winningBy_20 : decode cX1_winningBy 20 = .ok (.iload 6, 2) := by decide +kernel
theorem dX1_winningBy_22 : decode cX1_winningBy 22 = .ok (.ifCond .eq 42, 3) := by decide +kernel
theorem dX1_winningBy_25 : decode cX1_winningBy 25 = .ok (.iload 6, 2) := by decide +kernel
theorem dX1_winningBy_27 : decode cX1_winningBy 27 = .ok (.iload 6, 2) := by decide +kernel
theorem dX1_winningBy_29 : decode cX1_winningBy 29 = .ok (.ineg, 1) := by decide +kernel
theorem dX1_winningBy_30 : decode cX1_winningBy 30 = .ok (.iand, 1) := by decide +kernel
theorem dX1_winningBy_31 : decode cX1_winningBy 31 = .ok (.istore 8, 2) := by decide +kernel
theorem dX1_winningBy_33 : decode cX1_winningBy 33 = .ok (.iload 6, 2) := by decide +kernel
theorem dX1_winningBy_35 : decode cX1_winningBy 35 = .ok (.iload 8, 2) := by decide +kernel
theorem dX1_winningBy_37 : decode cX1_winningBy 37 = .ok (.isub, 1) := by decide +kernel
theorem dX1_winningBy_38 : decode cX1_winningBy 38 = .ok (.istore 6, 2) := by decide +kernel
theorem dX1_winningBy_40 : decode cX1_winningBy 40 = .ok (.lload 4, 2) := by decide +kernel
theorem dX1_winningBy_42 : decode cX1_winningBy 42 = .ok (.aload_n 0, 1) := by decide +kernel
theorem dX1_winningBy_43 : decode cX1_winningBy 43 = .ok (.getfield 15, 3) := by decide +kernel
theorem dX1_winningBy_46 : decode cX1_winningBy 46 = .ok (.iload_n 1, 1) := by decide +kernel
theorem dX1_winningBy_47 : decode cX1_winningBy 47 = .ok (.iload 8, 2) := by decide +kernel
theorem dX1_winningBy_49 : decode cX1_winningBy 49 = .ok (.ior, 1) := by decide +kernel
theorem dX1_winningBy_50 : decode cX1_winningBy 50 = .ok (.iconst 3, 1) := by decide +kernel
theorem dX1_winningBy_51 : decode cX1_winningBy 51 = .ok (.imul, 1) := by decide +kernel
theorem dX1_winningBy_52 : decode cX1_winningBy 52 = .ok (.iload_n 2, 1) := by decide +kernel
theorem dX1_winningBy_53 : decode cX1_winningBy 53 = .ok (.iadd, 1) := by decide +kernel
theorem dX1_winningBy_54 : decode cX1_winningBy 54 = .ok (.laload, 1) := by decide +kernel
theorem dX1_winningBy_55 : decode cX1_winningBy 55 = .ok (.lor, 1) := by decide +kernel
theorem dX1_winningBy_56 : decode cX1_winningBy 56 = .ok (.lstore 4, 2) := by decide +kernel
theorem dX1_winningBy_58 : decode cX1_winningBy 58 = .ok (.iinc 7 1, 3) := by decide +kernel
theorem dX1_winningBy_61 : decode cX1_winningBy 61 = .ok (.goto (-48), 3) := by decide +kernel
theorem dX1_winningBy_64 : decode cX1_winningBy 64 = .ok (.lload 4, 2) := by decide +kernel
theorem dX1_winningBy_66 : decode cX1_winningBy 66 = .ok (.lreturn, 1) := by decide +kernel
theorem dX2_init_0 : decode cX2_init 0 = .ok (.aload_n 0, 1) := by decide +kernel
theorem dX2_init_1 : decode cX2_init 1 = .ok (.invokespecial 3, 3) := by decide +kernel
theorem dX2_init_4 : decode cX2_init 4 = .ok (.aload_n 0, 1) := by decide +kernel
theorem dX2_init_5 : decode cX2_init 5 = .ok (.iconst 0, 1) := by decide +kernel
theorem dX2_init_6 : decode cX2_init 6 = .ok (.putfield 9, 3) := by decide +kernel
theorem dX2_init_9 : decode cX2_init 9 = .ok (.aload_n 0, 1) := by decide +kernel
theorem dX2_init_10 : decode cX2_init 10 = .ok (.iconst 0, 1) := by decide +kernel
theorem dX2_init_11 : decode cX2_init 11 = .ok (.putfield 15, 3) := by decide +kernel
theorem dX2_init_14 : decode cX2_init 14 = .ok (.aload_n 0, 1) := by decide +kernel
theorem dX2_init_15 : decode cX2_init 15 = .ok (.bipush 6, 2) := by decide +kernel
theorem dX2_init_17 : decode cX2_init 17 = .ok (.newarray .int, 2) := by decide +kernel
theorem dX2_init_19 : decode cX2_init 19 = .ok (.putfield 18, 3) := by decide +kernel
theorem dX2_init_22 : decode cX2_init 22 = .ok (.aload_n 0, 1) := by decide +kernel
theorem dX2_init_23 : decode cX2_init 23 = .ok (.bipush 6, 2) := by decide +kernel
theorem dX2_init_25 : decode cX2_init 25 = .ok (.newarray .int, 2) := by decide +kernel
theorem dX2_init_27 : decode cX2_init 27 = .ok (.putfield 22, 3) := by decide +kernel
theorem dX2_init_30 : decode cX2_init 30 = .ok (.aload_n 0, 1) := by decide +kernel
theorem dX2_init_31 : decode cX2_init 31 = .ok (.bipush 6, 2) := by decide +kernel
theorem dX2_init_33 : decode cX2_init 33 = .ok (.newarray .int, 2) := by decide +kernel
theorem dX2_init_35 : decode cX2_init 35 = .ok (.putfield 25, 3) := by decide +kernel
theorem dX2_init_38 : decode cX2_init 38 = .ok (.aload_n 0, 1) := by decide +kernel
theorem dX2_init_39 : decode cX2_init 39 = .ok (.bipush 6, 2) := by decide +kernel
theorem dX2_init_41 : decode cX2_init 41 = .ok (.newarray .int, 2) := by decide +kernel
theorem dX2_init_43 : decode cX2_init 43 = .ok (.putfield 28, 3) := by decide +kernel
theorem dX2_init_46 : decode cX2_init 46 = .ok (.aload_n 0, 1) := by decide +kernel
theorem dX2_init_47 : decode cX2_init 47 = .ok (.bipush 7, 2) := by decide +kernel
theorem dX2_init_49 : decode cX2_init 49 = .ok (.newarray .int, 2) := by decide +kernel
theorem dX2_init_51 : decode cX2_init 51 = .ok (.putfield 31, 3) := by decide +kernel
theorem dX2_init_54 : decode cX2_init 54 = .ok (.aload_n 0, 1) := by decide +kernel
theorem dX2_init_55 : decode cX2_init 55 = .ok (.bipush 7, 2) := by decide +kernel
theorem dX2_init_57 : decode cX2_init 57 = .ok (.newarray .int, 2) := by decide +kernel
theorem dX2_init_59 : decode cX2_init 59 = .ok (.putfield 34, 3) := by decide +kernel
theorem dX2_init_62 : decode cX2_init 62 = .ok (.aload_n 0, 1) := by decide +kernel
theorem dX2_init_63 : decode cX2_init 63 = .ok (.bipush 7, 2) := by decide +kernel
theorem dX2_init_65 : decode cX2_init 65 = .ok (.newarray .int, 2) := by decide +kernel
theorem dX2_init_67 : decode cX2_init 67 = .ok (.putfield 37, 3) := by decide +kernel
theorem dX2_init_70 : decode cX2_init 70 = .ok (.aload_n 0, 1) := by decide +kernel
theorem dX2_init_71 : decode cX2_init 71 = .ok (.bipush 6, 2) := by decide +kernel
theorem dX2_init_73 : decode cX2_init 73 = .ok (.newarray .long, 2) := by decide +kernel
theorem dX2_init_75 : decode cX2_init 75 = .ok (.putfield 40, 3) := by decide +kernel
theorem dX2_init_78 : decode cX2_init 78 = .ok (.aload_n 0, 1) := by decide +kernel
theorem dX2_init_79 : decode cX2_init 79 = .ok (.bipush 6, 2) := by decide +kernel
theorem dX2_init_81 : decode cX2_init 81 = .ok (.newarray .int, 2) := by decide +kernel
theorem dX2_init_83 : decode cX2_init 83 = .ok (.putfield 44, 3) := by decide +kernel
theorem dX2_init_86 : decode cX2_init 86 = .ok (.return_, 1) := by decide +kernel
theorem dX2_clear_0 : decode cX2_clear 0 = .ok (.aload_n 0, 1) := by decide +kernel
theorem dX2_clear_1 : decode cX2_clear 1 = .ok (.iconst 0, 1) := by decide +kernel
theorem dX2_clear_2 : decode cX2_clear 2 = .ok (.putfield 9, 3) := by decide +kernel
theorem dX2_clear_5 : decode cX2_clear 5 = .ok (.aload_n 0, 1) := by decide +kernel
theorem dX2_clear_6 : decode cX2_clear 6 = .ok (.iconst 0, 1) := by decide +kernel
theorem dX2_clear_7 : decode cX2_clear 7 = .ok (.putfield 15, 3) := by decide +kernel
theorem dX2_clear_10 : decode cX2_clear 10 = .ok (.return_, 1) := by decide +kernel
theorem dX2_become_0 : decode cX2_become 0 = .ok (.aload_n 0, 1) := by decide +kernel
theorem dX2_become_1 : decode cX2_become 1 = .ok (.invokevirtual 47, 3) := by decide +kernel
theorem dX2_become_4 : decode cX2_become 4 = .ok (.iconst 0, 1) := by decide +kernel
theorem dX2_become_5 : decode cX2_become 5 = .ok (.istore_n 2, 1) := by decide +kernel
theorem dX2_become_6 : decode cX2_become 6 = .ok (.iload_n 2, 1) := by decide +kernel
theorem dX2_become_7 : decode cX2_become 7 = .ok (.aload_n 1, 1) := by decide +kernel
theorem dX2_become_8 : decode cX2_become 8 = .ok (.getfield 9, 3) := by decide +kernel
theorem dX2_become_11 : decode cX2_become 11 = .ok (.if_icmp .ge 31, 3) := by decide +kernel
theorem dX2_become_14 : decode cX2_become 14 = .ok (.aload_n 0, 1) := by decide +kernel
theorem dX2_become_15 : decode cX2_become 15 = .ok (.aload_n 1, 1) := by decide +kernel
theorem dX2_become_16 : decode cX2_become 16 = .ok (.getfield 18, 3) := by decide +kernel
theorem dX2_become_19 : decode cX2_become 19 = .ok (.iload_n 2, 1) := by decide +kernel
theorem dX2_become_20 : decode cX2_become 20 = .ok (.iaload, 1) := by decide +kernel
theorem dX2_become_21 : decode cX2_become 21 = .ok (.aload_n 1, 1) := by decide +kernel
theorem dX2_become_22 : decode cX2_become 22 = .ok (.getfield 22, 3) := by decide +kernel
theorem dX2_become_25 : decode cX2_become 25 = .ok (.iload_n 2, 1) := by decide +kernel
theorem dX2_become_26 : decode cX2_become 26 = .ok (.iaload, 1) := by decide +kernel
theorem dX2_become_27 : decode cX2_become 27 = .ok (.aload_n 1, 1) := by decide +kernel
theorem dX2_become_28 : decode cX2_become 28 = .ok (.getfield 25, 3) := by decide +kernel
theorem dX2_become_31 : decode cX2_become 31 = .ok (.iload_n 2, 1) := by decide +kernel
theorem dX2_become_32 : decode cX2_become 32 = .ok (.iaload, 1) := by decide +kernel
theorem dX2_become_33 : decode cX2_become 33 = .ok (.invokevirtual 50, 3) := by decide +kernel
theorem dX2_become_36 : decode cX2_become 36 = .ok (.iinc 2 1, 3) := by decide +kernel
theorem dX2_become_39 : decode cX2_become 39 = .ok (.goto (-33), 3) := by decide +kernel
theorem dX2_become_42 : decode cX2_become 42 = .ok (.iconst 0, 1) := by decide +kernel
theorem dX2_become_43 : decode cX2_become 43 = .ok (.istore_n 2, 1) := by decide +kernel
theorem dX2_become_44 : decode cX2_become 44 = .ok (.iload_n 2, 1) := by decide +kernel
theorem dX2_become_45 : decode cX2_become 45 = .ok (.aload_n 1, 1) := by decide +kernel
theorem dX2_become_46 : decode cX2_become 46 = .ok (.getfield 15, 3) := by decide +kernel
theorem dX2_become_49 : decode cX2_become 49 = .ok (.if_icmp .ge 31, 3) := by decide +kernel
theorem dX2_become_52 : decode cX2_become 52 = .ok (.aload_n 0, 1) := by decide +kernel
theorem dX2_become_53 : decode cX2_become 53 = .ok (.aload_n 1, 1) := by decide +kernel
theorem dX2_become_54 : decode cX2_become 54 = .ok (.getfield 31, 3) := by decide +kernel
theorem dX2_become_57 : decode cX2_become 57 = .ok (.iload_n 2, 1) := by decide +kernel
theorem dX2_become_58 : decode cX2_become 58 = .ok (.iaload, 1) := by decide +kernel
theorem dX2_become_59 : decode cX2_become 59 = .ok (.aload_n 1, 1) := by decide +kernel
theorem dX2_become_60 : decode cX2_become 60 = .ok (.getfield 34, 3) := by decide +kernel
theorem dX2_become_63 : decode cX2_become 63 = .ok (.iload_n 2, 1) := by decide +kernel
theorem dX2_become_64 : decode cX2_become 64 = .ok (.iaload, 1) := by decide +kernel
theorem dX2_become_65 : decode cX2_become 65 = .ok (.aload_n 1, 1) := by decide +kernel
theorem dX2_become_66 : decode cX2_become 66 = .ok (.getfield 37, 3) := by decide +kernel
theorem dX2_become_69 : decode cX2_become 69 = .ok (.iload_n 2, 1) := by decide +kernel
theorem dX2_become_70 : decode cX2_become 70 = .ok (.iaload, 1) := by decide +kernel
theorem dX2_become_71 : decode cX2_become 71 = .ok (.invokevirtual 54, 3) := by decide +kernel
theorem dX2_become_74 : decode cX2_become 74 = .ok (.iinc 2 1, 3) := by decide +kernel
theorem dX2_become_77 : decode cX2_become 77 = .ok (.goto (-33), 3) := by decide +kernel
theorem dX2_become_80 : decode cX2_become 80 = .ok (.iconst 0, 1) := by decide +kernel
theorem dX2_become_81 : decode cX2_become 81 = .ok (.istore_n 2, 1) := by decide +kernel
theorem dX2_become_82 : decode cX2_become 82 = .ok (.iload_n 2, 1) := by decide +kernel
theorem dX2_become_83 : decode cX2_become 83 = .ok (.aload_n 0, 1) := by decide +kernel
theorem dX2_become_84 : decode cX2_become 84 = .ok (.getfield 9, 3) := by decide +kernel
theorem dX2_become_87 : decode cX2_become 87 = .ok (.if_icmp .ge 31, 3) := by decide +kernel
theorem dX2_become_90 : decode cX2_become 90 = .ok (.aload_n 0, 1) := by decide +kernel
theorem dX2_become_91 : decode cX2_become 91 = .ok (.getfield 40, 3) := by decide +kernel
theorem dX2_become_94 : decode cX2_become 94 = .ok (.iload_n 2, 1) := by decide +kernel
theorem dX2_become_95 : decode cX2_become 95 = .ok (.aload_n 0, 1) := by decide +kernel
theorem dX2_become_96 : decode cX2_become 96 = .ok (.iload_n 2, 1) := by decide +kernel
theorem dX2_become_97 : decode cX2_become 97 = .ok (.invokevirtual 57, 3) := by decide +kernel
theorem dX2_become_100 : decode cX2_become 100 = .ok (.lastore, 1) := by decide +kernel
theorem dX2_become_101 : decode cX2_become 101 = .ok (.aload_n 0, 1) := by decide +kernel
theorem dX2_become_102 : decode cX2_become 102 = .ok (.getfield 44, 3) := by decide +kernel
theorem dX2_become_105 : decode cX2_become 105 = .ok (.iload_n 2, 1) := by decide +kernel
theorem dX2_become_106 : decode cX2_become 106 = .ok (.aload_n 0, 1) := by decide +kernel
theorem dX2_become_107 : decode cX2_become 107 = .ok (.iload_n 2, 1) := by decide +kernel
theorem dX2_become_108 : decode cX2_become 108 = .ok (.invokevirtual 61, 3) := by decide +kernel
theorem dX2_become_111 : decode cX2_become 111 = .ok (.iastore, 1) := by decide +kernel
theorem dX2_become_112 : decode cX2_become 112 = .ok (.iinc 2 1, 3) := by decide +kernel
theorem dX2_become_115 : decode cX2_become 115 = .ok (.goto (-33), 3) := by decide +kernel
theorem dX2_become_118 : decode cX2_become 118 = .ok (.return_, 1) := by decide +kernel
theorem dX2_addDeed_0 : decode cX2_addDeed 0 = .ok (.aload_n 0, 1) := by decide +kernel
theorem dX2_addDeed_1 : decode cX2_addDeed 1 = .ok (.getfield 9, 3) := by decide +kernel
theorem dX2_addDeed_4 : decode cX2_addDeed 4 = .ok (.bipush 6, 2) := by decide +kernel
theorem dX2_addDeed_6 : decode cX2_addDeed 6 = .ok (.if_icmp .lt 4, 3) := by decide +kernel
theorem dX2_addDeed_9 : decode cX2_addDeed 9 = .ok (.return_, 1) := by decide +kernel
theorem dX2_addDeed_10 : decode cX2_addDeed 10 = .ok (.aload_n 0, 1) := by decide +kernel
theorem dX2_addDeed_11 : decode cX2_addDeed 11 = .ok (.getfield 9, 3) := by decide +kernel
theorem dX2_addDeed_14 : decode cX2_addDeed 14 = .ok (.istore 4, 2) := by decide +kernel
theorem dX2_addDeed_16 : decode cX2_addDeed 16 = .ok (.aload_n 0, 1) := by decide +kernel
theorem dX2_addDeed_17 : decode cX2_addDeed 17 = .ok (.dup, 1) := by decide +kernel
theorem dX2_addDeed_18 : decode cX2_addDeed 18 = .ok (.getfield 9, 3) := by decide +kernel
theorem dX2_addDeed_21 : decode cX2_addDeed 21 = .ok (.iconst 1, 1) := by decide +kernel
theorem dX2_addDeed_22 : decode cX2_addDeed 22 = .ok (.iadd, 1) := by decide +kernel
theorem dX2_addDeed_23 : decode cX2_addDeed 23 = .ok (.putfield 9, 3) := by decide +kernel
theorem dX2_addDeed_26 : decode cX2_addDeed 26 = .ok (.aload_n 0, 1) := by decide +kernel
theorem dX2_addDeed_27 : decode cX2_addDeed 27 = .ok (.getfield 18, 3) := by decide +kernel
theorem dX2_addDeed_30 : decode cX2_addDeed 30 = .ok (.iload 4, 2) := by decide +kernel
theorem dX2_addDeed_32 : decode cX2_addDeed 32 = .ok (.iload_n 1, 1) := by decide +kernel
theorem dX2_addDeed_33 : decode cX2_addDeed 33 = .ok (.iastore, 1) := by decide +kernel
theorem dX2_addDeed_34 : decode cX2_addDeed 34 = .ok (.aload_n 0, 1) := by decide +kernel
theorem dX2_addDeed_35 : decode cX2_addDeed 35 = .ok (.getfield 22, 3) := by decide +kernel
theorem dX2_addDeed_38 : decode cX2_addDeed 38 = .ok (.iload 4, 2) := by decide +kernel
theorem dX2_addDeed_40 : decode cX2_addDeed 40 = .ok (.iload_n 2, 1) := by decide +kernel
theorem dX2_addDeed_41 : decode cX2_addDeed 41 = .ok (.iastore, 1) := by decide +kernel
theorem dX2_addDeed_42 : decode cX2_addDeed 42 = .ok (.aload_n 0, 1) := by decide +kernel
theorem dX2_addDeed_43 : decode cX2_addDeed 43 = .ok (.getfield 25, 3) := by decide +kernel
theorem dX2_addDeed_46 : decode cX2_addDeed 46 = .ok (.iload 4, 2) := by decide +kernel
theorem dX2_addDeed_48 : decode cX2_addDeed 48 = .ok (.iload_n 3, 1) := by decide +kernel
theorem dX2_addDeed_49 : decode cX2_addDeed 49 = .ok (.iastore, 1) := by decide +kernel
theorem dX2_addDeed_50 : decode cX2_addDeed 50 = .ok (.aload_n 0, 1) := by decide +kernel
theorem dX2_addDeed_51 : decode cX2_addDeed 51 = .ok (.getfield 28, 3) := by decide +kernel
theorem dX2_addDeed_54 : decode cX2_addDeed 54 = .ok (.iload 4, 2) := by decide +kernel
theorem dX2_addDeed_56 : decode cX2_addDeed 56 = .ok (.iload_n 3, 1) := by decide +kernel
theorem dX2_addDeed_57 : decode cX2_addDeed 57 = .ok (.iastore, 1) := by decide +kernel
theorem dX2_addDeed_58 : decode cX2_addDeed 58 = .ok (.iconst 0, 1) := by decide +kernel
theorem dX2_addDeed_59 : decode cX2_addDeed 59 = .ok (.istore 5, 2) := by decide +kernel
theorem dX2_addDeed_61 : decode cX2_addDeed 61 = .ok (.iload 5, 2) := by decide +kernel
theorem dX2_addDeed_63 : decode cX2_addDeed 63 = .ok (.iload 4, 2) := by decide +kernel
theorem dX2_addDeed_65 : decode cX2_addDeed 65 = .ok (.if_icmp .ge 39, 3) := by decide +kernel
theorem dX2_addDeed_68 : decode cX2_addDeed 68 = .ok (.aload_n 0, 1) := by decide +kernel
theorem dX2_addDeed_69 : decode cX2_addDeed 69 = .ok (.getfield 28, 3) := by decide +kernel
theorem dX2_addDeed_72 : decode cX2_addDeed 72 = .ok (.iload 4, 2) := by decide +kernel
theorem dX2_addDeed_74 : decode cX2_addDeed 74 = .ok (.dup2, 1) := by decide +kernel
theorem dX2_addDeed_75 : decode cX2_addDeed 75 = .ok (.iaload, 1) := by decide +kernel
theorem dX2_addDeed_76 : decode cX2_addDeed 76 = .ok (.iload_n 3, 1) := by decide +kernel
theorem dX2_addDeed_77 : decode cX2_addDeed 77 = .ok (.iload 5, 2) := by decide +kernel
theorem dX2_addDeed_79 : decode cX2_addDeed 79 = .ok (.invokestatic 65, 3) := by decide +kernel
theorem dX2_addDeed_82 : decode cX2_addDeed 82 = .ok (.ifCond .eq 13, 3) := by decide +kernel
theorem dX2_addDeed_85 : decode cX2_addDeed 85 = .ok (.aload_n 0, 1) := by decide +kernel
theorem dX2_addDeed_86 : decode cX2_addDeed 86 = .ok (.getfield 28, 3) := by decide +kernel
theorem dX2_addDeed_89 : decode cX2_addDeed 89 = .ok (.iload 5, 2) := by decide +kernel
theorem dX2_addDeed_91 : decode cX2_addDeed 91 = .ok (.iaload, 1) := by decide +kernel
theorem dX2_addDeed_92 : decode cX2_addDeed 92 = .ok (.goto 4, 3) := by decide +kernel
theorem dX2_addDeed_95 : decode cX2_addDeed 95 = .ok (.iconst 0, 1) := by decide +kernel
theorem dX2_addDeed_96 : decode cX2_addDeed 96 = .ok (.ior, 1) := by decide +kernel
theorem dX2_addDeed_97 : decode cX2_addDeed 97 = .ok (.iastore, 1) := by decide +kernel
theorem dX2_addDeed_98 : decode cX2_addDeed 98 = .ok (.iinc 5 1, 3) := by decide +kernel
theorem dX2_addDeed_101 : decode cX2_addDeed 101 = .ok (.goto (-40), 3) := by decide +kernel
theorem dX2_addDeed_104 : decode cX2_addDeed 104 = .ok (.return_, 1) := by decide +kernel
theorem dX2_addHour_0 : decode cX2_addHour 0 = .ok (.aload_n 0, 1) := by decide +kernel
theorem dX2_addHour_1 : decode cX2_addHour 1 = .ok (.getfield 15, 3) := by decide +kernel
theorem dX2_addHour_4 : decode cX2_addHour 4 = .ok (.bipush 7, 2) := by decide +kernel
theorem dX2_addHour_6 : decode cX2_addHour 6 = .ok (.if_icmp .lt 4, 3) := by decide +kernel
theorem dX2_addHour_9 : decode cX2_addHour 9 = .ok (.return_, 1) := by decide +kernel
theorem dX2_addHour_10 : decode cX2_addHour 10 = .ok (.aload_n 0, 1) := by decide +kernel
theorem dX2_addHour_11 : decode cX2_addHour 11 = .ok (.getfield 31, 3) := by decide +kernel
theorem dX2_addHour_14 : decode cX2_addHour 14 = .ok (.aload_n 0, 1) := by decide +kernel
theorem dX2_addHour_15 : decode cX2_addHour 15 = .ok (.getfield 15, 3) := by decide +kernel
theorem dX2_addHour_18 : decode cX2_addHour 18 = .ok (.iload_n 1, 1) := by decide +kernel
theorem dX2_addHour_19 : decode cX2_addHour 19 = .ok (.iastore, 1) := by decide +kernel
theorem dX2_addHour_20 : decode cX2_addHour 20 = .ok (.aload_n 0, 1) := by decide +kernel
theorem dX2_addHour_21 : decode cX2_addHour 21 = .ok (.getfield 34, 3) := by decide +kernel
theorem dX2_addHour_24 : decode cX2_addHour 24 = .ok (.aload_n 0, 1) := by decide +kernel
theorem dX2_addHour_25 : decode cX2_addHour 25 = .ok (.getfield 15, 3) := by decide +kernel
theorem dX2_addHour_28 : decode cX2_addHour 28 = .ok (.iload_n 2, 1) := by decide +kernel
theorem dX2_addHour_29 : decode cX2_addHour 29 = .ok (.iastore, 1) := by decide +kernel
theorem dX2_addHour_30 : decode cX2_addHour 30 = .ok (.aload_n 0, 1) := by decide +kernel
theorem dX2_addHour_31 : decode cX2_addHour 31 = .ok (.getfield 37, 3) := by decide +kernel
theorem dX2_addHour_34 : decode cX2_addHour 34 = .ok (.aload_n 0, 1) := by decide +kernel
theorem dX2_addHour_35 : decode cX2_addHour 35 = .ok (.getfield 15, 3) := by decide +kernel
theorem dX2_addHour_38 : decode cX2_addHour 38 = .ok (.iload_n 3, 1) := by decide +kernel
theorem dX2_addHour_39 : decode cX2_addHour 39 = .ok (.iastore, 1) := by decide +kernel
theorem dX2_addHour_40 : decode cX2_addHour 40 = .ok (.aload_n 0, 1) := by decide +kernel
theorem dX2_addHour_41 : decode cX2_addHour 41 = .ok (.dup, 1) := by decide +kernel
theorem dX2_addHour_42 : decode cX2_addHour 42 = .ok (.getfield 15, 3) := by decide +kernel
theorem dX2_addHour_45 : decode cX2_addHour 45 = .ok (.iconst 1, 1) := by decide +kernel
theorem dX2_addHour_46 : decode cX2_addHour 46 = .ok (.iadd, 1) := by decide +kernel
theorem dX2_addHour_47 : decode cX2_addHour 47 = .ok (.putfield 15, 3) := by decide +kernel
theorem dX2_addHour_50 : decode cX2_addHour 50 = .ok (.return_, 1) := by decide +kernel
theorem dX2_setsReadyFor_0 : decode cX2_setsReadyFor 0 = .ok (.lconst 0, 1) := by decide +kernel
theorem dX2_setsReadyFor_1 : decode cX2_setsReadyFor 1 = .ok (.lstore_n 2, 1) := by decide +kernel
theorem dX2_setsReadyFor_2 : decode cX2_setsReadyFor 2 = .ok (.iconst 0, 1) := by decide +kernel
theorem dX2_setsReadyFor_3 : decode cX2_setsReadyFor 3 = .ok (.istore 4, 2) := by decide +kernel
theorem dX2_setsReadyFor_5 : decode cX2_setsReadyFor 5 = .ok (.iload 4, 2) := by decide +kernel
theorem dX2_setsReadyFor_7 : decode cX2_setsReadyFor 7 = .ok (.bipush 64, 2) := by decide +kernel
theorem dX2_setsReadyFor_9 : decode cX2_setsReadyFor 9 = .ok (.if_icmp .ge 65, 3) := by decide +kernel
theorem dX2_setsReadyFor_12 : decode cX2_setsReadyFor 12 = .ok (.iload 4, 2) := by decide +kernel
theorem dX2_setsReadyFor_14 : decode cX2_setsReadyFor 14 = .ok (.iload_n 1, 1) := by decide +kernel
theorem dX2_setsReadyFor_15 : decode cX2_setsReadyFor 15 = .ok (.invokestatic 65, 3) := by decide +kernel
theorem dX2_setsReadyFor_18 : decode cX2_setsReadyFor 18 = .ok (.ifCond .ne 31, 3) := by decide +kernel
theorem dX2_setsReadyFor_21 : decode cX2_setsReadyFor 21 = .ok (.aload_n 0, 1) := by decide +kernel
theorem dX2_setsReadyFor_22 : decode cX2_setsReadyFor 22 = .ok (.getfield 25, 3) := by decide +kernel
theorem dX2_setsReadyFor_25 : decode cX2_setsReadyFor 25 = .ok (.iload_n 1, 1) := by decide +kernel
theorem dX2_setsReadyFor_26 : decode cX2_setsReadyFor 26 = .ok (.iaload, 1) := by decide +kernel
theorem dX2_setsReadyFor_27 : decode cX2_setsReadyFor 27 = .ok (.iload 4, 2) := by decide +kernel
theorem dX2_setsReadyFor_29 : decode cX2_setsReadyFor 29 = .ok (.iconst (-1), 1) := by decide +kernel
theorem dX2_setsReadyFor_30 : decode cX2_setsReadyFor 30 = .ok (.ixor, 1) := by decide +kernel
theorem dX2_setsReadyFor_31 : decode cX2_setsReadyFor 31 = .ok (.iand, 1) := by decide +kernel
theorem dX2_setsReadyFor_32 : decode cX2_setsReadyFor 32 = .ok (.ifCond .ne 17, 3) := by decide +kernel
theorem dX2_setsReadyFor_35 : decode cX2_setsReadyFor 35 = .ok (.aload_n 0, 1) := by decide +kernel
theorem dX2_setsReadyFor_36 : decode cX2_setsReadyFor 36 = .ok (.iload_n 1, 1) := by decide +kernel
theorem dX2_setsReadyFor_37 : decode cX2_setsReadyFor 37 = .ok (.iload 4, 2) := by decide +kernel
theorem dX2_setsReadyFor_39 : decode cX2_setsReadyFor 39 = .ok (.invokevirtual 69, 3) := by decide +kernel
theorem dX2_setsReadyFor_42 : decode cX2_setsReadyFor 42 = .ok (.ifCond .eq 7, 3) := by decide +kernel
theorem dX2_setsReadyFor_45 : decode cX2_setsReadyFor 45 = .ok (.iconst 1, 1) := by decide +kernel
theorem dX2_setsReadyFor_46 : decode cX2_setsReadyFor 46 = .ok (.goto 4, 3) := by decide +kernel
theorem dX2_setsReadyFor_49 : decode cX2_setsReadyFor 49 = .ok (.iconst 0, 1) := by decide +kernel
theorem dX2_setsReadyFor_50 : decode cX2_setsReadyFor 50 = .ok (.istore 5, 2) := by decide +kernel
theorem dX2_setsReadyFor_52 : decode cX2_setsReadyFor 52 = .ok (.lload_n 2, 1) := by decide +kernel
theorem dX2_setsReadyFor_53 : decode cX2_setsReadyFor 53 = .ok (.iload 5, 2) := by decide +kernel
theorem dX2_setsReadyFor_55 : decode cX2_setsReadyFor 55 = .ok (.ifCond .eq 10, 3) := by decide +kernel
theorem dX2_setsReadyFor_58 : decode cX2_setsReadyFor 58 = .ok (.lconst 1, 1) := by decide +kernel
theorem dX2_setsReadyFor_59 : decode cX2_setsReadyFor 59 = .ok (.iload 4, 2) := by decide +kernel
theorem dX2_setsReadyFor_61 : decode cX2_setsReadyFor 61 = .ok (.lshl, 1) := by decide +kernel
theorem dX2_setsReadyFor_62 : decode cX2_setsReadyFor 62 = .ok (.goto 4, 3) := by decide +kernel
theorem dX2_setsReadyFor_65 : decode cX2_setsReadyFor 65 = .ok (.lconst 0, 1) := by decide +kernel
theorem dX2_setsReadyFor_66 : decode cX2_setsReadyFor 66 = .ok (.lor, 1) := by decide +kernel
theorem dX2_setsReadyFor_67 : decode cX2_setsReadyFor 67 = .ok (.lstore_n 2, 1) := by decide +kernel
theorem dX2_setsReadyFor_68 : decode cX2_setsReadyFor 68 = .ok (.iinc 4 1, 3) := by decide +kernel
theorem dX2_setsReadyFor_71 : decode cX2_setsReadyFor 71 = .ok (.goto (-66), 3) := by decide +kernel
theorem dX2_setsReadyFor_74 : decode cX2_setsReadyFor 74 = .ok (.lload_n 2, 1) := by decide +kernel
theorem dX2_setsReadyFor_75 : decode cX2_setsReadyFor 75 = .ok (.lreturn, 1) := by decide +kernel
theorem dX2_hoursSuiting_0 : decode cX2_hoursSuiting 0 = .ok (.iconst 0, 1) := by decide +kernel
theorem dX2_hoursSuiting_1 : decode cX2_hoursSuiting 1 = .ok (.istore_n 2, 1) := by decide +kernel
theorem dX2_hoursSuiting_2 : decode cX2_hoursSuiting 2 = .ok (.iconst 0, 1) := by decide +kernel
theorem dX2_hoursSuiting_3 : decode cX2_hoursSuiting 3 = .ok (.istore_n 3, 1) := by decide +kernel
theorem dX2_hoursSuiting_4 : decode cX2_hoursSuiting 4 = .ok (.iload_n 3, 1) := by decide +kernel
theorem dX2_hoursSuiting_5 : decode cX2_hoursSuiting 5 = .ok (.aload_n 0, 1) := by decide +kernel
theorem dX2_hoursSuiting_6 : decode cX2_hoursSuiting 6 = .ok (.getfield 15, 3) := by decide +kernel
theorem dX2_hoursSuiting_9 : decode cX2_hoursSuiting 9 = .ok (.if_icmp .ge 37, 3) := by decide +kernel
theorem dX2_hoursSuiting_12 : decode cX2_hoursSuiting 12 = .ok (.iload_n 2, 1) := by decide +kernel
theorem dX2_hoursSuiting_13 : decode cX2_hoursSuiting 13 = .ok (.aload_n 0, 1) := by decide +kernel
theorem dX2_hoursSuiting_14 : decode cX2_hoursSuiting 14 = .ok (.iload_n 1, 1) := by decide +kernel
theorem dX2_hoursSuiting_15 : decode cX2_hoursSuiting 15 = .ok (.iload_n 3, 1) := by decide +kernel
theorem dX2_hoursSuiting_16 : decode cX2_hoursSuiting 16 = .ok (.invokevirtual 72, 3) := by decide +kernel
theorem dX2_hoursSuiting_19 : decode cX2_hoursSuiting 19 = .ok (.ifCond .eq 18, 3) := by decide +kernel
theorem dX2_hoursSuiting_22 : decode cX2_hoursSuiting 22 = .ok (.aload_n 0, 1) := by decide +kernel
theorem dX2_hoursSuiting_23 : decode cX2_hoursSuiting 23 = .ok (.iload_n 1, 1) := by decide +kernel
theorem dX2_hoursSuiting_24 : decode cX2_hoursSuiting 24 = .ok (.iload_n 3, 1) := by decide +kernel
theorem dX2_hoursSuiting_25 : decode cX2_hoursSuiting 25 = .ok (.invokevirtual 75, 3) := by decide +kernel
theorem dX2_hoursSuiting_28 : decode cX2_hoursSuiting 28 = .ok (.ifCond .eq 9, 3) := by decide +kernel
theorem dX2_hoursSuiting_31 : decode cX2_hoursSuiting 31 = .ok (.iconst 1, 1) := by decide +kernel
theorem dX2_hoursSuiting_32 : decode cX2_hoursSuiting 32 = .ok (.iload_n 3, 1) := by decide +kernel
theorem dX2_hoursSuiting_33 : decode cX2_hoursSuiting 33 = .ok (.ishl, 1) := by decide +kernel
theorem dX2_hoursSuiting_34 : decode cX2_hoursSuiting 34 = .ok (.goto 4, 3) := by decide +kernel
theorem dX2_hoursSuiting_37 : decode cX2_hoursSuiting 37 = .ok (.iconst 0, 1) := by decide +kernel
theorem dX2_hoursSuiting_38 : decode cX2_hoursSuiting 38 = .ok (.ior, 1) := by decide +kernel
theorem dX2_hoursSuiting_39 : decode cX2_hoursSuiting 39 = .ok (.istore_n 2, 1) := by decide +kernel
theorem dX2_hoursSuiting_40 : decode cX2_hoursSuiting 40 = .ok (.iinc 3 1, 3) := by decide +kernel
theorem dX2_hoursSuiting_43 : decode cX2_hoursSuiting 43 = .ok (.goto (-39), 3) := by decide +kernel
theorem dX2_hoursSuiting_46 : decode cX2_hoursSuiting 46 = .ok (.iload_n 2, 1) := by decide +kernel
theorem dX2_hoursSuiting_47 : decode cX2_hoursSuiting 47 = .ok (.ireturn, 1) := by decide +kernel
theorem dX2_hasDeed_0 : decode cX2_hasDeed 0 = .ok (.iload_n 1, 1) := by decide +kernel
theorem dX2_hasDeed_1 : decode cX2_hasDeed 1 = .ok (.ifCond .lt 15, 3) := by decide +kernel
theorem dX2_hasDeed_4 : decode cX2_hasDeed 4 = .ok (.iload_n 1, 1) := by decide +kernel
theorem dX2_hasDeed_5 : decode cX2_hasDeed 5 = .ok (.aload_n 0, 1) := by decide +kernel
theorem dX2_hasDeed_6 : decode cX2_hasDeed 6 = .ok (.getfield 9, 3) := by decide +kernel
theorem dX2_hasDeed_9 : decode cX2_hasDeed 9 = .ok (.if_icmp .ge 7, 3) := by decide +kernel
theorem dX2_hasDeed_12 : decode cX2_hasDeed 12 = .ok (.iconst 1, 1) := by decide +kernel
theorem dX2_hasDeed_13 : decode cX2_hasDeed 13 = .ok (.goto 4, 3) := by decide +kernel
theorem dX2_hasDeed_16 : decode cX2_hasDeed 16 = .ok (.iconst 0, 1) := by decide +kernel
theorem dX2_hasDeed_17 : decode cX2_hasDeed 17 = .ok (.ireturn, 1) := by decide +kernel
theorem dX2_hasHour_0 : decode cX2_hasHour 0 = .ok (.iload_n 1, 1) := by decide +kernel
theorem dX2_hasHour_1 : decode cX2_hasHour 1 = .ok (.ifCond .lt 15, 3) := by decide +kernel
theorem dX2_hasHour_4 : decode cX2_hasHour 4 = .ok (.iload_n 1, 1) := by decide +kernel
theorem dX2_hasHour_5 : decode cX2_hasHour 5 = .ok (.aload_n 0, 1) := by decide +kernel
theorem dX2_hasHour_6 : decode cX2_hasHour 6 = .ok (.getfield 15, 3) := by decide +kernel
theorem dX2_hasHour_9 : decode cX2_hasHour 9 = .ok (.if_icmp .ge 7, 3) := by decide +kernel
theorem dX2_hasHour_12 : decode cX2_hasHour 12 = .ok (.iconst 1, 1) := by decide +kernel
theorem dX2_hasHour_13 : decode cX2_hasHour 13 = .ok (.goto 4, 3) := by decide +kernel
theorem dX2_hasHour_16 : decode cX2_hasHour 16 = .ok (.iconst 0, 1) := by decide +kernel
theorem dX2_hasHour_17 : decode cX2_hasHour 17 = .ok (.ireturn, 1) := by decide +kernel
theorem dX2_isNight_0 : decode cX2_isNight 0 = .ok (.aload_n 0, 1) := by decide +kernel
theorem dX2_isNight_1 : decode cX2_isNight 1 = .ok (.getfield 31, 3) := by decide +kernel
theorem dX2_isNight_4 : decode cX2_isNight 4 = .ok (.iload_n 1, 1) := by decide +kernel
theorem dX2_isNight_5 : decode cX2_isNight 5 = .ok (.iaload, 1) := by decide +kernel
theorem dX2_isNight_6 : decode cX2_isNight 6 = .ok (.bipush 6, 2) := by decide +kernel
theorem dX2_isNight_8 : decode cX2_isNight 8 = .ok (.if_icmp .lt 14, 3) := by decide +kernel
theorem dX2_isNight_11 : decode cX2_isNight 11 = .ok (.aload_n 0, 1) := by decide +kernel
theorem dX2_isNight_12 : decode cX2_isNight 12 = .ok (.getfield 31, 3) := by decide +kernel
theorem dX2_isNight_15 : decode cX2_isNight 15 = .ok (.iload_n 1, 1) := by decide +kernel
theorem dX2_isNight_16 : decode cX2_isNight 16 = .ok (.iaload, 1) := by decide +kernel
theorem dX2_isNight_17 : decode cX2_isNight 17 = .ok (.bipush 17, 2) := by decide +kernel
theorem dX2_isNight_19 : decode cX2_isNight 19 = .ok (.if_icmp .le 7, 3) := by decide +kernel
theorem dX2_isNight_22 : decode cX2_isNight 22 = .ok (.iconst 1, 1) := by decide +kernel
theorem dX2_isNight_23 : decode cX2_isNight 23 = .ok (.goto 4, 3) := by decide +kernel
theorem dX2_isNight_26 : decode cX2_isNight 26 = .ok (.iconst 0, 1) := by decide +kernel
theorem dX2_isNight_27 : decode cX2_isNight 27 = .ok (.ireturn, 1) := by decide +kernel
theorem dX2_isOfKind_0 : decode cX2_isOfKind 0 = .ok (.aload_n 0, 1) := by decide +kernel
theorem dX2_isOfKind_1 : decode cX2_isOfKind 1 = .ok (.getfield 18, 3) := by decide +kernel
theorem dX2_isOfKind_4 : decode cX2_isOfKind 4 = .ok (.iload_n 1, 1) := by decide +kernel
theorem dX2_isOfKind_5 : decode cX2_isOfKind 5 = .ok (.iaload, 1) := by decide +kernel
theorem dX2_isOfKind_6 : decode cX2_isOfKind 6 = .ok (.istore_n 3, 1) := by decide +kernel
theorem dX2_isOfKind_7 : decode cX2_isOfKind 7 = .ok (.iload_n 3, 1) := by decide +kernel
theorem dX2_isOfKind_8 : decode cX2_isOfKind 8 = .ok (.iload_n 2, 1) := by decide +kernel
theorem dX2_isOfKind_9 : decode cX2_isOfKind 9 = .ok (.if_icmp .eq 23, 3) := by decide +kernel
theorem dX2_isOfKind_12 : decode cX2_isOfKind 12 = .ok (.iload_n 3, 1) := by decide +kernel
theorem dX2_isOfKind_13 : decode cX2_isOfKind 13 = .ok (.iconst 4, 1) := by decide +kernel
theorem dX2_isOfKind_14 : decode cX2_isOfKind 14 = .ok (.if_icmp .ne 8, 3) := by decide +kernel
theorem dX2_isOfKind_17 : decode cX2_isOfKind 17 = .ok (.iload_n 2, 1) := by decide +kernel
theorem dX2_isOfKind_18 : decode cX2_isOfKind 18 = .ok (.iconst 1, 1) := by decide +kernel
theorem dX2_isOfKind_19 : decode cX2_isOfKind 19 = .ok (.if_icmp .eq 13, 3) := by decide +kernel
theorem dX2_isOfKind_22 : decode cX2_isOfKind 22 = .ok (.iload_n 3, 1) := by decide +kernel
theorem dX2_isOfKind_23 : decode cX2_isOfKind 23 = .ok (.iconst 5, 1) := by decide +kernel
theorem dX2_isOfKind_24 : decode cX2_isOfKind 24 = .ok (.if_icmp .ne 12, 3) := by decide +kernel
theorem dX2_isOfKind_27 : decode cX2_isOfKind 27 = .ok (.iload_n 2, 1) := by decide +kernel
theorem dX2_isOfKind_28 : decode cX2_isOfKind 28 = .ok (.iconst 2, 1) := by decide +kernel
theorem dX2_isOfKind_29 : decode cX2_isOfKind 29 = .ok (.if_icmp .ne 7, 3) := by decide +kernel
theorem dX2_isOfKind_32 : decode cX2_isOfKind 32 = .ok (.iconst 1, 1) := by decide +kernel
theorem dX2_isOfKind_33 : decode cX2_isOfKind 33 = .ok (.goto 4, 3) := by decide +kernel
theorem dX2_isOfKind_36 : decode cX2_isOfKind 36 = .ok (.iconst 0, 1) := by decide +kernel
theorem dX2_isOfKind_37 : decode cX2_isOfKind 37 = .ok (.ireturn, 1) := by decide +kernel
theorem dX2_hasLight_0 : decode cX2_hasLight 0 = .ok (.aload_n 0, 1) := by decide +kernel
theorem dX2_hasLight_1 : decode cX2_hasLight 1 = .ok (.getfield 22, 3) := by decide +kernel
theorem dX2_hasLight_4 : decode cX2_hasLight 4 = .ok (.iload_n 1, 1) := by decide +kernel
theorem dX2_hasLight_5 : decode cX2_hasLight 5 = .ok (.iaload, 1) := by decide +kernel
theorem dX2_hasLight_6 : decode cX2_hasLight 6 = .ok (.iconst 2, 1) := by decide +kernel
theorem dX2_hasLight_7 : decode cX2_hasLight 7 = .ok (.if_icmp .eq 25, 3) := by decide +kernel
theorem dX2_hasLight_10 : decode cX2_hasLight 10 = .ok (.aload_n 0, 1) := by decide +kernel
theorem dX2_hasLight_11 : decode cX2_hasLight 11 = .ok (.iload_n 2, 1) := by decide +kernel
theorem dX2_hasLight_12 : decode cX2_hasLight 12 = .ok (.invokevirtual 78, 3) := by decide +kernel
theorem dX2_hasLight_15 : decode cX2_hasLight 15 = .ok (.aload_n 0, 1) := by decide +kernel
theorem dX2_hasLight_16 : decode cX2_hasLight 16 = .ok (.getfield 22, 3) := by decide +kernel
theorem dX2_hasLight_19 : decode cX2_hasLight 19 = .ok (.iload_n 1, 1) := by decide +kernel
theorem dX2_hasLight_20 : decode cX2_hasLight 20 = .ok (.iaload, 1) := by decide +kernel
theorem dX2_hasLight_21 : decode cX2_hasLight 21 = .ok (.ifCond .eq 7, 3) := by decide +kernel
theorem dX2_hasLight_24 : decode cX2_hasLight 24 = .ok (.iconst 1, 1) := by decide +kernel
theorem dX2_hasLight_25 : decode cX2_hasLight 25 = .ok (.goto 4, 3) := by decide +kernel
theorem dX2_hasLight_28 : decode cX2_hasLight 28 = .ok (.iconst 0, 1) := by decide +kernel
theorem dX2_hasLight_29 : decode cX2_hasLight 29 = .ok (.if_icmp .ne 7, 3) := by decide +kernel
theorem dX2_hasLight_32 : decode cX2_hasLight 32 = .ok (.iconst 1, 1) := by decide +kernel
theorem dX2_hasLight_33 : decode cX2_hasLight 33 = .ok (.goto 4, 3) := by decide +kernel
theorem dX2_hasLight_36 : decode cX2_hasLight 36 = .ok (.iconst 0, 1) := by decide +kernel
theorem dX2_hasLight_37 : decode cX2_hasLight 37 = .ok (.ireturn, 1) := by decide +kernel
theorem dX2_isTimeOf_0 : decode cX2_isTimeOf 0 = .ok (.aload_n 0, 1) := by decide +kernel
theorem dX2_isTimeOf_1 : decode cX2_isTimeOf 1 = .ok (.getfield 18, 3) := by decide +kernel
theorem dX2_isTimeOf_4 : decode cX2_isTimeOf 4 = .ok (.iload_n 1, 1) := by decide +kernel
theorem dX2_isTimeOf_5 : decode cX2_isTimeOf 5 = .ok (.iaload, 1) := by decide +kernel
theorem dX2_isTimeOf_6 : decode cX2_isTimeOf 6 = .ok (.iconst 2, 1) := by decide +kernel
theorem dX2_isTimeOf_7 : decode cX2_isTimeOf 7 = .ok (.if_icmp .ne 24, 3) := by decide +kernel
theorem dX2_isTimeOf_10 : decode cX2_isTimeOf 10 = .ok (.aload_n 0, 1) := by decide +kernel
theorem dX2_isTimeOf_11 : decode cX2_isTimeOf 11 = .ok (.getfield 31, 3) := by decide +kernel
theorem dX2_isTimeOf_14 : decode cX2_isTimeOf 14 = .ok (.iload_n 2, 1) := by decide +kernel
theorem dX2_isTimeOf_15 : decode cX2_isTimeOf 15 = .ok (.iaload, 1) := by decide +kernel
theorem dX2_isTimeOf_16 : decode cX2_isTimeOf 16 = .ok (.bipush 20, 2) := by decide +kernel
theorem dX2_isTimeOf_18 : decode cX2_isTimeOf 18 = .ok (.if_icmp .ge 13, 3) := by decide +kernel
theorem dX2_isTimeOf_21 : decode cX2_isTimeOf 21 = .ok (.aload_n 0, 1) := by decide +kernel
theorem dX2_isTimeOf_22 : decode cX2_isTimeOf 22 = .ok (.getfield 31, 3) := by decide +kernel
theorem dX2_isTimeOf_25 : decode cX2_isTimeOf 25 = .ok (.iload_n 2, 1) := by decide +kernel
theorem dX2_isTimeOf_26 : decode cX2_isTimeOf 26 = .ok (.iaload, 1) := by decide +kernel
theorem dX2_isTimeOf_27 : decode cX2_isTimeOf 27 = .ok (.iconst 5, 1) := by decide +kernel
theorem dX2_isTimeOf_28 : decode cX2_isTimeOf 28 = .ok (.if_icmp .gt 7, 3) := by decide +kernel
theorem dX2_isTimeOf_31 : decode cX2_isTimeOf 31 = .ok (.iconst 1, 1) := by decide +kernel
theorem dX2_isTimeOf_32 : decode cX2_isTimeOf 32 = .ok (.goto 4, 3) := by decide +kernel
theorem dX2_isTimeOf_35 : decode cX2_isTimeOf 35 = .ok (.iconst 0, 1) := by decide +kernel
theorem dX2_isTimeOf_36 : decode cX2_isTimeOf 36 = .ok (.ireturn, 1) := by decide +kernel
theorem dX2_isHungry_0 : decode cX2_isHungry 0 = .ok (.aload_n 0, 1) := by decide +kernel
theorem dX2_isHungry_1 : decode cX2_isHungry 1 = .ok (.iload_n 1, 1) := by decide +kernel
theorem dX2_isHungry_2 : decode cX2_isHungry 2 = .ok (.iconst 1, 1) := by decide +kernel
theorem dX2_isHungry_3 : decode cX2_isHungry 3 = .ok (.invokevirtual 82, 3) := by decide +kernel
theorem dX2_isHungry_6 : decode cX2_isHungry 6 = .ok (.ifCond .eq 8, 3) := by decide +kernel
theorem dX2_isHungry_9 : decode cX2_isHungry 9 = .ok (.iload_n 2, 1) := by decide +kernel
theorem dX2_isHungry_10 : decode cX2_isHungry 10 = .ok (.iconst 2, 1) := by decide +kernel
theorem dX2_isHungry_11 : decode cX2_isHungry 11 = .ok (.if_icmp .lt 7, 3) := by decide +kernel
theorem dX2_isHungry_14 : decode cX2_isHungry 14 = .ok (.iconst 1, 1) := by decide +kernel
theorem dX2_isHungry_15 : decode cX2_isHungry 15 = .ok (.goto 4, 3) := by decide +kernel
theorem dX2_isHungry_18 : decode cX2_isHungry 18 = .ok (.iconst 0, 1) := by decide +kernel
theorem dX2_isHungry_19 : decode cX2_isHungry 19 = .ok (.ireturn, 1) := by decide +kernel
theorem dX2_hasCompany_0 : decode cX2_hasCompany 0 = .ok (.aload_n 0, 1) := by decide +kernel
theorem dX2_hasCompany_1 : decode cX2_hasCompany 1 = .ok (.getfield 18, 3) := by decide +kernel
theorem dX2_hasCompany_4 : decode cX2_hasCompany 4 = .ok (.iload_n 1, 1) := by decide +kernel
theorem dX2_hasCompany_5 : decode cX2_hasCompany 5 = .ok (.iaload, 1) := by decide +kernel
theorem dX2_hasCompany_6 : decode cX2_hasCompany 6 = .ok (.iconst 4, 1) := by decide +kernel
theorem dX2_hasCompany_7 : decode cX2_hasCompany 7 = .ok (.if_icmp .ne 13, 3) := by decide +kernel
theorem dX2_hasCompany_10 : decode cX2_hasCompany 10 = .ok (.aload_n 0, 1) := by decide +kernel
theorem dX2_hasCompany_11 : decode cX2_hasCompany 11 = .ok (.iload_n 1, 1) := by decide +kernel
theorem dX2_hasCompany_12 : decode cX2_hasCompany 12 = .ok (.iload_n 2, 1) := by decide +kernel
theorem dX2_hasCompany_13 : decode cX2_hasCompany 13 = .ok (.invokevirtual 85, 3) := by decide +kernel
theorem dX2_hasCompany_16 : decode cX2_hasCompany 16 = .ok (.iconst 2, 1) := by decide +kernel
theorem dX2_hasCompany_17 : decode cX2_hasCompany 17 = .ok (.if_icmp .lt 7, 3) := by decide +kernel
theorem dX2_hasCompany_20 : decode cX2_hasCompany 20 = .ok (.iconst 1, 1) := by decide +kernel
theorem dX2_hasCompany_21 : decode cX2_hasCompany 21 = .ok (.goto 4, 3) := by decide +kernel
theorem dX2_hasCompany_24 : decode cX2_hasCompany 24 = .ok (.iconst 0, 1) := by decide +kernel
theorem dX2_hasCompany_25 : decode cX2_hasCompany 25 = .ok (.ireturn, 1) := by decide +kernel
theorem dX2_company_0 : decode cX2_company 0 = .ok (.iload_n 2, 1) := by decide +kernel
theorem dX2_company_1 : decode cX2_company 1 = .ok (.aload_n 0, 1) := by decide +kernel
theorem dX2_company_2 : decode cX2_company 2 = .ok (.getfield 25, 3) := by decide +kernel
theorem dX2_company_5 : decode cX2_company 5 = .ok (.iload_n 1, 1) := by decide +kernel
theorem dX2_company_6 : decode cX2_company 6 = .ok (.iaload, 1) := by decide +kernel
theorem dX2_company_7 : decode cX2_company 7 = .ok (.iconst (-1), 1) := by decide +kernel
theorem dX2_company_8 : decode cX2_company 8 = .ok (.ixor, 1) := by decide +kernel
theorem dX2_company_9 : decode cX2_company 9 = .ok (.iand, 1) := by decide +kernel
theorem dX2_company_10 : decode cX2_company 10 = .ok (.invokestatic 89, 3) := by decide +kernel
theorem dX2_company_13 : decode cX2_company 13 = .ok (.ireturn, 1) := by decide +kernel
theorem dX2_hindrance_0 : decode cX2_hindrance 0 = .ok (.iload_n 3, 1) := by decide +kernel
theorem dX2_hindrance_1 : decode cX2_hindrance 1 = .ok (.iload_n 1, 1) := by decide +kernel
theorem dX2_hindrance_2 : decode cX2_hindrance 2 = .ok (.invokestatic 65, 3) := by decide +kernel
theorem dX2_hindrance_5 : decode cX2_hindrance 5 = .ok (.ifCond .eq 5, 3) := by decide +kernel
theorem dX2_hindrance_8 : decode cX2_hindrance 8 = .ok (.iconst 1, 1) := by decide +kernel
theorem dX2_hindrance_9 : decode cX2_hindrance 9 = .ok (.ireturn, 1) := by decide +kernel
theorem dX2_hindrance_10 : decode cX2_hindrance 10 = .ok (.aload_n 0, 1) := by decide +kernel
theorem dX2_hindrance_11 : decode cX2_hindrance 11 = .ok (.getfield 25, 3) := by decide +kernel
theorem dX2_hindrance_14 : decode cX2_hindrance 14 = .ok (.iload_n 1, 1) := by decide +kernel
theorem dX2_hindrance_15 : decode cX2_hindrance 15 = .ok (.iaload, 1) := by decide +kernel
theorem dX2_hindrance_16 : decode cX2_hindrance 16 = .ok (.iload_n 3, 1) := by decide +kernel
theorem dX2_hindrance_17 : decode cX2_hindrance 17 = .ok (.iconst (-1), 1) := by decide +kernel
theorem dX2_hindrance_18 : decode cX2_hindrance 18 = .ok (.ixor, 1) := by decide +kernel
theorem dX2_hindrance_19 : decode cX2_hindrance 19 = .ok (.iand, 1) := by decide +kernel
theorem dX2_hindrance_20 : decode cX2_hindrance 20 = .ok (.ifCond .eq 5, 3) := by decide +kernel
theorem dX2_hindrance_23 : decode cX2_hindrance 23 = .ok (.iconst 2, 1) := by decide +kernel
theorem dX2_hindrance_24 : decode cX2_hindrance 24 = .ok (.ireturn, 1) := by decide +kernel
theorem dX2_hindrance_25 : decode cX2_hindrance 25 = .ok (.aload_n 0, 1) := by decide +kernel
theorem dX2_hindrance_26 : decode cX2_hindrance 26 = .ok (.iload_n 1, 1) := by decide +kernel
theorem dX2_hindrance_27 : decode cX2_hindrance 27 = .ok (.iload_n 2, 1) := by decide +kernel
theorem dX2_hindrance_28 : decode cX2_hindrance 28 = .ok (.invokevirtual 72, 3) := by decide +kernel
theorem dX2_hindrance_31 : decode cX2_hindrance 31 = .ok (.ifCond .ne 5, 3) := by decide +kernel
theorem dX2_hindrance_34 : decode cX2_hindrance 34 = .ok (.iconst 3, 1) := by decide +kernel
theorem dX2_hindrance_35 : decode cX2_hindrance 35 = .ok (.ireturn, 1) := by decide +kernel
theorem dX2_hindrance_36 : decode cX2_hindrance 36 = .ok (.aload_n 0, 1) := by decide +kernel
theorem dX2_hindrance_37 : decode cX2_hindrance 37 = .ok (.iload_n 1, 1) := by decide +kernel
theorem dX2_hindrance_38 : decode cX2_hindrance 38 = .ok (.iload_n 2, 1) := by decide +kernel
theorem dX2_hindrance_39 : decode cX2_hindrance 39 = .ok (.invokevirtual 75, 3) := by decide +kernel
theorem dX2_hindrance_42 : decode cX2_hindrance 42 = .ok (.ifCond .eq 26, 3) := by decide +kernel
theorem dX2_hindrance_45 : decode cX2_hindrance 45 = .ok (.aload_n 0, 1) := by decide +kernel
theorem dX2_hindrance_46 : decode cX2_hindrance 46 = .ok (.iload_n 1, 1) := by decide +kernel
theorem dX2_hindrance_47 : decode cX2_hindrance 47 = .ok (.iload 4, 2) := by decide +kernel
theorem dX2_hindrance_49 : decode cX2_hindrance 49 = .ok (.invokevirtual 94, 3) := by decide +kernel
theorem dX2_hindrance_52 : decode cX2_hindrance 52 = .ok (.ifCond .eq 16, 3) := by decide +kernel
theorem dX2_hindrance_55 : decode cX2_hindrance 55 = .ok (.aload_n 0, 1) := by decide +kernel
theorem dX2_hindrance_56 : decode cX2_hindrance 56 = .ok (.iload_n 1, 1) := by decide +kernel
theorem dX2_hindrance_57 : decode cX2_hindrance 57 = .ok (.iload_n 3, 1) := by decide +kernel
theorem dX2_hindrance_58 : decode cX2_hindrance 58 = .ok (.invokevirtual 69, 3) := by decide +kernel
theorem dX2_hindrance_61 : decode cX2_hindrance 61 = .ok (.ifCond .eq 7, 3) := by decide +kernel
theorem dX2_hindrance_64 : decode cX2_hindrance 64 = .ok (.iconst 1, 1) := by decide +kernel
theorem dX2_hindrance_65 : decode cX2_hindrance 65 = .ok (.goto 4, 3) := by decide +kernel
theorem dX2_hindrance_68 : decode cX2_hindrance 68 = .ok (.iconst 0, 1) := by decide +kernel
theorem dX2_hindrance_69 : decode cX2_hindrance 69 = .ok (.istore 5, 2) := by decide +kernel
theorem dX2_hindrance_71 : decode cX2_hindrance 71 = .ok (.iload 5, 2) := by decide +kernel
theorem dX2_hindrance_73 : decode cX2_hindrance 73 = .ok (.ifCond .eq 7, 3) := by decide +kernel
theorem dX2_hindrance_76 : decode cX2_hindrance 76 = .ok (.iconst 0, 1) := by decide +kernel
theorem dX2_hindrance_77 : decode cX2_hindrance 77 = .ok (.goto 4, 3) := by decide +kernel
theorem dX2_hindrance_80 : decode cX2_hindrance 80 = .ok (.iconst 4, 1) := by decide +kernel
theorem dX2_hindrance_81 : decode cX2_hindrance 81 = .ok (.ireturn, 1) := by decide +kernel
theorem dX2_neededBy_0 : decode cX2_neededBy 0 = .ok (.iconst 0, 1) := by decide +kernel
theorem dX2_neededBy_1 : decode cX2_neededBy 1 = .ok (.istore_n 3, 1) := by decide +kernel
theorem dX2_neededBy_2 : decode cX2_neededBy 2 = .ok (.iconst 0, 1) := by decide +kernel
theorem dX2_neededBy_3 : decode cX2_neededBy 3 = .ok (.istore 4, 2) := by decide +kernel
theorem dX2_neededBy_5 : decode cX2_neededBy 5 = .ok (.iload 4, 2) := by decide +kernel
theorem dX2_neededBy_7 : decode cX2_neededBy 7 = .ok (.aload_n 0, 1) := by decide +kernel
theorem dX2_neededBy_8 : decode cX2_neededBy 8 = .ok (.getfield 9, 3) := by decide +kernel
theorem dX2_neededBy_11 : decode cX2_neededBy 11 = .ok (.if_icmp .ge 38, 3) := by decide +kernel
theorem dX2_neededBy_14 : decode cX2_neededBy 14 = .ok (.iload 4, 2) := by decide +kernel
theorem dX2_neededBy_16 : decode cX2_neededBy 16 = .ok (.aload_n 2, 1) := by decide +kernel
theorem dX2_neededBy_17 : decode cX2_neededBy 17 = .ok (.arraylength, 1) := by decide +kernel
theorem dX2_neededBy_18 : decode cX2_neededBy 18 = .ok (.if_icmp .ge 31, 3) := by decide +kernel
theorem dX2_neededBy_21 : decode cX2_neededBy 21 = .ok (.iload_n 3, 1) := by decide +kernel
theorem dX2_neededBy_22 : decode cX2_neededBy 22 = .ok (.aload_n 2, 1) := by decide +kernel
theorem dX2_neededBy_23 : decode cX2_neededBy 23 = .ok (.iload 4, 2) := by decide +kernel
theorem dX2_neededBy_25 : decode cX2_neededBy 25 = .ok (.iaload, 1) := by decide +kernel
theorem dX2_neededBy_26 : decode cX2_neededBy 26 = .ok (.iload_n 1, 1) := by decide +kernel
theorem dX2_neededBy_27 : decode cX2_neededBy 27 = .ok (.invokestatic 65, 3) := by decide +kernel
theorem dX2_neededBy_30 : decode cX2_neededBy 30 = .ok (.ifCond .eq 10, 3) := by decide +kernel
theorem dX2_neededBy_33 : decode cX2_neededBy 33 = .ok (.iconst 1, 1) := by decide +kernel
theorem dX2_neededBy_34 : decode cX2_neededBy 34 = .ok (.iload 4, 2) := by decide +kernel
theorem dX2_neededBy_36 : decode cX2_neededBy 36 = .ok (.ishl, 1) := by decide +kernel
theorem dX2_neededBy_37 : decode cX2_neededBy 37 = .ok (.goto 4, 3) := by decide +kernel
theorem dX2_neededBy_40 : decode cX2_neededBy 40 = .ok (.iconst 0, 1) := by decide +kernel
theorem dX2_neededBy_41 : decode cX2_neededBy 41 = .ok (.ior, 1) := by decide +kernel
theorem dX2_neededBy_42 : decode cX2_neededBy 42 = .ok (.istore_n 3, 1) := by decide +kernel
theorem dX2_neededBy_43 : decode cX2_neededBy 43 = .ok (.iinc 4 1, 3) := by decide +kernel
theorem dX2_neededBy_46 : decode cX2_neededBy 46 = .ok (.goto (-41), 3) := by decide +kernel
theorem dX2_neededBy_49 : decode cX2_neededBy 49 = .ok (.iload_n 3, 1) := by decide +kernel
theorem dX2_neededBy_50 : decode cX2_neededBy 50 = .ok (.ireturn, 1) := by decide +kernel
theorem dX2_hoursOfLightFor_0 : decode cX2_hoursOfLightFor 0 = .ok (.iconst 0, 1) := by decide +kernel
theorem dX2_hoursOfLightFor_1 : decode cX2_hoursOfLightFor 1 = .ok (.istore_n 2, 1) := by decide +kernel
theorem dX2_hoursOfLightFor_2 : decode cX2_hoursOfLightFor 2 = .ok (.iconst 0, 1) := by decide +kernel
theorem dX2_hoursOfLightFor_3 : decode cX2_hoursOfLightFor 3 = .ok (.istore_n 3, 1) := by decide +kernel
theorem dX2_hoursOfLightFor_4 : decode cX2_hoursOfLightFor 4 = .ok (.iload_n 3, 1) := by decide +kernel
theorem dX2_hoursOfLightFor_5 : decode cX2_hoursOfLightFor 5 = .ok (.aload_n 0, 1) := by decide +kernel
theorem dX2_hoursOfLightFor_6 : decode cX2_hoursOfLightFor 6 = .ok (.getfield 15, 3) := by decide +kernel
theorem dX2_hoursOfLightFor_9 : decode cX2_hoursOfLightFor 9 = .ok (.if_icmp .ge 26, 3) := by decide +kernel
theorem dX2_hoursOfLightFor_12 : decode cX2_hoursOfLightFor 12 = .ok (.iload_n 2, 1) := by decide +kernel
theorem dX2_hoursOfLightFor_13 : decode cX2_hoursOfLightFor 13 = .ok (.aload_n 0, 1) := by decide +kernel
theorem dX2_hoursOfLightFor_14 : decode cX2_hoursOfLightFor 14 = .ok (.iload_n 1, 1) := by decide +kernel
theorem dX2_hoursOfLightFor_15 : decode cX2_hoursOfLightFor 15 = .ok (.iload_n 3, 1) := by decide +kernel
theorem dX2_hoursOfLightFor_16 : decode cX2_hoursOfLightFor 16 = .ok (.invokevirtual 72, 3) := by decide +kernel
theorem dX2_hoursOfLightFor_19 : decode cX2_hoursOfLightFor 19 = .ok (.ifCond .eq 7, 3) := by decide +kernel
theorem dX2_hoursOfLightFor_22 : decode cX2_hoursOfLightFor 22 = .ok (.iconst 1, 1) := by decide +kernel
theorem dX2_hoursOfLightFor_23 : decode cX2_hoursOfLightFor 23 = .ok (.goto 4, 3) := by decide +kernel
theorem dX2_hoursOfLightFor_26 : decode cX2_hoursOfLightFor 26 = .ok (.iconst 0, 1) := by decide +kernel
theorem dX2_hoursOfLightFor_27 : decode cX2_hoursOfLightFor 27 = .ok (.iadd, 1) := by decide +kernel
theorem dX2_hoursOfLightFor_28 : decode cX2_hoursOfLightFor 28 = .ok (.istore_n 2, 1) := by decide +kernel
theorem dX2_hoursOfLightFor_29 : decode cX2_hoursOfLightFor 29 = .ok (.iinc 3 1, 3) := by decide +kernel
theorem dX2_hoursOfLightFor_32 : decode cX2_hoursOfLightFor 32 = .ok (.goto (-28), 3) := by decide +kernel
theorem dX2_hoursOfLightFor_35 : decode cX2_hoursOfLightFor 35 = .ok (.iload_n 2, 1) := by decide +kernel
theorem dX2_hoursOfLightFor_36 : decode cX2_hoursOfLightFor 36 = .ok (.ireturn, 1) := by decide +kernel
theorem dX2_hoursAt_0 : decode cX2_hoursAt 0 = .ok (.iconst 0, 1) := by decide +kernel
theorem dX2_hoursAt_1 : decode cX2_hoursAt 1 = .ok (.istore_n 2, 1) := by decide +kernel
theorem dX2_hoursAt_2 : decode cX2_hoursAt 2 = .ok (.iconst 0, 1) := by decide +kernel
theorem dX2_hoursAt_3 : decode cX2_hoursAt 3 = .ok (.istore_n 3, 1) := by decide +kernel
theorem dX2_hoursAt_4 : decode cX2_hoursAt 4 = .ok (.iload_n 3, 1) := by decide +kernel
theorem dX2_hoursAt_5 : decode cX2_hoursAt 5 = .ok (.aload_n 0, 1) := by decide +kernel
theorem dX2_hoursAt_6 : decode cX2_hoursAt 6 = .ok (.getfield 15, 3) := by decide +kernel
theorem dX2_hoursAt_9 : decode cX2_hoursAt 9 = .ok (.if_icmp .ge 29, 3) := by decide +kernel
theorem dX2_hoursAt_12 : decode cX2_hoursAt 12 = .ok (.iload_n 2, 1) := by decide +kernel
theorem dX2_hoursAt_13 : decode cX2_hoursAt 13 = .ok (.aload_n 0, 1) := by decide +kernel
theorem dX2_hoursAt_14 : decode cX2_hoursAt 14 = .ok (.getfield 31, 3) := by decide +kernel
theorem dX2_hoursAt_17 : decode cX2_hoursAt 17 = .ok (.iload_n 3, 1) := by decide +kernel
theorem dX2_hoursAt_18 : decode cX2_hoursAt 18 = .ok (.iaload, 1) := by decide +kernel
theorem dX2_hoursAt_19 : decode cX2_hoursAt 19 = .ok (.iload_n 1, 1) := by decide +kernel
theorem dX2_hoursAt_20 : decode cX2_hoursAt 20 = .ok (.if_icmp .ne 9, 3) := by decide +kernel
theorem dX2_hoursAt_23 : decode cX2_hoursAt 23 = .ok (.iconst 1, 1) := by decide +kernel
theorem dX2_hoursAt_24 : decode cX2_hoursAt 24 = .ok (.iload_n 3, 1) := by decide +kernel
theorem dX2_hoursAt_25 : decode cX2_hoursAt 25 = .ok (.ishl, 1) := by decide +kernel
theorem dX2_hoursAt_26 : decode cX2_hoursAt 26 = .ok (.goto 4, 3) := by decide +kernel
theorem dX2_hoursAt_29 : decode cX2_hoursAt 29 = .ok (.iconst 0, 1) := by decide +kernel
theorem dX2_hoursAt_30 : decode cX2_hoursAt 30 = .ok (.ior, 1) := by decide +kernel
theorem dX2_hoursAt_31 : decode cX2_hoursAt 31 = .ok (.istore_n 2, 1) := by decide +kernel
theorem dX2_hoursAt_32 : decode cX2_hoursAt 32 = .ok (.iinc 3 1, 3) := by decide +kernel
theorem dX2_hoursAt_35 : decode cX2_hoursAt 35 = .ok (.goto (-31), 3) := by decide +kernel
theorem dX2_hoursAt_38 : decode cX2_hoursAt 38 = .ok (.iload_n 2, 1) := by decide +kernel
theorem dX2_hoursAt_39 : decode cX2_hoursAt 39 = .ok (.ireturn, 1) := by decide +kernel
theorem dX2_meals_0 : decode cX2_meals 0 = .ok (.iconst 0, 1) := by decide +kernel
theorem dX2_meals_1 : decode cX2_meals 1 = .ok (.istore_n 1, 1) := by decide +kernel
theorem dX2_meals_2 : decode cX2_meals 2 = .ok (.iconst 0, 1) := by decide +kernel
theorem dX2_meals_3 : decode cX2_meals 3 = .ok (.istore_n 2, 1) := by decide +kernel
theorem dX2_meals_4 : decode cX2_meals 4 = .ok (.iload_n 2, 1) := by decide +kernel
theorem dX2_meals_5 : decode cX2_meals 5 = .ok (.aload_n 0, 1) := by decide +kernel
theorem dX2_meals_6 : decode cX2_meals 6 = .ok (.getfield 9, 3) := by decide +kernel
theorem dX2_meals_9 : decode cX2_meals 9 = .ok (.if_icmp .ge 26, 3) := by decide +kernel
theorem dX2_meals_12 : decode cX2_meals 12 = .ok (.iload_n 1, 1) := by decide +kernel
theorem dX2_meals_13 : decode cX2_meals 13 = .ok (.aload_n 0, 1) := by decide +kernel
theorem dX2_meals_14 : decode cX2_meals 14 = .ok (.iload_n 2, 1) := by decide +kernel
theorem dX2_meals_15 : decode cX2_meals 15 = .ok (.iconst 1, 1) := by decide +kernel
theorem dX2_meals_16 : decode cX2_meals 16 = .ok (.invokevirtual 82, 3) := by decide +kernel
theorem dX2_meals_19 : decode cX2_meals 19 = .ok (.ifCond .eq 7, 3) := by decide +kernel
theorem dX2_meals_22 : decode cX2_meals 22 = .ok (.iconst 1, 1) := by decide +kernel
theorem dX2_meals_23 : decode cX2_meals 23 = .ok (.goto 4, 3) := by decide +kernel
theorem dX2_meals_26 : decode cX2_meals 26 = .ok (.iconst 0, 1) := by decide +kernel
theorem dX2_meals_27 : decode cX2_meals 27 = .ok (.iadd, 1) := by decide +kernel
theorem dX2_meals_28 : decode cX2_meals 28 = .ok (.istore_n 1, 1) := by decide +kernel
theorem dX2_meals_29 : decode cX2_meals 29 = .ok (.iinc 2 1, 3) := by decide +kernel
theorem dX2_meals_32 : decode cX2_meals 32 = .ok (.goto (-28), 3) := by decide +kernel
theorem dX2_meals_35 : decode cX2_meals 35 = .ok (.iload_n 1, 1) := by decide +kernel
theorem dX2_meals_36 : decode cX2_meals 36 = .ok (.ireturn, 1) := by decide +kernel
theorem dX3_init_0 : decode cX3_init 0 = .ok (.aload_n 0, 1) := by decide +kernel
theorem dX3_init_1 : decode cX3_init 1 = .ok (.invokespecial 3, 3) := by decide +kernel
theorem dX3_init_4 : decode cX3_init 4 = .ok (.aload_n 0, 1) := by decide +kernel
theorem dX3_init_5 : decode cX3_init 5 = .ok (.new 9, 3) := by decide +kernel
theorem dX3_init_8 : decode cX3_init 8 = .ok (.dup, 1) := by decide +kernel
theorem dX3_init_9 : decode cX3_init 9 = .ok (.invokespecial 11, 3) := by decide +kernel
theorem dX3_init_12 : decode cX3_init 12 = .ok (.putfield 12, 3) := by decide +kernel
theorem dX3_init_15 : decode cX3_init 15 = .ok (.aload_n 0, 1) := by decide +kernel
theorem dX3_init_16 : decode cX3_init 16 = .ok (.iconst 0, 1) := by decide +kernel
theorem dX3_init_17 : decode cX3_init 17 = .ok (.newarray .int, 2) := by decide +kernel
theorem dX3_init_19 : decode cX3_init 19 = .ok (.putfield 18, 3) := by decide +kernel
theorem dX3_init_22 : decode cX3_init 22 = .ok (.aload_n 0, 1) := by decide +kernel
theorem dX3_init_23 : decode cX3_init 23 = .ok (.iconst 0, 1) := by decide +kernel
theorem dX3_init_24 : decode cX3_init 24 = .ok (.putfield 22, 3) := by decide +kernel
theorem dX3_init_27 : decode cX3_init 27 = .ok (.aload_n 0, 1) := by decide +kernel
theorem dX3_init_28 : decode cX3_init 28 = .ok (.iconst 0, 1) := by decide +kernel
theorem dX3_init_29 : decode cX3_init 29 = .ok (.putfield 26, 3) := by decide +kernel
theorem dX3_init_32 : decode cX3_init 32 = .ok (.return_, 1) := by decide +kernel
theorem dX3_firstFault_0 : decode cX3_firstFault 0 = .ok (.aload_n 0, 1) := by decide +kernel
theorem dX3_firstFault_1 : decode cX3_firstFault 1 = .ok (.aload_n 1, 1) := by decide +kernel
theorem dX3_firstFault_2 : decode cX3_firstFault 2 = .ok (.putfield 18, 3) := by decide +kernel
theorem dX3_firstFault_5 : decode cX3_firstFault 5 = .ok (.aload_n 0, 1) := by decide +kernel
theorem dX3_firstFault_6 : decode cX3_firstFault 6 = .ok (.iload_n 2, 1) := by decide +kernel
theorem dX3_firstFault_7 : decode cX3_firstFault 7 = .ok (.aload_n 1, 1) := by decide +kernel
theorem dX3_firstFault_8 : decode cX3_firstFault 8 = .ok (.arraylength, 1) := by decide +kernel
theorem dX3_firstFault_9 : decode cX3_firstFault 9 = .ok (.invokestatic 29, 3) := by decide +kernel
theorem dX3_firstFault_12 : decode cX3_firstFault 12 = .ok (.putfield 22, 3) := by decide +kernel
theorem dX3_firstFault_15 : decode cX3_firstFault 15 = .ok (.aload_n 0, 1) := by decide +kernel
theorem dX3_firstFault_16 : decode cX3_firstFault 16 = .ok (.iconst 0, 1) := by decide +kernel
theorem dX3_firstFault_17 : decode cX3_firstFault 17 = .ok (.putfield 26, 3) := by decide +kernel
theorem dX3_firstFault_20 : decode cX3_firstFault 20 = .ok (.aload_n 0, 1) := by decide +kernel
theorem dX3_firstFault_21 : decode cX3_firstFault 21 = .ok (.getfield 12, 3) := by decide +kernel
theorem dX3_firstFault_24 : decode cX3_firstFault 24 = .ok (.invokevirtual 35, 3) := by decide +kernel
theorem dX3_firstFault_27 : decode cX3_firstFault 27 = .ok (.aload_n 0, 1) := by decide +kernel
theorem dX3_firstFault_28 : decode cX3_firstFault 28 = .ok (.invokevirtual 38, 3) := by decide +kernel
theorem dX3_firstFault_31 : decode cX3_firstFault 31 = .ok (.iconst 0, 1) := by decide +kernel
theorem dX3_firstFault_32 : decode cX3_firstFault 32 = .ok (.istore_n 3, 1) := by decide +kernel
theorem dX3_firstFault_33 : decode cX3_firstFault 33 = .ok (.iload_n 3, 1) := by decide +kernel
theorem dX3_firstFault_34 : decode cX3_firstFault 34 = .ok (.bipush 80, 2) := by decide +kernel
theorem dX3_firstFault_36 : decode cX3_firstFault 36 = .ok (.if_icmp .ge 36, 3) := by decide +kernel
theorem dX3_firstFault_39 : decode cX3_firstFault 39 = .ok (.aload_n 0, 1) := by decide +kernel
theorem dX3_firstFault_40 : decode cX3_firstFault 40 = .ok (.getfield 26, 3) := by decide +kernel
theorem dX3_firstFault_43 : decode cX3_firstFault 43 = .ok (.aload_n 0, 1) := by decide +kernel
theorem dX3_firstFault_44 : decode cX3_firstFault 44 = .ok (.getfield 22, 3) := by decide +kernel
theorem dX3_firstFault_47 : decode cX3_firstFault 47 = .ok (.if_icmp .ge 25, 3) := by decide +kernel
theorem dX3_firstFault_50 : decode cX3_firstFault 50 = .ok (.aload_n 0, 1) := by decide +kernel
theorem dX3_firstFault_51 : decode cX3_firstFault 51 = .ok (.invokevirtual 41, 3) := by decide +kernel
theorem dX3_firstFault_54 : decode cX3_firstFault 54 = .ok (.ifCond .ne 8, 3) := by decide +kernel
theorem dX3_firstFault_57 : decode cX3_firstFault 57 = .ok (.aload_n 0, 1) := by decide +kernel
theorem dX3_firstFault_58 : decode cX3_firstFault 58 = .ok (.getfield 26, 3) := by decide +kernel
theorem dX3_firstFault_61 : decode cX3_firstFault 61 = .ok (.ireturn, 1) := by decide +kernel
theorem dX3_firstFault_62 : decode cX3_firstFault 62 = .ok (.aload_n 0, 1) := by decide +kernel
theorem dX3_firstFault_63 : decode cX3_firstFault 63 = .ok (.invokevirtual 38, 3) := by decide +kernel
theorem dX3_firstFault_66 : decode cX3_firstFault 66 = .ok (.iinc 3 1, 3) := by decide +kernel
theorem dX3_firstFault_69 : decode cX3_firstFault 69 = .ok (.goto (-36), 3) := by decide +kernel
theorem dX3_firstFault_72 : decode cX3_firstFault 72 = .ok (.aload_n 0, 1) := by decide +kernel
theorem dX3_firstFault_73 : decode cX3_firstFault 73 = .ok (.getfield 12, 3) := by decide +kernel
theorem dX3_firstFault_76 : decode cX3_firstFault 76 = .ok (.getfield 45, 3) := by decide +kernel
theorem dX3_firstFault_79 : decode cX3_firstFault 79 = .ok (.ifCond .ne 10, 3) := by decide +kernel
theorem dX3_firstFault_82 : decode cX3_firstFault 82 = .ok (.aload_n 0, 1) := by decide +kernel
theorem dX3_firstFault_83 : decode cX3_firstFault 83 = .ok (.getfield 26, 3) := by decide +kernel
theorem dX3_firstFault_86 : decode cX3_firstFault 86 = .ok (.goto 5, 3) := by decide +kernel
theorem dX3_firstFault_89 : decode cX3_firstFault 89 = .ok (.bipush (-9), 2) := by decide +kernel
theorem dX3_firstFault_91 : decode cX3_firstFault 91 = .ok (.ireturn, 1) := by decide +kernel
theorem dX3_skipBlanks_0 : decode cX3_skipBlanks 0 = .ok (.aload_n 0, 1) := by decide +kernel
theorem dX3_skipBlanks_1 : decode cX3_skipBlanks 1 = .ok (.getfield 26, 3) := by decide +kernel
theorem dX3_skipBlanks_4 : decode cX3_skipBlanks 4 = .ok (.aload_n 0, 1) := by decide +kernel
theorem dX3_skipBlanks_5 : decode cX3_skipBlanks 5 = .ok (.getfield 22, 3) := by decide +kernel
theorem dX3_skipBlanks_8 : decode cX3_skipBlanks 8 = .ok (.if_icmp .ge 30, 3) := by decide +kernel
theorem dX3_skipBlanks_11 : decode cX3_skipBlanks 11 = .ok (.aload_n 0, 1) := by decide +kernel
theorem dX3_skipBlanks_12 : decode cX3_skipBlanks 12 = .ok (.getfield 18, 3) := by decide +kernel
theorem dX3_skipBlanks_15 : decode cX3_skipBlanks 15 = .ok (.aload_n 0, 1) := by decide +kernel
theorem dX3_skipBlanks_16 : decode cX3_skipBlanks 16 = .ok (.getfield 26, 3) := by decide +kernel
theorem dX3_skipBlanks_19 : decode cX3_skipBlanks 19 = .ok (.iaload, 1) := by decide +kernel
theorem dX3_skipBlanks_20 : decode cX3_skipBlanks 20 = .ok (.bipush 32, 2) := by decide +kernel
theorem dX3_skipBlanks_22 : decode cX3_skipBlanks 22 = .ok (.if_icmp .ne 16, 3) := by decide +kernel
theorem dX3_skipBlanks_25 : decode cX3_skipBlanks 25 = .ok (.aload_n 0, 1) := by decide +kernel
theorem dX3_skipBlanks_26 : decode cX3_skipBlanks 26 = .ok (.dup, 1) := by decide +kernel
theorem dX3_skipBlanks_27 : decode cX3_skipBlanks 27 = .ok (.getfield 26, 3) := by decide +kernel
theorem dX3_skipBlanks_30 : decode cX3_skipBlanks 30 = .ok (.iconst 1, 1) := by decide +kernel
theorem dX3_skipBlanks_31 : decode cX3_skipBlanks 31 = .ok (.iadd, 1) := by decide +kernel
theorem dX3_skipBlanks_32 : decode cX3_skipBlanks 32 = .ok (.putfield 26, 3) := by decide +kernel
theorem dX3_skipBlanks_35 : decode cX3_skipBlanks 35 = .ok (.goto (-35), 3) := by decide +kernel
theorem dX3_skipBlanks_38 : decode cX3_skipBlanks 38 = .ok (.return_, 1) := by decide +kernel
theorem dX3_readItem_0 : decode cX3_readItem 0 = .ok (.aload_n 0, 1) := by decide +kernel
theorem dX3_readItem_1 : decode cX3_readItem 1 = .ok (.bipush 104, 2) := by decide +kernel
theorem dX3_readItem_3 : decode cX3_readItem 3 = .ok (.bipush 104, 2) := by decide +kernel
theorem dX3_readItem_5 : decode cX3_readItem 5 = .ok (.invokevirtual 48, 3) := by decide +kernel
theorem dX3_readItem_8 : decode cX3_readItem 8 = .ok (.ifCond .ne 38, 3) := by decide +kernel
theorem dX3_readItem_11 : decode cX3_readItem 11 = .ok (.aload_n 0, 1) := by decide +kernel
theorem dX3_readItem_12 : decode cX3_readItem 12 = .ok (.getfield 12, 3) := by decide +kernel
theorem dX3_readItem_15 : decode cX3_readItem 15 = .ok (.getfield 45, 3) := by decide +kernel
theorem dX3_readItem_18 : decode cX3_readItem 18 = .ok (.ifCond .le 26, 3) := by decide +kernel
theorem dX3_readItem_21 : decode cX3_readItem 21 = .ok (.aload_n 0, 1) := by decide +kernel
theorem dX3_readItem_22 : decode cX3_readItem 22 = .ok (.getfield 12, 3) := by decide +kernel
theorem dX3_readItem_25 : decode cX3_readItem 25 = .ok (.getfield 51, 3) := by decide +kernel
theorem dX3_readItem_28 : decode cX3_readItem 28 = .ok (.bipush 7, 2) := by decide +kernel
theorem dX3_readItem_30 : decode cX3_readItem 30 = .ok (.if_icmp .ge 14, 3) := by decide +kernel
theorem dX3_readItem_33 : decode cX3_readItem 33 = .ok (.aload_n 0, 1) := by decide +kernel
theorem dX3_readItem_34 : decode cX3_readItem 34 = .ok (.invokevirtual 54, 3) := by decide +kernel
theorem dX3_readItem_37 : decode cX3_readItem 37 = .ok (.ifCond .eq 7, 3) := by decide +kernel
theorem dX3_readItem_40 : decode cX3_readItem 40 = .ok (.iconst 1, 1) := by decide +kernel
theorem dX3_readItem_41 : decode cX3_readItem 41 = .ok (.goto 4, 3) := by decide +kernel
theorem dX3_readItem_44 : decode cX3_readItem 44 = .ok (.iconst 0, 1) := by decide +kernel
theorem dX3_readItem_45 : decode cX3_readItem 45 = .ok (.ireturn, 1) := by decide +kernel
theorem dX3_readItem_46 : decode cX3_readItem 46 = .ok (.aload_n 0, 1) := by decide +kernel
theorem dX3_readItem_47 : decode cX3_readItem 47 = .ok (.getfield 12, 3) := by decide +kernel
theorem dX3_readItem_50 : decode cX3_readItem 50 = .ok (.getfield 51, 3) := by decide +kernel
theorem dX3_readItem_53 : decode cX3_readItem 53 = .ok (.ifCond .ne 26, 3) := by decide +kernel
theorem dX3_readItem_56 : decode cX3_readItem 56 = .ok (.aload_n 0, 1) := by decide +kernel
theorem dX3_readItem_57 : decode cX3_readItem 57 = .ok (.getfield 12, 3) := by decide +kernel
theorem dX3_readItem_60 : decode cX3_readItem 60 = .ok (.getfield 45, 3) := by decide +kernel
theorem dX3_readItem_63 : decode cX3_readItem 63 = .ok (.bipush 6, 2) := by decide +kernel
theorem dX3_readItem_65 : decode cX3_readItem 65 = .ok (.if_icmp .ge 14, 3) := by decide +kernel
theorem dX3_readItem_68 : decode cX3_readItem 68 = .ok (.aload_n 0, 1) := by decide +kernel
theorem dX3_readItem_69 : decode cX3_readItem 69 = .ok (.invokevirtual 57, 3) := by decide +kernel
theorem dX3_readItem_72 : decode cX3_readItem 72 = .ok (.ifCond .eq 7, 3) := by decide +kernel
theorem dX3_readItem_75 : decode cX3_readItem 75 = .ok (.iconst 1, 1) := by decide +kernel
theorem dX3_readItem_76 : decode cX3_readItem 76 = .ok (.goto 4, 3) := by decide +kernel
theorem dX3_readItem_79 : decode cX3_readItem 79 = .ok (.iconst 0, 1) := by decide +kernel
theorem dX3_readItem_80 : decode cX3_readItem 80 = .ok (.ireturn, 1) := by decide +kernel
theorem dX3_readDeed_0 : decode cX3_readDeed 0 = .ok (.aload_n 0, 1) := by decide +kernel
theorem dX3_readDeed_1 : decode cX3_readDeed 1 = .ok (.aload_n 0, 1) := by decide +kernel
theorem dX3_readDeed_2 : decode cX3_readDeed 2 = .ok (.getstatic 60, 3) := by decide +kernel
theorem dX3_readDeed_5 : decode cX3_readDeed 5 = .ok (.invokevirtual 63, 3) := by decide +kernel
theorem dX3_readDeed_8 : decode cX3_readDeed 8 = .ok (.invokevirtual 67, 3) := by decide +kernel
theorem dX3_readDeed_11 : decode cX3_readDeed 11 = .ok (.istore_n 1, 1) := by decide +kernel
theorem dX3_readDeed_12 : decode cX3_readDeed 12 = .ok (.iload_n 1, 1) := by decide +kernel
theorem dX3_readDeed_13 : decode cX3_readDeed 13 = .ok (.ifCond .ge 8, 3) := by decide +kernel
theorem dX3_readDeed_16 : decode cX3_readDeed 16 = .ok (.bipush (-9), 2) := by decide +kernel
theorem dX3_readDeed_18 : decode cX3_readDeed 18 = .ok (.goto 14, 3) := by decide +kernel
theorem dX3_readDeed_21 : decode cX3_readDeed 21 = .ok (.aload_n 0, 1) := by decide +kernel
theorem dX3_readDeed_22 : decode cX3_readDeed 22 = .ok (.aload_n 0, 1) := by decide +kernel
theorem dX3_readDeed_23 : decode cX3_readDeed 23 = .ok (.getstatic 71, 3) := by decide +kernel
theorem dX3_readDeed_26 : decode cX3_readDeed 26 = .ok (.invokevirtual 63, 3) := by decide +kernel
theorem dX3_readDeed_29 : decode cX3_readDeed 29 = .ok (.invokevirtual 67, 3) := by decide +kernel
theorem dX3_readDeed_32 : decode cX3_readDeed 32 = .ok (.istore_n 2, 1) := by decide +kernel
theorem dX3_readDeed_33 : decode cX3_readDeed 33 = .ok (.iload_n 2, 1) := by decide +kernel
theorem dX3_readDeed_34 : decode cX3_readDeed 34 = .ok (.ifCond .ge 8, 3) := by decide +kernel
theorem dX3_readDeed_37 : decode cX3_readDeed 37 = .ok (.bipush (-9), 2) := by decide +kernel
theorem dX3_readDeed_39 : decode cX3_readDeed 39 = .ok (.goto 15, 3) := by decide +kernel
theorem dX3_readDeed_42 : decode cX3_readDeed 42 = .ok (.aload_n 0, 1) := by decide +kernel
theorem dX3_readDeed_43 : decode cX3_readDeed 43 = .ok (.aload_n 0, 1) := by decide +kernel
theorem dX3_readDeed_44 : decode cX3_readDeed 44 = .ok (.bipush 48, 2) := by decide +kernel
theorem dX3_readDeed_46 : decode cX3_readDeed 46 = .ok (.bipush 51, 2) := by decide +kernel
theorem dX3_readDeed_48 : decode cX3_readDeed 48 = .ok (.invokevirtual 48, 3) := by decide +kernel
theorem dX3_readDeed_51 : decode cX3_readDeed 51 = .ok (.invokevirtual 67, 3) := by decide +kernel
theorem dX3_readDeed_54 : decode cX3_readDeed 54 = .ok (.istore_n 3, 1) := by decide +kernel
theorem dX3_readDeed_55 : decode cX3_readDeed 55 = .ok (.iload_n 3, 1) := by decide +kernel
theorem dX3_readDeed_56 : decode cX3_readDeed 56 = .ok (.ifCond .ge 5, 3) := by decide +kernel
theorem dX3_readDeed_59 : decode cX3_readDeed 59 = .ok (.iconst 0, 1) := by decide +kernel
theorem dX3_readDeed_60 : decode cX3_readDeed 60 = .ok (.ireturn, 1) := by decide +kernel
theorem dX3_readDeed_61 : decode cX3_readDeed 61 = .ok (.iconst 0, 1) := by decide +kernel
theorem dX3_readDeed_62 : decode cX3_readDeed 62 = .ok (.istore 4, 2) := by decide +kernel
theorem dX3_readDeed_64 : decode cX3_readDeed 64 = .ok (.iconst 0, 1) := by decide +kernel
theorem dX3_readDeed_65 : decode cX3_readDeed 65 = .ok (.istore 5, 2) := by decide +kernel
theorem dX3_readDeed_67 : decode cX3_readDeed 67 = .ok (.iload 5, 2) := by decide +kernel
theorem dX3_readDeed_69 : decode cX3_readDeed 69 = .ok (.iload_n 3, 1) := by decide +kernel
theorem dX3_readDeed_70 : decode cX3_readDeed 70 = .ok (.if_icmp .ge 56, 3) := by decide +kernel
theorem dX3_readDeed_73 : decode cX3_readDeed 73 = .ok (.aload_n 0, 1) := by decide +kernel
theorem dX3_readDeed_74 : decode cX3_readDeed 74 = .ok (.bipush 48, 2) := by decide +kernel
theorem dX3_readDeed_76 : decode cX3_readDeed 76 = .ok (.bipush 57, 2) := by decide +kernel
theorem dX3_readDeed_78 : decode cX3_readDeed 78 = .ok (.invokevirtual 48, 3) := by decide +kernel
theorem dX3_readDeed_81 : decode cX3_readDeed 81 = .ok (.istore 6, 2) := by decide +kernel
theorem dX3_readDeed_83 : decode cX3_readDeed 83 = .ok (.aload_n 0, 1) := by decide +kernel
theorem dX3_readDeed_84 : decode cX3_readDeed 84 = .ok (.getfield 12, 3) := by decide +kernel
theorem dX3_readDeed_87 : decode cX3_readDeed 87 = .ok (.iload 6, 2) := by decide +kernel
theorem dX3_readDeed_89 : decode cX3_readDeed 89 = .ok (.invokevirtual 74, 3) := by decide +kernel
theorem dX3_readDeed_92 : decode cX3_readDeed 92 = .ok (.ifCond .eq 13, 3) := by decide +kernel
theorem dX3_readDeed_95 : decode cX3_readDeed 95 = .ok (.iload 4, 2) := by decide +kernel
theorem dX3_readDeed_97 : decode cX3_readDeed 97 = .ok (.iload 6, 2) := by decide +kernel
theorem dX3_readDeed_99 : decode cX3_readDeed 99 = .ok (.invokestatic 78, 3) := by decide +kernel
theorem dX3_readDeed_102 : decode cX3_readDeed 102 = .ok (.ifCond .eq 5, 3) := by decide +kernel
theorem dX3_readDeed_105 : decode cX3_readDeed 105 = .ok (.iconst 0, 1) := by decide +kernel
theorem dX3_readDeed_106 : decode cX3_readDeed 106 = .ok (.ireturn, 1) := by decide +kernel
theorem dX3_readDeed_107 : decode cX3_readDeed 107 = .ok (.iload 4, 2) := by decide +kernel
theorem dX3_readDeed_109 : decode cX3_readDeed 109 = .ok (.iconst 1, 1) := by decide +kernel
theorem dX3_readDeed_110 : decode cX3_readDeed 110 = .ok (.aload_n 0, 1) := by decide +kernel
theorem dX3_readDeed_111 : decode cX3_readDeed 111 = .ok (.iload 6, 2) := by decide +kernel
theorem dX3_readDeed_113 : decode cX3_readDeed 113 = .ok (.invokevirtual 67, 3) := by decide +kernel
theorem dX3_readDeed_116 : decode cX3_readDeed 116 = .ok (.ishl, 1) := by decide +kernel
theorem dX3_readDeed_117 : decode cX3_readDeed 117 = .ok (.ior, 1) := by decide +kernel
theorem dX3_readDeed_118 : decode cX3_readDeed 118 = .ok (.istore 4, 2) := by decide +kernel
theorem dX3_readDeed_120 : decode cX3_readDeed 120 = .ok (.iinc 5 1, 3) := by decide +kernel
theorem dX3_readDeed_123 : decode cX3_readDeed 123 = .ok (.goto (-56), 3) := by decide +kernel
theorem dX3_readDeed_126 : decode cX3_readDeed 126 = .ok (.aload_n 0, 1) := by decide +kernel
theorem dX3_readDeed_127 : decode cX3_readDeed 127 = .ok (.getfield 12, 3) := by decide +kernel
theorem dX3_readDeed_130 : decode cX3_readDeed 130 = .ok (.iload_n 1, 1) := by decide +kernel
theorem dX3_readDeed_131 : decode cX3_readDeed 131 = .ok (.iload_n 2, 1) := by decide +kernel
theorem dX3_readDeed_132 : decode cX3_readDeed 132 = .ok (.iload 4, 2) := by decide +kernel
theorem dX3_readDeed_134 : decode cX3_readDeed 134 = .ok (.invokevirtual 82, 3) := by decide +kernel
theorem dX3_readDeed_137 : decode cX3_readDeed 137 = .ok (.iconst 1, 1) := by decide +kernel
theorem dX3_readDeed_138 : decode cX3_readDeed 138 = .ok (.ireturn, 1) := by decide +kernel
theorem dX3_readHour_0 : decode cX3_readHour 0 = .ok (.aload_n 0, 1) := by decide +kernel
theorem dX3_readHour_1 : decode cX3_readHour 1 = .ok (.iconst 0, 1) := by decide +kernel
theorem dX3_readHour_2 : decode cX3_readHour 2 = .ok (.invokevirtual 67, 3) := by decide +kernel
theorem dX3_readHour_5 : decode cX3_readHour 5 = .ok (.pop, 1) := by decide +kernel
theorem dX3_readHour_6 : decode cX3_readHour 6 = .ok (.aload_n 0, 1) := by decide +kernel
theorem dX3_readHour_7 : decode cX3_readHour 7 = .ok (.aload_n 0, 1) := by decide +kernel
theorem dX3_readHour_8 : decode cX3_readHour 8 = .ok (.bipush 65, 2) := by decide +kernel
theorem dX3_readHour_10 : decode cX3_readHour 10 = .ok (.bipush 88, 2) := by decide +kernel
theorem dX3_readHour_12 : decode cX3_readHour 12 = .ok (.invokevirtual 48, 3) := by decide +kernel
theorem dX3_readHour_15 : decode cX3_readHour 15 = .ok (.invokevirtual 67, 3) := by decide +kernel
theorem dX3_readHour_18 : decode cX3_readHour 18 = .ok (.istore_n 1, 1) := by decide +kernel
theorem dX3_readHour_19 : decode cX3_readHour 19 = .ok (.iload_n 1, 1) := by decide +kernel
theorem dX3_readHour_20 : decode cX3_readHour 20 = .ok (.ifCond .ge 8, 3) := by decide +kernel
theorem dX3_readHour_23 : decode cX3_readHour 23 = .ok (.bipush (-9), 2) := by decide +kernel
theorem dX3_readHour_25 : decode cX3_readHour 25 = .ok (.goto 15, 3) := by decide +kernel
theorem dX3_readHour_28 : decode cX3_readHour 28 = .ok (.aload_n 0, 1) := by decide +kernel
theorem dX3_readHour_29 : decode cX3_readHour 29 = .ok (.aload_n 0, 1) := by decide +kernel
theorem dX3_readHour_30 : decode cX3_readHour 30 = .ok (.bipush 48, 2) := by decide +kernel
theorem dX3_readHour_32 : decode cX3_readHour 32 = .ok (.bipush 57, 2) := by decide +kernel
theorem dX3_readHour_34 : decode cX3_readHour 34 = .ok (.invokevirtual 48, 3) := by decide +kernel
theorem dX3_readHour_37 : decode cX3_readHour 37 = .ok (.invokevirtual 67, 3) := by decide +kernel
theorem dX3_readHour_40 : decode cX3_readHour 40 = .ok (.istore_n 2, 1) := by decide +kernel
theorem dX3_readHour_41 : decode cX3_readHour 41 = .ok (.iload_n 2, 1) := by decide +kernel
theorem dX3_readHour_42 : decode cX3_readHour 42 = .ok (.ifCond .ge 8, 3) := by decide +kernel
theorem dX3_readHour_45 : decode cX3_readHour 45 = .ok (.bipush (-9), 2) := by decide +kernel
theorem dX3_readHour_47 : decode cX3_readHour 47 = .ok (.goto 15, 3) := by decide +kernel
theorem dX3_readHour_50 : decode cX3_readHour 50 = .ok (.aload_n 0, 1) := by decide +kernel
theorem dX3_readHour_51 : decode cX3_readHour 51 = .ok (.aload_n 0, 1) := by decide +kernel
theorem dX3_readHour_52 : decode cX3_readHour 52 = .ok (.bipush 48, 2) := by decide +kernel
theorem dX3_readHour_54 : decode cX3_readHour 54 = .ok (.bipush 50, 2) := by decide +kernel
theorem dX3_readHour_56 : decode cX3_readHour 56 = .ok (.invokevirtual 48, 3) := by decide +kernel
theorem dX3_readHour_59 : decode cX3_readHour 59 = .ok (.invokevirtual 67, 3) := by decide +kernel
theorem dX3_readHour_62 : decode cX3_readHour 62 = .ok (.istore_n 3, 1) := by decide +kernel
theorem dX3_readHour_63 : decode cX3_readHour 63 = .ok (.iload_n 3, 1) := by decide +kernel
theorem dX3_readHour_64 : decode cX3_readHour 64 = .ok (.ifCond .ge 5, 3) := by decide +kernel
theorem dX3_readHour_67 : decode cX3_readHour 67 = .ok (.iconst 0, 1) := by decide +kernel
theorem dX3_readHour_68 : decode cX3_readHour 68 = .ok (.ireturn, 1) := by decide +kernel
theorem dX3_readHour_69 : decode cX3_readHour 69 = .ok (.aload_n 0, 1) := by decide +kernel
theorem dX3_readHour_70 : decode cX3_readHour 70 = .ok (.getfield 12, 3) := by decide +kernel
theorem dX3_readHour_73 : decode cX3_readHour 73 = .ok (.iload_n 1, 1) := by decide +kernel
theorem dX3_readHour_74 : decode cX3_readHour 74 = .ok (.iload_n 2, 1) := by decide +kernel
theorem dX3_readHour_75 : decode cX3_readHour 75 = .ok (.iload_n 3, 1) := by decide +kernel
theorem dX3_readHour_76 : decode cX3_readHour 76 = .ok (.invokevirtual 86, 3) := by decide +kernel
theorem dX3_readHour_79 : decode cX3_readHour 79 = .ok (.iconst 1, 1) := by decide +kernel
theorem dX3_readHour_80 : decode cX3_readHour 80 = .ok (.ireturn, 1) := by decide +kernel
theorem dX3_take_0 : decode cX3_take 0 = .ok (.aload_n 0, 1) := by decide +kernel
theorem dX3_take_1 : decode cX3_take 1 = .ok (.dup, 1) := by decide +kernel
theorem dX3_take_2 : decode cX3_take 2 = .ok (.getfield 26, 3) := by decide +kernel
theorem dX3_take_5 : decode cX3_take 5 = .ok (.iload_n 1, 1) := by decide +kernel
theorem dX3_take_6 : decode cX3_take 6 = .ok (.ifCond .ge 7, 3) := by decide +kernel
theorem dX3_take_9 : decode cX3_take 9 = .ok (.iconst 0, 1) := by decide +kernel
theorem dX3_take_10 : decode cX3_take 10 = .ok (.goto 4, 3) := by decide +kernel
theorem dX3_take_13 : decode cX3_take 13 = .ok (.iconst 1, 1) := by decide +kernel
theorem dX3_take_14 : decode cX3_take 14 = .ok (.iadd, 1) := by decide +kernel
theorem dX3_take_15 : decode cX3_take 15 = .ok (.putfield 26, 3) := by decide +kernel
theorem dX3_take_18 : decode cX3_take 18 = .ok (.iload_n 1, 1) := by decide +kernel
theorem dX3_take_19 : decode cX3_take 19 = .ok (.ireturn, 1) := by decide +kernel
theorem dX3_nextBetween_0 : decode cX3_nextBetween 0 = .ok (.aload_n 0, 1) := by decide +kernel
theorem dX3_nextBetween_1 : decode cX3_nextBetween 1 = .ok (.getfield 26, 3) := by decide +kernel
theorem dX3_nextBetween_4 : decode cX3_nextBetween 4 = .ok (.aload_n 0, 1) := by decide +kernel
theorem dX3_nextBetween_5 : decode cX3_nextBetween 5 = .ok (.getfield 22, 3) := by decide +kernel
theorem dX3_nextBetween_8 : decode cX3_nextBetween 8 = .ok (.if_icmp .ge 29, 3) := by decide +kernel
theorem dX3_nextBetween_11 : decode cX3_nextBetween 11 = .ok (.aload_n 0, 1) := by decide +kernel
theorem dX3_nextBetween_12 : decode cX3_nextBetween 12 = .ok (.getfield 18, 3) := by decide +kernel
theorem dX3_nextBetween_15 : decode cX3_nextBetween 15 = .ok (.aload_n 0, 1) := by decide +kernel
theorem dX3_nextBetween_16 : decode cX3_nextBetween 16 = .ok (.getfield 26, 3) := by decide +kernel
theorem dX3_nextBetween_19 : decode cX3_nextBetween 19 = .ok (.iaload, 1) := by decide +kernel
theorem dX3_nextBetween_20 : decode cX3_nextBetween 20 = .ok (.iload_n 1, 1) := by decide +kernel
theorem dX3_nextBetween_21 : decode cX3_nextBetween 21 = .ok (.if_icmp .lt 16, 3) := by decide +kernel
theorem dX3_nextBetween_24 : decode cX3_nextBetween 24 = .ok (.aload_n 0, 1) := by decide +kernel
theorem dX3_nextBetween_25 : decode cX3_nextBetween 25 = .ok (.getfield 18, 3) := by decide +kernel
theorem dX3_nextBetween_28 : decode cX3_nextBetween 28 = .ok (.aload_n 0, 1) := by decide +kernel
theorem dX3_nextBetween_29 : decode cX3_nextBetween 29 = .ok (.getfield 26, 3) := by decide +kernel
theorem dX3_nextBetween_32 : decode cX3_nextBetween 32 = .ok (.iaload, 1) := by decide +kernel
theorem dX3_nextBetween_33 : decode cX3_nextBetween 33 = .ok (.iload_n 2, 1) := by decide +kernel
theorem dX3_nextBetween_34 : decode cX3_nextBetween 34 = .ok (.if_icmp .le 6, 3) := by decide +kernel
theorem dX3_nextBetween_37 : decode cX3_nextBetween 37 = .ok (.bipush (-9), 2) := by decide +kernel
theorem dX3_nextBetween_39 : decode cX3_nextBetween 39 = .ok (.ireturn, 1) := by decide +kernel
theorem dX3_nextBetween_40 : decode cX3_nextBetween 40 = .ok (.aload_n 0, 1) := by decide +kernel
theorem dX3_nextBetween_41 : decode cX3_nextBetween 41 = .ok (.getfield 18, 3) := by decide +kernel
theorem dX3_nextBetween_44 : decode cX3_nextBetween 44 = .ok (.aload_n 0, 1) := by decide +kernel
theorem dX3_nextBetween_45 : decode cX3_nextBetween 45 = .ok (.getfield 26, 3) := by decide +kernel
theorem dX3_nextBetween_48 : decode cX3_nextBetween 48 = .ok (.iaload, 1) := by decide +kernel
theorem dX3_nextBetween_49 : decode cX3_nextBetween 49 = .ok (.iload_n 1, 1) := by decide +kernel
theorem dX3_nextBetween_50 : decode cX3_nextBetween 50 = .ok (.isub, 1) := by decide +kernel
theorem dX3_nextBetween_51 : decode cX3_nextBetween 51 = .ok (.ireturn, 1) := by decide +kernel
theorem dX3_nextAmong_0 : decode cX3_nextAmong 0 = .ok (.iconst 0, 1) := by decide +kernel
theorem dX3_nextAmong_1 : decode cX3_nextAmong 1 = .ok (.istore_n 2, 1) := by decide +kernel
theorem dX3_nextAmong_2 : decode cX3_nextAmong 2 = .ok (.iload_n 2, 1) := by decide +kernel
theorem dX3_nextAmong_3 : decode cX3_nextAmong 3 = .ok (.aload_n 1, 1) := by decide +kernel
theorem dX3_nextAmong_4 : decode cX3_nextAmong 4 = .ok (.arraylength, 1) := by decide +kernel
theorem dX3_nextAmong_5 : decode cX3_nextAmong 5 = .ok (.if_icmp .ge 37, 3) := by decide +kernel
theorem dX3_nextAmong_8 : decode cX3_nextAmong 8 = .ok (.aload_n 0, 1) := by decide +kernel
theorem dX3_nextAmong_9 : decode cX3_nextAmong 9 = .ok (.getfield 26, 3) := by decide +kernel
theorem dX3_nextAmong_12 : decode cX3_nextAmong 12 = .ok (.aload_n 0, 1) := by decide +kernel
theorem dX3_nextAmong_13 : decode cX3_nextAmong 13 = .ok (.getfield 22, 3) := by decide +kernel
theorem dX3_nextAmong_16 : decode cX3_nextAmong 16 = .ok (.if_icmp .ge 26, 3) := by decide +kernel
theorem dX3_nextAmong_19 : decode cX3_nextAmong 19 = .ok (.aload_n 0, 1) := by decide +kernel
theorem dX3_nextAmong_20 : decode cX3_nextAmong 20 = .ok (.getfield 18, 3) := by decide +kernel
theorem dX3_nextAmong_23 : decode cX3_nextAmong 23 = .ok (.aload_n 0, 1) := by decide +kernel
theorem dX3_nextAmong_24 : decode cX3_nextAmong 24 = .ok (.getfield 26, 3) := by decide +kernel
theorem dX3_nextAmong_27 : decode cX3_nextAmong 27 = .ok (.iaload, 1) := by decide +kernel
theorem dX3_nextAmong_28 : decode cX3_nextAmong 28 = .ok (.aload_n 1, 1) := by decide +kernel
theorem dX3_nextAmong_29 : decode cX3_nextAmong 29 = .ok (.iload_n 2, 1) := by decide +kernel
theorem dX3_nextAmong_30 : decode cX3_nextAmong 30 = .ok (.iaload, 1) := by decide +kernel
theorem dX3_nextAmong_31 : decode cX3_nextAmong 31 = .ok (.if_icmp .ne 5, 3) := by decide +kernel
theorem dX3_nextAmong_34 : decode cX3_nextAmong 34 = .ok (.iload_n 2, 1) := by decide +kernel
theorem dX3_nextAmong_35 : decode cX3_nextAmong 35 = .ok (.ireturn, 1) := by decide +kernel
theorem dX3_nextAmong_36 : decode cX3_nextAmong 36 = .ok (.iinc 2 1, 3) := by decide +kernel
theorem dX3_nextAmong_39 : decode cX3_nextAmong 39 = .ok (.goto (-37), 3) := by decide +kernel
theorem dX3_nextAmong_42 : decode cX3_nextAmong 42 = .ok (.bipush (-9), 2) := by decide +kernel
theorem dX3_nextAmong_44 : decode cX3_nextAmong 44 = .ok (.ireturn, 1) := by decide +kernel
theorem dX4_init_0 : decode cX4_init 0 = .ok (.aload_n 0, 1) := by decide +kernel
theorem dX4_init_1 : decode cX4_init 1 = .ok (.invokespecial 3, 3) := by decide +kernel
theorem dX4_init_4 : decode cX4_init 4 = .ok (.aload_n 0, 1) := by decide +kernel
theorem dX4_init_5 : decode cX4_init 5 = .ok (.iload_n 1, 1) := by decide +kernel
theorem dX4_init_6 : decode cX4_init 6 = .ok (.newarray .int, 2) := by decide +kernel
theorem dX4_init_8 : decode cX4_init 8 = .ok (.putfield 9, 3) := by decide +kernel
theorem dX4_init_11 : decode cX4_init 11 = .ok (.aload_n 0, 1) := by decide +kernel
theorem dX4_init_12 : decode cX4_init 12 = .ok (.iload_n 1, 1) := by decide +kernel
theorem dX4_init_13 : decode cX4_init 13 = .ok (.iload_n 2, 1) := by decide +kernel
theorem dX4_init_14 : decode cX4_init 14 = .ok (.multianewarray 15 2, 4) := by decide +kernel
theorem dX4_init_18 : decode cX4_init 18 = .ok (.putfield 17, 3) := by decide +kernel
theorem dX4_init_21 : decode cX4_init 21 = .ok (.aload_n 0, 1) := by decide +kernel
theorem dX4_init_22 : decode cX4_init 22 = .ok (.getfield 9, 3) := by decide +kernel
theorem dX4_init_25 : decode cX4_init 25 = .ok (.iconst (-1), 1) := by decide +kernel
theorem dX4_init_26 : decode cX4_init 26 = .ok (.invokestatic 20, 3) := by decide +kernel
theorem dX4_init_29 : decode cX4_init 29 = .ok (.return_, 1) := by decide +kernel
theorem dX4_knows_0 : decode cX4_knows 0 = .ok (.iload_n 1, 1) := by decide +kernel
theorem dX4_knows_1 : decode cX4_knows 1 = .ok (.ifCond .lt 16, 3) := by decide +kernel
theorem dX4_knows_4 : decode cX4_knows 4 = .ok (.iload_n 1, 1) := by decide +kernel
theorem dX4_knows_5 : decode cX4_knows 5 = .ok (.aload_n 0, 1) := by decide +kernel
theorem dX4_knows_6 : decode cX4_knows 6 = .ok (.getfield 9, 3) := by decide +kernel
theorem dX4_knows_9 : decode cX4_knows 9 = .ok (.arraylength, 1) := by decide +kernel
theorem dX4_knows_10 : decode cX4_knows 10 = .ok (.if_icmp .ge 7, 3) := by decide +kernel
theorem dX4_knows_13 : decode cX4_knows 13 = .ok (.iconst 1, 1) := by decide +kernel
theorem dX4_knows_14 : decode cX4_knows 14 = .ok (.goto 4, 3) := by decide +kernel
theorem dX4_knows_17 : decode cX4_knows 17 = .ok (.iconst 0, 1) := by decide +kernel
theorem dX4_knows_18 : decode cX4_knows 18 = .ok (.ireturn, 1) := by decide +kernel
theorem dX4_isThere_0 : decode cX4_isThere 0 = .ok (.aload_n 0, 1) := by decide +kernel
theorem dX4_isThere_1 : decode cX4_isThere 1 = .ok (.getfield 9, 3) := by decide +kernel
theorem dX4_isThere_4 : decode cX4_isThere 4 = .ok (.iload_n 1, 1) := by decide +kernel
theorem dX4_isThere_5 : decode cX4_isThere 5 = .ok (.iaload, 1) := by decide +kernel
theorem dX4_isThere_6 : decode cX4_isThere 6 = .ok (.iconst (-1), 1) := by decide +kernel
theorem dX4_isThere_7 : decode cX4_isThere 7 = .ok (.if_icmp .eq 7, 3) := by decide +kernel
theorem dX4_isThere_10 : decode cX4_isThere 10 = .ok (.iconst 1, 1) := by decide +kernel
theorem dX4_isThere_11 : decode cX4_isThere 11 = .ok (.goto 4, 3) := by decide +kernel
theorem dX4_isThere_14 : decode cX4_isThere 14 = .ok (.iconst 0, 1) := by decide +kernel
theorem dX4_isThere_15 : decode cX4_isThere 15 = .ok (.ireturn, 1) := by decide +kernel
theorem dX4_reaches_0 : decode cX4_reaches 0 = .ok (.iload_n 2, 1) := by decide +kernel
theorem dX4_reaches_1 : decode cX4_reaches 1 = .ok (.ifCond .lt 23, 3) := by decide +kernel
theorem dX4_reaches_4 : decode cX4_reaches 4 = .ok (.iload_n 2, 1) := by decide +kernel
theorem dX4_reaches_5 : decode cX4_reaches 5 = .ok (.i2l, 1) := by decide +kernel
theorem dX4_reaches_6 : decode cX4_reaches 6 = .ok (.iload_n 3, 1) := by decide +kernel
theorem dX4_reaches_7 : decode cX4_reaches 7 = .ok (.i2l, 1) := by decide +kernel
theorem dX4_reaches_8 : decode cX4_reaches 8 = .ok (.ladd, 1) := by decide +kernel
theorem dX4_reaches_9 : decode cX4_reaches 9 = .ok (.aload_n 0, 1) := by decide +kernel
theorem dX4_reaches_10 : decode cX4_reaches 10 = .ok (.getfield 9, 3) := by decide +kernel
theorem dX4_reaches_13 : decode cX4_reaches 13 = .ok (.iload_n 1, 1) := by decide +kernel
theorem dX4_reaches_14 : decode cX4_reaches 14 = .ok (.iaload, 1) := by decide +kernel
theorem dX4_reaches_15 : decode cX4_reaches 15 = .ok (.i2l, 1) := by decide +kernel
theorem dX4_reaches_16 : decode cX4_reaches 16 = .ok (.lcmp, 1) := by decide +kernel
theorem dX4_reaches_17 : decode cX4_reaches 17 = .ok (.ifCond .gt 7, 3) := by decide +kernel
theorem dX4_reaches_20 : decode cX4_reaches 20 = .ok (.iconst 1, 1) := by decide +kernel
theorem dX4_reaches_21 : decode cX4_reaches 21 = .ok (.goto 4, 3) := by decide +kernel
theorem dX4_reaches_24 : decode cX4_reaches 24 = .ok (.iconst 0, 1) := by decide +kernel
theorem dX4_reaches_25 : decode cX4_reaches 25 = .ok (.ireturn, 1) := by decide +kernel
theorem dX4_begin_0 : decode cX4_begin 0 = .ok (.aload_n 0, 1) := by decide +kernel
theorem dX4_begin_1 : decode cX4_begin 1 = .ok (.getfield 9, 3) := by decide +kernel
theorem dX4_begin_4 : decode cX4_begin 4 = .ok (.iload_n 1, 1) := by decide +kernel
theorem dX4_begin_5 : decode cX4_begin 5 = .ok (.iload_n 2, 1) := by decide +kernel
theorem dX4_begin_6 : decode cX4_begin 6 = .ok (.iastore, 1) := by decide +kernel
theorem dX4_begin_7 : decode cX4_begin 7 = .ok (.aload_n 0, 1) := by decide +kernel
theorem dX4_begin_8 : decode cX4_begin 8 = .ok (.getfield 17, 3) := by decide +kernel
theorem dX4_begin_11 : decode cX4_begin 11 = .ok (.iload_n 1, 1) := by decide +kernel
theorem dX4_begin_12 : decode cX4_begin 12 = .ok (.aaload, 1) := by decide +kernel
theorem dX4_begin_13 : decode cX4_begin 13 = .ok (.iload_n 3, 1) := by decide +kernel
theorem dX4_begin_14 : decode cX4_begin 14 = .ok (.invokestatic 20, 3) := by decide +kernel
theorem dX4_begin_17 : decode cX4_begin 17 = .ok (.return_, 1) := by decide +kernel
theorem dX4_exchange_0 : decode cX4_exchange 0 = .ok (.aload_n 0, 1) := by decide +kernel
theorem dX4_exchange_1 : decode cX4_exchange 1 = .ok (.getfield 17, 3) := by decide +kernel
theorem dX4_exchange_4 : decode cX4_exchange 4 = .ok (.iload_n 1, 1) := by decide +kernel
theorem dX4_exchange_5 : decode cX4_exchange 5 = .ok (.aaload, 1) := by decide +kernel
theorem dX4_exchange_6 : decode cX4_exchange 6 = .ok (.iload_n 2, 1) := by decide +kernel
theorem dX4_exchange_7 : decode cX4_exchange 7 = .ok (.iaload, 1) := by decide +kernel
theorem dX4_exchange_8 : decode cX4_exchange 8 = .ok (.istore 4, 2) := by decide +kernel
theorem dX4_exchange_10 : decode cX4_exchange 10 = .ok (.aload_n 0, 1) := by decide +kernel
theorem dX4_exchange_11 : decode cX4_exchange 11 = .ok (.getfield 17, 3) := by decide +kernel
theorem dX4_exchange_14 : decode cX4_exchange 14 = .ok (.iload_n 1, 1) := by decide +kernel
theorem dX4_exchange_15 : decode cX4_exchange 15 = .ok (.aaload, 1) := by decide +kernel
theorem dX4_exchange_16 : decode cX4_exchange 16 = .ok (.iload_n 2, 1) := by decide +kernel
theorem dX4_exchange_17 : decode cX4_exchange 17 = .ok (.iload_n 3, 1) := by decide +kernel
theorem dX4_exchange_18 : decode cX4_exchange 18 = .ok (.iastore, 1) := by decide +kernel
theorem dX4_exchange_19 : decode cX4_exchange 19 = .ok (.iload 4, 2) := by decide +kernel
theorem dX4_exchange_21 : decode cX4_exchange 21 = .ok (.ireturn, 1) := by decide +kernel
theorem dX4_sum_0 : decode cX4_sum 0 = .ok (.lconst 0, 1) := by decide +kernel
theorem dX4_sum_1 : decode cX4_sum 1 = .ok (.lstore_n 2, 1) := by decide +kernel
theorem dX4_sum_2 : decode cX4_sum 2 = .ok (.iconst 0, 1) := by decide +kernel
theorem dX4_sum_3 : decode cX4_sum 3 = .ok (.istore 4, 2) := by decide +kernel
theorem dX4_sum_5 : decode cX4_sum 5 = .ok (.iload 4, 2) := by decide +kernel
theorem dX4_sum_7 : decode cX4_sum 7 = .ok (.aload_n 0, 1) := by decide +kernel
theorem dX4_sum_8 : decode cX4_sum 8 = .ok (.getfield 9, 3) := by decide +kernel
theorem dX4_sum_11 : decode cX4_sum 11 = .ok (.iload_n 1, 1) := by decide +kernel
theorem dX4_sum_12 : decode cX4_sum 12 = .ok (.iaload, 1) := by decide +kernel
theorem dX4_sum_13 : decode cX4_sum 13 = .ok (.if_icmp .ge 22, 3) := by decide +kernel
theorem dX4_sum_16 : decode cX4_sum 16 = .ok (.lload_n 2, 1) := by decide +kernel
theorem dX4_sum_17 : decode cX4_sum 17 = .ok (.aload_n 0, 1) := by decide +kernel
theorem dX4_sum_18 : decode cX4_sum 18 = .ok (.getfield 17, 3) := by decide +kernel
theorem dX4_sum_21 : decode cX4_sum 21 = .ok (.iload_n 1, 1) := by decide +kernel
theorem dX4_sum_22 : decode cX4_sum 22 = .ok (.aaload, 1) := by decide +kernel
theorem dX4_sum_23 : decode cX4_sum 23 = .ok (.iload 4, 2) := by decide +kernel
theorem dX4_sum_25 : decode cX4_sum 25 = .ok (.iaload, 1) := by decide +kernel
theorem dX4_sum_26 : decode cX4_sum 26 = .ok (.i2l, 1) := by decide +kernel
theorem dX4_sum_27 : decode cX4_sum 27 = .ok (.ladd, 1) := by decide +kernel
theorem dX4_sum_28 : decode cX4_sum 28 = .ok (.lstore_n 2, 1) := by decide +kernel
theorem dX4_sum_29 : decode cX4_sum 29 = .ok (.iinc 4 1, 3) := by decide +kernel
theorem dX4_sum_32 : decode cX4_sum 32 = .ok (.goto (-27), 3) := by decide +kernel
theorem dX4_sum_35 : decode cX4_sum 35 = .ok (.lload_n 2, 1) := by decide +kernel
theorem dX4_sum_36 : decode cX4_sum 36 = .ok (.lreturn, 1) := by decide +kernel
theorem dX4_present_0 : decode cX4_present 0 = .ok (.iconst 0, 1) := by decide +kernel
theorem dX4_present_1 : decode cX4_present 1 = .ok (.istore_n 1, 1) := by decide +kernel
theorem dX4_present_2 : decode cX4_present 2 = .ok (.iconst 0, 1) := by decide +kernel
theorem dX4_present_3 : decode cX4_present 3 = .ok (.istore_n 2, 1) := by decide +kernel
theorem dX4_present_4 : decode cX4_present 4 = .ok (.iload_n 2, 1) := by decide +kernel
theorem dX4_present_5 : decode cX4_present 5 = .ok (.aload_n 0, 1) := by decide +kernel
theorem dX4_present_6 : decode cX4_present 6 = .ok (.getfield 9, 3) := by decide +kernel
theorem dX4_present_9 : decode cX4_present 9 = .ok (.arraylength, 1) := by decide +kernel
theorem dX4_present_10 : decode cX4_present 10 = .ok (.if_icmp .ge 25, 3) := by decide +kernel
theorem dX4_present_13 : decode cX4_present 13 = .ok (.iload_n 1, 1) := by decide +kernel
theorem dX4_present_14 : decode cX4_present 14 = .ok (.aload_n 0, 1) := by decide +kernel
theorem dX4_present_15 : decode cX4_present 15 = .ok (.iload_n 2, 1) := by decide +kernel
theorem dX4_present_16 : decode cX4_present 16 = .ok (.invokevirtual 26, 3) := by decide +kernel
theorem dX4_present_19 : decode cX4_present 19 = .ok (.ifCond .eq 7, 3) := by decide +kernel
theorem dX4_present_22 : decode cX4_present 22 = .ok (.iconst 1, 1) := by decide +kernel
theorem dX4_present_23 : decode cX4_present 23 = .ok (.goto 4, 3) := by decide +kernel
theorem dX4_present_26 : decode cX4_present 26 = .ok (.iconst 0, 1) := by decide +kernel
theorem dX4_present_27 : decode cX4_present 27 = .ok (.iadd, 1) := by decide +kernel
theorem dX4_present_28 : decode cX4_present 28 = .ok (.istore_n 1, 1) := by decide +kernel
theorem dX4_present_29 : decode cX4_present 29 = .ok (.iinc 2 1, 3) := by decide +kernel
theorem dX4_present_32 : decode cX4_present 32 = .ok (.goto (-28), 3) := by decide +kernel
theorem dX4_present_35 : decode cX4_present 35 = .ok (.iload_n 1, 1) := by decide +kernel
theorem dX4_present_36 : decode cX4_present 36 = .ok (.ireturn, 1) := by decide +kernel
theorem dX4_digestOnFrom_0 : decode cX4_digestOnFrom 0 = .ok (.lload_n 1, 1) := by decide +kernel
theorem dX4_digestOnFrom_1 : decode cX4_digestOnFrom 1 = .ok (.lstore_n 3, 1) := by decide +kernel
theorem dX4_digestOnFrom_2 : decode cX4_digestOnFrom 2 = .ok (.iconst 0, 1) := by decide +kernel
theorem dX4_digestOnFrom_3 : decode cX4_digestOnFrom 3 = .ok (.istore 5, 2) := by decide +kernel
theorem dX4_digestOnFrom_5 : decode cX4_digestOnFrom 5 = .ok (.iload 5, 2) := by decide +kernel
theorem dX4_digestOnFrom_7 : decode cX4_digestOnFrom 7 = .ok (.aload_n 0, 1) := by decide +kernel
theorem dX4_digestOnFrom_8 : decode cX4_digestOnFrom 8 = .ok (.getfield 9, 3) := by decide +kernel
theorem dX4_digestOnFrom_11 : decode cX4_digestOnFrom 11 = .ok (.arraylength, 1) := by decide +kernel
theorem dX4_digestOnFrom_12 : decode cX4_digestOnFrom 12 = .ok (.if_icmp .ge 63, 3) := by decide +kernel
theorem dX4_digestOnFrom_15 : decode cX4_digestOnFrom 15 = .ok (.ldc2_w 30, 3) := by decide +kernel
theorem dX4_digestOnFrom_18 : decode cX4_digestOnFrom 18 = .ok (.lload_n 3, 1) := by decide +kernel
theorem dX4_digestOnFrom_19 : decode cX4_digestOnFrom 19 = .ok (.lmul, 1) := by decide +kernel
theorem dX4_digestOnFrom_20 : decode cX4_digestOnFrom 20 = .ok (.aload_n 0, 1) := by decide +kernel
theorem dX4_digestOnFrom_21 : decode cX4_digestOnFrom 21 = .ok (.getfield 9, 3) := by decide +kernel
theorem dX4_digestOnFrom_24 : decode cX4_digestOnFrom 24 = .ok (.iload 5, 2) := by decide +kernel
theorem dX4_digestOnFrom_26 : decode cX4_digestOnFrom 26 = .ok (.iaload, 1) := by decide +kernel
theorem dX4_digestOnFrom_27 : decode cX4_digestOnFrom 27 = .ok (.i2l, 1) := by decide +kernel
theorem dX4_digestOnFrom_28 : decode cX4_digestOnFrom 28 = .ok (.ladd, 1) := by decide +kernel
theorem dX4_digestOnFrom_29 : decode cX4_digestOnFrom 29 = .ok (.lstore_n 3, 1) := by decide +kernel
theorem dX4_digestOnFrom_30 : decode cX4_digestOnFrom 30 = .ok (.iconst 0, 1) := by decide +kernel
theorem dX4_digestOnFrom_31 : decode cX4_digestOnFrom 31 = .ok (.istore 6, 2) := by decide +kernel
theorem dX4_digestOnFrom_33 : decode cX4_digestOnFrom 33 = .ok (.iload 6, 2) := by decide +kernel
theorem dX4_digestOnFrom_35 : decode cX4_digestOnFrom 35 = .ok (.aload_n 0, 1) := by decide +kernel
theorem dX4_digestOnFrom_36 : decode cX4_digestOnFrom 36 = .ok (.getfield 9, 3) := by decide +kernel
theorem dX4_digestOnFrom_39 : decode cX4_digestOnFrom 39 = .ok (.iload 5, 2) := by decide +kernel
theorem dX4_digestOnFrom_41 : decode cX4_digestOnFrom 41 = .ok (.iaload, 1) := by decide +kernel
theorem dX4_digestOnFrom_42 : decode cX4_digestOnFrom 42 = .ok (.if_icmp .ge 27, 3) := by decide +kernel
theorem dX4_digestOnFrom_45 : decode cX4_digestOnFrom 45 = .ok (.ldc2_w 30, 3) := by decide +kernel
theorem dX4_digestOnFrom_48 : decode cX4_digestOnFrom 48 = .ok (.lload_n 3, 1) := by decide +kernel
theorem dX4_digestOnFrom_49 : decode cX4_digestOnFrom 49 = .ok (.lmul, 1) := by decide +kernel
theorem dX4_digestOnFrom_50 : decode cX4_digestOnFrom 50 = .ok (.aload_n 0, 1) := by decide +kernel
theorem dX4_digestOnFrom_51 : decode cX4_digestOnFrom 51 = .ok (.getfield 17, 3) := by decide +kernel
theorem dX4_digestOnFrom_54 : decode cX4_digestOnFrom 54 = .ok (.iload 5, 2) := by decide +kernel
theorem dX4_digestOnFrom_56 : decode cX4_digestOnFrom 56 = .ok (.aaload, 1) := by decide +kernel
theorem dX4_digestOnFrom_57 : decode cX4_digestOnFrom 57 = .ok (.iload 6, 2) := by decide +kernel
theorem dX4_digestOnFrom_59 : decode cX4_digestOnFrom 59 = .ok (.iaload, 1) := by decide +kernel
theorem dX4_digestOnFrom_60 : decode cX4_digestOnFrom 60 = .ok (.i2l, 1) := by decide +kernel
theorem dX4_digestOnFrom_61 : decode cX4_digestOnFrom 61 = .ok (.ladd, 1) := by decide +kernel
theorem dX4_digestOnFrom_62 : decode cX4_digestOnFrom 62 = .ok (.lstore_n 3, 1) := by decide +kernel
theorem dX4_digestOnFrom_63 : decode cX4_digestOnFrom 63 = .ok (.iinc 6 1, 3) := by decide +kernel
theorem dX4_digestOnFrom_66 : decode cX4_digestOnFrom 66 = .ok (.goto (-33), 3) := by decide +kernel
theorem dX4_digestOnFrom_69 : decode cX4_digestOnFrom 69 = .ok (.iinc 5 1, 3) := by decide +kernel
theorem dX4_digestOnFrom_72 : decode cX4_digestOnFrom 72 = .ok (.goto (-67), 3) := by decide +kernel
theorem dX4_digestOnFrom_75 : decode cX4_digestOnFrom 75 = .ok (.lload_n 3, 1) := by decide +kernel
theorem dX4_digestOnFrom_76 : decode cX4_digestOnFrom 76 = .ok (.lreturn, 1) := by decide +kernel
theorem dX5_init_0 : decode cX5_init 0 = .ok (.aload_n 0, 1) := by decide +kernel
theorem dX5_init_1 : decode cX5_init 1 = .ok (.invokespecial 3, 3) := by decide +kernel
theorem dX5_init_4 : decode cX5_init 4 = .ok (.aload_n 0, 1) := by decide +kernel
theorem dX5_init_5 : decode cX5_init 5 = .ok (.new 9, 3) := by decide +kernel
theorem dX5_init_8 : decode cX5_init 8 = .ok (.dup, 1) := by decide +kernel
theorem dX5_init_9 : decode cX5_init 9 = .ok (.bipush 6, 2) := by decide +kernel
theorem dX5_init_11 : decode cX5_init 11 = .ok (.bipush 40, 2) := by decide +kernel
theorem dX5_init_13 : decode cX5_init 13 = .ok (.invokespecial 11, 3) := by decide +kernel
theorem dX5_init_16 : decode cX5_init 16 = .ok (.putfield 14, 3) := by decide +kernel
theorem dX5_init_19 : decode cX5_init 19 = .ok (.aload_n 0, 1) := by decide +kernel
theorem dX5_init_20 : decode cX5_init 20 = .ok (.new 9, 3) := by decide +kernel
theorem dX5_init_23 : decode cX5_init 23 = .ok (.dup, 1) := by decide +kernel
theorem dX5_init_24 : decode cX5_init 24 = .ok (.iconst 4, 1) := by decide +kernel
theorem dX5_init_25 : decode cX5_init 25 = .ok (.bipush 80, 2) := by decide +kernel
theorem dX5_init_27 : decode cX5_init 27 = .ok (.invokespecial 11, 3) := by decide +kernel
theorem dX5_init_30 : decode cX5_init 30 = .ok (.putfield 18, 3) := by decide +kernel
theorem dX5_init_33 : decode cX5_init 33 = .ok (.aload_n 0, 1) := by decide +kernel
theorem dX5_init_34 : decode cX5_init 34 = .ok (.new 21, 3) := by decide +kernel
theorem dX5_init_37 : decode cX5_init 37 = .ok (.dup, 1) := by decide +kernel
theorem dX5_init_38 : decode cX5_init 38 = .ok (.invokespecial 23, 3) := by decide +kernel
theorem dX5_init_41 : decode cX5_init 41 = .ok (.putfield 24, 3) := by decide +kernel
theorem dX5_init_44 : decode cX5_init 44 = .ok (.aload_n 0, 1) := by decide +kernel
theorem dX5_init_45 : decode cX5_init 45 = .ok (.new 28, 3) := by decide +kernel
theorem dX5_init_48 : decode cX5_init 48 = .ok (.dup, 1) := by decide +kernel
theorem dX5_init_49 : decode cX5_init 49 = .ok (.invokespecial 30, 3) := by decide +kernel
theorem dX5_init_52 : decode cX5_init 52 = .ok (.putfield 31, 3) := by decide +kernel
theorem dX5_init_55 : decode cX5_init 55 = .ok (.aload_n 0, 1) := by decide +kernel
theorem dX5_init_56 : decode cX5_init 56 = .ok (.new 35, 3) := by decide +kernel
theorem dX5_init_59 : decode cX5_init 59 = .ok (.dup, 1) := by decide +kernel
theorem dX5_init_60 : decode cX5_init 60 = .ok (.aload_n 0, 1) := by decide +kernel
theorem dX5_init_61 : decode cX5_init 61 = .ok (.getfield 31, 3) := by decide +kernel
theorem dX5_init_64 : decode cX5_init 64 = .ok (.invokespecial 37, 3) := by decide +kernel
theorem dX5_init_67 : decode cX5_init 67 = .ok (.putfield 40, 3) := by decide +kernel
theorem dX5_init_70 : decode cX5_init 70 = .ok (.aload_n 0, 1) := by decide +kernel
theorem dX5_init_71 : decode cX5_init 71 = .ok (.iconst 3, 1) := by decide +kernel
theorem dX5_init_72 : decode cX5_init 72 = .ok (.anewarray 35, 3) := by decide +kernel
theorem dX5_init_75 : decode cX5_init 75 = .ok (.dup, 1) := by decide +kernel
theorem dX5_init_76 : decode cX5_init 76 = .ok (.iconst 0, 1) := by decide +kernel
theorem dX5_init_77 : decode cX5_init 77 = .ok (.new 35, 3) := by decide +kernel
theorem dX5_init_80 : decode cX5_init 80 = .ok (.dup, 1) := by decide +kernel
theorem dX5_init_81 : decode cX5_init 81 = .ok (.aload_n 0, 1) := by decide +kernel
theorem dX5_init_82 : decode cX5_init 82 = .ok (.getfield 31, 3) := by decide +kernel
theorem dX5_init_85 : decode cX5_init 85 = .ok (.invokespecial 37, 3) := by decide +kernel
theorem dX5_init_88 : decode cX5_init 88 = .ok (.aastore, 1) := by decide +kernel
theorem dX5_init_89 : decode cX5_init 89 = .ok (.dup, 1) := by decide +kernel
theorem dX5_init_90 : decode cX5_init 90 = .ok (.iconst 1, 1) := by decide +kernel
theorem dX5_init_91 : decode cX5_init 91 = .ok (.new 35, 3) := by decide +kernel
theorem dX5_init_94 : decode cX5_init 94 = .ok (.dup, 1) := by decide +kernel
theorem dX5_init_95 : decode cX5_init 95 = .ok (.aload_n 0, 1) := by decide +kernel
theorem dX5_init_96 : decode cX5_init 96 = .ok (.getfield 31, 3) := by decide +kernel
theorem dX5_init_99 : decode cX5_init 99 = .ok (.invokespecial 37, 3) := by decide +kernel
theorem dX5_init_102 : decode cX5_init 102 = .ok (.aastore, 1) := by decide +kernel
theorem dX5_init_103 : decode cX5_init 103 = .ok (.dup, 1) := by decide +kernel
theorem dX5_init_104 : decode cX5_init 104 = .ok (.iconst 2, 1) := by decide +kernel
theorem dX5_init_105 : decode cX5_init 105 = .ok (.new 35, 3) := by decide +kernel
theorem dX5_init_108 : decode cX5_init 108 = .ok (.dup, 1) := by decide +kernel
theorem dX5_init_109 : decode cX5_init 109 = .ok (.aload_n 0, 1) := by decide +kernel
theorem dX5_init_110 : decode cX5_init 110 = .ok (.getfield 31, 3) := by decide +kernel
theorem dX5_init_113 : decode cX5_init 113 = .ok (.invokespecial 37, 3) := by decide +kernel
theorem dX5_init_116 : decode cX5_init 116 = .ok (.aastore, 1) := by decide +kernel
theorem dX5_init_117 : decode cX5_init 117 = .ok (.putfield 44, 3) := by decide +kernel
theorem dX5_init_120 : decode cX5_init 120 = .ok (.aload_n 0, 1) := by decide +kernel
theorem dX5_init_121 : decode cX5_init 121 = .ok (.iconst 3, 1) := by decide +kernel
theorem dX5_init_122 : decode cX5_init 122 = .ok (.newarray .boolean, 2) := by decide +kernel
theorem dX5_init_124 : decode cX5_init 124 = .ok (.putfield 48, 3) := by decide +kernel
theorem dX5_init_127 : decode cX5_init 127 = .ok (.aload_n 0, 1) := by decide +kernel
theorem dX5_init_128 : decode cX5_init 128 = .ok (.new 52, 3) := by decide +kernel
theorem dX5_init_131 : decode cX5_init 131 = .ok (.dup, 1) := by decide +kernel
theorem dX5_init_132 : decode cX5_init 132 = .ok (.aload_n 0, 1) := by decide +kernel
theorem dX5_init_133 : decode cX5_init 133 = .ok (.getfield 31, 3) := by decide +kernel
theorem dX5_init_136 : decode cX5_init 136 = .ok (.invokespecial 54, 3) := by decide +kernel
theorem dX5_init_139 : decode cX5_init 139 = .ok (.putfield 55, 3) := by decide +kernel
theorem dX5_init_142 : decode cX5_init 142 = .ok (.aload_n 0, 1) := by decide +kernel
theorem dX5_init_143 : decode cX5_init 143 = .ok (.bipush 6, 2) := by decide +kernel
theorem dX5_init_145 : decode cX5_init 145 = .ok (.newarray .int, 2) := by decide +kernel
theorem dX5_init_147 : decode cX5_init 147 = .ok (.putfield 59, 3) := by decide +kernel
theorem dX5_init_150 : decode cX5_init 150 = .ok (.aload_n 0, 1) := by decide +kernel
theorem dX5_init_151 : decode cX5_init 151 = .ok (.iconst 0, 1) := by decide +kernel
theorem dX5_init_152 : decode cX5_init 152 = .ok (.putfield 63, 3) := by decide +kernel
theorem dX5_init_155 : decode cX5_init 155 = .ok (.aload_n 0, 1) := by decide +kernel
theorem dX5_init_156 : decode cX5_init 156 = .ok (.iconst 0, 1) := by decide +kernel
theorem dX5_init_157 : decode cX5_init 157 = .ok (.putfield 67, 3) := by decide +kernel
theorem dX5_init_160 : decode cX5_init 160 = .ok (.aload_n 0, 1) := by decide +kernel
theorem dX5_init_161 : decode cX5_init 161 = .ok (.lconst 0, 1) := by decide +kernel
theorem dX5_init_162 : decode cX5_init 162 = .ok (.putfield 70, 3) := by decide +kernel
theorem dX5_init_165 : decode cX5_init 165 = .ok (.aload_n 0, 1) := by decide +kernel
theorem dX5_init_166 : decode cX5_init 166 = .ok (.lconst 1, 1) := by decide +kernel
theorem dX5_init_167 : decode cX5_init 167 = .ok (.putfield 74, 3) := by decide +kernel
theorem dX5_init_170 : decode cX5_init 170 = .ok (.return_, 1) := by decide +kernel
theorem dX5_row_0 : decode cX5_row 0 = .ok (.aload_n 0, 1) := by decide +kernel
theorem dX5_row_1 : decode cX5_row 1 = .ok (.getfield 14, 3) := by decide +kernel
theorem dX5_row_4 : decode cX5_row 4 = .ok (.iload_n 1, 1) := by decide +kernel
theorem dX5_row_5 : decode cX5_row 5 = .ok (.invokevirtual 77, 3) := by decide +kernel
theorem dX5_row_8 : decode cX5_row 8 = .ok (.ifCond .eq 9, 3) := by decide +kernel
theorem dX5_row_11 : decode cX5_row 11 = .ok (.iload_n 2, 1) := by decide +kernel
theorem dX5_row_12 : decode cX5_row 12 = .ok (.bipush 40, 2) := by decide +kernel
theorem dX5_row_14 : decode cX5_row 14 = .ok (.if_icmp .le 5, 3) := by decide +kernel
theorem dX5_row_17 : decode cX5_row 17 = .ok (.iconst (-1), 1) := by decide +kernel
theorem dX5_row_18 : decode cX5_row 18 = .ok (.ireturn, 1) := by decide +kernel
theorem dX5_row_19 : decode cX5_row 19 = .ok (.iload_n 2, 1) := by decide +kernel
theorem dX5_row_20 : decode cX5_row 20 = .ok (.ifCond .ge 9, 3) := by decide +kernel
theorem dX5_row_23 : decode cX5_row 23 = .ok (.aload_n 0, 1) := by decide +kernel
theorem dX5_row_24 : decode cX5_row 24 = .ok (.iconst 5, 1) := by decide +kernel
theorem dX5_row_25 : decode cX5_row 25 = .ok (.invokevirtual 81, 3) := by decide +kernel
theorem dX5_row_28 : decode cX5_row 28 = .ok (.ireturn, 1) := by decide +kernel
theorem dX5_row_29 : decode cX5_row 29 = .ok (.aload_n 0, 1) := by decide +kernel
theorem dX5_row_30 : decode cX5_row 30 = .ok (.getfield 14, 3) := by decide +kernel
theorem dX5_row_33 : decode cX5_row 33 = .ok (.iload_n 1, 1) := by decide +kernel
theorem dX5_row_34 : decode cX5_row 34 = .ok (.iload_n 2, 1) := by decide +kernel
theorem dX5_row_35 : decode cX5_row 35 = .ok (.iconst 0, 1) := by decide +kernel
theorem dX5_row_36 : decode cX5_row 36 = .ok (.invokevirtual 85, 3) := by decide +kernel
theorem dX5_row_39 : decode cX5_row 39 = .ok (.iload_n 2, 1) := by decide +kernel
theorem dX5_row_40 : decode cX5_row 40 = .ok (.ireturn, 1) := by decide +kernel
theorem dX5_lay_0 : decode cX5_lay 0 = .ok (.aload_n 0, 1) := by decide +kernel
theorem dX5_lay_1 : decode cX5_lay 1 = .ok (.aload_n 0, 1) := by decide +kernel
theorem dX5_lay_2 : decode cX5_lay 2 = .ok (.getfield 14, 3) := by decide +kernel
theorem dX5_lay_5 : decode cX5_lay 5 = .ok (.iload_n 1, 1) := by decide +kernel
theorem dX5_lay_6 : decode cX5_lay 6 = .ok (.iload_n 2, 1) := by decide +kernel
theorem dX5_lay_7 : decode cX5_lay 7 = .ok (.invokevirtual 89, 3) := by decide +kernel
theorem dX5_lay_10 : decode cX5_lay 10 = .ok (.istore 4, 2) := by decide +kernel
theorem dX5_lay_12 : decode cX5_lay 12 = .ok (.iload 4, 2) := by decide +kernel
theorem dX5_lay_14 : decode cX5_lay 14 = .ok (.ifCond .eq 8, 3) := by decide +kernel
theorem dX5_lay_17 : decode cX5_lay 17 = .ok (.iload 4, 2) := by decide +kernel
theorem dX5_lay_19 : decode cX5_lay 19 = .ok (.goto 17, 3) := by decide +kernel
theorem dX5_lay_22 : decode cX5_lay 22 = .ok (.aload_n 0, 1) := by decide +kernel
theorem dX5_lay_23 : decode cX5_lay 23 = .ok (.aload_n 0, 1) := by decide +kernel
theorem dX5_lay_24 : decode cX5_lay 24 = .ok (.getfield 14, 3) := by decide +kernel
theorem dX5_lay_27 : decode cX5_lay 27 = .ok (.iload_n 1, 1) := by decide +kernel
theorem dX5_lay_28 : decode cX5_lay 28 = .ok (.iload_n 2, 1) := by decide +kernel
theorem dX5_lay_29 : decode cX5_lay 29 = .ok (.iload_n 3, 1) := by decide +kernel
theorem dX5_lay_30 : decode cX5_lay 30 = .ok (.invokevirtual 93, 3) := by decide +kernel
theorem dX5_lay_33 : decode cX5_lay 33 = .ok (.invokevirtual 97, 3) := by decide +kernel
theorem dX5_lay_36 : decode cX5_lay 36 = .ok (.ireturn, 1) := by decide +kernel
theorem dX5_at_0 : decode cX5_at 0 = .ok (.aload_n 0, 1) := by decide +kernel
theorem dX5_at_1 : decode cX5_at 1 = .ok (.aload_n 0, 1) := by decide +kernel
theorem dX5_at_2 : decode cX5_at 2 = .ok (.getfield 14, 3) := by decide +kernel
theorem dX5_at_5 : decode cX5_at 5 = .ok (.iload_n 1, 1) := by decide +kernel
theorem dX5_at_6 : decode cX5_at 6 = .ok (.iload_n 2, 1) := by decide +kernel
theorem dX5_at_7 : decode cX5_at 7 = .ok (.invokevirtual 89, 3) := by decide +kernel
theorem dX5_at_10 : decode cX5_at 10 = .ok (.istore_n 3, 1) := by decide +kernel
theorem dX5_at_11 : decode cX5_at 11 = .ok (.iload_n 3, 1) := by decide +kernel
theorem dX5_at_12 : decode cX5_at 12 = .ok (.ifCond .eq 7, 3) := by decide +kernel
theorem dX5_at_15 : decode cX5_at 15 = .ok (.iload_n 3, 1) := by decide +kernel
theorem dX5_at_16 : decode cX5_at 16 = .ok (.goto 18, 3) := by decide +kernel
theorem dX5_at_19 : decode cX5_at 19 = .ok (.aload_n 0, 1) := by decide +kernel
theorem dX5_at_20 : decode cX5_at 20 = .ok (.aload_n 0, 1) := by decide +kernel
theorem dX5_at_21 : decode cX5_at 21 = .ok (.getfield 14, 3) := by decide +kernel
theorem dX5_at_24 : decode cX5_at 24 = .ok (.getfield 100, 3) := by decide +kernel
theorem dX5_at_27 : decode cX5_at 27 = .ok (.iload_n 1, 1) := by decide +kernel
theorem dX5_at_28 : decode cX5_at 28 = .ok (.aaload, 1) := by decide +kernel
theorem dX5_at_29 : decode cX5_at 29 = .ok (.iload_n 2, 1) := by decide +kernel
theorem dX5_at_30 : decode cX5_at 30 = .ok (.iaload, 1) := by decide +kernel
theorem dX5_at_31 : decode cX5_at 31 = .ok (.invokevirtual 97, 3) := by decide +kernel
theorem dX5_at_34 : decode cX5_at 34 = .ok (.ireturn, 1) := by decide +kernel
theorem dX5_tear_0 : decode cX5_tear 0 = .ok (.aload_n 0, 1) := by decide +kernel
theorem dX5_tear_1 : decode cX5_tear 1 = .ok (.aload_n 0, 1) := by decide +kernel
theorem dX5_tear_2 : decode cX5_tear 2 = .ok (.getfield 14, 3) := by decide +kernel
theorem dX5_tear_5 : decode cX5_tear 5 = .ok (.iload_n 1, 1) := by decide +kernel
theorem dX5_tear_6 : decode cX5_tear 6 = .ok (.invokevirtual 104, 3) := by decide +kernel
theorem dX5_tear_9 : decode cX5_tear 9 = .ok (.istore_n 2, 1) := by decide +kernel
theorem dX5_tear_10 : decode cX5_tear 10 = .ok (.iload_n 2, 1) := by decide +kernel
theorem dX5_tear_11 : decode cX5_tear 11 = .ok (.ifCond .eq 5, 3) := by decide +kernel
theorem dX5_tear_14 : decode cX5_tear 14 = .ok (.iload_n 2, 1) := by decide +kernel
theorem dX5_tear_15 : decode cX5_tear 15 = .ok (.ireturn, 1) := by decide +kernel
theorem dX5_tear_16 : decode cX5_tear 16 = .ok (.aload_n 0, 1) := by decide +kernel
theorem dX5_tear_17 : decode cX5_tear 17 = .ok (.getfield 14, 3) := by decide +kernel
theorem dX5_tear_20 : decode cX5_tear 20 = .ok (.getfield 108, 3) := by decide +kernel
theorem dX5_tear_23 : decode cX5_tear 23 = .ok (.iload_n 1, 1) := by decide +kernel
theorem dX5_tear_24 : decode cX5_tear 24 = .ok (.iconst (-1), 1) := by decide +kernel
theorem dX5_tear_25 : decode cX5_tear 25 = .ok (.iastore, 1) := by decide +kernel
theorem dX5_tear_26 : decode cX5_tear 26 = .ok (.iconst 1, 1) := by decide +kernel
theorem dX5_tear_27 : decode cX5_tear 27 = .ok (.ireturn, 1) := by decide +kernel
theorem dX5_copy_0 : decode cX5_copy 0 = .ok (.aload_n 0, 1) := by decide +kernel
theorem dX5_copy_1 : decode cX5_copy 1 = .ok (.getfield 14, 3) := by decide +kernel
theorem dX5_copy_4 : decode cX5_copy 4 = .ok (.iload_n 1, 1) := by decide +kernel
theorem dX5_copy_5 : decode cX5_copy 5 = .ok (.invokevirtual 77, 3) := by decide +kernel
theorem dX5_copy_8 : decode cX5_copy 8 = .ok (.ifCond .eq 14, 3) := by decide +kernel
theorem dX5_copy_11 : decode cX5_copy 11 = .ok (.aload_n 0, 1) := by decide +kernel
theorem dX5_copy_12 : decode cX5_copy 12 = .ok (.getfield 14, 3) := by decide +kernel
theorem dX5_copy_15 : decode cX5_copy 15 = .ok (.iload_n 3, 1) := by decide +kernel
theorem dX5_copy_16 : decode cX5_copy 16 = .ok (.invokevirtual 77, 3) := by decide +kernel
theorem dX5_copy_19 : decode cX5_copy 19 = .ok (.ifCond .ne 5, 3) := by decide +kernel
theorem dX5_copy_22 : decode cX5_copy 22 = .ok (.iconst (-1), 1) := by decide +kernel
theorem dX5_copy_23 : decode cX5_copy 23 = .ok (.ireturn, 1) := by decide +kernel
theorem dX5_copy_24 : decode cX5_copy 24 = .ok (.iload 5, 2) := by decide +kernel
theorem dX5_copy_26 : decode cX5_copy 26 = .ok (.ifCond .ge 9, 3) := by decide +kernel
theorem dX5_copy_29 : decode cX5_copy 29 = .ok (.aload_n 0, 1) := by decide +kernel
theorem dX5_copy_30 : decode cX5_copy 30 = .ok (.iconst 5, 1) := by decide +kernel
theorem dX5_copy_31 : decode cX5_copy 31 = .ok (.invokevirtual 81, 3) := by decide +kernel
theorem dX5_copy_34 : decode cX5_copy 34 = .ok (.ireturn, 1) := by decide +kernel
theorem dX5_copy_35 : decode cX5_copy 35 = .ok (.aload_n 0, 1) := by decide +kernel
theorem dX5_copy_36 : decode cX5_copy 36 = .ok (.getfield 14, 3) := by decide +kernel
theorem dX5_copy_39 : decode cX5_copy 39 = .ok (.iload_n 1, 1) := by decide +kernel
theorem dX5_copy_40 : decode cX5_copy 40 = .ok (.invokevirtual 111, 3) := by decide +kernel
theorem dX5_copy_43 : decode cX5_copy 43 = .ok (.ifCond .eq 14, 3) := by decide +kernel
theorem dX5_copy_46 : decode cX5_copy 46 = .ok (.aload_n 0, 1) := by decide +kernel
theorem dX5_copy_47 : decode cX5_copy 47 = .ok (.getfield 14, 3) := by decide +kernel
theorem dX5_copy_50 : decode cX5_copy 50 = .ok (.iload_n 3, 1) := by decide +kernel
theorem dX5_copy_51 : decode cX5_copy 51 = .ok (.invokevirtual 111, 3) := by decide +kernel
theorem dX5_copy_54 : decode cX5_copy 54 = .ok (.ifCond .ne 9, 3) := by decide +kernel
theorem dX5_copy_57 : decode cX5_copy 57 = .ok (.aload_n 0, 1) := by decide +kernel
theorem dX5_copy_58 : decode cX5_copy 58 = .ok (.iconst 1, 1) := by decide +kernel
theorem dX5_copy_59 : decode cX5_copy 59 = .ok (.invokevirtual 81, 3) := by decide +kernel
theorem dX5_copy_62 : decode cX5_copy 62 = .ok (.ireturn, 1) := by decide +kernel
theorem dX5_copy_63 : decode cX5_copy 63 = .ok (.aload_n 0, 1) := by decide +kernel
theorem dX5_copy_64 : decode cX5_copy 64 = .ok (.getfield 14, 3) := by decide +kernel
theorem dX5_copy_67 : decode cX5_copy 67 = .ok (.iload_n 1, 1) := by decide +kernel
theorem dX5_copy_68 : decode cX5_copy 68 = .ok (.iload_n 2, 1) := by decide +kernel
theorem dX5_copy_69 : decode cX5_copy 69 = .ok (.iload 5, 2) := by decide +kernel
theorem dX5_copy_71 : decode cX5_copy 71 = .ok (.invokevirtual 114, 3) := by decide +kernel
theorem dX5_copy_74 : decode cX5_copy 74 = .ok (.ifCond .eq 18, 3) := by decide +kernel
theorem dX5_copy_77 : decode cX5_copy 77 = .ok (.aload_n 0, 1) := by decide +kernel
theorem dX5_copy_78 : decode cX5_copy 78 = .ok (.getfield 14, 3) := by decide +kernel
theorem dX5_copy_81 : decode cX5_copy 81 = .ok (.iload_n 3, 1) := by decide +kernel
theorem dX5_copy_82 : decode cX5_copy 82 = .ok (.iload 4, 2) := by decide +kernel
theorem dX5_copy_84 : decode cX5_copy 84 = .ok (.iload 5, 2) := by decide +kernel
theorem dX5_copy_86 : decode cX5_copy 86 = .ok (.invokevirtual 114, 3) := by decide +kernel
theorem dX5_copy_89 : decode cX5_copy 89 = .ok (.ifCond .ne 9, 3) := by decide +kernel
theorem dX5_copy_92 : decode cX5_copy 92 = .ok (.aload_n 0, 1) := by decide +kernel
theorem dX5_copy_93 : decode cX5_copy 93 = .ok (.iconst 2, 1) := by decide +kernel
theorem dX5_copy_94 : decode cX5_copy 94 = .ok (.invokevirtual 81, 3) := by decide +kernel
theorem dX5_copy_97 : decode cX5_copy 97 = .ok (.ireturn, 1) := by decide +kernel
theorem dX5_copy_98 : decode cX5_copy 98 = .ok (.aload_n 0, 1) := by decide +kernel
theorem dX5_copy_99 : decode cX5_copy 99 = .ok (.getfield 14, 3) := by decide +kernel
theorem dX5_copy_102 : decode cX5_copy 102 = .ok (.getfield 100, 3) := by decide +kernel
theorem dX5_copy_105 : decode cX5_copy 105 = .ok (.iload_n 1, 1) := by decide +kernel
theorem dX5_copy_106 : decode cX5_copy 106 = .ok (.aaload, 1) := by decide +kernel
theorem dX5_copy_107 : decode cX5_copy 107 = .ok (.iload_n 2, 1) := by decide +kernel
theorem dX5_copy_108 : decode cX5_copy 108 = .ok (.aload_n 0, 1) := by decide +kernel
theorem dX5_copy_109 : decode cX5_copy 109 = .ok (.getfield 14, 3) := by decide +kernel
theorem dX5_copy_112 : decode cX5_copy 112 = .ok (.getfield 100, 3) := by decide +kernel
theorem dX5_copy_115 : decode cX5_copy 115 = .ok (.iload_n 3, 1) := by decide +kernel
theorem dX5_copy_116 : decode cX5_copy 116 = .ok (.aaload, 1) := by decide +kernel
theorem dX5_copy_117 : decode cX5_copy 117 = .ok (.iload 4, 2) := by decide +kernel
theorem dX5_copy_119 : decode cX5_copy 119 = .ok (.iload 5, 2) := by decide +kernel
theorem dX5_copy_121 : decode cX5_copy 121 = .ok (.invokestatic 118, 3) := by decide +kernel
theorem dX5_copy_124 : decode cX5_copy 124 = .ok (.iconst 1, 1) := by decide +kernel
theorem dX5_copy_125 : decode cX5_copy 125 = .ok (.ireturn, 1) := by decide +kernel
theorem dX5_mean_0 : decode cX5_mean 0 = .ok (.aload_n 0, 1) := by decide +kernel
theorem dX5_mean_1 : decode cX5_mean 1 = .ok (.aload_n 0, 1) := by decide +kernel
theorem dX5_mean_2 : decode cX5_mean 2 = .ok (.getfield 14, 3) := by decide +kernel
theorem dX5_mean_5 : decode cX5_mean 5 = .ok (.iload_n 1, 1) := by decide +kernel
theorem dX5_mean_6 : decode cX5_mean 6 = .ok (.invokevirtual 104, 3) := by decide +kernel
theorem dX5_mean_9 : decode cX5_mean 9 = .ok (.istore_n 2, 1) := by decide +kernel
theorem dX5_mean_10 : decode cX5_mean 10 = .ok (.iload_n 2, 1) := by decide +kernel
theorem dX5_mean_11 : decode cX5_mean 11 = .ok (.ifCond .eq 5, 3) := by decide +kernel
theorem dX5_mean_14 : decode cX5_mean 14 = .ok (.iload_n 2, 1) := by decide +kernel
theorem dX5_mean_15 : decode cX5_mean 15 = .ok (.ireturn, 1) := by decide +kernel
theorem dX5_mean_16 : decode cX5_mean 16 = .ok (.aload_n 0, 1) := by decide +kernel
theorem dX5_mean_17 : decode cX5_mean 17 = .ok (.getfield 14, 3) := by decide +kernel
theorem dX5_mean_20 : decode cX5_mean 20 = .ok (.getfield 108, 3) := by decide +kernel
theorem dX5_mean_23 : decode cX5_mean 23 = .ok (.iload_n 1, 1) := by decide +kernel
theorem dX5_mean_24 : decode cX5_mean 24 = .ok (.iaload, 1) := by decide +kernel
theorem dX5_mean_25 : decode cX5_mean 25 = .ok (.ifCond .ne 9, 3) := by decide +kernel
theorem dX5_mean_28 : decode cX5_mean 28 = .ok (.aload_n 0, 1) := by decide +kernel
theorem dX5_mean_29 : decode cX5_mean 29 = .ok (.iconst 4, 1) := by decide +kernel
theorem dX5_mean_30 : decode cX5_mean 30 = .ok (.invokevirtual 81, 3) := by decide +kernel
theorem dX5_mean_33 : decode cX5_mean 33 = .ok (.ireturn, 1) := by decide +kernel
theorem dX5_mean_34 : decode cX5_mean 34 = .ok (.aload_n 0, 1) := by decide +kernel
theorem dX5_mean_35 : decode cX5_mean 35 = .ok (.aload_n 0, 1) := by decide +kernel
theorem dX5_mean_36 : decode cX5_mean 36 = .ok (.getfield 14, 3) := by decide +kernel
theorem dX5_mean_39 : decode cX5_mean 39 = .ok (.iload_n 1, 1) := by decide +kernel
theorem dX5_mean_40 : decode cX5_mean 40 = .ok (.invokevirtual 124, 3) := by decide +kernel
theorem dX5_mean_43 : decode cX5_mean 43 = .ok (.aload_n 0, 1) := by decide +kernel
theorem dX5_mean_44 : decode cX5_mean 44 = .ok (.getfield 14, 3) := by decide +kernel
theorem dX5_mean_47 : decode cX5_mean 47 = .ok (.getfield 108, 3) := by decide +kernel
theorem dX5_mean_50 : decode cX5_mean 50 = .ok (.iload_n 1, 1) := by decide +kernel
theorem dX5_mean_51 : decode cX5_mean 51 = .ok (.iaload, 1) := by decide +kernel
theorem dX5_mean_52 : decode cX5_mean 52 = .ok (.i2l, 1) := by decide +kernel
theorem dX5_mean_53 : decode cX5_mean 53 = .ok (.ldiv, 1) := by decide +kernel
theorem dX5_mean_54 : decode cX5_mean 54 = .ok (.l2i, 1) := by decide +kernel
theorem dX5_mean_55 : decode cX5_mean 55 = .ok (.invokevirtual 97, 3) := by decide +kernel
theorem dX5_mean_58 : decode cX5_mean 58 = .ok (.ireturn, 1) := by decide +kernel
theorem dX5_text_0 : decode cX5_text 0 = .ok (.aload_n 0, 1) := by decide +kernel
theorem dX5_text_1 : decode cX5_text 1 = .ok (.getfield 18, 3) := by decide +kernel
theorem dX5_text_4 : decode cX5_text 4 = .ok (.iload_n 1, 1) := by decide +kernel
theorem dX5_text_5 : decode cX5_text 5 = .ok (.invokevirtual 77, 3) := by decide +kernel
theorem dX5_text_8 : decode cX5_text 8 = .ok (.ifCond .eq 9, 3) := by decide +kernel
theorem dX5_text_11 : decode cX5_text 11 = .ok (.iload_n 2, 1) := by decide +kernel
theorem dX5_text_12 : decode cX5_text 12 = .ok (.bipush 80, 2) := by decide +kernel
theorem dX5_text_14 : decode cX5_text 14 = .ok (.if_icmp .le 5, 3) := by decide +kernel
theorem dX5_text_17 : decode cX5_text 17 = .ok (.iconst (-1), 1) := by decide +kernel
theorem dX5_text_18 : decode cX5_text 18 = .ok (.ireturn, 1) := by decide +kernel
theorem dX5_text_19 : decode cX5_text 19 = .ok (.iload_n 2, 1) := by decide +kernel
theorem dX5_text_20 : decode cX5_text 20 = .ok (.ifCond .ge 9, 3) := by decide +kernel
theorem dX5_text_23 : decode cX5_text 23 = .ok (.aload_n 0, 1) := by decide +kernel
theorem dX5_text_24 : decode cX5_text 24 = .ok (.iconst 5, 1) := by decide +kernel
theorem dX5_text_25 : decode cX5_text 25 = .ok (.invokevirtual 81, 3) := by decide +kernel
theorem dX5_text_28 : decode cX5_text 28 = .ok (.ireturn, 1) := by decide +kernel
theorem dX5_text_29 : decode cX5_text 29 = .ok (.aload_n 0, 1) := by decide +kernel
theorem dX5_text_30 : decode cX5_text 30 = .ok (.getfield 18, 3) := by decide +kernel
theorem dX5_text_33 : decode cX5_text 33 = .ok (.iload_n 1, 1) := by decide +kernel
theorem dX5_text_34 : decode cX5_text 34 = .ok (.iload_n 2, 1) := by decide +kernel
theorem dX5_text_35 : decode cX5_text 35 = .ok (.bipush 32, 2) := by decide +kernel
theorem dX5_text_37 : decode cX5_text 37 = .ok (.invokevirtual 85, 3) := by decide +kernel
theorem dX5_text_40 : decode cX5_text 40 = .ok (.iload_n 2, 1) := by decide +kernel
theorem dX5_text_41 : decode cX5_text 41 = .ok (.ireturn, 1) := by decide +kernel
theorem dX5_put_0 : decode cX5_put 0 = .ok (.aload_n 0, 1) := by decide +kernel
theorem dX5_put_1 : decode cX5_put 1 = .ok (.aload_n 0, 1) := by decide +kernel
theorem dX5_put_2 : decode cX5_put 2 = .ok (.getfield 18, 3) := by decide +kernel
theorem dX5_put_5 : decode cX5_put 5 = .ok (.iload_n 1, 1) := by decide +kernel
theorem dX5_put_6 : decode cX5_put 6 = .ok (.iload_n 2, 1) := by decide +kernel
theorem dX5_put_7 : decode cX5_put 7 = .ok (.invokevirtual 89, 3) := by decide +kernel
theorem dX5_put_10 : decode cX5_put 10 = .ok (.istore 4, 2) := by decide +kernel
theorem dX5_put_12 : decode cX5_put 12 = .ok (.iload 4, 2) := by decide +kernel
theorem dX5_put_14 : decode cX5_put 14 = .ok (.ifCond .eq 8, 3) := by decide +kernel
theorem dX5_put_17 : decode cX5_put 17 = .ok (.iload 4, 2) := by decide +kernel
theorem dX5_put_19 : decode cX5_put 19 = .ok (.goto 18, 3) := by decide +kernel
theorem dX5_put_22 : decode cX5_put 22 = .ok (.aload_n 0, 1) := by decide +kernel
theorem dX5_put_23 : decode cX5_put 23 = .ok (.getfield 18, 3) := by decide +kernel
theorem dX5_put_26 : decode cX5_put 26 = .ok (.iload_n 1, 1) := by decide +kernel
theorem dX5_put_27 : decode cX5_put 27 = .ok (.iload_n 2, 1) := by decide +kernel
theorem dX5_put_28 : decode cX5_put 28 = .ok (.iload_n 3, 1) := by decide +kernel
theorem dX5_put_29 : decode cX5_put 29 = .ok (.i2b, 1) := by decide +kernel
theorem dX5_put_30 : decode cX5_put 30 = .ok (.invokevirtual 93, 3) := by decide +kernel
theorem dX5_put_33 : decode cX5_put 33 = .ok (.sipush 1000, 3) := by decide +kernel
theorem dX5_put_36 : decode cX5_put 36 = .ok (.iadd, 1) := by decide +kernel
theorem dX5_put_37 : decode cX5_put 37 = .ok (.ireturn, 1) := by decide +kernel
theorem dX5_fault_0 : decode cX5_fault 0 = .ok (.aload_n 0, 1) := by decide +kernel
theorem dX5_fault_1 : decode cX5_fault 1 = .ok (.aload_n 0, 1) := by decide +kernel
theorem dX5_fault_2 : decode cX5_fault 2 = .ok (.getfield 18, 3) := by decide +kernel
theorem dX5_fault_5 : decode cX5_fault 5 = .ok (.iload_n 1, 1) := by decide +kernel
theorem dX5_fault_6 : decode cX5_fault 6 = .ok (.invokevirtual 104, 3) := by decide +kernel
theorem dX5_fault_9 : decode cX5_fault 9 = .ok (.istore_n 2, 1) := by decide +kernel
theorem dX5_fault_10 : decode cX5_fault 10 = .ok (.iload_n 2, 1) := by decide +kernel
theorem dX5_fault_11 : decode cX5_fault 11 = .ok (.ifCond .eq 7, 3) := by decide +kernel
theorem dX5_fault_14 : decode cX5_fault 14 = .ok (.iload_n 2, 1) := by decide +kernel
theorem dX5_fault_15 : decode cX5_fault 15 = .ok (.goto 28, 3) := by decide +kernel
theorem dX5_fault_18 : decode cX5_fault 18 = .ok (.aload_n 0, 1) := by decide +kernel
theorem dX5_fault_19 : decode cX5_fault 19 = .ok (.getfield 24, 3) := by decide +kernel
theorem dX5_fault_22 : decode cX5_fault 22 = .ok (.aload_n 0, 1) := by decide +kernel
theorem dX5_fault_23 : decode cX5_fault 23 = .ok (.getfield 18, 3) := by decide +kernel
theorem dX5_fault_26 : decode cX5_fault 26 = .ok (.getfield 100, 3) := by decide +kernel
theorem dX5_fault_29 : decode cX5_fault 29 = .ok (.iload_n 1, 1) := by decide +kernel
theorem dX5_fault_30 : decode cX5_fault 30 = .ok (.aaload, 1) := by decide +kernel
theorem dX5_fault_31 : decode cX5_fault 31 = .ok (.aload_n 0, 1) := by decide +kernel
theorem dX5_fault_32 : decode cX5_fault 32 = .ok (.getfield 18, 3) := by decide +kernel
theorem dX5_fault_35 : decode cX5_fault 35 = .ok (.getfield 108, 3) := by decide +kernel
theorem dX5_fault_38 : decode cX5_fault 38 = .ok (.iload_n 1, 1) := by decide +kernel
theorem dX5_fault_39 : decode cX5_fault 39 = .ok (.iaload, 1) := by decide +kernel
theorem dX5_fault_40 : decode cX5_fault 40 = .ok (.invokevirtual 128, 3) := by decide +kernel
theorem dX5_fault_43 : decode cX5_fault 43 = .ok (.ireturn, 1) := by decide +kernel
theorem dX5_house_0 : decode cX5_house 0 = .ok (.aload_n 0, 1) := by decide +kernel
theorem dX5_house_1 : decode cX5_house 1 = .ok (.aload_n 0, 1) := by decide +kernel
theorem dX5_house_2 : decode cX5_house 2 = .ok (.getfield 18, 3) := by decide +kernel
theorem dX5_house_5 : decode cX5_house 5 = .ok (.iload_n 1, 1) := by decide +kernel
theorem dX5_house_6 : decode cX5_house 6 = .ok (.invokevirtual 104, 3) := by decide +kernel
theorem dX5_house_9 : decode cX5_house 9 = .ok (.istore_n 2, 1) := by decide +kernel
theorem dX5_house_10 : decode cX5_house 10 = .ok (.iload_n 2, 1) := by decide +kernel
theorem dX5_house_11 : decode cX5_house 11 = .ok (.ifCond .eq 5, 3) := by decide +kernel
theorem dX5_house_14 : decode cX5_house 14 = .ok (.iload_n 2, 1) := by decide +kernel
theorem dX5_house_15 : decode cX5_house 15 = .ok (.ireturn, 1) := by decide +kernel
theorem dX5_house_16 : decode cX5_house 16 = .ok (.aload_n 0, 1) := by decide +kernel
theorem dX5_house_17 : decode cX5_house 17 = .ok (.getfield 24, 3) := by decide +kernel
theorem dX5_house_20 : decode cX5_house 20 = .ok (.aload_n 0, 1) := by decide +kernel
theorem dX5_house_21 : decode cX5_house 21 = .ok (.getfield 18, 3) := by decide +kernel
theorem dX5_house_24 : decode cX5_house 24 = .ok (.getfield 100, 3) := by decide +kernel
theorem dX5_house_27 : decode cX5_house 27 = .ok (.iload_n 1, 1) := by decide +kernel
theorem dX5_house_28 : decode cX5_house 28 = .ok (.aaload, 1) := by decide +kernel
theorem dX5_house_29 : decode cX5_house 29 = .ok (.aload_n 0, 1) := by decide +kernel
theorem dX5_house_30 : decode cX5_house 30 = .ok (.getfield 18, 3) := by decide +kernel
theorem dX5_house_33 : decode cX5_house 33 = .ok (.getfield 108, 3) := by decide +kernel
theorem dX5_house_36 : decode cX5_house 36 = .ok (.iload_n 1, 1) := by decide +kernel
theorem dX5_house_37 : decode cX5_house 37 = .ok (.iaload, 1) := by decide +kernel
theorem dX5_house_38 : decode cX5_house 38 = .ok (.invokevirtual 128, 3) := by decide +kernel
theorem dX5_house_41 : decode cX5_house 41 = .ok (.bipush (-9), 2) := by decide +kernel
theorem dX5_house_43 : decode cX5_house 43 = .ok (.if_icmp .eq 6, 3) := by decide +kernel
theorem dX5_house_46 : decode cX5_house 46 = .ok (.bipush (-4), 2) := by decide +kernel
theorem dX5_house_48 : decode cX5_house 48 = .ok (.ireturn, 1) := by decide +kernel
theorem dX5_house_49 : decode cX5_house 49 = .ok (.aload_n 0, 1) := by decide +kernel
theorem dX5_house_50 : decode cX5_house 50 = .ok (.getfield 31, 3) := by decide +kernel
theorem dX5_house_53 : decode cX5_house 53 = .ok (.aload_n 0, 1) := by decide +kernel
theorem dX5_house_54 : decode cX5_house 54 = .ok (.getfield 24, 3) := by decide +kernel
theorem dX5_house_57 : decode cX5_house 57 = .ok (.getfield 132, 3) := by decide +kernel
theorem dX5_house_60 : decode cX5_house 60 = .ok (.invokevirtual 135, 3) := by decide +kernel
theorem dX5_house_63 : decode cX5_house 63 = .ok (.aload_n 0, 1) := by decide +kernel
theorem dX5_house_64 : decode cX5_house 64 = .ok (.getfield 40, 3) := by decide +kernel
theorem dX5_house_67 : decode cX5_house 67 = .ok (.invokevirtual 138, 3) := by decide +kernel
theorem dX5_house_70 : decode cX5_house 70 = .ok (.iconst 0, 1) := by decide +kernel
theorem dX5_house_71 : decode cX5_house 71 = .ok (.istore_n 3, 1) := by decide +kernel
theorem dX5_house_72 : decode cX5_house 72 = .ok (.iload_n 3, 1) := by decide +kernel
theorem dX5_house_73 : decode cX5_house 73 = .ok (.iconst 3, 1) := by decide +kernel
theorem dX5_house_74 : decode cX5_house 74 = .ok (.if_icmp .ge 16, 3) := by decide +kernel
theorem dX5_house_77 : decode cX5_house 77 = .ok (.aload_n 0, 1) := by decide +kernel
theorem dX5_house_78 : decode cX5_house 78 = .ok (.getfield 48, 3) := by decide +kernel
theorem dX5_house_81 : decode cX5_house 81 = .ok (.iload_n 3, 1) := by decide +kernel
theorem dX5_house_82 : decode cX5_house 82 = .ok (.iconst 0, 1) := by decide +kernel
theorem dX5_house_83 : decode cX5_house 83 = .ok (.bastore, 1) := by decide +kernel
theorem dX5_house_84 : decode cX5_house 84 = .ok (.iinc 3 1, 3) := by decide +kernel
theorem dX5_house_87 : decode cX5_house 87 = .ok (.goto (-15), 3) := by decide +kernel
theorem dX5_house_90 : decode cX5_house 90 = .ok (.aload_n 0, 1) := by decide +kernel
theorem dX5_house_91 : decode cX5_house 91 = .ok (.getfield 31, 3) := by decide +kernel
theorem dX5_house_94 : decode cX5_house 94 = .ok (.getfield 140, 3) := by decide +kernel
theorem dX5_house_97 : decode cX5_house 97 = .ok (.ireturn, 1) := by decide +kernel
theorem dX5_deed_0 : decode cX5_deed 0 = .ok (.aload_n 0, 1) := by decide +kernel
theorem dX5_deed_1 : decode cX5_deed 1 = .ok (.getfield 31, 3) := by decide +kernel
theorem dX5_deed_4 : decode cX5_deed 4 = .ok (.iload_n 1, 1) := by decide +kernel
theorem dX5_deed_5 : decode cX5_deed 5 = .ok (.invokevirtual 143, 3) := by decide +kernel
theorem dX5_deed_8 : decode cX5_deed 8 = .ok (.ifCond .eq 12, 3) := by decide +kernel
theorem dX5_deed_11 : decode cX5_deed 11 = .ok (.iload_n 2, 1) := by decide +kernel
theorem dX5_deed_12 : decode cX5_deed 12 = .ok (.ifCond .lt 8, 3) := by decide +kernel
theorem dX5_deed_15 : decode cX5_deed 15 = .ok (.iload_n 2, 1) := by decide +kernel
theorem dX5_deed_16 : decode cX5_deed 16 = .ok (.iconst 5, 1) := by decide +kernel
theorem dX5_deed_17 : decode cX5_deed 17 = .ok (.if_icmp .lt 5, 3) := by decide +kernel
theorem dX5_deed_20 : decode cX5_deed 20 = .ok (.iconst (-1), 1) := by decide +kernel
theorem dX5_deed_21 : decode cX5_deed 21 = .ok (.ireturn, 1) := by decide +kernel
theorem dX5_deed_22 : decode cX5_deed 22 = .ok (.aload_n 0, 1) := by decide +kernel
theorem dX5_deed_23 : decode cX5_deed 23 = .ok (.aload_n 0, 1) := by decide +kernel
theorem dX5_deed_24 : decode cX5_deed 24 = .ok (.iload_n 1, 1) := by decide +kernel
theorem dX5_deed_25 : decode cX5_deed 25 = .ok (.iload_n 2, 1) := by decide +kernel
theorem dX5_deed_26 : decode cX5_deed 26 = .ok (.invokevirtual 146, 3) := by decide +kernel
theorem dX5_deed_29 : decode cX5_deed 29 = .ok (.invokevirtual 97, 3) := by decide +kernel
theorem dX5_deed_32 : decode cX5_deed 32 = .ok (.ireturn, 1) := by decide +kernel
theorem dX5_hour_0 : decode cX5_hour 0 = .ok (.aload_n 0, 1) := by decide +kernel
theorem dX5_hour_1 : decode cX5_hour 1 = .ok (.getfield 31, 3) := by decide +kernel
theorem dX5_hour_4 : decode cX5_hour 4 = .ok (.iload_n 1, 1) := by decide +kernel
theorem dX5_hour_5 : decode cX5_hour 5 = .ok (.invokevirtual 150, 3) := by decide +kernel
theorem dX5_hour_8 : decode cX5_hour 8 = .ok (.ifCond .eq 12, 3) := by decide +kernel
theorem dX5_hour_11 : decode cX5_hour 11 = .ok (.iload_n 2, 1) := by decide +kernel
theorem dX5_hour_12 : decode cX5_hour 12 = .ok (.ifCond .lt 8, 3) := by decide +kernel
theorem dX5_hour_15 : decode cX5_hour 15 = .ok (.iload_n 2, 1) := by decide +kernel
theorem dX5_hour_16 : decode cX5_hour 16 = .ok (.iconst 5, 1) := by decide +kernel
theorem dX5_hour_17 : decode cX5_hour 17 = .ok (.if_icmp .lt 5, 3) := by decide +kernel
theorem dX5_hour_20 : decode cX5_hour 20 = .ok (.iconst (-1), 1) := by decide +kernel
theorem dX5_hour_21 : decode cX5_hour 21 = .ok (.ireturn, 1) := by decide +kernel
theorem dX5_hour_22 : decode cX5_hour 22 = .ok (.aload_n 0, 1) := by decide +kernel
theorem dX5_hour_23 : decode cX5_hour 23 = .ok (.aload_n 0, 1) := by decide +kernel
theorem dX5_hour_24 : decode cX5_hour 24 = .ok (.iload_n 1, 1) := by decide +kernel
theorem dX5_hour_25 : decode cX5_hour 25 = .ok (.iload_n 2, 1) := by decide +kernel
theorem dX5_hour_26 : decode cX5_hour 26 = .ok (.invokevirtual 153, 3) := by decide +kernel
theorem dX5_hour_29 : decode cX5_hour 29 = .ok (.invokevirtual 97, 3) := by decide +kernel
theorem dX5_hour_32 : decode cX5_hour 32 = .ok (.ireturn, 1) := by decide +kernel
theorem dX5_mark_0 : decode cX5_mark 0 = .ok (.aload_n 0, 1) := by decide +kernel
theorem dX5_mark_1 : decode cX5_mark 1 = .ok (.getfield 31, 3) := by decide +kernel
theorem dX5_mark_4 : decode cX5_mark 4 = .ok (.iload_n 1, 1) := by decide +kernel
theorem dX5_mark_5 : decode cX5_mark 5 = .ok (.invokevirtual 143, 3) := by decide +kernel
theorem dX5_mark_8 : decode cX5_mark 8 = .ok (.ifCond .eq 13, 3) := by decide +kernel
theorem dX5_mark_11 : decode cX5_mark 11 = .ok (.iload_n 2, 1) := by decide +kernel
theorem dX5_mark_12 : decode cX5_mark 12 = .ok (.iconst 1, 1) := by decide +kernel
theorem dX5_mark_13 : decode cX5_mark 13 = .ok (.if_icmp .lt 8, 3) := by decide +kernel
theorem dX5_mark_16 : decode cX5_mark 16 = .ok (.iload_n 2, 1) := by decide +kernel
theorem dX5_mark_17 : decode cX5_mark 17 = .ok (.iconst 5, 1) := by decide +kernel
theorem dX5_mark_18 : decode cX5_mark 18 = .ok (.if_icmp .le 5, 3) := by decide +kernel
theorem dX5_mark_21 : decode cX5_mark 21 = .ok (.iconst (-1), 1) := by decide +kernel
theorem dX5_mark_22 : decode cX5_mark 22 = .ok (.ireturn, 1) := by decide +kernel
theorem dX5_mark_23 : decode cX5_mark 23 = .ok (.aload_n 0, 1) := by decide +kernel
theorem dX5_mark_24 : decode cX5_mark 24 = .ok (.getfield 31, 3) := by decide +kernel
theorem dX5_mark_27 : decode cX5_mark 27 = .ok (.iload_n 1, 1) := by decide +kernel
theorem dX5_mark_28 : decode cX5_mark 28 = .ok (.iload_n 2, 1) := by decide +kernel
theorem dX5_mark_29 : decode cX5_mark 29 = .ok (.invokevirtual 156, 3) := by decide +kernel
theorem dX5_mark_32 : decode cX5_mark 32 = .ok (.ifCond .ne 9, 3) := by decide +kernel
theorem dX5_mark_35 : decode cX5_mark 35 = .ok (.aload_n 0, 1) := by decide +kernel
theorem dX5_mark_36 : decode cX5_mark 36 = .ok (.iconst 3, 1) := by decide +kernel
theorem dX5_mark_37 : decode cX5_mark 37 = .ok (.invokevirtual 81, 3) := by decide +kernel
theorem dX5_mark_40 : decode cX5_mark 40 = .ok (.ireturn, 1) := by decide +kernel
theorem dX5_mark_41 : decode cX5_mark 41 = .ok (.iload_n 2, 1) := by decide +kernel
theorem dX5_mark_42 : decode cX5_mark 42 = .ok (.tableswitch 79 1 4 #[30, 38, 44, 63], 30) := by decide +kernel
theorem dX5_mark_72 : decode cX5_mark 72 = .ok (.aload_n 0, 1) := by decide +kernel
theorem dX5_mark_73 : decode cX5_mark 73 = .ok (.getfield 40, 3) := by decide +kernel
theorem dX5_mark_76 : decode cX5_mark 76 = .ok (.getfield 160, 3) := by decide +kernel
theorem dX5_mark_79 : decode cX5_mark 79 = .ok (.ireturn, 1) := by decide +kernel
theorem dX5_mark_80 : decode cX5_mark 80 = .ok (.aload_n 0, 1) := by decide +kernel
theorem dX5_mark_81 : decode cX5_mark 81 = .ok (.iload_n 1, 1) := by decide +kernel
theorem dX5_mark_82 : decode cX5_mark 82 = .ok (.invokevirtual 163, 3) := by decide +kernel
theorem dX5_mark_85 : decode cX5_mark 85 = .ok (.ireturn, 1) := by decide +kernel
theorem dX5_mark_86 : decode cX5_mark 86 = .ok (.aload_n 0, 1) := by decide +kernel
theorem dX5_mark_87 : decode cX5_mark 87 = .ok (.getfield 31, 3) := by decide +kernel
theorem dX5_mark_90 : decode cX5_mark 90 = .ok (.iload_n 1, 1) := by decide +kernel
theorem dX5_mark_91 : decode cX5_mark 91 = .ok (.aload_n 0, 1) := by decide +kernel
theorem dX5_mark_92 : decode cX5_mark 92 = .ok (.getfield 31, 3) := by decide +kernel
theorem dX5_mark_95 : decode cX5_mark 95 = .ok (.getfield 166, 3) := by decide +kernel
theorem dX5_mark_98 : decode cX5_mark 98 = .ok (.invokevirtual 169, 3) := by decide +kernel
theorem dX5_mark_101 : decode cX5_mark 101 = .ok (.invokestatic 173, 3) := by decide +kernel
theorem dX5_mark_104 : decode cX5_mark 104 = .ok (.ireturn, 1) := by decide +kernel
theorem dX5_mark_105 : decode cX5_mark 105 = .ok (.aload_n 0, 1) := by decide +kernel
theorem dX5_mark_106 : decode cX5_mark 106 = .ok (.getfield 31, 3) := by decide +kernel
theorem dX5_mark_109 : decode cX5_mark 109 = .ok (.iload_n 1, 1) := by decide +kernel
theorem dX5_mark_110 : decode cX5_mark 110 = .ok (.aload_n 0, 1) := by decide +kernel
theorem dX5_mark_111 : decode cX5_mark 111 = .ok (.getfield 40, 3) := by decide +kernel
theorem dX5_mark_114 : decode cX5_mark 114 = .ok (.getfield 178, 3) := by decide +kernel
theorem dX5_mark_117 : decode cX5_mark 117 = .ok (.invokevirtual 181, 3) := by decide +kernel
theorem dX5_mark_120 : decode cX5_mark 120 = .ok (.ireturn, 1) := by decide +kernel
theorem dX5_mark_121 : decode cX5_mark 121 = .ok (.aload_n 0, 1) := by decide +kernel
theorem dX5_mark_122 : decode cX5_mark 122 = .ok (.getfield 31, 3) := by decide +kernel
theorem dX5_mark_125 : decode cX5_mark 125 = .ok (.iload_n 1, 1) := by decide +kernel
theorem dX5_mark_126 : decode cX5_mark 126 = .ok (.invokevirtual 184, 3) := by decide +kernel
theorem dX5_mark_129 : decode cX5_mark 129 = .ok (.ireturn, 1) := by decide +kernel
theorem dX5_route_0 : decode cX5_route 0 = .ok (.iload_n 1, 1) := by decide +kernel
theorem dX5_route_1 : decode cX5_route 1 = .ok (.ifCond .lt 18, 3) := by decide +kernel
theorem dX5_route_4 : decode cX5_route 4 = .ok (.iload_n 1, 1) := by decide +kernel
theorem dX5_route_5 : decode cX5_route 5 = .ok (.iconst 3, 1) := by decide +kernel
theorem dX5_route_6 : decode cX5_route 6 = .ok (.if_icmp .ge 13, 3) := by decide +kernel
theorem dX5_route_9 : decode cX5_route 9 = .ok (.iload_n 2, 1) := by decide +kernel
theorem dX5_route_10 : decode cX5_route 10 = .ok (.ifCond .lt 9, 3) := by decide +kernel
theorem dX5_route_13 : decode cX5_route 13 = .ok (.iload_n 2, 1) := by decide +kernel
theorem dX5_route_14 : decode cX5_route 14 = .ok (.bipush 9, 2) := by decide +kernel
theorem dX5_route_16 : decode cX5_route 16 = .ok (.if_icmp .le 5, 3) := by decide +kernel
theorem dX5_route_19 : decode cX5_route 19 = .ok (.iconst (-1), 1) := by decide +kernel
theorem dX5_route_20 : decode cX5_route 20 = .ok (.ireturn, 1) := by decide +kernel
theorem dX5_route_21 : decode cX5_route 21 = .ok (.aload_n 0, 1) := by decide +kernel
theorem dX5_route_22 : decode cX5_route 22 = .ok (.getfield 40, 3) := by decide +kernel
theorem dX5_route_25 : decode cX5_route 25 = .ok (.getfield 187, 3) := by decide +kernel
theorem dX5_route_28 : decode cX5_route 28 = .ok (.ifCond .le 6, 3) := by decide +kernel
theorem dX5_route_31 : decode cX5_route 31 = .ok (.bipush (-4), 2) := by decide +kernel
theorem dX5_route_33 : decode cX5_route 33 = .ok (.ireturn, 1) := by decide +kernel
theorem dX5_route_34 : decode cX5_route 34 = .ok (.aload_n 0, 1) := by decide +kernel
theorem dX5_route_35 : decode cX5_route 35 = .ok (.getfield 40, 3) := by decide +kernel
theorem dX5_route_38 : decode cX5_route 38 = .ok (.getfield 190, 3) := by decide +kernel
theorem dX5_route_41 : decode cX5_route 41 = .ok (.iload_n 1, 1) := by decide +kernel
theorem dX5_route_42 : decode cX5_route 42 = .ok (.iaload, 1) := by decide +kernel
theorem dX5_route_43 : decode cX5_route 43 = .ok (.istore_n 3, 1) := by decide +kernel
theorem dX5_route_44 : decode cX5_route 44 = .ok (.aload_n 0, 1) := by decide +kernel
theorem dX5_route_45 : decode cX5_route 45 = .ok (.getfield 40, 3) := by decide +kernel
theorem dX5_route_48 : decode cX5_route 48 = .ok (.getfield 190, 3) := by decide +kernel
theorem dX5_route_51 : decode cX5_route 51 = .ok (.iload_n 1, 1) := by decide +kernel
theorem dX5_route_52 : decode cX5_route 52 = .ok (.iload_n 2, 1) := by decide +kernel
theorem dX5_route_53 : decode cX5_route 53 = .ok (.iastore, 1) := by decide +kernel
theorem dX5_route_54 : decode cX5_route 54 = .ok (.iload_n 3, 1) := by decide +kernel
theorem dX5_route_55 : decode cX5_route 55 = .ok (.ireturn, 1) := by decide +kernel
theorem dX5_day_0 : decode cX5_day 0 = .ok (.aload_n 0, 1) := by decide +kernel
theorem dX5_day_1 : decode cX5_day 1 = .ok (.getfield 31, 3) := by decide +kernel
theorem dX5_day_4 : decode cX5_day 4 = .ok (.getfield 140, 3) := by decide +kernel
theorem dX5_day_7 : decode cX5_day 7 = .ok (.ifCond .ne 6, 3) := by decide +kernel
theorem dX5_day_10 : decode cX5_day 10 = .ok (.bipush (-4), 2) := by decide +kernel
theorem dX5_day_12 : decode cX5_day 12 = .ok (.ireturn, 1) := by decide +kernel
theorem dX5_day_13 : decode cX5_day 13 = .ok (.aload_n 0, 1) := by decide +kernel
theorem dX5_day_14 : decode cX5_day 14 = .ok (.getfield 40, 3) := by decide +kernel
theorem dX5_day_17 : decode cX5_day 17 = .ok (.invokevirtual 193, 3) := by decide +kernel
theorem dX5_day_20 : decode cX5_day 20 = .ok (.ifCond .eq 6, 3) := by decide +kernel
theorem dX5_day_23 : decode cX5_day 23 = .ok (.bipush (-2), 2) := by decide +kernel
theorem dX5_day_25 : decode cX5_day 25 = .ok (.ireturn, 1) := by decide +kernel
theorem dX5_day_26 : decode cX5_day 26 = .ok (.aload_n 0, 1) := by decide +kernel
theorem dX5_day_27 : decode cX5_day 27 = .ok (.getfield 40, 3) := by decide +kernel
theorem dX5_day_30 : decode cX5_day 30 = .ok (.iconst 0, 1) := by decide +kernel
theorem dX5_day_31 : decode cX5_day 31 = .ok (.bipush (-9), 2) := by decide +kernel
theorem dX5_day_33 : decode cX5_day 33 = .ok (.bipush (-9), 2) := by decide +kernel
theorem dX5_day_35 : decode cX5_day 35 = .ok (.invokevirtual 197, 3) := by decide +kernel
theorem dX5_day_38 : decode cX5_day 38 = .ok (.aload_n 0, 1) := by decide +kernel
theorem dX5_day_39 : decode cX5_day 39 = .ok (.getfield 40, 3) := by decide +kernel
theorem dX5_day_42 : decode cX5_day 42 = .ok (.getfield 200, 3) := by decide +kernel
theorem dX5_day_45 : decode cX5_day 45 = .ok (.ireturn, 1) := by decide +kernel
theorem dX5_open_0 : decode cX5_open 0 = .ok (.aload_n 0, 1) := by decide +kernel
theorem dX5_open_1 : decode cX5_open 1 = .ok (.getfield 31, 3) := by decide +kernel
theorem dX5_open_4 : decode cX5_open 4 = .ok (.iload_n 1, 1) := by decide +kernel
theorem dX5_open_5 : decode cX5_open 5 = .ok (.invokevirtual 150, 3) := by decide +kernel
theorem dX5_open_8 : decode cX5_open 8 = .ok (.ifCond .eq 20, 3) := by decide +kernel
theorem dX5_open_11 : decode cX5_open 11 = .ok (.iload_n 2, 1) := by decide +kernel
theorem dX5_open_12 : decode cX5_open 12 = .ok (.bipush (-9), 2) := by decide +kernel
theorem dX5_open_14 : decode cX5_open 14 = .ok (.if_icmp .eq 16, 3) := by decide +kernel
theorem dX5_open_17 : decode cX5_open 17 = .ok (.aload_n 0, 1) := by decide +kernel
theorem dX5_open_18 : decode cX5_open 18 = .ok (.getfield 31, 3) := by decide +kernel
theorem dX5_open_21 : decode cX5_open 21 = .ok (.iload_n 2, 1) := by decide +kernel
theorem dX5_open_22 : decode cX5_open 22 = .ok (.invokevirtual 143, 3) := by decide +kernel
theorem dX5_open_25 : decode cX5_open 25 = .ok (.ifCond .ne 5, 3) := by decide +kernel
theorem dX5_open_28 : decode cX5_open 28 = .ok (.iconst (-1), 1) := by decide +kernel
theorem dX5_open_29 : decode cX5_open 29 = .ok (.ireturn, 1) := by decide +kernel
theorem dX5_open_30 : decode cX5_open 30 = .ok (.aload_n 0, 1) := by decide +kernel
theorem dX5_open_31 : decode cX5_open 31 = .ok (.getfield 40, 3) := by decide +kernel
theorem dX5_open_34 : decode cX5_open 34 = .ok (.iload_n 1, 1) := by decide +kernel
theorem dX5_open_35 : decode cX5_open 35 = .ok (.invokevirtual 203, 3) := by decide +kernel
theorem dX5_open_38 : decode cX5_open 38 = .ok (.iconst 1, 1) := by decide +kernel
theorem dX5_open_39 : decode cX5_open 39 = .ok (.if_icmp .ne 21, 3) := by decide +kernel
theorem dX5_open_42 : decode cX5_open 42 = .ok (.iload_n 2, 1) := by decide +kernel
theorem dX5_open_43 : decode cX5_open 43 = .ok (.bipush (-9), 2) := by decide +kernel
theorem dX5_open_45 : decode cX5_open 45 = .ok (.if_icmp .eq 18, 3) := by decide +kernel
theorem dX5_open_48 : decode cX5_open 48 = .ok (.aload_n 0, 1) := by decide +kernel
theorem dX5_open_49 : decode cX5_open 49 = .ok (.getfield 40, 3) := by decide +kernel
theorem dX5_open_52 : decode cX5_open 52 = .ok (.iload_n 2, 1) := by decide +kernel
theorem dX5_open_53 : decode cX5_open 53 = .ok (.iload_n 1, 1) := by decide +kernel
theorem dX5_open_54 : decode cX5_open 54 = .ok (.invokevirtual 206, 3) := by decide +kernel
theorem dX5_open_57 : decode cX5_open 57 = .ok (.ifCond .eq 6, 3) := by decide +kernel
theorem dX5_open_60 : decode cX5_open 60 = .ok (.bipush (-4), 2) := by decide +kernel
theorem dX5_open_62 : decode cX5_open 62 = .ok (.ireturn, 1) := by decide +kernel
theorem dX5_open_63 : decode cX5_open 63 = .ok (.aload_n 0, 1) := by decide +kernel
theorem dX5_open_64 : decode cX5_open 64 = .ok (.getfield 40, 3) := by decide +kernel
theorem dX5_open_67 : decode cX5_open 67 = .ok (.invokevirtual 193, 3) := by decide +kernel
theorem dX5_open_70 : decode cX5_open 70 = .ok (.ifCond .eq 6, 3) := by decide +kernel
theorem dX5_open_73 : decode cX5_open 73 = .ok (.bipush (-2), 2) := by decide +kernel
theorem dX5_open_75 : decode cX5_open 75 = .ok (.ireturn, 1) := by decide +kernel
theorem dX5_open_76 : decode cX5_open 76 = .ok (.aload_n 0, 1) := by decide +kernel
theorem dX5_open_77 : decode cX5_open 77 = .ok (.getfield 40, 3) := by decide +kernel
theorem dX5_open_80 : decode cX5_open 80 = .ok (.iconst 1, 1) := by decide +kernel
theorem dX5_open_81 : decode cX5_open 81 = .ok (.iload_n 1, 1) := by decide +kernel
theorem dX5_open_82 : decode cX5_open 82 = .ok (.iload_n 2, 1) := by decide +kernel
theorem dX5_open_83 : decode cX5_open 83 = .ok (.invokevirtual 197, 3) := by decide +kernel
theorem dX5_open_86 : decode cX5_open 86 = .ok (.aload_n 0, 1) := by decide +kernel
theorem dX5_open_87 : decode cX5_open 87 = .ok (.getfield 40, 3) := by decide +kernel
theorem dX5_open_90 : decode cX5_open 90 = .ok (.getfield 178, 3) := by decide +kernel
theorem dX5_open_93 : decode cX5_open 93 = .ok (.ireturn, 1) := by decide +kernel
theorem dX5_send_0 : decode cX5_send 0 = .ok (.aload_n 0, 1) := by decide +kernel
theorem dX5_send_1 : decode cX5_send 1 = .ok (.getfield 31, 3) := by decide +kernel
theorem dX5_send_4 : decode cX5_send 4 = .ok (.iload_n 1, 1) := by decide +kernel
theorem dX5_send_5 : decode cX5_send 5 = .ok (.invokevirtual 150, 3) := by decide +kernel
theorem dX5_send_8 : decode cX5_send 8 = .ok (.ifCond .ne 5, 3) := by decide +kernel
theorem dX5_send_11 : decode cX5_send 11 = .ok (.iconst (-1), 1) := by decide +kernel
theorem dX5_send_12 : decode cX5_send 12 = .ok (.ireturn, 1) := by decide +kernel
theorem dX5_send_13 : decode cX5_send 13 = .ok (.aload_n 0, 1) := by decide +kernel
theorem dX5_send_14 : decode cX5_send 14 = .ok (.getfield 40, 3) := by decide +kernel
theorem dX5_send_17 : decode cX5_send 17 = .ok (.iload_n 1, 1) := by decide +kernel
theorem dX5_send_18 : decode cX5_send 18 = .ok (.invokevirtual 203, 3) := by decide +kernel
theorem dX5_send_21 : decode cX5_send 21 = .ok (.iconst 1, 1) := by decide +kernel
theorem dX5_send_22 : decode cX5_send 22 = .ok (.if_icmp .eq 6, 3) := by decide +kernel
theorem dX5_send_25 : decode cX5_send 25 = .ok (.bipush (-4), 2) := by decide +kernel
theorem dX5_send_27 : decode cX5_send 27 = .ok (.ireturn, 1) := by decide +kernel
theorem dX5_send_28 : decode cX5_send 28 = .ok (.aload_n 0, 1) := by decide +kernel
theorem dX5_send_29 : decode cX5_send 29 = .ok (.getfield 40, 3) := by decide +kernel
theorem dX5_send_32 : decode cX5_send 32 = .ok (.invokevirtual 193, 3) := by decide +kernel
theorem dX5_send_35 : decode cX5_send 35 = .ok (.ifCond .eq 6, 3) := by decide +kernel
theorem dX5_send_38 : decode cX5_send 38 = .ok (.bipush (-2), 2) := by decide +kernel
theorem dX5_send_40 : decode cX5_send 40 = .ok (.ireturn, 1) := by decide +kernel
theorem dX5_send_41 : decode cX5_send 41 = .ok (.aload_n 0, 1) := by decide +kernel
theorem dX5_send_42 : decode cX5_send 42 = .ok (.getfield 40, 3) := by decide +kernel
theorem dX5_send_45 : decode cX5_send 45 = .ok (.iconst 2, 1) := by decide +kernel
theorem dX5_send_46 : decode cX5_send 46 = .ok (.iload_n 1, 1) := by decide +kernel
theorem dX5_send_47 : decode cX5_send 47 = .ok (.bipush (-9), 2) := by decide +kernel
theorem dX5_send_49 : decode cX5_send 49 = .ok (.invokevirtual 197, 3) := by decide +kernel
theorem dX5_send_52 : decode cX5_send 52 = .ok (.aload_n 0, 1) := by decide +kernel
theorem dX5_send_53 : decode cX5_send 53 = .ok (.getfield 40, 3) := by decide +kernel
theorem dX5_send_56 : decode cX5_send 56 = .ok (.invokevirtual 209, 3) := by decide +kernel
theorem dX5_send_59 : decode cX5_send 59 = .ok (.invokestatic 173, 3) := by decide +kernel
theorem dX5_send_62 : decode cX5_send 62 = .ok (.ireturn, 1) := by decide +kernel
theorem dX5_undo_0 : decode cX5_undo 0 = .ok (.iload_n 1, 1) := by decide +kernel
theorem dX5_undo_1 : decode cX5_undo 1 = .ok (.ifCond .lt 14, 3) := by decide +kernel
theorem dX5_undo_4 : decode cX5_undo 4 = .ok (.iload_n 1, 1) := by decide +kernel
theorem dX5_undo_5 : decode cX5_undo 5 = .ok (.aload_n 0, 1) := by decide +kernel
theorem dX5_undo_6 : decode cX5_undo 6 = .ok (.getfield 40, 3) := by decide +kernel
theorem dX5_undo_9 : decode cX5_undo 9 = .ok (.getfield 187, 3) := by decide +kernel
theorem dX5_undo_12 : decode cX5_undo 12 = .ok (.if_icmp .le 5, 3) := by decide +kernel
theorem dX5_undo_15 : decode cX5_undo 15 = .ok (.iconst (-1), 1) := by decide +kernel
theorem dX5_undo_16 : decode cX5_undo 16 = .ok (.ireturn, 1) := by decide +kernel
theorem dX5_undo_17 : decode cX5_undo 17 = .ok (.aload_n 0, 1) := by decide +kernel
theorem dX5_undo_18 : decode cX5_undo 18 = .ok (.getfield 40, 3) := by decide +kernel
theorem dX5_undo_21 : decode cX5_undo 21 = .ok (.iload_n 1, 1) := by decide +kernel
theorem dX5_undo_22 : decode cX5_undo 22 = .ok (.invokevirtual 213, 3) := by decide +kernel
theorem dX5_undo_25 : decode cX5_undo 25 = .ok (.ireturn, 1) := by decide +kernel
theorem dX5_shelf_0 : decode cX5_shelf 0 = .ok (.aload_n 0, 1) := by decide +kernel
theorem dX5_shelf_1 : decode cX5_shelf 1 = .ok (.getfield 31, 3) := by decide +kernel
theorem dX5_shelf_4 : decode cX5_shelf 4 = .ok (.getfield 140, 3) := by decide +kernel
theorem dX5_shelf_7 : decode cX5_shelf 7 = .ok (.ifCond .ne 6, 3) := by decide +kernel
theorem dX5_shelf_10 : decode cX5_shelf 10 = .ok (.bipush (-4), 2) := by decide +kernel
theorem dX5_shelf_12 : decode cX5_shelf 12 = .ok (.ireturn, 1) := by decide +kernel
theorem dX5_shelf_13 : decode cX5_shelf 13 = .ok (.aload_n 0, 1) := by decide +kernel
theorem dX5_shelf_14 : decode cX5_shelf 14 = .ok (.aload_n 0, 1) := by decide +kernel
theorem dX5_shelf_15 : decode cX5_shelf 15 = .ok (.getfield 40, 3) := by decide +kernel
theorem dX5_shelf_18 : decode cX5_shelf 18 = .ok (.getfield 200, 3) := by decide +kernel
theorem dX5_shelf_21 : decode cX5_shelf 21 = .ok (.putfield 67, 3) := by decide +kernel
theorem dX5_shelf_24 : decode cX5_shelf 24 = .ok (.aload_n 0, 1) := by decide +kernel
theorem dX5_shelf_25 : decode cX5_shelf 25 = .ok (.getfield 40, 3) := by decide +kernel
theorem dX5_shelf_28 : decode cX5_shelf 28 = .ok (.invokevirtual 209, 3) := by decide +kernel
theorem dX5_shelf_31 : decode cX5_shelf 31 = .ok (.ireturn, 1) := by decide +kernel
theorem dX5_keep_0 : decode cX5_keep 0 = .ok (.iload_n 1, 1) := by decide +kernel
theorem dX5_keep_1 : decode cX5_keep 1 = .ok (.ifCond .lt 8, 3) := by decide +kernel
theorem dX5_keep_4 : decode cX5_keep 4 = .ok (.iload_n 1, 1) := by decide +kernel
theorem dX5_keep_5 : decode cX5_keep 5 = .ok (.iconst 3, 1) := by decide +kernel
theorem dX5_keep_6 : decode cX5_keep 6 = .ok (.if_icmp .lt 5, 3) := by decide +kernel
theorem dX5_keep_9 : decode cX5_keep 9 = .ok (.iconst (-1), 1) := by decide +kernel
theorem dX5_keep_10 : decode cX5_keep 10 = .ok (.ireturn, 1) := by decide +kernel
theorem dX5_keep_11 : decode cX5_keep 11 = .ok (.aload_n 0, 1) := by decide +kernel
theorem dX5_keep_12 : decode cX5_keep 12 = .ok (.getfield 31, 3) := by decide +kernel
theorem dX5_keep_15 : decode cX5_keep 15 = .ok (.getfield 140, 3) := by decide +kernel
theorem dX5_keep_18 : decode cX5_keep 18 = .ok (.ifCond .ne 6, 3) := by decide +kernel
theorem dX5_keep_21 : decode cX5_keep 21 = .ok (.bipush (-4), 2) := by decide +kernel
theorem dX5_keep_23 : decode cX5_keep 23 = .ok (.ireturn, 1) := by decide +kernel
theorem dX5_keep_24 : decode cX5_keep 24 = .ok (.aload_n 0, 1) := by decide +kernel
theorem dX5_keep_25 : decode cX5_keep 25 = .ok (.getfield 44, 3) := by decide +kernel
theorem dX5_keep_28 : decode cX5_keep 28 = .ok (.iload_n 1, 1) := by decide +kernel
theorem dX5_keep_29 : decode cX5_keep 29 = .ok (.aaload, 1) := by decide +kernel
theorem dX5_keep_30 : decode cX5_keep 30 = .ok (.aload_n 0, 1) := by decide +kernel
theorem dX5_keep_31 : decode cX5_keep 31 = .ok (.getfield 40, 3) := by decide +kernel
theorem dX5_keep_34 : decode cX5_keep 34 = .ok (.invokevirtual 216, 3) := by decide +kernel
theorem dX5_keep_37 : decode cX5_keep 37 = .ok (.aload_n 0, 1) := by decide +kernel
theorem dX5_keep_38 : decode cX5_keep 38 = .ok (.getfield 48, 3) := by decide +kernel
theorem dX5_keep_41 : decode cX5_keep 41 = .ok (.iload_n 1, 1) := by decide +kernel
theorem dX5_keep_42 : decode cX5_keep 42 = .ok (.iconst 1, 1) := by decide +kernel
theorem dX5_keep_43 : decode cX5_keep 43 = .ok (.bastore, 1) := by decide +kernel
theorem dX5_keep_44 : decode cX5_keep 44 = .ok (.aload_n 0, 1) := by decide +kernel
theorem dX5_keep_45 : decode cX5_keep 45 = .ok (.getfield 40, 3) := by decide +kernel
theorem dX5_keep_48 : decode cX5_keep 48 = .ok (.getfield 187, 3) := by decide +kernel
theorem dX5_keep_51 : decode cX5_keep 51 = .ok (.ireturn, 1) := by decide +kernel
theorem dX5_on_0 : decode cX5_on 0 = .ok (.iload_n 1, 1) := by decide +kernel
theorem dX5_on_1 : decode cX5_on 1 = .ok (.ifCond .lt 8, 3) := by decide +kernel
theorem dX5_on_4 : decode cX5_on 4 = .ok (.iload_n 1, 1) := by decide +kernel
theorem dX5_on_5 : decode cX5_on 5 = .ok (.iconst 3, 1) := by decide +kernel
theorem dX5_on_6 : decode cX5_on 6 = .ok (.if_icmp .lt 5, 3) := by decide +kernel
theorem dX5_on_9 : decode cX5_on 9 = .ok (.iconst (-1), 1) := by decide +kernel
theorem dX5_on_10 : decode cX5_on 10 = .ok (.ireturn, 1) := by decide +kernel
theorem dX5_on_11 : decode cX5_on 11 = .ok (.aload_n 0, 1) := by decide +kernel
theorem dX5_on_12 : decode cX5_on 12 = .ok (.getfield 48, 3) := by decide +kernel
theorem dX5_on_15 : decode cX5_on 15 = .ok (.iload_n 1, 1) := by decide +kernel
theorem dX5_on_16 : decode cX5_on 16 = .ok (.baload, 1) := by decide +kernel
theorem dX5_on_17 : decode cX5_on 17 = .ok (.ifCond .ne 9, 3) := by decide +kernel
theorem dX5_on_20 : decode cX5_on 20 = .ok (.aload_n 0, 1) := by decide +kernel
theorem dX5_on_21 : decode cX5_on 21 = .ok (.iconst 1, 1) := by decide +kernel
theorem dX5_on_22 : decode cX5_on 22 = .ok (.invokevirtual 81, 3) := by decide +kernel
theorem dX5_on_25 : decode cX5_on 25 = .ok (.ireturn, 1) := by decide +kernel
theorem dX5_on_26 : decode cX5_on 26 = .ok (.aload_n 0, 1) := by decide +kernel
theorem dX5_on_27 : decode cX5_on 27 = .ok (.getfield 40, 3) := by decide +kernel
theorem dX5_on_30 : decode cX5_on 30 = .ok (.aload_n 0, 1) := by decide +kernel
theorem dX5_on_31 : decode cX5_on 31 = .ok (.getfield 44, 3) := by decide +kernel
theorem dX5_on_34 : decode cX5_on 34 = .ok (.iload_n 1, 1) := by decide +kernel
theorem dX5_on_35 : decode cX5_on 35 = .ok (.aaload, 1) := by decide +kernel
theorem dX5_on_36 : decode cX5_on 36 = .ok (.invokevirtual 216, 3) := by decide +kernel
theorem dX5_on_39 : decode cX5_on 39 = .ok (.aload_n 0, 1) := by decide +kernel
theorem dX5_on_40 : decode cX5_on 40 = .ok (.getfield 40, 3) := by decide +kernel
theorem dX5_on_43 : decode cX5_on 43 = .ok (.getfield 187, 3) := by decide +kernel
theorem dX5_on_46 : decode cX5_on 46 = .ok (.ireturn, 1) := by decide +kernel
theorem dX5_can_0 : decode cX5_can 0 = .ok (.aload_n 0, 1) := by decide +kernel
theorem dX5_can_1 : decode cX5_can 1 = .ok (.getfield 31, 3) := by decide +kernel
theorem dX5_can_4 : decode cX5_can 4 = .ok (.iload_n 1, 1) := by decide +kernel
theorem dX5_can_5 : decode cX5_can 5 = .ok (.invokevirtual 150, 3) := by decide +kernel
theorem dX5_can_8 : decode cX5_can 8 = .ok (.ifCond .eq 14, 3) := by decide +kernel
theorem dX5_can_11 : decode cX5_can 11 = .ok (.aload_n 0, 1) := by decide +kernel
theorem dX5_can_12 : decode cX5_can 12 = .ok (.getfield 40, 3) := by decide +kernel
theorem dX5_can_15 : decode cX5_can 15 = .ok (.iload_n 1, 1) := by decide +kernel
theorem dX5_can_16 : decode cX5_can 16 = .ok (.invokevirtual 219, 3) := by decide +kernel
theorem dX5_can_19 : decode cX5_can 19 = .ok (.goto 4, 3) := by decide +kernel
theorem dX5_can_22 : decode cX5_can 22 = .ok (.iconst (-1), 1) := by decide +kernel
theorem dX5_can_23 : decode cX5_can 23 = .ok (.ireturn, 1) := by decide +kernel
theorem dX5_why_0 : decode cX5_why 0 = .ok (.aload_n 0, 1) := by decide +kernel
theorem dX5_why_1 : decode cX5_why 1 = .ok (.getfield 31, 3) := by decide +kernel
theorem dX5_why_4 : decode cX5_why 4 = .ok (.iload_n 1, 1) := by decide +kernel
theorem dX5_why_5 : decode cX5_why 5 = .ok (.invokevirtual 143, 3) := by decide +kernel
theorem dX5_why_8 : decode cX5_why 8 = .ok (.ifCond .eq 14, 3) := by decide +kernel
theorem dX5_why_11 : decode cX5_why 11 = .ok (.aload_n 0, 1) := by decide +kernel
theorem dX5_why_12 : decode cX5_why 12 = .ok (.getfield 31, 3) := by decide +kernel
theorem dX5_why_15 : decode cX5_why 15 = .ok (.iload_n 2, 1) := by decide +kernel
theorem dX5_why_16 : decode cX5_why 16 = .ok (.invokevirtual 150, 3) := by decide +kernel
theorem dX5_why_19 : decode cX5_why 19 = .ok (.ifCond .ne 5, 3) := by decide +kernel
theorem dX5_why_22 : decode cX5_why 22 = .ok (.iconst (-1), 1) := by decide +kernel
theorem dX5_why_23 : decode cX5_why 23 = .ok (.ireturn, 1) := by decide +kernel
theorem dX5_why_24 : decode cX5_why 24 = .ok (.aload_n 0, 1) := by decide +kernel
theorem dX5_why_25 : decode cX5_why 25 = .ok (.getfield 40, 3) := by decide +kernel
theorem dX5_why_28 : decode cX5_why 28 = .ok (.iload_n 1, 1) := by decide +kernel
theorem dX5_why_29 : decode cX5_why 29 = .ok (.iload_n 2, 1) := by decide +kernel
theorem dX5_why_30 : decode cX5_why 30 = .ok (.invokevirtual 206, 3) := by decide +kernel
theorem dX5_why_33 : decode cX5_why 33 = .ok (.istore_n 3, 1) := by decide +kernel
theorem dX5_why_34 : decode cX5_why 34 = .ok (.aload_n 0, 1) := by decide +kernel
theorem dX5_why_35 : decode cX5_why 35 = .ok (.iload_n 3, 1) := by decide +kernel
theorem dX5_why_36 : decode cX5_why 36 = .ok (.iconst 2, 1) := by decide +kernel
theorem dX5_why_37 : decode cX5_why 37 = .ok (.if_icmp .ne 28, 3) := by decide +kernel
theorem dX5_why_40 : decode cX5_why 40 = .ok (.aload_n 0, 1) := by decide +kernel
theorem dX5_why_41 : decode cX5_why 41 = .ok (.getfield 31, 3) := by decide +kernel
theorem dX5_why_44 : decode cX5_why 44 = .ok (.getfield 166, 3) := by decide +kernel
theorem dX5_why_47 : decode cX5_why 47 = .ok (.iload_n 1, 1) := by decide +kernel
theorem dX5_why_48 : decode cX5_why 48 = .ok (.iaload, 1) := by decide +kernel
theorem dX5_why_49 : decode cX5_why 49 = .ok (.aload_n 0, 1) := by decide +kernel
theorem dX5_why_50 : decode cX5_why 50 = .ok (.getfield 40, 3) := by decide +kernel
theorem dX5_why_53 : decode cX5_why 53 = .ok (.getfield 178, 3) := by decide +kernel
theorem dX5_why_56 : decode cX5_why 56 = .ok (.iconst (-1), 1) := by decide +kernel
theorem dX5_why_57 : decode cX5_why 57 = .ok (.ixor, 1) := by decide +kernel
theorem dX5_why_58 : decode cX5_why 58 = .ok (.iand, 1) := by decide +kernel
theorem dX5_why_59 : decode cX5_why 59 = .ok (.invokestatic 222, 3) := by decide +kernel
theorem dX5_why_62 : decode cX5_why 62 = .ok (.goto 5, 3) := by decide +kernel
theorem dX5_why_65 : decode cX5_why 65 = .ok (.bipush (-9), 2) := by decide +kernel
theorem dX5_why_67 : decode cX5_why 67 = .ok (.putfield 67, 3) := by decide +kernel
theorem dX5_why_70 : decode cX5_why 70 = .ok (.iload_n 3, 1) := by decide +kernel
theorem dX5_why_71 : decode cX5_why 71 = .ok (.ireturn, 1) := by decide +kernel
theorem dX5_opens_0 : decode cX5_opens 0 = .ok (.aload_n 0, 1) := by decide +kernel
theorem dX5_opens_1 : decode cX5_opens 1 = .ok (.getfield 31, 3) := by decide +kernel
theorem dX5_opens_4 : decode cX5_opens 4 = .ok (.iload_n 1, 1) := by decide +kernel
theorem dX5_opens_5 : decode cX5_opens 5 = .ok (.invokevirtual 143, 3) := by decide +kernel
theorem dX5_opens_8 : decode cX5_opens 8 = .ok (.ifCond .ne 5, 3) := by decide +kernel
theorem dX5_opens_11 : decode cX5_opens 11 = .ok (.iconst (-1), 1) := by decide +kernel
theorem dX5_opens_12 : decode cX5_opens 12 = .ok (.ireturn, 1) := by decide +kernel
theorem dX5_opens_13 : decode cX5_opens 13 = .ok (.aload_n 0, 1) := by decide +kernel
theorem dX5_opens_14 : decode cX5_opens 14 = .ok (.aload_n 0, 1) := by decide +kernel
theorem dX5_opens_15 : decode cX5_opens 15 = .ok (.getfield 31, 3) := by decide +kernel
theorem dX5_opens_18 : decode cX5_opens 18 = .ok (.iload_n 1, 1) := by decide +kernel
theorem dX5_opens_19 : decode cX5_opens 19 = .ok (.aload_n 0, 1) := by decide +kernel
theorem dX5_opens_20 : decode cX5_opens 20 = .ok (.getfield 31, 3) := by decide +kernel
theorem dX5_opens_23 : decode cX5_opens 23 = .ok (.getfield 225, 3) := by decide +kernel
theorem dX5_opens_26 : decode cX5_opens 26 = .ok (.invokevirtual 169, 3) := by decide +kernel
theorem dX5_opens_29 : decode cX5_opens 29 = .ok (.putfield 67, 3) := by decide +kernel
theorem dX5_opens_32 : decode cX5_opens 32 = .ok (.aload_n 0, 1) := by decide +kernel
theorem dX5_opens_33 : decode cX5_opens 33 = .ok (.getfield 67, 3) := by decide +kernel
theorem dX5_opens_36 : decode cX5_opens 36 = .ok (.invokestatic 173, 3) := by decide +kernel
theorem dX5_opens_39 : decode cX5_opens 39 = .ok (.ireturn, 1) := by decide +kernel
theorem dX5_late_0 : decode cX5_late 0 = .ok (.aload_n 0, 1) := by decide +kernel
theorem dX5_late_1 : decode cX5_late 1 = .ok (.getfield 31, 3) := by decide +kernel
theorem dX5_late_4 : decode cX5_late 4 = .ok (.getfield 140, 3) := by decide +kernel
theorem dX5_late_7 : decode cX5_late 7 = .ok (.ifCond .ne 6, 3) := by decide +kernel
theorem dX5_late_10 : decode cX5_late 10 = .ok (.bipush (-4), 2) := by decide +kernel
