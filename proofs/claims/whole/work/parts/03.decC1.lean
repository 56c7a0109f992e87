theorem dX0_init_0 : decode cX0_init 0 = .ok (.aload_n 0, 1) := by decide +kernel
theorem dX0_init_1 : decode cX0_init 1 = .ok (.invokespecial 3, 3) := by decide +kernel
theorem dX0_init_4 : decode cX0_init 4 = .ok (.aload_n 0, 1) := by decide +kernel
theorem dX0_init_5 : decode cX0_init 5 = .ok (.iconst (-1), 1) := by decide +kernel
theorem dX0_init_6 : decode cX0_init 6 = .ok (.putfield 9, 3) := by decide +kernel
theorem dX0_init_9 : decode cX0_init 9 = .ok (.aload_n 0, 1) := by decide +kernel
theorem dX0_init_10 : decode cX0_init 10 = .ok (.iconst 0, 1) := by decide +kernel
theorem dX0_init_11 : decode cX0_init 11 = .ok (.putfield 15, 3) := by decide +kernel
theorem dX0_init_14 : decode cX0_init 14 = .ok (.aload_n 0, 1) := by decide +kernel
theorem dX0_init_15 : decode cX0_init 15 = .ok (.iconst 0, 1) := by decide +kernel
theorem dX0_init_16 : decode cX0_init 16 = .ok (.putfield 18, 3) := by decide +kernel
theorem dX0_init_19 : decode cX0_init 19 = .ok (.aload_n 0, 1) := by decide +kernel
theorem dX0_init_20 : decode cX0_init 20 = .ok (.iconst 0, 1) := by decide +kernel
theorem dX0_init_21 : decode cX0_init 21 = .ok (.putfield 21, 3) := by decide +kernel
theorem dX0_init_24 : decode cX0_init 24 = .ok (.aload_n 0, 1) := by decide +kernel
theorem dX0_init_25 : decode cX0_init 25 = .ok (.iconst 0, 1) := by decide +kernel
theorem dX0_init_26 : decode cX0_init 26 = .ok (.putfield 24, 3) := by decide +kernel
theorem dX0_init_29 : decode cX0_init 29 = .ok (.aload_n 0, 1) := by decide +kernel
theorem dX0_init_30 : decode cX0_init 30 = .ok (.iconst 0, 1) := by decide +kernel
theorem dX0_init_31 : decode cX0_init 31 = .ok (.putfield 27, 3) := by decide +kernel
theorem dX0_init_34 : decode cX0_init 34 = .ok (.aload_n 0, 1) := by decide +kernel
theorem dX0_init_35 : decode cX0_init 35 = .ok (.bipush 32, 2) := by decide +kernel
theorem dX0_init_37 : decode cX0_init 37 = .ok (.newarray .int, 2) := by decide +kernel
theorem dX0_init_39 : decode cX0_init 39 = .ok (.putfield 30, 3) := by decide +kernel
theorem dX0_init_42 : decode cX0_init 42 = .ok (.return_, 1) := by decide +kernel
theorem dX0_start_0 : decode cX0_start 0 = .ok (.aload_n 0, 1) := by decide +kernel
theorem dX0_start_1 : decode cX0_start 1 = .ok (.iload_n 1, 1) := by decide +kernel
theorem dX0_start_2 : decode cX0_start 2 = .ok (.putfield 9, 3) := by decide +kernel
theorem dX0_start_5 : decode cX0_start 5 = .ok (.aload_n 0, 1) := by decide +kernel
theorem dX0_start_6 : decode cX0_start 6 = .ok (.iload_n 2, 1) := by decide +kernel
theorem dX0_start_7 : decode cX0_start 7 = .ok (.putfield 15, 3) := by decide +kernel
theorem dX0_start_10 : decode cX0_start 10 = .ok (.aload_n 0, 1) := by decide +kernel
theorem dX0_start_11 : decode cX0_start 11 = .ok (.iload_n 3, 1) := by decide +kernel
theorem dX0_start_12 : decode cX0_start 12 = .ok (.putfield 18, 3) := by decide +kernel
theorem dX0_start_15 : decode cX0_start 15 = .ok (.aload_n 0, 1) := by decide +kernel
theorem dX0_start_16 : decode cX0_start 16 = .ok (.iconst 0, 1) := by decide +kernel
theorem dX0_start_17 : decode cX0_start 17 = .ok (.putfield 21, 3) := by decide +kernel
theorem dX0_start_20 : decode cX0_start 20 = .ok (.aload_n 0, 1) := by decide +kernel
theorem dX0_start_21 : decode cX0_start 21 = .ok (.iconst 0, 1) := by decide +kernel
theorem dX0_start_22 : decode cX0_start 22 = .ok (.putfield 24, 3) := by decide +kernel
theorem dX0_start_25 : decode cX0_start 25 = .ok (.aload_n 0, 1) := by decide +kernel
theorem dX0_start_26 : decode cX0_start 26 = .ok (.iconst 0, 1) := by decide +kernel
theorem dX0_start_27 : decode cX0_start 27 = .ok (.putfield 27, 3) := by decide +kernel
theorem dX0_start_30 : decode cX0_start 30 = .ok (.aload_n 0, 1) := by decide +kernel
theorem dX0_start_31 : decode cX0_start 31 = .ok (.getfield 30, 3) := by decide +kernel
theorem dX0_start_34 : decode cX0_start 34 = .ok (.iconst 0, 1) := by decide +kernel
theorem dX0_start_35 : decode cX0_start 35 = .ok (.iload_n 2, 1) := by decide +kernel
theorem dX0_start_36 : decode cX0_start 36 = .ok (.iastore, 1) := by decide +kernel
theorem dX0_start_37 : decode cX0_start 37 = .ok (.return_, 1) := by decide +kernel
theorem dX0_copy_0 : decode cX0_copy 0 = .ok (.aload_n 0, 1) := by decide +kernel
theorem dX0_copy_1 : decode cX0_copy 1 = .ok (.aload_n 1, 1) := by decide +kernel
theorem dX0_copy_2 : decode cX0_copy 2 = .ok (.getfield 9, 3) := by decide +kernel
theorem dX0_copy_5 : decode cX0_copy 5 = .ok (.putfield 9, 3) := by decide +kernel
theorem dX0_copy_8 : decode cX0_copy 8 = .ok (.aload_n 0, 1) := by decide +kernel
theorem dX0_copy_9 : decode cX0_copy 9 = .ok (.aload_n 1, 1) := by decide +kernel
theorem dX0_copy_10 : decode cX0_copy 10 = .ok (.getfield 15, 3) := by decide +kernel
theorem dX0_copy_13 : decode cX0_copy 13 = .ok (.putfield 15, 3) := by decide +kernel
theorem dX0_copy_16 : decode cX0_copy 16 = .ok (.aload_n 0, 1) := by decide +kernel
theorem dX0_copy_17 : decode cX0_copy 17 = .ok (.aload_n 1, 1) := by decide +kernel
theorem dX0_copy_18 : decode cX0_copy 18 = .ok (.getfield 18, 3) := by decide +kernel
theorem dX0_copy_21 : decode cX0_copy 21 = .ok (.putfield 18, 3) := by decide +kernel
theorem dX0_copy_24 : decode cX0_copy 24 = .ok (.aload_n 0, 1) := by decide +kernel
theorem dX0_copy_25 : decode cX0_copy 25 = .ok (.aload_n 1, 1) := by decide +kernel
theorem dX0_copy_26 : decode cX0_copy 26 = .ok (.getfield 21, 3) := by decide +kernel
theorem dX0_copy_29 : decode cX0_copy 29 = .ok (.putfield 21, 3) := by decide +kernel
theorem dX0_copy_32 : decode cX0_copy 32 = .ok (.aload_n 0, 1) := by decide +kernel
theorem dX0_copy_33 : decode cX0_copy 33 = .ok (.aload_n 1, 1) := by decide +kernel
theorem dX0_copy_34 : decode cX0_copy 34 = .ok (.getfield 24, 3) := by decide +kernel
theorem dX0_copy_37 : decode cX0_copy 37 = .ok (.putfield 24, 3) := by decide +kernel
theorem dX0_copy_40 : decode cX0_copy 40 = .ok (.aload_n 0, 1) := by decide +kernel
theorem dX0_copy_41 : decode cX0_copy 41 = .ok (.aload_n 1, 1) := by decide +kernel
theorem dX0_copy_42 : decode cX0_copy 42 = .ok (.getfield 27, 3) := by decide +kernel
theorem dX0_copy_45 : decode cX0_copy 45 = .ok (.putfield 27, 3) := by decide +kernel
theorem dX0_copy_48 : decode cX0_copy 48 = .ok (.aload_n 1, 1) := by decide +kernel
theorem dX0_copy_49 : decode cX0_copy 49 = .ok (.getfield 30, 3) := by decide +kernel
theorem dX0_copy_52 : decode cX0_copy 52 = .ok (.iconst 0, 1) := by decide +kernel
theorem dX0_copy_53 : decode cX0_copy 53 = .ok (.aload_n 0, 1) := by decide +kernel
theorem dX0_copy_54 : decode cX0_copy 54 = .ok (.getfield 30, 3) := by decide +kernel
theorem dX0_copy_57 : decode cX0_copy 57 = .ok (.iconst 0, 1) := by decide +kernel
theorem dX0_copy_58 : decode cX0_copy 58 = .ok (.bipush 32, 2) := by decide +kernel
theorem dX0_copy_60 : decode cX0_copy 60 = .ok (.invokestatic 34, 3) := by decide +kernel
theorem dX0_copy_63 : decode cX0_copy 63 = .ok (.return_, 1) := by decide +kernel
theorem dX0_fell_0 : decode cX0_fell 0 = .ok (.aload_n 0, 1) := by decide +kernel
theorem dX0_fell_1 : decode cX0_fell 1 = .ok (.getfield 15, 3) := by decide +kernel
theorem dX0_fell_4 : decode cX0_fell 4 = .ok (.aload_n 1, 1) := by decide +kernel
theorem dX0_fell_5 : decode cX0_fell 5 = .ok (.bipush 7, 2) := by decide +kernel
theorem dX0_fell_7 : decode cX0_fell 7 = .ok (.iaload, 1) := by decide +kernel
theorem dX0_fell_8 : decode cX0_fell 8 = .ok (.if_icmp .gt 15, 3) := by decide +kernel
theorem dX0_fell_11 : decode cX0_fell 11 = .ok (.aload_n 0, 1) := by decide +kernel
theorem dX0_fell_12 : decode cX0_fell 12 = .ok (.getfield 15, 3) := by decide +kernel
theorem dX0_fell_15 : decode cX0_fell 15 = .ok (.aload_n 1, 1) := by decide +kernel
theorem dX0_fell_16 : decode cX0_fell 16 = .ok (.bipush 7, 2) := by decide +kernel
theorem dX0_fell_18 : decode cX0_fell 18 = .ok (.iaload, 1) := by decide +kernel
theorem dX0_fell_19 : decode cX0_fell 19 = .ok (.ineg, 1) := by decide +kernel
theorem dX0_fell_20 : decode cX0_fell 20 = .ok (.if_icmp .ge 7, 3) := by decide +kernel
theorem dX0_fell_23 : decode cX0_fell 23 = .ok (.iconst 1, 1) := by decide +kernel
theorem dX0_fell_24 : decode cX0_fell 24 = .ok (.goto 4, 3) := by decide +kernel
theorem dX0_fell_27 : decode cX0_fell 27 = .ok (.iconst 0, 1) := by decide +kernel
theorem dX0_fell_28 : decode cX0_fell 28 = .ok (.ireturn, 1) := by decide +kernel
theorem dX0_tick_0 : decode cX0_tick 0 = .ok (.aload_n 0, 1) := by decide +kernel
theorem dX0_tick_1 : decode cX0_tick 1 = .ok (.getfield 24, 3) := by decide +kernel
theorem dX0_tick_4 : decode cX0_tick 4 = .ok (.iconst 2, 1) := by decide +kernel
theorem dX0_tick_5 : decode cX0_tick 5 = .ok (.irem, 1) := by decide +kernel
theorem dX0_tick_6 : decode cX0_tick 6 = .ok (.ifCond .ne 15, 3) := by decide +kernel
theorem dX0_tick_9 : decode cX0_tick 9 = .ok (.aload_n 2, 1) := by decide +kernel
theorem dX0_tick_10 : decode cX0_tick 10 = .ok (.bipush 6, 2) := by decide +kernel
theorem dX0_tick_12 : decode cX0_tick 12 = .ok (.iaload, 1) := by decide +kernel
theorem dX0_tick_13 : decode cX0_tick 13 = .ok (.aload_n 2, 1) := by decide +kernel
theorem dX0_tick_14 : decode cX0_tick 14 = .ok (.bipush 9, 2) := by decide +kernel
theorem dX0_tick_16 : decode cX0_tick 16 = .ok (.iaload, 1) := by decide +kernel
theorem dX0_tick_17 : decode cX0_tick 17 = .ok (.iadd, 1) := by decide +kernel
theorem dX0_tick_18 : decode cX0_tick 18 = .ok (.goto 12, 3) := by decide +kernel
theorem dX0_tick_21 : decode cX0_tick 21 = .ok (.aload_n 2, 1) := by decide +kernel
theorem dX0_tick_22 : decode cX0_tick 22 = .ok (.bipush 6, 2) := by decide +kernel
theorem dX0_tick_24 : decode cX0_tick 24 = .ok (.iaload, 1) := by decide +kernel
theorem dX0_tick_25 : decode cX0_tick 25 = .ok (.aload_n 2, 1) := by decide +kernel
theorem dX0_tick_26 : decode cX0_tick 26 = .ok (.bipush 9, 2) := by decide +kernel
theorem dX0_tick_28 : decode cX0_tick 28 = .ok (.iaload, 1) := by decide +kernel
theorem dX0_tick_29 : decode cX0_tick 29 = .ok (.isub, 1) := by decide +kernel
theorem dX0_tick_30 : decode cX0_tick 30 = .ok (.istore 5, 2) := by decide +kernel
theorem dX0_tick_32 : decode cX0_tick 32 = .ok (.aload_n 0, 1) := by decide +kernel
theorem dX0_tick_33 : decode cX0_tick 33 = .ok (.iload_n 3, 1) := by decide +kernel
theorem dX0_tick_34 : decode cX0_tick 34 = .ok (.ifCond .eq 12, 3) := by decide +kernel
theorem dX0_tick_37 : decode cX0_tick 37 = .ok (.aload_n 0, 1) := by decide +kernel
theorem dX0_tick_38 : decode cX0_tick 38 = .ok (.aload_n 1, 1) := by decide +kernel
theorem dX0_tick_39 : decode cX0_tick 39 = .ok (.aload_n 2, 1) := by decide +kernel
theorem dX0_tick_40 : decode cX0_tick 40 = .ok (.invokevirtual 40, 3) := by decide +kernel
theorem dX0_tick_43 : decode cX0_tick 43 = .ok (.goto 4, 3) := by decide +kernel
theorem dX0_tick_46 : decode cX0_tick 46 = .ok (.iconst 0, 1) := by decide +kernel
theorem dX0_tick_47 : decode cX0_tick 47 = .ok (.putfield 27, 3) := by decide +kernel
theorem dX0_tick_50 : decode cX0_tick 50 = .ok (.aload_n 0, 1) := by decide +kernel
theorem dX0_tick_51 : decode cX0_tick 51 = .ok (.dup, 1) := by decide +kernel
theorem dX0_tick_52 : decode cX0_tick 52 = .ok (.getfield 18, 3) := by decide +kernel
theorem dX0_tick_55 : decode cX0_tick 55 = .ok (.aload_n 1, 1) := by decide +kernel
theorem dX0_tick_56 : decode cX0_tick 56 = .ok (.aload_n 0, 1) := by decide +kernel
theorem dX0_tick_57 : decode cX0_tick 57 = .ok (.getfield 15, 3) := by decide +kernel
theorem dX0_tick_60 : decode cX0_tick 60 = .ok (.aload_n 0, 1) := by decide +kernel
theorem dX0_tick_61 : decode cX0_tick 61 = .ok (.getfield 18, 3) := by decide +kernel
theorem dX0_tick_64 : decode cX0_tick 64 = .ok (.iload 5, 2) := by decide +kernel
theorem dX0_tick_66 : decode cX0_tick 66 = .ok (.invokevirtual 44, 3) := by decide +kernel
theorem dX0_tick_69 : decode cX0_tick 69 = .ok (.aload_n 2, 1) := by decide +kernel
theorem dX0_tick_70 : decode cX0_tick 70 = .ok (.bipush 8, 2) := by decide +kernel
theorem dX0_tick_72 : decode cX0_tick 72 = .ok (.iaload, 1) := by decide +kernel
theorem dX0_tick_73 : decode cX0_tick 73 = .ok (.iadd, 1) := by decide +kernel
theorem dX0_tick_74 : decode cX0_tick 74 = .ok (.iload 4, 2) := by decide +kernel
theorem dX0_tick_76 : decode cX0_tick 76 = .ok (.iadd, 1) := by decide +kernel
theorem dX0_tick_77 : decode cX0_tick 77 = .ok (.iadd, 1) := by decide +kernel
theorem dX0_tick_78 : decode cX0_tick 78 = .ok (.putfield 18, 3) := by decide +kernel
theorem dX0_tick_81 : decode cX0_tick 81 = .ok (.aload_n 0, 1) := by decide +kernel
theorem dX0_tick_82 : decode cX0_tick 82 = .ok (.dup, 1) := by decide +kernel
theorem dX0_tick_83 : decode cX0_tick 83 = .ok (.getfield 15, 3) := by decide +kernel
theorem dX0_tick_86 : decode cX0_tick 86 = .ok (.aload_n 0, 1) := by decide +kernel
theorem dX0_tick_87 : decode cX0_tick 87 = .ok (.getfield 18, 3) := by decide +kernel
theorem dX0_tick_90 : decode cX0_tick 90 = .ok (.aload_n 0, 1) := by decide +kernel
theorem dX0_tick_91 : decode cX0_tick 91 = .ok (.getfield 27, 3) := by decide +kernel
theorem dX0_tick_94 : decode cX0_tick 94 = .ok (.isub, 1) := by decide +kernel
theorem dX0_tick_95 : decode cX0_tick 95 = .ok (.iadd, 1) := by decide +kernel
theorem dX0_tick_96 : decode cX0_tick 96 = .ok (.putfield 15, 3) := by decide +kernel
theorem dX0_tick_99 : decode cX0_tick 99 = .ok (.aload_n 0, 1) := by decide +kernel
theorem dX0_tick_100 : decode cX0_tick 100 = .ok (.dup, 1) := by decide +kernel
theorem dX0_tick_101 : decode cX0_tick 101 = .ok (.getfield 21, 3) := by decide +kernel
theorem dX0_tick_104 : decode cX0_tick 104 = .ok (.aload_n 0, 1) := by decide +kernel
theorem dX0_tick_105 : decode cX0_tick 105 = .ok (.getfield 27, 3) := by decide +kernel
theorem dX0_tick_108 : decode cX0_tick 108 = .ok (.iadd, 1) := by decide +kernel
theorem dX0_tick_109 : decode cX0_tick 109 = .ok (.putfield 21, 3) := by decide +kernel
theorem dX0_tick_112 : decode cX0_tick 112 = .ok (.aload_n 0, 1) := by decide +kernel
theorem dX0_tick_113 : decode cX0_tick 113 = .ok (.dup, 1) := by decide +kernel
theorem dX0_tick_114 : decode cX0_tick 114 = .ok (.getfield 24, 3) := by decide +kernel
theorem dX0_tick_117 : decode cX0_tick 117 = .ok (.iconst 1, 1) := by decide +kernel
theorem dX0_tick_118 : decode cX0_tick 118 = .ok (.iadd, 1) := by decide +kernel
theorem dX0_tick_119 : decode cX0_tick 119 = .ok (.putfield 24, 3) := by decide +kernel
theorem dX0_tick_122 : decode cX0_tick 122 = .ok (.aload_n 0, 1) := by decide +kernel
theorem dX0_tick_123 : decode cX0_tick 123 = .ok (.getfield 30, 3) := by decide +kernel
theorem dX0_tick_126 : decode cX0_tick 126 = .ok (.aload_n 0, 1) := by decide +kernel
theorem dX0_tick_127 : decode cX0_tick 127 = .ok (.getfield 24, 3) := by decide +kernel
theorem dX0_tick_130 : decode cX0_tick 130 = .ok (.bipush 31, 2) := by decide +kernel
theorem dX0_tick_132 : decode cX0_tick 132 = .ok (.iand, 1) := by decide +kernel
theorem dX0_tick_133 : decode cX0_tick 133 = .ok (.aload_n 0, 1) := by decide +kernel
theorem dX0_tick_134 : decode cX0_tick 134 = .ok (.getfield 15, 3) := by decide +kernel
theorem dX0_tick_137 : decode cX0_tick 137 = .ok (.iastore, 1) := by decide +kernel
theorem dX0_tick_138 : decode cX0_tick 138 = .ok (.return_, 1) := by decide +kernel
theorem dX0_move_0 : decode cX0_move 0 = .ok (.aload_n 0, 1) := by decide +kernel
theorem dX0_move_1 : decode cX0_move 1 = .ok (.getfield 24, 3) := by decide +kernel
theorem dX0_move_4 : decode cX0_move 4 = .ok (.aload_n 2, 1) := by decide +kernel
theorem dX0_move_5 : decode cX0_move 5 = .ok (.iconst 2, 1) := by decide +kernel
theorem dX0_move_6 : decode cX0_move 6 = .ok (.iaload, 1) := by decide +kernel
theorem dX0_move_7 : decode cX0_move 7 = .ok (.isub, 1) := by decide +kernel
theorem dX0_move_8 : decode cX0_move 8 = .ok (.aload_n 1, 1) := by decide +kernel
theorem dX0_move_9 : decode cX0_move 9 = .ok (.invokevirtual 50, 3) := by decide +kernel
theorem dX0_move_12 : decode cX0_move 12 = .ok (.isub, 1) := by decide +kernel
theorem dX0_move_13 : decode cX0_move 13 = .ok (.istore_n 3, 1) := by decide +kernel
theorem dX0_move_14 : decode cX0_move 14 = .ok (.aload_n 2, 1) := by decide +kernel
theorem dX0_move_15 : decode cX0_move 15 = .ok (.aload_n 0, 1) := by decide +kernel
theorem dX0_move_16 : decode cX0_move 16 = .ok (.iload_n 3, 1) := by decide +kernel
theorem dX0_move_17 : decode cX0_move 17 = .ok (.invokevirtual 54, 3) := by decide +kernel
theorem dX0_move_20 : decode cX0_move 20 = .ok (.aload_n 0, 1) := by decide +kernel
theorem dX0_move_21 : decode cX0_move 21 = .ok (.iload_n 3, 1) := by decide +kernel
theorem dX0_move_22 : decode cX0_move 22 = .ok (.iconst 1, 1) := by decide +kernel
theorem dX0_move_23 : decode cX0_move 23 = .ok (.isub, 1) := by decide +kernel
theorem dX0_move_24 : decode cX0_move 24 = .ok (.invokevirtual 54, 3) := by decide +kernel
theorem dX0_move_27 : decode cX0_move 27 = .ok (.invokestatic 58, 3) := by decide +kernel
theorem dX0_move_30 : decode cX0_move 30 = .ok (.istore 4, 2) := by decide +kernel
theorem dX0_move_32 : decode cX0_move 32 = .ok (.aload_n 0, 1) := by decide +kernel
theorem dX0_move_33 : decode cX0_move 33 = .ok (.getfield 21, 3) := by decide +kernel
theorem dX0_move_36 : decode cX0_move 36 = .ok (.iload 4, 2) := by decide +kernel
theorem dX0_move_38 : decode cX0_move 38 = .ok (.iadd, 1) := by decide +kernel
theorem dX0_move_39 : decode cX0_move 39 = .ok (.aload_n 2, 1) := by decide +kernel
theorem dX0_move_40 : decode cX0_move 40 = .ok (.iconst 5, 1) := by decide +kernel
theorem dX0_move_41 : decode cX0_move 41 = .ok (.iaload, 1) := by decide +kernel
theorem dX0_move_42 : decode cX0_move 42 = .ok (.invokestatic 62, 3) := by decide +kernel
theorem dX0_move_45 : decode cX0_move 45 = .ok (.aload_n 0, 1) := by decide +kernel
theorem dX0_move_46 : decode cX0_move 46 = .ok (.getfield 21, 3) := by decide +kernel
theorem dX0_move_49 : decode cX0_move 49 = .ok (.isub, 1) := by decide +kernel
theorem dX0_move_50 : decode cX0_move 50 = .ok (.ireturn, 1) := by decide +kernel
theorem dX0_was_0 : decode cX0_was 0 = .ok (.iload_n 1, 1) := by decide +kernel
theorem dX0_was_1 : decode cX0_was 1 = .ok (.ifCond .le 15, 3) := by decide +kernel
theorem dX0_was_4 : decode cX0_was 4 = .ok (.aload_n 0, 1) := by decide +kernel
theorem dX0_was_5 : decode cX0_was 5 = .ok (.getfield 30, 3) := by decide +kernel
theorem dX0_was_8 : decode cX0_was 8 = .ok (.iload_n 1, 1) := by decide +kernel
theorem dX0_was_9 : decode cX0_was 9 = .ok (.bipush 31, 2) := by decide +kernel
theorem dX0_was_11 : decode cX0_was 11 = .ok (.iand, 1) := by decide +kernel
theorem dX0_was_12 : decode cX0_was 12 = .ok (.iaload, 1) := by decide +kernel
theorem dX0_was_13 : decode cX0_was 13 = .ok (.goto 9, 3) := by decide +kernel
theorem dX0_was_16 : decode cX0_was 16 = .ok (.aload_n 0, 1) := by decide +kernel
theorem dX0_was_17 : decode cX0_was 17 = .ok (.getfield 30, 3) := by decide +kernel
theorem dX0_was_20 : decode cX0_was 20 = .ok (.iconst 0, 1) := by decide +kernel
theorem dX0_was_21 : decode cX0_was 21 = .ok (.iaload, 1) := by decide +kernel
theorem dX0_was_22 : decode cX0_was 22 = .ok (.ireturn, 1) := by decide +kernel
theorem dX0_isAgain_0 : decode cX0_isAgain 0 = .ok (.aload_n 0, 1) := by decide +kernel
theorem dX0_isAgain_1 : decode cX0_isAgain 1 = .ok (.getfield 15, 3) := by decide +kernel
theorem dX0_isAgain_4 : decode cX0_isAgain 4 = .ok (.aload_n 1, 1) := by decide +kernel
theorem dX0_isAgain_5 : decode cX0_isAgain 5 = .ok (.getfield 15, 3) := by decide +kernel
theorem dX0_isAgain_8 : decode cX0_isAgain 8 = .ok (.if_icmp .ne 39, 3) := by decide +kernel
theorem dX0_isAgain_11 : decode cX0_isAgain 11 = .ok (.aload_n 0, 1) := by decide +kernel
theorem dX0_isAgain_12 : decode cX0_isAgain 12 = .ok (.getfield 18, 3) := by decide +kernel
theorem dX0_isAgain_15 : decode cX0_isAgain 15 = .ok (.aload_n 1, 1) := by decide +kernel
theorem dX0_isAgain_16 : decode cX0_isAgain 16 = .ok (.getfield 18, 3) := by decide +kernel
theorem dX0_isAgain_19 : decode cX0_isAgain 19 = .ok (.if_icmp .ne 28, 3) := by decide +kernel
theorem dX0_isAgain_22 : decode cX0_isAgain 22 = .ok (.aload_n 0, 1) := by decide +kernel
theorem dX0_isAgain_23 : decode cX0_isAgain 23 = .ok (.getfield 21, 3) := by decide +kernel
theorem dX0_isAgain_26 : decode cX0_isAgain 26 = .ok (.aload_n 1, 1) := by decide +kernel
theorem dX0_isAgain_27 : decode cX0_isAgain 27 = .ok (.getfield 21, 3) := by decide +kernel
theorem dX0_isAgain_30 : decode cX0_isAgain 30 = .ok (.if_icmp .ne 17, 3) := by decide +kernel
theorem dX0_isAgain_33 : decode cX0_isAgain 33 = .ok (.aload_n 0, 1) := by decide +kernel
theorem dX0_isAgain_34 : decode cX0_isAgain 34 = .ok (.getfield 24, 3) := by decide +kernel
theorem dX0_isAgain_37 : decode cX0_isAgain 37 = .ok (.aload_n 1, 1) := by decide +kernel
theorem dX0_isAgain_38 : decode cX0_isAgain 38 = .ok (.getfield 24, 3) := by decide +kernel
theorem dX0_isAgain_41 : decode cX0_isAgain 41 = .ok (.isub, 1) := by decide +kernel
theorem dX0_isAgain_42 : decode cX0_isAgain 42 = .ok (.iconst 2, 1) := by decide +kernel
theorem dX0_isAgain_43 : decode cX0_isAgain 43 = .ok (.irem, 1) := by decide +kernel
theorem dX0_isAgain_44 : decode cX0_isAgain 44 = .ok (.ifCond .eq 5, 3) := by decide +kernel
theorem dX0_isAgain_47 : decode cX0_isAgain 47 = .ok (.iconst 0, 1) := by decide +kernel
theorem dX0_isAgain_48 : decode cX0_isAgain 48 = .ok (.ireturn, 1) := by decide +kernel
theorem dX0_isAgain_49 : decode cX0_isAgain 49 = .ok (.iconst 1, 1) := by decide +kernel
theorem dX0_isAgain_50 : decode cX0_isAgain 50 = .ok (.istore_n 3, 1) := by decide +kernel
theorem dX0_isAgain_51 : decode cX0_isAgain 51 = .ok (.iload_n 3, 1) := by decide +kernel
theorem dX0_isAgain_52 : decode cX0_isAgain 52 = .ok (.iload_n 2, 1) := by decide +kernel
theorem dX0_isAgain_53 : decode cX0_isAgain 53 = .ok (.if_icmp .gt 34, 3) := by decide +kernel
theorem dX0_isAgain_56 : decode cX0_isAgain 56 = .ok (.aload_n 0, 1) := by decide +kernel
theorem dX0_isAgain_57 : decode cX0_isAgain 57 = .ok (.aload_n 0, 1) := by decide +kernel
theorem dX0_isAgain_58 : decode cX0_isAgain 58 = .ok (.getfield 24, 3) := by decide +kernel
theorem dX0_isAgain_61 : decode cX0_isAgain 61 = .ok (.iload_n 3, 1) := by decide +kernel
theorem dX0_isAgain_62 : decode cX0_isAgain 62 = .ok (.isub, 1) := by decide +kernel
theorem dX0_isAgain_63 : decode cX0_isAgain 63 = .ok (.invokevirtual 54, 3) := by decide +kernel
theorem dX0_isAgain_66 : decode cX0_isAgain 66 = .ok (.aload_n 1, 1) := by decide +kernel
theorem dX0_isAgain_67 : decode cX0_isAgain 67 = .ok (.aload_n 1, 1) := by decide +kernel
theorem dX0_isAgain_68 : decode cX0_isAgain 68 = .ok (.getfield 24, 3) := by decide +kernel
theorem dX0_isAgain_71 : decode cX0_isAgain 71 = .ok (.iload_n 3, 1) := by decide +kernel
theorem dX0_isAgain_72 : decode cX0_isAgain 72 = .ok (.isub, 1) := by decide +kernel
theorem dX0_isAgain_73 : decode cX0_isAgain 73 = .ok (.invokevirtual 54, 3) := by decide +kernel
theorem dX0_isAgain_76 : decode cX0_isAgain 76 = .ok (.if_icmp .eq 5, 3) := by decide +kernel
theorem dX0_isAgain_79 : decode cX0_isAgain 79 = .ok (.iconst 0, 1) := by decide +kernel
theorem dX0_isAgain_80 : decode cX0_isAgain 80 = .ok (.ireturn, 1) := by decide +kernel
theorem dX0_isAgain_81 : decode cX0_isAgain 81 = .ok (.iinc 3 1, 3) := by decide +kernel
theorem dX0_isAgain_84 : decode cX0_isAgain 84 = .ok (.goto (-33), 3) := by decide +kernel
theorem dX0_isAgain_87 : decode cX0_isAgain 87 = .ok (.iconst 1, 1) := by decide +kernel
theorem dX0_isAgain_88 : decode cX0_isAgain 88 = .ok (.ireturn, 1) := by decide +kernel
theorem dX1_init_0 : decode cX1_init 0 = .ok (.aload_n 0, 1) := by decide +kernel
theorem dX1_init_1 : decode cX1_init 1 = .ok (.invokespecial 3, 3) := by decide +kernel
theorem dX1_init_4 : decode cX1_init 4 = .ok (.aload_n 0, 1) := by decide +kernel
theorem dX1_init_5 : decode cX1_init 5 = .ok (.iconst (-1), 1) := by decide +kernel
theorem dX1_init_6 : decode cX1_init 6 = .ok (.putfield 9, 3) := by decide +kernel
theorem dX1_init_9 : decode cX1_init 9 = .ok (.aload_n 0, 1) := by decide +kernel
theorem dX1_init_10 : decode cX1_init 10 = .ok (.bipush 28, 2) := by decide +kernel
theorem dX1_init_12 : decode cX1_init 12 = .ok (.newarray .int, 2) := by decide +kernel
theorem dX1_init_14 : decode cX1_init 14 = .ok (.putfield 15, 3) := by decide +kernel
theorem dX1_init_17 : decode cX1_init 17 = .ok (.return_, 1) := by decide +kernel
theorem dX1_tryAll_0 : decode cX1_tryAll 0 = .ok (.iconst 0, 1) := by decide +kernel
theorem dX1_tryAll_1 : decode cX1_tryAll 1 = .ok (.istore_n 3, 1) := by decide +kernel
theorem dX1_tryAll_2 : decode cX1_tryAll 2 = .ok (.iload_n 3, 1) := by decide +kernel
theorem dX1_tryAll_3 : decode cX1_tryAll 3 = .ok (.iconst 4, 1) := by decide +kernel
theorem dX1_tryAll_4 : decode cX1_tryAll 4 = .ok (.if_icmp .ge 55, 3) := by decide +kernel
theorem dX1_tryAll_7 : decode cX1_tryAll 7 = .ok (.iconst 0, 1) := by decide +kernel
theorem dX1_tryAll_8 : decode cX1_tryAll 8 = .ok (.istore 4, 2) := by decide +kernel
theorem dX1_tryAll_10 : decode cX1_tryAll 10 = .ok (.iload 4, 2) := by decide +kernel
theorem dX1_tryAll_12 : decode cX1_tryAll 12 = .ok (.bipush 7, 2) := by decide +kernel
theorem dX1_tryAll_14 : decode cX1_tryAll 14 = .ok (.if_icmp .ge 39, 3) := by decide +kernel
theorem dX1_tryAll_17 : decode cX1_tryAll 17 = .ok (.aload_n 2, 1) := by decide +kernel
theorem dX1_tryAll_18 : decode cX1_tryAll 18 = .ok (.getfield 19, 3) := by decide +kernel
theorem dX1_tryAll_21 : decode cX1_tryAll 21 = .ok (.iconst 2, 1) := by decide +kernel
theorem dX1_tryAll_22 : decode cX1_tryAll 22 = .ok (.iload 4, 2) := by decide +kernel
theorem dX1_tryAll_24 : decode cX1_tryAll 24 = .ok (.iastore, 1) := by decide +kernel
theorem dX1_tryAll_25 : decode cX1_tryAll 25 = .ok (.aload_n 0, 1) := by decide +kernel
theorem dX1_tryAll_26 : decode cX1_tryAll 26 = .ok (.getfield 15, 3) := by decide +kernel
theorem dX1_tryAll_29 : decode cX1_tryAll 29 = .ok (.iload_n 3, 1) := by decide +kernel
theorem dX1_tryAll_30 : decode cX1_tryAll 30 = .ok (.bipush 7, 2) := by decide +kernel
theorem dX1_tryAll_32 : decode cX1_tryAll 32 = .ok (.imul, 1) := by decide +kernel
theorem dX1_tryAll_33 : decode cX1_tryAll 33 = .ok (.iload 4, 2) := by decide +kernel
theorem dX1_tryAll_35 : decode cX1_tryAll 35 = .ok (.iadd, 1) := by decide +kernel
theorem dX1_tryAll_36 : decode cX1_tryAll 36 = .ok (.aload_n 1, 1) := by decide +kernel
theorem dX1_tryAll_37 : decode cX1_tryAll 37 = .ok (.getfield 24, 3) := by decide +kernel
theorem dX1_tryAll_40 : decode cX1_tryAll 40 = .ok (.iload_n 3, 1) := by decide +kernel
theorem dX1_tryAll_41 : decode cX1_tryAll 41 = .ok (.aaload, 1) := by decide +kernel
theorem dX1_tryAll_42 : decode cX1_tryAll 42 = .ok (.aload_n 2, 1) := by decide +kernel
theorem dX1_tryAll_43 : decode cX1_tryAll 43 = .ok (.invokestatic 30, 3) := by decide +kernel
theorem dX1_tryAll_46 : decode cX1_tryAll 46 = .ok (.iastore, 1) := by decide +kernel
theorem dX1_tryAll_47 : decode cX1_tryAll 47 = .ok (.iinc 4 1, 3) := by decide +kernel
theorem dX1_tryAll_50 : decode cX1_tryAll 50 = .ok (.goto (-40), 3) := by decide +kernel
theorem dX1_tryAll_53 : decode cX1_tryAll 53 = .ok (.iinc 3 1, 3) := by decide +kernel
theorem dX1_tryAll_56 : decode cX1_tryAll 56 = .ok (.goto (-54), 3) := by decide +kernel
theorem dX1_tryAll_59 : decode cX1_tryAll 59 = .ok (.return_, 1) := by decide +kernel
theorem dX1_lesson_0 : decode cX1_lesson 0 = .ok (.aload_n 0, 1) := by decide +kernel
theorem dX1_lesson_1 : decode cX1_lesson 1 = .ok (.getfield 34, 3) := by decide +kernel
theorem dX1_lesson_4 : decode cX1_lesson 4 = .ok (.ifCond .gt 5, 3) := by decide +kernel
theorem dX1_lesson_7 : decode cX1_lesson 7 = .ok (.iconst (-1), 1) := by decide +kernel
theorem dX1_lesson_8 : decode cX1_lesson 8 = .ok (.ireturn, 1) := by decide +kernel
theorem dX1_lesson_9 : decode cX1_lesson 9 = .ok (.aload_n 1, 1) := by decide +kernel
theorem dX1_lesson_10 : decode cX1_lesson 10 = .ok (.aload_n 0, 1) := by decide +kernel
theorem dX1_lesson_11 : decode cX1_lesson 11 = .ok (.bipush 10, 2) := by decide +kernel
theorem dX1_lesson_13 : decode cX1_lesson 13 = .ok (.iconst 0, 1) := by decide +kernel
theorem dX1_lesson_14 : decode cX1_lesson 14 = .ok (.bipush 40, 2) := by decide +kernel
theorem dX1_lesson_16 : decode cX1_lesson 16 = .ok (.invokevirtual 39, 3) := by decide +kernel
theorem dX1_lesson_19 : decode cX1_lesson 19 = .ok (.bipush 40, 2) := by decide +kernel
theorem dX1_lesson_21 : decode cX1_lesson 21 = .ok (.if_icmp .ge 5, 3) := by decide +kernel
theorem dX1_lesson_24 : decode cX1_lesson 24 = .ok (.iconst 0, 1) := by decide +kernel
theorem dX1_lesson_25 : decode cX1_lesson 25 = .ok (.ireturn, 1) := by decide +kernel
theorem dX1_lesson_26 : decode cX1_lesson 26 = .ok (.iconst 1, 1) := by decide +kernel
theorem dX1_lesson_27 : decode cX1_lesson 27 = .ok (.sipush 200, 3) := by decide +kernel
theorem dX1_lesson_30 : decode cX1_lesson 30 = .ok (.aload_n 0, 1) := by decide +kernel
theorem dX1_lesson_31 : decode cX1_lesson 31 = .ok (.getfield 34, 3) := by decide +kernel
theorem dX1_lesson_34 : decode cX1_lesson 34 = .ok (.bipush 20, 2) := by decide +kernel
theorem dX1_lesson_36 : decode cX1_lesson 36 = .ok (.iadd, 1) := by decide +kernel
theorem dX1_lesson_37 : decode cX1_lesson 37 = .ok (.idiv, 1) := by decide +kernel
theorem dX1_lesson_38 : decode cX1_lesson 38 = .ok (.invokestatic 43, 3) := by decide +kernel
theorem dX1_lesson_41 : decode cX1_lesson 41 = .ok (.ireturn, 1) := by decide +kernel
theorem dX1_firstBest_0 : decode cX1_firstBest 0 = .ok (.iconst (-1), 1) := by decide +kernel
theorem dX1_firstBest_1 : decode cX1_firstBest 1 = .ok (.istore_n 3, 1) := by decide +kernel
theorem dX1_firstBest_2 : decode cX1_firstBest 2 = .ok (.iconst 4, 1) := by decide +kernel
theorem dX1_firstBest_3 : decode cX1_firstBest 3 = .ok (.iload_n 2, 1) := by decide +kernel
theorem dX1_firstBest_4 : decode cX1_firstBest 4 = .ok (.invokestatic 49, 3) := by decide +kernel
theorem dX1_firstBest_7 : decode cX1_firstBest 7 = .ok (.istore 4, 2) := by decide +kernel
theorem dX1_firstBest_9 : decode cX1_firstBest 9 = .ok (.iconst 0, 1) := by decide +kernel
theorem dX1_firstBest_10 : decode cX1_firstBest 10 = .ok (.istore 5, 2) := by decide +kernel
theorem dX1_firstBest_12 : decode cX1_firstBest 12 = .ok (.iload 5, 2) := by decide +kernel
theorem dX1_firstBest_14 : decode cX1_firstBest 14 = .ok (.iload 4, 2) := by decide +kernel
theorem dX1_firstBest_16 : decode cX1_firstBest 16 = .ok (.if_icmp .ge 48, 3) := by decide +kernel
theorem dX1_firstBest_19 : decode cX1_firstBest 19 = .ok (.aload_n 0, 1) := by decide +kernel
theorem dX1_firstBest_20 : decode cX1_firstBest 20 = .ok (.iload_n 1, 1) := by decide +kernel
theorem dX1_firstBest_21 : decode cX1_firstBest 21 = .ok (.iload 5, 2) := by decide +kernel
theorem dX1_firstBest_23 : decode cX1_firstBest 23 = .ok (.iload_n 2, 1) := by decide +kernel
theorem dX1_firstBest_24 : decode cX1_firstBest 24 = .ok (.invokevirtual 52, 3) := by decide +kernel
theorem dX1_firstBest_27 : decode cX1_firstBest 27 = .ok (.istore 6, 2) := by decide +kernel
theorem dX1_firstBest_29 : decode cX1_firstBest 29 = .ok (.iload 6, 2) := by decide +kernel
theorem dX1_firstBest_31 : decode cX1_firstBest 31 = .ok (.iconst (-1), 1) := by decide +kernel
theorem dX1_firstBest_32 : decode cX1_firstBest 32 = .ok (.if_icmp .eq 26, 3) := by decide +kernel
theorem dX1_firstBest_35 : decode cX1_firstBest 35 = .ok (.iload_n 3, 1) := by decide +kernel
theorem dX1_firstBest_36 : decode cX1_firstBest 36 = .ok (.iconst (-1), 1) := by decide +kernel
theorem dX1_firstBest_37 : decode cX1_firstBest 37 = .ok (.if_icmp .eq 12, 3) := by decide +kernel
theorem dX1_firstBest_40 : decode cX1_firstBest 40 = .ok (.iload 6, 2) := by decide +kernel
theorem dX1_firstBest_42 : decode cX1_firstBest 42 = .ok (.aload_n 0, 1) := by decide +kernel
theorem dX1_firstBest_43 : decode cX1_firstBest 43 = .ok (.getfield 9, 3) := by decide +kernel
theorem dX1_firstBest_46 : decode cX1_firstBest 46 = .ok (.if_icmp .ge 12, 3) := by decide +kernel
theorem dX1_firstBest_49 : decode cX1_firstBest 49 = .ok (.iload 5, 2) := by decide +kernel
theorem dX1_firstBest_51 : decode cX1_firstBest 51 = .ok (.istore_n 3, 1) := by decide +kernel
theorem dX1_firstBest_52 : decode cX1_firstBest 52 = .ok (.aload_n 0, 1) := by decide +kernel
theorem dX1_firstBest_53 : decode cX1_firstBest 53 = .ok (.iload 6, 2) := by decide +kernel
theorem dX1_firstBest_55 : decode cX1_firstBest 55 = .ok (.putfield 9, 3) := by decide +kernel
theorem dX1_firstBest_58 : decode cX1_firstBest 58 = .ok (.iinc 5 1, 3) := by decide +kernel
theorem dX1_firstBest_61 : decode cX1_firstBest 61 = .ok (.goto (-49), 3) := by decide +kernel
theorem dX1_firstBest_64 : decode cX1_firstBest 64 = .ok (.iload_n 3, 1) := by decide +kernel
theorem dX1_firstBest_65 : decode cX1_firstBest 65 = .ok (.ireturn, 1) := by decide +kernel
theorem dX1_tenthsBehind_0 : decode cX1_tenthsBehind 0 = .ok (.iload_n 1, 1) := by decide +kernel
theorem dX1_tenthsBehind_1 : decode cX1_tenthsBehind 1 = .ok (.istore 4, 2) := by decide +kernel
theorem dX1_tenthsBehind_3 : decode cX1_tenthsBehind 3 = .ok (.iconst 0, 1) := by decide +kernel
theorem dX1_tenthsBehind_4 : decode cX1_tenthsBehind 4 = .ok (.istore 5, 2) := by decide +kernel
theorem dX1_tenthsBehind_6 : decode cX1_tenthsBehind 6 = .ok (.iload 5, 2) := by decide +kernel
theorem dX1_tenthsBehind_8 : decode cX1_tenthsBehind 8 = .ok (.iload_n 3, 1) := by decide +kernel
theorem dX1_tenthsBehind_9 : decode cX1_tenthsBehind 9 = .ok (.if_icmp .ge 56, 3) := by decide +kernel
theorem dX1_tenthsBehind_12 : decode cX1_tenthsBehind 12 = .ok (.aload_n 0, 1) := by decide +kernel
theorem dX1_tenthsBehind_13 : decode cX1_tenthsBehind 13 = .ok (.getfield 15, 3) := by decide +kernel
theorem dX1_tenthsBehind_16 : decode cX1_tenthsBehind 16 = .ok (.iload_n 2, 1) := by decide +kernel
theorem dX1_tenthsBehind_17 : decode cX1_tenthsBehind 17 = .ok (.iload_n 3, 1) := by decide +kernel
theorem dX1_tenthsBehind_18 : decode cX1_tenthsBehind 18 = .ok (.iload 5, 2) := by decide +kernel
theorem dX1_tenthsBehind_20 : decode cX1_tenthsBehind 20 = .ok (.invokestatic 56, 3) := by decide +kernel
theorem dX1_tenthsBehind_23 : decode cX1_tenthsBehind 23 = .ok (.bipush 7, 2) := by decide +kernel
theorem dX1_tenthsBehind_25 : decode cX1_tenthsBehind 25 = .ok (.imul, 1) := by decide +kernel
theorem dX1_tenthsBehind_26 : decode cX1_tenthsBehind 26 = .ok (.bipush 6, 2) := by decide +kernel
theorem dX1_tenthsBehind_28 : decode cX1_tenthsBehind 28 = .ok (.iload 4, 2) := by decide +kernel
theorem dX1_tenthsBehind_30 : decode cX1_tenthsBehind 30 = .ok (.bipush 10, 2) := by decide +kernel
theorem dX1_tenthsBehind_32 : decode cX1_tenthsBehind 32 = .ok (.idiv, 1) := by decide +kernel
theorem dX1_tenthsBehind_33 : decode cX1_tenthsBehind 33 = .ok (.invokestatic 59, 3) := by decide +kernel
theorem dX1_tenthsBehind_36 : decode cX1_tenthsBehind 36 = .ok (.iadd, 1) := by decide +kernel
theorem dX1_tenthsBehind_37 : decode cX1_tenthsBehind 37 = .ok (.iaload, 1) := by decide +kernel
theorem dX1_tenthsBehind_38 : decode cX1_tenthsBehind 38 = .ok (.istore 6, 2) := by decide +kernel
theorem dX1_tenthsBehind_40 : decode cX1_tenthsBehind 40 = .ok (.iload 6, 2) := by decide +kernel
theorem dX1_tenthsBehind_42 : decode cX1_tenthsBehind 42 = .ok (.iconst (-1), 1) := by decide +kernel
theorem dX1_tenthsBehind_43 : decode cX1_tenthsBehind 43 = .ok (.if_icmp .ne 5, 3) := by decide +kernel
theorem dX1_tenthsBehind_46 : decode cX1_tenthsBehind 46 = .ok (.iconst (-1), 1) := by decide +kernel
theorem dX1_tenthsBehind_47 : decode cX1_tenthsBehind 47 = .ok (.ireturn, 1) := by decide +kernel
theorem dX1_tenthsBehind_48 : decode cX1_tenthsBehind 48 = .ok (.iconst 0, 1) := by decide +kernel
theorem dX1_tenthsBehind_49 : decode cX1_tenthsBehind 49 = .ok (.iload 4, 2) := by decide +kernel
theorem dX1_tenthsBehind_51 : decode cX1_tenthsBehind 51 = .ok (.iload 6, 2) := by decide +kernel
theorem dX1_tenthsBehind_53 : decode cX1_tenthsBehind 53 = .ok (.isub, 1) := by decide +kernel
theorem dX1_tenthsBehind_54 : decode cX1_tenthsBehind 54 = .ok (.invokestatic 43, 3) := by decide +kernel
theorem dX1_tenthsBehind_57 : decode cX1_tenthsBehind 57 = .ok (.istore 4, 2) := by decide +kernel
theorem dX1_tenthsBehind_59 : decode cX1_tenthsBehind 59 = .ok (.iinc 5 1, 3) := by decide +kernel
theorem dX1_tenthsBehind_62 : decode cX1_tenthsBehind 62 = .ok (.goto (-56), 3) := by decide +kernel
theorem dX1_tenthsBehind_65 : decode cX1_tenthsBehind 65 = .ok (.iload 4, 2) := by decide +kernel
theorem dX1_tenthsBehind_67 : decode cX1_tenthsBehind 67 = .ok (.ireturn, 1) := by decide +kernel
theorem dX1_thingOf_0 : decode cX1_thingOf 0 = .ok (.iload_n 0, 1) := by decide +kernel
theorem dX1_thingOf_1 : decode cX1_thingOf 1 = .ok (.istore_n 3, 1) := by decide +kernel
theorem dX1_thingOf_2 : decode cX1_thingOf 2 = .ok (.iload_n 2, 1) := by decide +kernel
theorem dX1_thingOf_3 : decode cX1_thingOf 3 = .ok (.iconst 1, 1) := by decide +kernel
theorem dX1_thingOf_4 : decode cX1_thingOf 4 = .ok (.iadd, 1) := by decide +kernel
theorem dX1_thingOf_5 : decode cX1_thingOf 5 = .ok (.istore 4, 2) := by decide +kernel
theorem dX1_thingOf_7 : decode cX1_thingOf 7 = .ok (.iload 4, 2) := by decide +kernel
theorem dX1_thingOf_9 : decode cX1_thingOf 9 = .ok (.iload_n 1, 1) := by decide +kernel
theorem dX1_thingOf_10 : decode cX1_thingOf 10 = .ok (.if_icmp .ge 13, 3) := by decide +kernel
theorem dX1_thingOf_13 : decode cX1_thingOf 13 = .ok (.iload_n 3, 1) := by decide +kernel
theorem dX1_thingOf_14 : decode cX1_thingOf 14 = .ok (.iconst 4, 1) := by decide +kernel
theorem dX1_thingOf_15 : decode cX1_thingOf 15 = .ok (.idiv, 1) := by decide +kernel
theorem dX1_thingOf_16 : decode cX1_thingOf 16 = .ok (.istore_n 3, 1) := by decide +kernel
theorem dX1_thingOf_17 : decode cX1_thingOf 17 = .ok (.iinc 4 1, 3) := by decide +kernel
theorem dX1_thingOf_20 : decode cX1_thingOf 20 = .ok (.goto (-13), 3) := by decide +kernel
theorem dX1_thingOf_23 : decode cX1_thingOf 23 = .ok (.iload_n 3, 1) := by decide +kernel
theorem dX1_thingOf_24 : decode cX1_thingOf 24 = .ok (.iconst 4, 1) := by decide +kernel
theorem dX1_thingOf_25 : decode cX1_thingOf 25 = .ok (.irem, 1) := by decide +kernel
theorem dX1_thingOf_26 : decode cX1_thingOf 26 = .ok (.ireturn, 1) := by decide +kernel
theorem dX2_init_0 : decode cX2_init 0 = .ok (.aload_n 0, 1) := by decide +kernel
theorem dX2_init_1 : decode cX2_init 1 = .ok (.invokespecial 3, 3) := by decide +kernel
theorem dX2_init_4 : decode cX2_init 4 = .ok (.aload_n 0, 1) := by decide +kernel
theorem dX2_init_5 : decode cX2_init 5 = .ok (.iconst 0, 1) := by decide +kernel
theorem dX2_init_6 : decode cX2_init 6 = .ok (.putfield 9, 3) := by decide +kernel
theorem dX2_init_9 : decode cX2_init 9 = .ok (.aload_n 0, 1) := by decide +kernel
theorem dX2_init_10 : decode cX2_init 10 = .ok (.iconst 0, 1) := by decide +kernel
theorem dX2_init_11 : decode cX2_init 11 = .ok (.putfield 15, 3) := by decide +kernel
theorem dX2_init_14 : decode cX2_init 14 = .ok (.aload_n 0, 1) := by decide +kernel
theorem dX2_init_15 : decode cX2_init 15 = .ok (.iconst (-1), 1) := by decide +kernel
theorem dX2_init_16 : decode cX2_init 16 = .ok (.putfield 18, 3) := by decide +kernel
theorem dX2_init_19 : decode cX2_init 19 = .ok (.aload_n 0, 1) := by decide +kernel
theorem dX2_init_20 : decode cX2_init 20 = .ok (.iconst (-1), 1) := by decide +kernel
theorem dX2_init_21 : decode cX2_init 21 = .ok (.putfield 21, 3) := by decide +kernel
theorem dX2_init_24 : decode cX2_init 24 = .ok (.aload_n 0, 1) := by decide +kernel
theorem dX2_init_25 : decode cX2_init 25 = .ok (.iconst (-1), 1) := by decide +kernel
theorem dX2_init_26 : decode cX2_init 26 = .ok (.putfield 24, 3) := by decide +kernel
theorem dX2_init_29 : decode cX2_init 29 = .ok (.aload_n 0, 1) := by decide +kernel
theorem dX2_init_30 : decode cX2_init 30 = .ok (.iconst 0, 1) := by decide +kernel
theorem dX2_init_31 : decode cX2_init 31 = .ok (.putfield 27, 3) := by decide +kernel
theorem dX2_init_34 : decode cX2_init 34 = .ok (.aload_n 0, 1) := by decide +kernel
theorem dX2_init_35 : decode cX2_init 35 = .ok (.iconst 0, 1) := by decide +kernel
theorem dX2_init_36 : decode cX2_init 36 = .ok (.putfield 30, 3) := by decide +kernel
theorem dX2_init_39 : decode cX2_init 39 = .ok (.aload_n 0, 1) := by decide +kernel
theorem dX2_init_40 : decode cX2_init 40 = .ok (.bipush 25, 2) := by decide +kernel
theorem dX2_init_42 : decode cX2_init 42 = .ok (.newarray .int, 2) := by decide +kernel
theorem dX2_init_44 : decode cX2_init 44 = .ok (.putfield 33, 3) := by decide +kernel
theorem dX2_init_47 : decode cX2_init 47 = .ok (.aload_n 0, 1) := by decide +kernel
theorem dX2_init_48 : decode cX2_init 48 = .ok (.bipush 24, 2) := by decide +kernel
theorem dX2_init_50 : decode cX2_init 50 = .ok (.newarray .int, 2) := by decide +kernel
theorem dX2_init_52 : decode cX2_init 52 = .ok (.putfield 37, 3) := by decide +kernel
theorem dX2_init_55 : decode cX2_init 55 = .ok (.aload_n 0, 1) := by decide +kernel
theorem dX2_init_56 : decode cX2_init 56 = .ok (.bipush 10, 2) := by decide +kernel
theorem dX2_init_58 : decode cX2_init 58 = .ok (.newarray .int, 2) := by decide +kernel
theorem dX2_init_60 : decode cX2_init 60 = .ok (.putfield 40, 3) := by decide +kernel
theorem dX2_init_63 : decode cX2_init 63 = .ok (.return_, 1) := by decide +kernel
theorem dX2_append_0 : decode cX2_append 0 = .ok (.aload_n 0, 1) := by decide +kernel
theorem dX2_append_1 : decode cX2_append 1 = .ok (.getfield 9, 3) := by decide +kernel
theorem dX2_append_4 : decode cX2_append 4 = .ok (.bipush 24, 2) := by decide +kernel
theorem dX2_append_6 : decode cX2_append 6 = .ok (.if_icmp .ge 33, 3) := by decide +kernel
theorem dX2_append_9 : decode cX2_append 9 = .ok (.aload_n 0, 1) := by decide +kernel
theorem dX2_append_10 : decode cX2_append 10 = .ok (.getfield 33, 3) := by decide +kernel
theorem dX2_append_13 : decode cX2_append 13 = .ok (.aload_n 0, 1) := by decide +kernel
theorem dX2_append_14 : decode cX2_append 14 = .ok (.getfield 9, 3) := by decide +kernel
theorem dX2_append_17 : decode cX2_append 17 = .ok (.iload_n 1, 1) := by decide +kernel
theorem dX2_append_18 : decode cX2_append 18 = .ok (.iastore, 1) := by decide +kernel
theorem dX2_append_19 : decode cX2_append 19 = .ok (.aload_n 0, 1) := by decide +kernel
theorem dX2_append_20 : decode cX2_append 20 = .ok (.getfield 37, 3) := by decide +kernel
theorem dX2_append_23 : decode cX2_append 23 = .ok (.aload_n 0, 1) := by decide +kernel
theorem dX2_append_24 : decode cX2_append 24 = .ok (.getfield 9, 3) := by decide +kernel
theorem dX2_append_27 : decode cX2_append 27 = .ok (.iload_n 2, 1) := by decide +kernel
theorem dX2_append_28 : decode cX2_append 28 = .ok (.iastore, 1) := by decide +kernel
theorem dX2_append_29 : decode cX2_append 29 = .ok (.aload_n 0, 1) := by decide +kernel
theorem dX2_append_30 : decode cX2_append 30 = .ok (.dup, 1) := by decide +kernel
theorem dX2_append_31 : decode cX2_append 31 = .ok (.getfield 9, 3) := by decide +kernel
theorem dX2_append_34 : decode cX2_append 34 = .ok (.iconst 1, 1) := by decide +kernel
theorem dX2_append_35 : decode cX2_append 35 = .ok (.iadd, 1) := by decide +kernel
theorem dX2_append_36 : decode cX2_append 36 = .ok (.putfield 9, 3) := by decide +kernel
theorem dX2_append_39 : decode cX2_append 39 = .ok (.return_, 1) := by decide +kernel
theorem dX2_seek_0 : decode cX2_seek 0 = .ok (.aload_n 1, 1) := by decide +kernel
theorem dX2_seek_1 : decode cX2_seek 1 = .ok (.iconst 0, 1) := by decide +kernel
theorem dX2_seek_2 : decode cX2_seek 2 = .ok (.aload_n 0, 1) := by decide +kernel
theorem dX2_seek_3 : decode cX2_seek 3 = .ok (.getfield 40, 3) := by decide +kernel
theorem dX2_seek_6 : decode cX2_seek 6 = .ok (.iconst 0, 1) := by decide +kernel
theorem dX2_seek_7 : decode cX2_seek 7 = .ok (.bipush 10, 2) := by decide +kernel
theorem dX2_seek_9 : decode cX2_seek 9 = .ok (.invokestatic 43, 3) := by decide +kernel
theorem dX2_seek_12 : decode cX2_seek 12 = .ok (.aload_n 0, 1) := by decide +kernel
theorem dX2_seek_13 : decode cX2_seek 13 = .ok (.getfield 33, 3) := by decide +kernel
theorem dX2_seek_16 : decode cX2_seek 16 = .ok (.aload_n 0, 1) := by decide +kernel
theorem dX2_seek_17 : decode cX2_seek 17 = .ok (.getfield 9, 3) := by decide +kernel
theorem dX2_seek_20 : decode cX2_seek 20 = .ok (.iload_n 2, 1) := by decide +kernel
theorem dX2_seek_21 : decode cX2_seek 21 = .ok (.iastore, 1) := by decide +kernel
theorem dX2_seek_22 : decode cX2_seek 22 = .ok (.aload_n 0, 1) := by decide +kernel
theorem dX2_seek_23 : decode cX2_seek 23 = .ok (.iconst 0, 1) := by decide +kernel
theorem dX2_seek_24 : decode cX2_seek 24 = .ok (.putfield 15, 3) := by decide +kernel
theorem dX2_seek_27 : decode cX2_seek 27 = .ok (.aload_n 0, 1) := by decide +kernel
theorem dX2_seek_28 : decode cX2_seek 28 = .ok (.iconst (-1), 1) := by decide +kernel
theorem dX2_seek_29 : decode cX2_seek 29 = .ok (.putfield 18, 3) := by decide +kernel
theorem dX2_seek_32 : decode cX2_seek 32 = .ok (.aload_n 0, 1) := by decide +kernel
theorem dX2_seek_33 : decode cX2_seek 33 = .ok (.iconst (-1), 1) := by decide +kernel
theorem dX2_seek_34 : decode cX2_seek 34 = .ok (.putfield 21, 3) := by decide +kernel
theorem dX2_seek_37 : decode cX2_seek 37 = .ok (.aload_n 0, 1) := by decide +kernel
theorem dX2_seek_38 : decode cX2_seek 38 = .ok (.iconst (-1), 1) := by decide +kernel
theorem dX2_seek_39 : decode cX2_seek 39 = .ok (.putfield 24, 3) := by decide +kernel
theorem dX2_seek_42 : decode cX2_seek 42 = .ok (.iconst 0, 1) := by decide +kernel
theorem dX2_seek_43 : decode cX2_seek 43 = .ok (.istore_n 3, 1) := by decide +kernel
theorem dX2_seek_44 : decode cX2_seek 44 = .ok (.iload_n 3, 1) := by decide +kernel
theorem dX2_seek_45 : decode cX2_seek 45 = .ok (.bipush 6, 2) := by decide +kernel
theorem dX2_seek_47 : decode cX2_seek 47 = .ok (.if_icmp .gt 75, 3) := by decide +kernel
theorem dX2_seek_50 : decode cX2_seek 50 = .ok (.iconst 0, 1) := by decide +kernel
theorem dX2_seek_51 : decode cX2_seek 51 = .ok (.istore 4, 2) := by decide +kernel
theorem dX2_seek_53 : decode cX2_seek 53 = .ok (.iload 4, 2) := by decide +kernel
theorem dX2_seek_55 : decode cX2_seek 55 = .ok (.bipush 20, 2) := by decide +kernel
theorem dX2_seek_57 : decode cX2_seek 57 = .ok (.if_icmp .gt 59, 3) := by decide +kernel
theorem dX2_seek_60 : decode cX2_seek 60 = .ok (.iconst 0, 1) := by decide +kernel
theorem dX2_seek_61 : decode cX2_seek 61 = .ok (.istore 5, 2) := by decide +kernel
theorem dX2_seek_63 : decode cX2_seek 63 = .ok (.iload 5, 2) := by decide +kernel
theorem dX2_seek_65 : decode cX2_seek 65 = .ok (.bipush 20, 2) := by decide +kernel
theorem dX2_seek_67 : decode cX2_seek 67 = .ok (.if_icmp .gt 43, 3) := by decide +kernel
theorem dX2_seek_70 : decode cX2_seek 70 = .ok (.aload_n 0, 1) := by decide +kernel
theorem dX2_seek_71 : decode cX2_seek 71 = .ok (.getfield 40, 3) := by decide +kernel
theorem dX2_seek_74 : decode cX2_seek 74 = .ok (.iconst 2, 1) := by decide +kernel
theorem dX2_seek_75 : decode cX2_seek 75 = .ok (.iload_n 3, 1) := by decide +kernel
theorem dX2_seek_76 : decode cX2_seek 76 = .ok (.iastore, 1) := by decide +kernel
theorem dX2_seek_77 : decode cX2_seek 77 = .ok (.aload_n 0, 1) := by decide +kernel
theorem dX2_seek_78 : decode cX2_seek 78 = .ok (.getfield 40, 3) := by decide +kernel
theorem dX2_seek_81 : decode cX2_seek 81 = .ok (.iconst 0, 1) := by decide +kernel
theorem dX2_seek_82 : decode cX2_seek 82 = .ok (.iload 4, 2) := by decide +kernel
theorem dX2_seek_84 : decode cX2_seek 84 = .ok (.iastore, 1) := by decide +kernel
theorem dX2_seek_85 : decode cX2_seek 85 = .ok (.aload_n 0, 1) := by decide +kernel
theorem dX2_seek_86 : decode cX2_seek 86 = .ok (.getfield 40, 3) := by decide +kernel
theorem dX2_seek_89 : decode cX2_seek 89 = .ok (.iconst 1, 1) := by decide +kernel
theorem dX2_seek_90 : decode cX2_seek 90 = .ok (.iload 5, 2) := by decide +kernel
theorem dX2_seek_92 : decode cX2_seek 92 = .ok (.iastore, 1) := by decide +kernel
theorem dX2_seek_93 : decode cX2_seek 93 = .ok (.aload_n 0, 1) := by decide +kernel
theorem dX2_seek_94 : decode cX2_seek 94 = .ok (.invokevirtual 49, 3) := by decide +kernel
theorem dX2_seek_97 : decode cX2_seek 97 = .ok (.ifCond .eq 7, 3) := by decide +kernel
theorem dX2_seek_100 : decode cX2_seek 100 = .ok (.aload_n 0, 1) := by decide +kernel
theorem dX2_seek_101 : decode cX2_seek 101 = .ok (.invokevirtual 53, 3) := by decide +kernel
theorem dX2_seek_104 : decode cX2_seek 104 = .ok (.iinc 5 1, 3) := by decide +kernel
theorem dX2_seek_107 : decode cX2_seek 107 = .ok (.goto (-44), 3) := by decide +kernel
theorem dX2_seek_110 : decode cX2_seek 110 = .ok (.iinc 4 1, 3) := by decide +kernel
theorem dX2_seek_113 : decode cX2_seek 113 = .ok (.goto (-60), 3) := by decide +kernel
theorem dX2_seek_116 : decode cX2_seek 116 = .ok (.iinc 3 1, 3) := by decide +kernel
theorem dX2_seek_119 : decode cX2_seek 119 = .ok (.goto (-75), 3) := by decide +kernel
theorem dX2_seek_122 : decode cX2_seek 122 = .ok (.return_, 1) := by decide +kernel
theorem dX2_isFit_0 : decode cX2_isFit 0 = .ok (.iconst 0, 1) := by decide +kernel
theorem dX2_isFit_1 : decode cX2_isFit 1 = .ok (.istore_n 1, 1) := by decide +kernel
theorem dX2_isFit_2 : decode cX2_isFit 2 = .ok (.iload_n 1, 1) := by decide +kernel
theorem dX2_isFit_3 : decode cX2_isFit 3 = .ok (.aload_n 0, 1) := by decide +kernel
theorem dX2_isFit_4 : decode cX2_isFit 4 = .ok (.getfield 9, 3) := by decide +kernel
theorem dX2_isFit_7 : decode cX2_isFit 7 = .ok (.if_icmp .ge 25, 3) := by decide +kernel
theorem dX2_isFit_10 : decode cX2_isFit 10 = .ok (.aload_n 0, 1) := by decide +kernel
theorem dX2_isFit_11 : decode cX2_isFit 11 = .ok (.iload_n 1, 1) := by decide +kernel
theorem dX2_isFit_12 : decode cX2_isFit 12 = .ok (.invokevirtual 56, 3) := by decide +kernel
theorem dX2_isFit_15 : decode cX2_isFit 15 = .ok (.aload_n 0, 1) := by decide +kernel
theorem dX2_isFit_16 : decode cX2_isFit 16 = .ok (.getfield 37, 3) := by decide +kernel
theorem dX2_isFit_19 : decode cX2_isFit 19 = .ok (.iload_n 1, 1) := by decide +kernel
theorem dX2_isFit_20 : decode cX2_isFit 20 = .ok (.iaload, 1) := by decide +kernel
theorem dX2_isFit_21 : decode cX2_isFit 21 = .ok (.if_icmp .eq 5, 3) := by decide +kernel
theorem dX2_isFit_24 : decode cX2_isFit 24 = .ok (.iconst 0, 1) := by decide +kernel
theorem dX2_isFit_25 : decode cX2_isFit 25 = .ok (.ireturn, 1) := by decide +kernel
theorem dX2_isFit_26 : decode cX2_isFit 26 = .ok (.iinc 1 1, 3) := by decide +kernel
theorem dX2_isFit_29 : decode cX2_isFit 29 = .ok (.goto (-27), 3) := by decide +kernel
theorem dX2_isFit_32 : decode cX2_isFit 32 = .ok (.iconst 1, 1) := by decide +kernel
theorem dX2_isFit_33 : decode cX2_isFit 33 = .ok (.ireturn, 1) := by decide +kernel
theorem dX2_moveIn_0 : decode cX2_moveIn 0 = .ok (.iload_n 1, 1) := by decide +kernel
theorem dX2_moveIn_1 : decode cX2_moveIn 1 = .ok (.aload_n 0, 1) := by decide +kernel
theorem dX2_moveIn_2 : decode cX2_moveIn 2 = .ok (.getfield 40, 3) := by decide +kernel
theorem dX2_moveIn_5 : decode cX2_moveIn 5 = .ok (.iconst 2, 1) := by decide +kernel
theorem dX2_moveIn_6 : decode cX2_moveIn 6 = .ok (.iaload, 1) := by decide +kernel
theorem dX2_moveIn_7 : decode cX2_moveIn 7 = .ok (.isub, 1) := by decide +kernel
theorem dX2_moveIn_8 : decode cX2_moveIn 8 = .ok (.istore_n 2, 1) := by decide +kernel
theorem dX2_moveIn_9 : decode cX2_moveIn 9 = .ok (.aload_n 0, 1) := by decide +kernel
theorem dX2_moveIn_10 : decode cX2_moveIn 10 = .ok (.getfield 40, 3) := by decide +kernel
theorem dX2_moveIn_13 : decode cX2_moveIn 13 = .ok (.aload_n 0, 1) := by decide +kernel
theorem dX2_moveIn_14 : decode cX2_moveIn 14 = .ok (.getfield 33, 3) := by decide +kernel
theorem dX2_moveIn_17 : decode cX2_moveIn 17 = .ok (.iconst 0, 1) := by decide +kernel
theorem dX2_moveIn_18 : decode cX2_moveIn 18 = .ok (.iload_n 2, 1) := by decide +kernel
theorem dX2_moveIn_19 : decode cX2_moveIn 19 = .ok (.invokestatic 60, 3) := by decide +kernel
theorem dX2_moveIn_22 : decode cX2_moveIn 22 = .ok (.iaload, 1) := by decide +kernel
theorem dX2_moveIn_23 : decode cX2_moveIn 23 = .ok (.aload_n 0, 1) := by decide +kernel
theorem dX2_moveIn_24 : decode cX2_moveIn 24 = .ok (.getfield 33, 3) := by decide +kernel
theorem dX2_moveIn_27 : decode cX2_moveIn 27 = .ok (.iconst 0, 1) := by decide +kernel
theorem dX2_moveIn_28 : decode cX2_moveIn 28 = .ok (.iload_n 2, 1) := by decide +kernel
theorem dX2_moveIn_29 : decode cX2_moveIn 29 = .ok (.iconst 1, 1) := by decide +kernel
theorem dX2_moveIn_30 : decode cX2_moveIn 30 = .ok (.isub, 1) := by decide +kernel
theorem dX2_moveIn_31 : decode cX2_moveIn 31 = .ok (.invokestatic 60, 3) := by decide +kernel
theorem dX2_moveIn_34 : decode cX2_moveIn 34 = .ok (.iaload, 1) := by decide +kernel
theorem dX2_moveIn_35 : decode cX2_moveIn 35 = .ok (.invokestatic 66, 3) := by decide +kernel
theorem dX2_moveIn_38 : decode cX2_moveIn 38 = .ok (.ireturn, 1) := by decide +kernel
theorem dX2_noteFit_0 : decode cX2_noteFit 0 = .ok (.aload_n 0, 1) := by decide +kernel
theorem dX2_noteFit_1 : decode cX2_noteFit 1 = .ok (.aload_n 0, 1) := by decide +kernel
theorem dX2_noteFit_2 : decode cX2_noteFit 2 = .ok (.getfield 9, 3) := by decide +kernel
theorem dX2_noteFit_5 : decode cX2_noteFit 5 = .ok (.invokevirtual 56, 3) := by decide +kernel
theorem dX2_noteFit_8 : decode cX2_noteFit 8 = .ok (.istore_n 1, 1) := by decide +kernel
theorem dX2_noteFit_9 : decode cX2_noteFit 9 = .ok (.aload_n 0, 1) := by decide +kernel
theorem dX2_noteFit_10 : decode cX2_noteFit 10 = .ok (.getfield 15, 3) := by decide +kernel
theorem dX2_noteFit_13 : decode cX2_noteFit 13 = .ok (.ifCond .ne 43, 3) := by decide +kernel
theorem dX2_noteFit_16 : decode cX2_noteFit 16 = .ok (.aload_n 0, 1) := by decide +kernel
theorem dX2_noteFit_17 : decode cX2_noteFit 17 = .ok (.aload_n 0, 1) := by decide +kernel
theorem dX2_noteFit_18 : decode cX2_noteFit 18 = .ok (.getfield 40, 3) := by decide +kernel
theorem dX2_noteFit_21 : decode cX2_noteFit 21 = .ok (.iconst 2, 1) := by decide +kernel
theorem dX2_noteFit_22 : decode cX2_noteFit 22 = .ok (.iaload, 1) := by decide +kernel
theorem dX2_noteFit_23 : decode cX2_noteFit 23 = .ok (.putfield 18, 3) := by decide +kernel
theorem dX2_noteFit_26 : decode cX2_noteFit 26 = .ok (.aload_n 0, 1) := by decide +kernel
theorem dX2_noteFit_27 : decode cX2_noteFit 27 = .ok (.aload_n 0, 1) := by decide +kernel
theorem dX2_noteFit_28 : decode cX2_noteFit 28 = .ok (.getfield 40, 3) := by decide +kernel
theorem dX2_noteFit_31 : decode cX2_noteFit 31 = .ok (.iconst 0, 1) := by decide +kernel
theorem dX2_noteFit_32 : decode cX2_noteFit 32 = .ok (.iaload, 1) := by decide +kernel
theorem dX2_noteFit_33 : decode cX2_noteFit 33 = .ok (.putfield 21, 3) := by decide +kernel
theorem dX2_noteFit_36 : decode cX2_noteFit 36 = .ok (.aload_n 0, 1) := by decide +kernel
theorem dX2_noteFit_37 : decode cX2_noteFit 37 = .ok (.aload_n 0, 1) := by decide +kernel
theorem dX2_noteFit_38 : decode cX2_noteFit 38 = .ok (.getfield 40, 3) := by decide +kernel
theorem dX2_noteFit_41 : decode cX2_noteFit 41 = .ok (.iconst 1, 1) := by decide +kernel
theorem dX2_noteFit_42 : decode cX2_noteFit 42 = .ok (.iaload, 1) := by decide +kernel
theorem dX2_noteFit_43 : decode cX2_noteFit 43 = .ok (.putfield 24, 3) := by decide +kernel
theorem dX2_noteFit_46 : decode cX2_noteFit 46 = .ok (.aload_n 0, 1) := by decide +kernel
theorem dX2_noteFit_47 : decode cX2_noteFit 47 = .ok (.iload_n 1, 1) := by decide +kernel
theorem dX2_noteFit_48 : decode cX2_noteFit 48 = .ok (.putfield 27, 3) := by decide +kernel
theorem dX2_noteFit_51 : decode cX2_noteFit 51 = .ok (.aload_n 0, 1) := by decide +kernel
theorem dX2_noteFit_52 : decode cX2_noteFit 52 = .ok (.iload_n 1, 1) := by decide +kernel
theorem dX2_noteFit_53 : decode cX2_noteFit 53 = .ok (.putfield 30, 3) := by decide +kernel
theorem dX2_noteFit_56 : decode cX2_noteFit 56 = .ok (.aload_n 0, 1) := by decide +kernel
theorem dX2_noteFit_57 : decode cX2_noteFit 57 = .ok (.aload_n 0, 1) := by decide +kernel
theorem dX2_noteFit_58 : decode cX2_noteFit 58 = .ok (.getfield 27, 3) := by decide +kernel
theorem dX2_noteFit_61 : decode cX2_noteFit 61 = .ok (.iload_n 1, 1) := by decide +kernel
theorem dX2_noteFit_62 : decode cX2_noteFit 62 = .ok (.invokestatic 70, 3) := by decide +kernel
theorem dX2_noteFit_65 : decode cX2_noteFit 65 = .ok (.putfield 27, 3) := by decide +kernel
theorem dX2_noteFit_68 : decode cX2_noteFit 68 = .ok (.aload_n 0, 1) := by decide +kernel
theorem dX2_noteFit_69 : decode cX2_noteFit 69 = .ok (.aload_n 0, 1) := by decide +kernel
theorem dX2_noteFit_70 : decode cX2_noteFit 70 = .ok (.getfield 30, 3) := by decide +kernel
theorem dX2_noteFit_73 : decode cX2_noteFit 73 = .ok (.iload_n 1, 1) := by decide +kernel
theorem dX2_noteFit_74 : decode cX2_noteFit 74 = .ok (.invokestatic 60, 3) := by decide +kernel
theorem dX2_noteFit_77 : decode cX2_noteFit 77 = .ok (.putfield 30, 3) := by decide +kernel
theorem dX2_noteFit_80 : decode cX2_noteFit 80 = .ok (.aload_n 0, 1) := by decide +kernel
theorem dX2_noteFit_81 : decode cX2_noteFit 81 = .ok (.dup, 1) := by decide +kernel
theorem dX2_noteFit_82 : decode cX2_noteFit 82 = .ok (.getfield 15, 3) := by decide +kernel
theorem dX2_noteFit_85 : decode cX2_noteFit 85 = .ok (.iconst 1, 1) := by decide +kernel
theorem dX2_noteFit_86 : decode cX2_noteFit 86 = .ok (.iadd, 1) := by decide +kernel
theorem dX2_noteFit_87 : decode cX2_noteFit 87 = .ok (.putfield 15, 3) := by decide +kernel
theorem dX2_noteFit_90 : decode cX2_noteFit 90 = .ok (.return_, 1) := by decide +kernel
theorem dX3_init_0 : decode cX3_init 0 = .ok (.aload_n 0, 1) := by decide +kernel
theorem dX3_init_1 : decode cX3_init 1 = .ok (.invokespecial 3, 3) := by decide +kernel
theorem dX3_init_4 : decode cX3_init 4 = .ok (.aload_n 0, 1) := by decide +kernel
theorem dX3_init_5 : decode cX3_init 5 = .ok (.bipush 36, 2) := by decide +kernel
theorem dX3_init_7 : decode cX3_init 7 = .ok (.newarray .int, 2) := by decide +kernel
theorem dX3_init_9 : decode cX3_init 9 = .ok (.putfield 9, 3) := by decide +kernel
theorem dX3_init_12 : decode cX3_init 12 = .ok (.aload_n 0, 1) := by decide +kernel
theorem dX3_init_13 : decode cX3_init 13 = .ok (.bipush 36, 2) := by decide +kernel
theorem dX3_init_15 : decode cX3_init 15 = .ok (.newarray .int, 2) := by decide +kernel
theorem dX3_init_17 : decode cX3_init 17 = .ok (.putfield 15, 3) := by decide +kernel
theorem dX3_init_20 : decode cX3_init 20 = .ok (.aload_n 0, 1) := by decide +kernel
theorem dX3_init_21 : decode cX3_init 21 = .ok (.bipush 36, 2) := by decide +kernel
theorem dX3_init_23 : decode cX3_init 23 = .ok (.newarray .int, 2) := by decide +kernel
theorem dX3_init_25 : decode cX3_init 25 = .ok (.putfield 18, 3) := by decide +kernel
theorem dX3_init_28 : decode cX3_init 28 = .ok (.aload_n 0, 1) := by decide +kernel
theorem dX3_init_29 : decode cX3_init 29 = .ok (.bipush 36, 2) := by decide +kernel
theorem dX3_init_31 : decode cX3_init 31 = .ok (.newarray .int, 2) := by decide +kernel
theorem dX3_init_33 : decode cX3_init 33 = .ok (.putfield 21, 3) := by decide +kernel
theorem dX3_init_36 : decode cX3_init 36 = .ok (.aload_n 0, 1) := by decide +kernel
theorem dX3_init_37 : decode cX3_init 37 = .ok (.bipush 36, 2) := by decide +kernel
theorem dX3_init_39 : decode cX3_init 39 = .ok (.newarray .int, 2) := by decide +kernel
theorem dX3_init_41 : decode cX3_init 41 = .ok (.putfield 24, 3) := by decide +kernel
theorem dX3_init_44 : decode cX3_init 44 = .ok (.aload_n 0, 1) := by decide +kernel
theorem dX3_init_45 : decode cX3_init 45 = .ok (.iconst 0, 1) := by decide +kernel
theorem dX3_init_46 : decode cX3_init 46 = .ok (.putfield 27, 3) := by decide +kernel
theorem dX3_init_49 : decode cX3_init 49 = .ok (.return_, 1) := by decide +kernel
theorem dX3_walk_0 : decode cX3_walk 0 = .ok (.iconst 0, 1) := by decide +kernel
theorem dX3_walk_1 : decode cX3_walk 1 = .ok (.istore 4, 2) := by decide +kernel
theorem dX3_walk_3 : decode cX3_walk 3 = .ok (.iload 4, 2) := by decide +kernel
theorem dX3_walk_5 : decode cX3_walk 5 = .ok (.bipush 36, 2) := by decide +kernel
theorem dX3_walk_7 : decode cX3_walk 7 = .ok (.if_icmp .ge 25, 3) := by decide +kernel
theorem dX3_walk_10 : decode cX3_walk 10 = .ok (.aload_n 0, 1) := by decide +kernel
theorem dX3_walk_11 : decode cX3_walk 11 = .ok (.getfield 18, 3) := by decide +kernel
theorem dX3_walk_14 : decode cX3_walk 14 = .ok (.iload 4, 2) := by decide +kernel
theorem dX3_walk_16 : decode cX3_walk 16 = .ok (.iconst (-1), 1) := by decide +kernel
theorem dX3_walk_17 : decode cX3_walk 17 = .ok (.iastore, 1) := by decide +kernel
theorem dX3_walk_18 : decode cX3_walk 18 = .ok (.aload_n 0, 1) := by decide +kernel
theorem dX3_walk_19 : decode cX3_walk 19 = .ok (.getfield 21, 3) := by decide +kernel
theorem dX3_walk_22 : decode cX3_walk 22 = .ok (.iload 4, 2) := by decide +kernel
theorem dX3_walk_24 : decode cX3_walk 24 = .ok (.iconst (-1), 1) := by decide +kernel
theorem dX3_walk_25 : decode cX3_walk 25 = .ok (.iastore, 1) := by decide +kernel
theorem dX3_walk_26 : decode cX3_walk 26 = .ok (.iinc 4 1, 3) := by decide +kernel
theorem dX3_walk_29 : decode cX3_walk 29 = .ok (.goto (-26), 3) := by decide +kernel
theorem dX3_walk_32 : decode cX3_walk 32 = .ok (.aload_n 0, 1) := by decide +kernel
theorem dX3_walk_33 : decode cX3_walk 33 = .ok (.iconst 0, 1) := by decide +kernel
theorem dX3_walk_34 : decode cX3_walk 34 = .ok (.putfield 27, 3) := by decide +kernel
theorem dX3_walk_37 : decode cX3_walk 37 = .ok (.aload_n 0, 1) := by decide +kernel
theorem dX3_walk_38 : decode cX3_walk 38 = .ok (.iload_n 1, 1) := by decide +kernel
theorem dX3_walk_39 : decode cX3_walk 39 = .ok (.iload_n 2, 1) := by decide +kernel
theorem dX3_walk_40 : decode cX3_walk 40 = .ok (.iload_n 3, 1) := by decide +kernel
theorem dX3_walk_41 : decode cX3_walk 41 = .ok (.invokevirtual 31, 3) := by decide +kernel
theorem dX3_walk_44 : decode cX3_walk 44 = .ok (.ifCond .eq 10, 3) := by decide +kernel
theorem dX3_walk_47 : decode cX3_walk 47 = .ok (.aload_n 0, 1) := by decide +kernel
theorem dX3_walk_48 : decode cX3_walk 48 = .ok (.iload_n 1, 1) := by decide +kernel
theorem dX3_walk_49 : decode cX3_walk 49 = .ok (.iconst 0, 1) := by decide +kernel
theorem dX3_walk_50 : decode cX3_walk 50 = .ok (.iconst 0, 1) := by decide +kernel
theorem dX3_walk_51 : decode cX3_walk 51 = .ok (.invokevirtual 35, 3) := by decide +kernel
theorem dX3_walk_54 : decode cX3_walk 54 = .ok (.iconst 0, 1) := by decide +kernel
theorem dX3_walk_55 : decode cX3_walk 55 = .ok (.istore 4, 2) := by decide +kernel
theorem dX3_walk_57 : decode cX3_walk 57 = .ok (.iload 4, 2) := by decide +kernel
theorem dX3_walk_59 : decode cX3_walk 59 = .ok (.bipush 36, 2) := by decide +kernel
theorem dX3_walk_61 : decode cX3_walk 61 = .ok (.if_icmp .ge 96, 3) := by decide +kernel
theorem dX3_walk_64 : decode cX3_walk 64 = .ok (.iload 4, 2) := by decide +kernel
theorem dX3_walk_66 : decode cX3_walk 66 = .ok (.aload_n 0, 1) := by decide +kernel
theorem dX3_walk_67 : decode cX3_walk 67 = .ok (.getfield 27, 3) := by decide +kernel
theorem dX3_walk_70 : decode cX3_walk 70 = .ok (.if_icmp .ge 87, 3) := by decide +kernel
theorem dX3_walk_73 : decode cX3_walk 73 = .ok (.iconst 0, 1) := by decide +kernel
theorem dX3_walk_74 : decode cX3_walk 74 = .ok (.istore 5, 2) := by decide +kernel
theorem dX3_walk_76 : decode cX3_walk 76 = .ok (.iload 5, 2) := by decide +kernel
theorem dX3_walk_78 : decode cX3_walk 78 = .ok (.iconst 4, 1) := by decide +kernel
theorem dX3_walk_79 : decode cX3_walk 79 = .ok (.if_icmp .ge 72, 3) := by decide +kernel
theorem dX3_walk_82 : decode cX3_walk 82 = .ok (.aload_n 0, 1) := by decide +kernel
theorem dX3_walk_83 : decode cX3_walk 83 = .ok (.getfield 24, 3) := by decide +kernel
theorem dX3_walk_86 : decode cX3_walk 86 = .ok (.iload 4, 2) := by decide +kernel
theorem dX3_walk_88 : decode cX3_walk 88 = .ok (.iaload, 1) := by decide +kernel
theorem dX3_walk_89 : decode cX3_walk 89 = .ok (.iload 5, 2) := by decide +kernel
theorem dX3_walk_91 : decode cX3_walk 91 = .ok (.invokestatic 39, 3) := by decide +kernel
theorem dX3_walk_94 : decode cX3_walk 94 = .ok (.istore 6, 2) := by decide +kernel
theorem dX3_walk_96 : decode cX3_walk 96 = .ok (.iload 6, 2) := by decide +kernel
theorem dX3_walk_98 : decode cX3_walk 98 = .ok (.iconst (-1), 1) := by decide +kernel
theorem dX3_walk_99 : decode cX3_walk 99 = .ok (.if_icmp .eq 46, 3) := by decide +kernel
theorem dX3_walk_102 : decode cX3_walk 102 = .ok (.aload_n 0, 1) := by decide +kernel
theorem dX3_walk_103 : decode cX3_walk 103 = .ok (.iload 6, 2) := by decide +kernel
theorem dX3_walk_105 : decode cX3_walk 105 = .ok (.iload_n 2, 1) := by decide +kernel
theorem dX3_walk_106 : decode cX3_walk 106 = .ok (.iload_n 3, 1) := by decide +kernel
theorem dX3_walk_107 : decode cX3_walk 107 = .ok (.invokevirtual 31, 3) := by decide +kernel
theorem dX3_walk_110 : decode cX3_walk 110 = .ok (.ifCond .eq 35, 3) := by decide +kernel
theorem dX3_walk_113 : decode cX3_walk 113 = .ok (.aload_n 0, 1) := by decide +kernel
theorem dX3_walk_114 : decode cX3_walk 114 = .ok (.iload 6, 2) := by decide +kernel
theorem dX3_walk_116 : decode cX3_walk 116 = .ok (.aload_n 0, 1) := by decide +kernel
theorem dX3_walk_117 : decode cX3_walk 117 = .ok (.getfield 18, 3) := by decide +kernel
theorem dX3_walk_120 : decode cX3_walk 120 = .ok (.aload_n 0, 1) := by decide +kernel
theorem dX3_walk_121 : decode cX3_walk 121 = .ok (.getfield 24, 3) := by decide +kernel
theorem dX3_walk_124 : decode cX3_walk 124 = .ok (.iload 4, 2) := by decide +kernel
theorem dX3_walk_126 : decode cX3_walk 126 = .ok (.iaload, 1) := by decide +kernel
theorem dX3_walk_127 : decode cX3_walk 127 = .ok (.iaload, 1) := by decide +kernel
theorem dX3_walk_128 : decode cX3_walk 128 = .ok (.iconst 1, 1) := by decide +kernel
theorem dX3_walk_129 : decode cX3_walk 129 = .ok (.iadd, 1) := by decide +kernel
theorem dX3_walk_130 : decode cX3_walk 130 = .ok (.aload_n 0, 1) := by decide +kernel
theorem dX3_walk_131 : decode cX3_walk 131 = .ok (.getfield 21, 3) := by decide +kernel
theorem dX3_walk_134 : decode cX3_walk 134 = .ok (.aload_n 0, 1) := by decide +kernel
theorem dX3_walk_135 : decode cX3_walk 135 = .ok (.getfield 24, 3) := by decide +kernel
theorem dX3_walk_138 : decode cX3_walk 138 = .ok (.iload 4, 2) := by decide +kernel
theorem dX3_walk_140 : decode cX3_walk 140 = .ok (.iaload, 1) := by decide +kernel
theorem dX3_walk_141 : decode cX3_walk 141 = .ok (.iaload, 1) := by decide +kernel
theorem dX3_walk_142 : decode cX3_walk 142 = .ok (.invokevirtual 35, 3) := by decide +kernel
theorem dX3_walk_145 : decode cX3_walk 145 = .ok (.iinc 5 1, 3) := by decide +kernel
theorem dX3_walk_148 : decode cX3_walk 148 = .ok (.goto (-72), 3) := by decide +kernel
theorem dX3_walk_151 : decode cX3_walk 151 = .ok (.iinc 4 1, 3) := by decide +kernel
theorem dX3_walk_154 : decode cX3_walk 154 = .ok (.goto (-97), 3) := by decide +kernel
theorem dX3_walk_157 : decode cX3_walk 157 = .ok (.return_, 1) := by decide +kernel
theorem dX3_isOpen_0 : decode cX3_isOpen 0 = .ok (.aload_n 0, 1) := by decide +kernel
theorem dX3_isOpen_1 : decode cX3_isOpen 1 = .ok (.getfield 15, 3) := by decide +kernel
theorem dX3_isOpen_4 : decode cX3_isOpen 4 = .ok (.iload_n 1, 1) := by decide +kernel
theorem dX3_isOpen_5 : decode cX3_isOpen 5 = .ok (.iaload, 1) := by decide +kernel
theorem dX3_isOpen_6 : decode cX3_isOpen 6 = .ok (.ifCond .eq 17, 3) := by decide +kernel
theorem dX3_isOpen_9 : decode cX3_isOpen 9 = .ok (.aload_n 0, 1) := by decide +kernel
theorem dX3_isOpen_10 : decode cX3_isOpen 10 = .ok (.getfield 15, 3) := by decide +kernel
theorem dX3_isOpen_13 : decode cX3_isOpen 13 = .ok (.iload_n 1, 1) := by decide +kernel
theorem dX3_isOpen_14 : decode cX3_isOpen 14 = .ok (.iaload, 1) := by decide +kernel
theorem dX3_isOpen_15 : decode cX3_isOpen 15 = .ok (.iload_n 3, 1) := by decide +kernel
theorem dX3_isOpen_16 : decode cX3_isOpen 16 = .ok (.if_icmp .gt 7, 3) := by decide +kernel
theorem dX3_isOpen_19 : decode cX3_isOpen 19 = .ok (.iconst 1, 1) := by decide +kernel
theorem dX3_isOpen_20 : decode cX3_isOpen 20 = .ok (.goto 4, 3) := by decide +kernel
theorem dX3_isOpen_23 : decode cX3_isOpen 23 = .ok (.iconst 0, 1) := by decide +kernel
theorem dX3_isOpen_24 : decode cX3_isOpen 24 = .ok (.istore 4, 2) := by decide +kernel
theorem dX3_isOpen_26 : decode cX3_isOpen 26 = .ok (.aload_n 0, 1) := by decide +kernel
theorem dX3_isOpen_27 : decode cX3_isOpen 27 = .ok (.getfield 9, 3) := by decide +kernel
theorem dX3_isOpen_30 : decode cX3_isOpen 30 = .ok (.iload_n 1, 1) := by decide +kernel
theorem dX3_isOpen_31 : decode cX3_isOpen 31 = .ok (.iaload, 1) := by decide +kernel
theorem dX3_isOpen_32 : decode cX3_isOpen 32 = .ok (.iload_n 2, 1) := by decide +kernel
theorem dX3_isOpen_33 : decode cX3_isOpen 33 = .ok (.if_icmp .gt 12, 3) := by decide +kernel
theorem dX3_isOpen_36 : decode cX3_isOpen 36 = .ok (.iload 4, 2) := by decide +kernel
theorem dX3_isOpen_38 : decode cX3_isOpen 38 = .ok (.ifCond .ne 7, 3) := by decide +kernel
theorem dX3_isOpen_41 : decode cX3_isOpen 41 = .ok (.iconst 1, 1) := by decide +kernel
theorem dX3_isOpen_42 : decode cX3_isOpen 42 = .ok (.goto 4, 3) := by decide +kernel
theorem dX3_isOpen_45 : decode cX3_isOpen 45 = .ok (.iconst 0, 1) := by decide +kernel
theorem dX3_isOpen_46 : decode cX3_isOpen 46 = .ok (.ireturn, 1) := by decide +kernel
theorem dX3_enter_0 : decode cX3_enter 0 = .ok (.iload_n 3, 1) := by decide +kernel
theorem dX3_enter_1 : decode cX3_enter 1 = .ok (.aload_n 0, 1) := by decide +kernel
theorem dX3_enter_2 : decode cX3_enter 2 = .ok (.getfield 9, 3) := by decide +kernel
theorem dX3_enter_5 : decode cX3_enter 5 = .ok (.iload_n 1, 1) := by decide +kernel
theorem dX3_enter_6 : decode cX3_enter 6 = .ok (.iaload, 1) := by decide +kernel
theorem dX3_enter_7 : decode cX3_enter 7 = .ok (.iadd, 1) := by decide +kernel
theorem dX3_enter_8 : decode cX3_enter 8 = .ok (.istore 4, 2) := by decide +kernel
theorem dX3_enter_10 : decode cX3_enter 10 = .ok (.aload_n 0, 1) := by decide +kernel
theorem dX3_enter_11 : decode cX3_enter 11 = .ok (.getfield 18, 3) := by decide +kernel
theorem dX3_enter_14 : decode cX3_enter 14 = .ok (.iload_n 1, 1) := by decide +kernel
theorem dX3_enter_15 : decode cX3_enter 15 = .ok (.iaload, 1) := by decide +kernel
theorem dX3_enter_16 : decode cX3_enter 16 = .ok (.iconst (-1), 1) := by decide +kernel
theorem dX3_enter_17 : decode cX3_enter 17 = .ok (.if_icmp .ne 50, 3) := by decide +kernel
theorem dX3_enter_20 : decode cX3_enter 20 = .ok (.aload_n 0, 1) := by decide +kernel
theorem dX3_enter_21 : decode cX3_enter 21 = .ok (.getfield 27, 3) := by decide +kernel
theorem dX3_enter_24 : decode cX3_enter 24 = .ok (.bipush 36, 2) := by decide +kernel
theorem dX3_enter_26 : decode cX3_enter 26 = .ok (.if_icmp .ge 41, 3) := by decide +kernel
theorem dX3_enter_29 : decode cX3_enter 29 = .ok (.aload_n 0, 1) := by decide +kernel
theorem dX3_enter_30 : decode cX3_enter 30 = .ok (.getfield 18, 3) := by decide +kernel
theorem dX3_enter_33 : decode cX3_enter 33 = .ok (.iload_n 1, 1) := by decide +kernel
theorem dX3_enter_34 : decode cX3_enter 34 = .ok (.iload_n 2, 1) := by decide +kernel
theorem dX3_enter_35 : decode cX3_enter 35 = .ok (.iastore, 1) := by decide +kernel
theorem dX3_enter_36 : decode cX3_enter 36 = .ok (.aload_n 0, 1) := by decide +kernel
theorem dX3_enter_37 : decode cX3_enter 37 = .ok (.getfield 21, 3) := by decide +kernel
theorem dX3_enter_40 : decode cX3_enter 40 = .ok (.iload_n 1, 1) := by decide +kernel
theorem dX3_enter_41 : decode cX3_enter 41 = .ok (.iload 4, 2) := by decide +kernel
theorem dX3_enter_43 : decode cX3_enter 43 = .ok (.iastore, 1) := by decide +kernel
theorem dX3_enter_44 : decode cX3_enter 44 = .ok (.aload_n 0, 1) := by decide +kernel
theorem dX3_enter_45 : decode cX3_enter 45 = .ok (.getfield 24, 3) := by decide +kernel
theorem dX3_enter_48 : decode cX3_enter 48 = .ok (.aload_n 0, 1) := by decide +kernel
theorem dX3_enter_49 : decode cX3_enter 49 = .ok (.getfield 27, 3) := by decide +kernel
theorem dX3_enter_52 : decode cX3_enter 52 = .ok (.iload_n 1, 1) := by decide +kernel
theorem dX3_enter_53 : decode cX3_enter 53 = .ok (.iastore, 1) := by decide +kernel
theorem dX3_enter_54 : decode cX3_enter 54 = .ok (.aload_n 0, 1) := by decide +kernel
theorem dX3_enter_55 : decode cX3_enter 55 = .ok (.dup, 1) := by decide +kernel
theorem dX3_enter_56 : decode cX3_enter 56 = .ok (.getfield 27, 3) := by decide +kernel
theorem dX3_enter_59 : decode cX3_enter 59 = .ok (.iconst 1, 1) := by decide +kernel
theorem dX3_enter_60 : decode cX3_enter 60 = .ok (.iadd, 1) := by decide +kernel
theorem dX3_enter_61 : decode cX3_enter 61 = .ok (.putfield 27, 3) := by decide +kernel
theorem dX3_enter_64 : decode cX3_enter 64 = .ok (.goto 30, 3) := by decide +kernel
theorem dX3_enter_67 : decode cX3_enter 67 = .ok (.aload_n 0, 1) := by decide +kernel
theorem dX3_enter_68 : decode cX3_enter 68 = .ok (.getfield 18, 3) := by decide +kernel
theorem dX3_enter_71 : decode cX3_enter 71 = .ok (.iload_n 1, 1) := by decide +kernel
theorem dX3_enter_72 : decode cX3_enter 72 = .ok (.iaload, 1) := by decide +kernel
theorem dX3_enter_73 : decode cX3_enter 73 = .ok (.iload_n 2, 1) := by decide +kernel
theorem dX3_enter_74 : decode cX3_enter 74 = .ok (.if_icmp .ne 20, 3) := by decide +kernel
theorem dX3_enter_77 : decode cX3_enter 77 = .ok (.aload_n 0, 1) := by decide +kernel
theorem dX3_enter_78 : decode cX3_enter 78 = .ok (.getfield 21, 3) := by decide +kernel
theorem dX3_enter_81 : decode cX3_enter 81 = .ok (.iload_n 1, 1) := by decide +kernel
theorem dX3_enter_82 : decode cX3_enter 82 = .ok (.aload_n 0, 1) := by decide +kernel
theorem dX3_enter_83 : decode cX3_enter 83 = .ok (.getfield 21, 3) := by decide +kernel
theorem dX3_enter_86 : decode cX3_enter 86 = .ok (.iload_n 1, 1) := by decide +kernel
theorem dX3_enter_87 : decode cX3_enter 87 = .ok (.iaload, 1) := by decide +kernel
theorem dX3_enter_88 : decode cX3_enter 88 = .ok (.iload 4, 2) := by decide +kernel
theorem dX3_enter_90 : decode cX3_enter 90 = .ok (.invokestatic 43, 3) := by decide +kernel
theorem dX3_enter_93 : decode cX3_enter 93 = .ok (.iastore, 1) := by decide +kernel
theorem dX3_enter_94 : decode cX3_enter 94 = .ok (.return_, 1) := by decide +kernel
theorem dX3_beside_0 : decode cX3_beside 0 = .ok (.iload_n 0, 1) := by decide +kernel
theorem dX3_beside_1 : decode cX3_beside 1 = .ok (.bipush 6, 2) := by decide +kernel
theorem dX3_beside_3 : decode cX3_beside 3 = .ok (.irem, 1) := by decide +kernel
theorem dX3_beside_4 : decode cX3_beside 4 = .ok (.istore_n 2, 1) := by decide +kernel
theorem dX3_beside_5 : decode cX3_beside 5 = .ok (.iload_n 1, 1) := by decide +kernel
theorem dX3_beside_6 : decode cX3_beside 6 = .ok (.tableswitch 66 0 2 #[26, 41, 53], 26) := by decide +kernel
theorem dX3_beside_32 : decode cX3_beside 32 = .ok (.iload_n 0, 1) := by decide +kernel
theorem dX3_beside_33 : decode cX3_beside 33 = .ok (.bipush 6, 2) := by decide +kernel
theorem dX3_beside_35 : decode cX3_beside 35 = .ok (.if_icmp .lt 10, 3) := by decide +kernel
theorem dX3_beside_38 : decode cX3_beside 38 = .ok (.iload_n 0, 1) := by decide +kernel
theorem dX3_beside_39 : decode cX3_beside 39 = .ok (.bipush 6, 2) := by decide +kernel
theorem dX3_beside_41 : decode cX3_beside 41 = .ok (.isub, 1) := by decide +kernel
theorem dX3_beside_42 : decode cX3_beside 42 = .ok (.goto 4, 3) := by decide +kernel
theorem dX3_beside_45 : decode cX3_beside 45 = .ok (.iconst (-1), 1) := by decide +kernel
theorem dX3_beside_46 : decode cX3_beside 46 = .ok (.ireturn, 1) := by decide +kernel
theorem dX3_beside_47 : decode cX3_beside 47 = .ok (.iload_n 2, 1) := by decide +kernel
theorem dX3_beside_48 : decode cX3_beside 48 = .ok (.ifCond .le 9, 3) := by decide +kernel
theorem dX3_beside_51 : decode cX3_beside 51 = .ok (.iload_n 0, 1) := by decide +kernel
theorem dX3_beside_52 : decode cX3_beside 52 = .ok (.iconst 1, 1) := by decide +kernel
theorem dX3_beside_53 : decode cX3_beside 53 = .ok (.isub, 1) := by decide +kernel
theorem dX3_beside_54 : decode cX3_beside 54 = .ok (.goto 4, 3) := by decide +kernel
theorem dX3_beside_57 : decode cX3_beside 57 = .ok (.iconst (-1), 1) := by decide +kernel
theorem dX3_beside_58 : decode cX3_beside 58 = .ok (.ireturn, 1) := by decide +kernel
theorem dX3_beside_59 : decode cX3_beside 59 = .ok (.iload_n 2, 1) := by decide +kernel
theorem dX3_beside_60 : decode cX3_beside 60 = .ok (.iconst 5, 1) := by decide +kernel
theorem dX3_beside_61 : decode cX3_beside 61 = .ok (.if_icmp .ge 9, 3) := by decide +kernel
theorem dX3_beside_64 : decode cX3_beside 64 = .ok (.iload_n 0, 1) := by decide +kernel
theorem dX3_beside_65 : decode cX3_beside 65 = .ok (.iconst 1, 1) := by decide +kernel
theorem dX3_beside_66 : decode cX3_beside 66 = .ok (.iadd, 1) := by decide +kernel
theorem dX3_beside_67 : decode cX3_beside 67 = .ok (.goto 4, 3) := by decide +kernel
theorem dX3_beside_70 : decode cX3_beside 70 = .ok (.iconst (-1), 1) := by decide +kernel
theorem dX3_beside_71 : decode cX3_beside 71 = .ok (.ireturn, 1) := by decide +kernel
theorem dX3_beside_72 : decode cX3_beside 72 = .ok (.iload_n 0, 1) := by decide +kernel
theorem dX3_beside_73 : decode cX3_beside 73 = .ok (.bipush 30, 2) := by decide +kernel
theorem dX3_beside_75 : decode cX3_beside 75 = .ok (.if_icmp .ge 10, 3) := by decide +kernel
theorem dX3_beside_78 : decode cX3_beside 78 = .ok (.iload_n 0, 1) := by decide +kernel
theorem dX3_beside_79 : decode cX3_beside 79 = .ok (.bipush 6, 2) := by decide +kernel
theorem dX3_beside_81 : decode cX3_beside 81 = .ok (.iadd, 1) := by decide +kernel
theorem dX3_beside_82 : decode cX3_beside 82 = .ok (.goto 4, 3) := by decide +kernel
theorem dX3_beside_85 : decode cX3_beside 85 = .ok (.iconst (-1), 1) := by decide +kernel
theorem dX3_beside_86 : decode cX3_beside 86 = .ok (.ireturn, 1) := by decide +kernel
theorem dX4_init_0 : decode cX4_init 0 = .ok (.aload_n 0, 1) := by decide +kernel
theorem dX4_init_1 : decode cX4_init 1 = .ok (.invokespecial 3, 3) := by decide +kernel
theorem dX4_init_4 : decode cX4_init 4 = .ok (.aload_n 0, 1) := by decide +kernel
theorem dX4_init_5 : decode cX4_init 5 = .ok (.bipush 10, 2) := by decide +kernel
theorem dX4_init_7 : decode cX4_init 7 = .ok (.newarray .int, 2) := by decide +kernel
theorem dX4_init_9 : decode cX4_init 9 = .ok (.putfield 9, 3) := by decide +kernel
theorem dX4_init_12 : decode cX4_init 12 = .ok (.aload_n 0, 1) := by decide +kernel
theorem dX4_init_13 : decode cX4_init 13 = .ok (.new 15, 3) := by decide +kernel
theorem dX4_init_16 : decode cX4_init 16 = .ok (.dup, 1) := by decide +kernel
theorem dX4_init_17 : decode cX4_init 17 = .ok (.invokespecial 17, 3) := by decide +kernel
theorem dX4_init_20 : decode cX4_init 20 = .ok (.putfield 18, 3) := by decide +kernel
theorem dX4_init_23 : decode cX4_init 23 = .ok (.aload_n 0, 1) := by decide +kernel
theorem dX4_init_24 : decode cX4_init 24 = .ok (.new 15, 3) := by decide +kernel
theorem dX4_init_27 : decode cX4_init 27 = .ok (.dup, 1) := by decide +kernel
theorem dX4_init_28 : decode cX4_init 28 = .ok (.invokespecial 17, 3) := by decide +kernel
theorem dX4_init_31 : decode cX4_init 31 = .ok (.putfield 22, 3) := by decide +kernel
theorem dX4_init_34 : decode cX4_init 34 = .ok (.aload_n 0, 1) := by decide +kernel
theorem dX4_init_35 : decode cX4_init 35 = .ok (.new 25, 3) := by decide +kernel
theorem dX4_init_38 : decode cX4_init 38 = .ok (.dup, 1) := by decide +kernel
theorem dX4_init_39 : decode cX4_init 39 = .ok (.invokespecial 27, 3) := by decide +kernel
theorem dX4_init_42 : decode cX4_init 42 = .ok (.putfield 28, 3) := by decide +kernel
theorem dX4_init_45 : decode cX4_init 45 = .ok (.return_, 1) := by decide +kernel
theorem dX4_takeRule_0 : decode cX4_takeRule 0 = .ok (.aload_n 1, 1) := by decide +kernel
theorem dX4_takeRule_1 : decode cX4_takeRule 1 = .ok (.iconst 0, 1) := by decide +kernel
theorem dX4_takeRule_2 : decode cX4_takeRule 2 = .ok (.aload_n 0, 1) := by decide +kernel
theorem dX4_takeRule_3 : decode cX4_takeRule 3 = .ok (.getfield 9, 3) := by decide +kernel
theorem dX4_takeRule_6 : decode cX4_takeRule 6 = .ok (.iconst 0, 1) := by decide +kernel
theorem dX4_takeRule_7 : decode cX4_takeRule 7 = .ok (.bipush 10, 2) := by decide +kernel
theorem dX4_takeRule_9 : decode cX4_takeRule 9 = .ok (.invokestatic 32, 3) := by decide +kernel
theorem dX4_takeRule_12 : decode cX4_takeRule 12 = .ok (.return_, 1) := by decide +kernel
theorem dX4_lasts_0 : decode cX4_lasts 0 = .ok (.aload_n 0, 1) := by decide +kernel
theorem dX4_lasts_1 : decode cX4_lasts 1 = .ok (.getfield 9, 3) := by decide +kernel
theorem dX4_lasts_4 : decode cX4_lasts 4 = .ok (.iconst 2, 1) := by decide +kernel
theorem dX4_lasts_5 : decode cX4_lasts 5 = .ok (.iaload, 1) := by decide +kernel
theorem dX4_lasts_6 : decode cX4_lasts 6 = .ok (.aload_n 1, 1) := by decide +kernel
theorem dX4_lasts_7 : decode cX4_lasts 7 = .ok (.invokevirtual 38, 3) := by decide +kernel
theorem dX4_lasts_10 : decode cX4_lasts 10 = .ok (.iadd, 1) := by decide +kernel
theorem dX4_lasts_11 : decode cX4_lasts 11 = .ok (.iconst 1, 1) := by decide +kernel
theorem dX4_lasts_12 : decode cX4_lasts 12 = .ok (.iadd, 1) := by decide +kernel
theorem dX4_lasts_13 : decode cX4_lasts 13 = .ok (.istore 5, 2) := by decide +kernel
theorem dX4_lasts_15 : decode cX4_lasts 15 = .ok (.iconst 4, 1) := by decide +kernel
theorem dX4_lasts_16 : decode cX4_lasts 16 = .ok (.istore 6, 2) := by decide +kernel
theorem dX4_lasts_18 : decode cX4_lasts 18 = .ok (.aload_n 0, 1) := by decide +kernel
theorem dX4_lasts_19 : decode cX4_lasts 19 = .ok (.getfield 18, 3) := by decide +kernel
theorem dX4_lasts_22 : decode cX4_lasts 22 = .ok (.iconst 0, 1) := by decide +kernel
theorem dX4_lasts_23 : decode cX4_lasts 23 = .ok (.iload_n 2, 1) := by decide +kernel
theorem dX4_lasts_24 : decode cX4_lasts 24 = .ok (.iload_n 3, 1) := by decide +kernel
theorem dX4_lasts_25 : decode cX4_lasts 25 = .ok (.invokevirtual 42, 3) := by decide +kernel
theorem dX4_lasts_28 : decode cX4_lasts 28 = .ok (.iconst 0, 1) := by decide +kernel
theorem dX4_lasts_29 : decode cX4_lasts 29 = .ok (.istore 7, 2) := by decide +kernel
theorem dX4_lasts_31 : decode cX4_lasts 31 = .ok (.iload 7, 2) := by decide +kernel
theorem dX4_lasts_33 : decode cX4_lasts 33 = .ok (.iload 4, 2) := by decide +kernel
theorem dX4_lasts_35 : decode cX4_lasts 35 = .ok (.if_icmp .ge 86, 3) := by decide +kernel
theorem dX4_lasts_38 : decode cX4_lasts 38 = .ok (.aload_n 0, 1) := by decide +kernel
theorem dX4_lasts_39 : decode cX4_lasts 39 = .ok (.getfield 18, 3) := by decide +kernel
theorem dX4_lasts_42 : decode cX4_lasts 42 = .ok (.aload_n 0, 1) := by decide +kernel
theorem dX4_lasts_43 : decode cX4_lasts 43 = .ok (.getfield 9, 3) := by decide +kernel
theorem dX4_lasts_46 : decode cX4_lasts 46 = .ok (.invokevirtual 46, 3) := by decide +kernel
theorem dX4_lasts_49 : decode cX4_lasts 49 = .ok (.ifCond .ne 72, 3) := by decide +kernel
theorem dX4_lasts_52 : decode cX4_lasts 52 = .ok (.iload 7, 2) := by decide +kernel
theorem dX4_lasts_54 : decode cX4_lasts 54 = .ok (.iconst 4, 1) := by decide +kernel
theorem dX4_lasts_55 : decode cX4_lasts 55 = .ok (.if_icmp .le 22, 3) := by decide +kernel
theorem dX4_lasts_58 : decode cX4_lasts 58 = .ok (.aload_n 0, 1) := by decide +kernel
theorem dX4_lasts_59 : decode cX4_lasts 59 = .ok (.getfield 18, 3) := by decide +kernel
theorem dX4_lasts_62 : decode cX4_lasts 62 = .ok (.aload_n 0, 1) := by decide +kernel
theorem dX4_lasts_63 : decode cX4_lasts 63 = .ok (.getfield 22, 3) := by decide +kernel
theorem dX4_lasts_66 : decode cX4_lasts 66 = .ok (.iload 5, 2) := by decide +kernel
theorem dX4_lasts_68 : decode cX4_lasts 68 = .ok (.invokevirtual 50, 3) := by decide +kernel
theorem dX4_lasts_71 : decode cX4_lasts 71 = .ok (.ifCond .eq 6, 3) := by decide +kernel
theorem dX4_lasts_74 : decode cX4_lasts 74 = .ok (.iload 4, 2) := by decide +kernel
theorem dX4_lasts_76 : decode cX4_lasts 76 = .ok (.ireturn, 1) := by decide +kernel
theorem dX4_lasts_77 : decode cX4_lasts 77 = .ok (.iload 7, 2) := by decide +kernel
theorem dX4_lasts_79 : decode cX4_lasts 79 = .ok (.iload 6, 2) := by decide +kernel
theorem dX4_lasts_81 : decode cX4_lasts 81 = .ok (.if_icmp .ne 20, 3) := by decide +kernel
theorem dX4_lasts_84 : decode cX4_lasts 84 = .ok (.aload_n 0, 1) := by decide +kernel
theorem dX4_lasts_85 : decode cX4_lasts 85 = .ok (.getfield 22, 3) := by decide +kernel
theorem dX4_lasts_88 : decode cX4_lasts 88 = .ok (.aload_n 0, 1) := by decide +kernel
theorem dX4_lasts_89 : decode cX4_lasts 89 = .ok (.getfield 18, 3) := by decide +kernel
theorem dX4_lasts_92 : decode cX4_lasts 92 = .ok (.invokevirtual 54, 3) := by decide +kernel
theorem dX4_lasts_95 : decode cX4_lasts 95 = .ok (.iload 6, 2) := by decide +kernel
theorem dX4_lasts_97 : decode cX4_lasts 97 = .ok (.iconst 2, 1) := by decide +kernel
theorem dX4_lasts_98 : decode cX4_lasts 98 = .ok (.imul, 1) := by decide +kernel
theorem dX4_lasts_99 : decode cX4_lasts 99 = .ok (.istore 6, 2) := by decide +kernel
theorem dX4_lasts_101 : decode cX4_lasts 101 = .ok (.aload_n 0, 1) := by decide +kernel
theorem dX4_lasts_102 : decode cX4_lasts 102 = .ok (.getfield 18, 3) := by decide +kernel
theorem dX4_lasts_105 : decode cX4_lasts 105 = .ok (.aload_n 1, 1) := by decide +kernel
theorem dX4_lasts_106 : decode cX4_lasts 106 = .ok (.aload_n 0, 1) := by decide +kernel
theorem dX4_lasts_107 : decode cX4_lasts 107 = .ok (.getfield 9, 3) := by decide +kernel
theorem dX4_lasts_110 : decode cX4_lasts 110 = .ok (.iconst 1, 1) := by decide +kernel
theorem dX4_lasts_111 : decode cX4_lasts 111 = .ok (.iconst 0, 1) := by decide +kernel
theorem dX4_lasts_112 : decode cX4_lasts 112 = .ok (.invokevirtual 58, 3) := by decide +kernel
theorem dX4_lasts_115 : decode cX4_lasts 115 = .ok (.iinc 7 1, 3) := by decide +kernel
theorem dX4_lasts_118 : decode cX4_lasts 118 = .ok (.goto (-87), 3) := by decide +kernel
theorem dX4_lasts_121 : decode cX4_lasts 121 = .ok (.aload_n 0, 1) := by decide +kernel
theorem dX4_lasts_122 : decode cX4_lasts 122 = .ok (.getfield 18, 3) := by decide +kernel
theorem dX4_lasts_125 : decode cX4_lasts 125 = .ok (.getfield 62, 3) := by decide +kernel
theorem dX4_lasts_128 : decode cX4_lasts 128 = .ok (.ireturn, 1) := by decide +kernel
theorem dX4_leastFrom_0 : decode cX4_leastFrom 0 = .ok (.sipush 400, 3) := by decide +kernel
theorem dX4_leastFrom_3 : decode cX4_leastFrom 3 = .ok (.istore_n 3, 1) := by decide +kernel
theorem dX4_leastFrom_4 : decode cX4_leastFrom 4 = .ok (.aload_n 0, 1) := by decide +kernel
theorem dX4_leastFrom_5 : decode cX4_leastFrom 5 = .ok (.iload_n 2, 1) := by decide +kernel
theorem dX4_leastFrom_6 : decode cX4_leastFrom 6 = .ok (.invokevirtual 66, 3) := by decide +kernel
theorem dX4_leastFrom_9 : decode cX4_leastFrom 9 = .ok (.istore 4, 2) := by decide +kernel
theorem dX4_leastFrom_11 : decode cX4_leastFrom 11 = .ok (.iload 4, 2) := by decide +kernel
theorem dX4_leastFrom_13 : decode cX4_leastFrom 13 = .ok (.iload_n 2, 1) := by decide +kernel
theorem dX4_leastFrom_14 : decode cX4_leastFrom 14 = .ok (.if_icmp .gt 25, 3) := by decide +kernel
theorem dX4_leastFrom_17 : decode cX4_leastFrom 17 = .ok (.iload_n 3, 1) := by decide +kernel
theorem dX4_leastFrom_18 : decode cX4_leastFrom 18 = .ok (.aload_n 0, 1) := by decide +kernel
theorem dX4_leastFrom_19 : decode cX4_leastFrom 19 = .ok (.aload_n 1, 1) := by decide +kernel
theorem dX4_leastFrom_20 : decode cX4_leastFrom 20 = .ok (.iload 4, 2) := by decide +kernel
theorem dX4_leastFrom_22 : decode cX4_leastFrom 22 = .ok (.iconst 0, 1) := by decide +kernel
theorem dX4_leastFrom_23 : decode cX4_leastFrom 23 = .ok (.sipush 400, 3) := by decide +kernel
theorem dX4_leastFrom_26 : decode cX4_leastFrom 26 = .ok (.invokevirtual 70, 3) := by decide +kernel
theorem dX4_leastFrom_29 : decode cX4_leastFrom 29 = .ok (.invokestatic 74, 3) := by decide +kernel
theorem dX4_leastFrom_32 : decode cX4_leastFrom 32 = .ok (.istore_n 3, 1) := by decide +kernel
theorem dX4_leastFrom_33 : decode cX4_leastFrom 33 = .ok (.iinc 4 1, 3) := by decide +kernel
theorem dX4_leastFrom_36 : decode cX4_leastFrom 36 = .ok (.goto (-25), 3) := by decide +kernel
theorem dX4_leastFrom_39 : decode cX4_leastFrom 39 = .ok (.iload_n 3, 1) := by decide +kernel
theorem dX4_leastFrom_40 : decode cX4_leastFrom 40 = .ok (.ireturn, 1) := by decide +kernel
theorem dX4_leftmost_0 : decode cX4_leftmost 0 = .ok (.aload_n 0, 1) := by decide +kernel
theorem dX4_leftmost_1 : decode cX4_leftmost 1 = .ok (.getfield 9, 3) := by decide +kernel
theorem dX4_leftmost_4 : decode cX4_leftmost 4 = .ok (.bipush 8, 2) := by decide +kernel
theorem dX4_leftmost_6 : decode cX4_leftmost 6 = .ok (.iaload, 1) := by decide +kernel
theorem dX4_leftmost_7 : decode cX4_leftmost 7 = .ok (.ifCond .ne 7, 3) := by decide +kernel
theorem dX4_leftmost_10 : decode cX4_leftmost 10 = .ok (.iconst 0, 1) := by decide +kernel
theorem dX4_leftmost_11 : decode cX4_leftmost 11 = .ok (.goto 5, 3) := by decide +kernel
theorem dX4_leftmost_14 : decode cX4_leftmost 14 = .ok (.iload_n 1, 1) := by decide +kernel
theorem dX4_leftmost_15 : decode cX4_leftmost 15 = .ok (.ineg, 1) := by decide +kernel
theorem dX4_leftmost_16 : decode cX4_leftmost 16 = .ok (.ireturn, 1) := by decide +kernel
theorem dX4_shortestSteady_0 : decode cX4_shortestSteady 0 = .ok (.iconst (-1), 1) := by decide +kernel
theorem dX4_shortestSteady_1 : decode cX4_shortestSteady 1 = .ok (.istore_n 2, 1) := by decide +kernel
theorem dX4_shortestSteady_2 : decode cX4_shortestSteady 2 = .ok (.sipush 300, 3) := by decide +kernel
theorem dX4_shortestSteady_5 : decode cX4_shortestSteady 5 = .ok (.istore_n 3, 1) := by decide +kernel
theorem dX4_shortestSteady_6 : decode cX4_shortestSteady 6 = .ok (.iload_n 3, 1) := by decide +kernel
theorem dX4_shortestSteady_7 : decode cX4_shortestSteady 7 = .ok (.iconst 1, 1) := by decide +kernel
theorem dX4_shortestSteady_8 : decode cX4_shortestSteady 8 = .ok (.if_icmp .lt 41, 3) := by decide +kernel
theorem dX4_shortestSteady_11 : decode cX4_shortestSteady 11 = .ok (.aload_n 0, 1) := by decide +kernel
theorem dX4_shortestSteady_12 : decode cX4_shortestSteady 12 = .ok (.getfield 28, 3) := by decide +kernel
theorem dX4_shortestSteady_15 : decode cX4_shortestSteady 15 = .ok (.invokevirtual 80, 3) := by decide +kernel
theorem dX4_shortestSteady_18 : decode cX4_shortestSteady 18 = .ok (.aload_n 0, 1) := by decide +kernel
theorem dX4_shortestSteady_19 : decode cX4_shortestSteady 19 = .ok (.getfield 28, 3) := by decide +kernel
theorem dX4_shortestSteady_22 : decode cX4_shortestSteady 22 = .ok (.iload_n 3, 1) := by decide +kernel
theorem dX4_shortestSteady_23 : decode cX4_shortestSteady 23 = .ok (.iconst 1, 1) := by decide +kernel
theorem dX4_shortestSteady_24 : decode cX4_shortestSteady 24 = .ok (.invokevirtual 83, 3) := by decide +kernel
theorem dX4_shortestSteady_27 : decode cX4_shortestSteady 27 = .ok (.aload_n 0, 1) := by decide +kernel
theorem dX4_shortestSteady_28 : decode cX4_shortestSteady 28 = .ok (.aload_n 0, 1) := by decide +kernel
theorem dX4_shortestSteady_29 : decode cX4_shortestSteady 29 = .ok (.getfield 28, 3) := by decide +kernel
theorem dX4_shortestSteady_32 : decode cX4_shortestSteady 32 = .ok (.iload_n 1, 1) := by decide +kernel
theorem dX4_shortestSteady_33 : decode cX4_shortestSteady 33 = .ok (.invokevirtual 87, 3) := by decide +kernel
theorem dX4_shortestSteady_36 : decode cX4_shortestSteady 36 = .ok (.ifCond .ne 5, 3) := by decide +kernel
theorem dX4_shortestSteady_39 : decode cX4_shortestSteady 39 = .ok (.iload_n 2, 1) := by decide +kernel
theorem dX4_shortestSteady_40 : decode cX4_shortestSteady 40 = .ok (.ireturn, 1) := by decide +kernel
theorem dX4_shortestSteady_41 : decode cX4_shortestSteady 41 = .ok (.iload_n 3, 1) := by decide +kernel
theorem dX4_shortestSteady_42 : decode cX4_shortestSteady 42 = .ok (.istore_n 2, 1) := by decide +kernel
theorem dX4_shortestSteady_43 : decode cX4_shortestSteady 43 = .ok (.iinc 3 (-1), 3) := by decide +kernel
theorem dX4_shortestSteady_46 : decode cX4_shortestSteady 46 = .ok (.goto (-40), 3) := by decide +kernel
theorem dX4_shortestSteady_49 : decode cX4_shortestSteady 49 = .ok (.iload_n 2, 1) := by decide +kernel
theorem dX4_shortestSteady_50 : decode cX4_shortestSteady 50 = .ok (.ireturn, 1) := by decide +kernel
theorem dX4_isSteady_0 : decode cX4_isSteady 0 = .ok (.aload_n 0, 1) := by decide +kernel
theorem dX4_isSteady_1 : decode cX4_isSteady 1 = .ok (.iload_n 2, 1) := by decide +kernel
theorem dX4_isSteady_2 : decode cX4_isSteady 2 = .ok (.invokevirtual 66, 3) := by decide +kernel
theorem dX4_isSteady_5 : decode cX4_isSteady 5 = .ok (.istore_n 3, 1) := by decide +kernel
theorem dX4_isSteady_6 : decode cX4_isSteady 6 = .ok (.iload_n 2, 1) := by decide +kernel
theorem dX4_isSteady_7 : decode cX4_isSteady 7 = .ok (.istore 4, 2) := by decide +kernel
theorem dX4_isSteady_9 : decode cX4_isSteady 9 = .ok (.iload 4, 2) := by decide +kernel
theorem dX4_isSteady_11 : decode cX4_isSteady 11 = .ok (.iload_n 3, 1) := by decide +kernel
theorem dX4_isSteady_12 : decode cX4_isSteady 12 = .ok (.if_icmp .lt 28, 3) := by decide +kernel
theorem dX4_isSteady_15 : decode cX4_isSteady 15 = .ok (.aload_n 0, 1) := by decide +kernel
theorem dX4_isSteady_16 : decode cX4_isSteady 16 = .ok (.aload_n 1, 1) := by decide +kernel
theorem dX4_isSteady_17 : decode cX4_isSteady 17 = .ok (.iload 4, 2) := by decide +kernel
theorem dX4_isSteady_19 : decode cX4_isSteady 19 = .ok (.iconst 0, 1) := by decide +kernel
theorem dX4_isSteady_20 : decode cX4_isSteady 20 = .ok (.sipush 400, 3) := by decide +kernel
theorem dX4_isSteady_23 : decode cX4_isSteady 23 = .ok (.invokevirtual 70, 3) := by decide +kernel
theorem dX4_isSteady_26 : decode cX4_isSteady 26 = .ok (.sipush 400, 3) := by decide +kernel
theorem dX4_isSteady_29 : decode cX4_isSteady 29 = .ok (.if_icmp .ge 5, 3) := by decide +kernel
theorem dX4_isSteady_32 : decode cX4_isSteady 32 = .ok (.iconst 0, 1) := by decide +kernel
theorem dX4_isSteady_33 : decode cX4_isSteady 33 = .ok (.ireturn, 1) := by decide +kernel
theorem dX4_isSteady_34 : decode cX4_isSteady 34 = .ok (.iinc 4 (-1), 3) := by decide +kernel
theorem dX4_isSteady_37 : decode cX4_isSteady 37 = .ok (.goto (-28), 3) := by decide +kernel
theorem dX4_isSteady_40 : decode cX4_isSteady 40 = .ok (.iconst 1, 1) := by decide +kernel
theorem dX4_isSteady_41 : decode cX4_isSteady 41 = .ok (.ireturn, 1) := by decide +kernel
theorem dX4_bestRule_0 : decode cX4_bestRule 0 = .ok (.iconst (-1), 1) := by decide +kernel
theorem dX4_bestRule_1 : decode cX4_bestRule 1 = .ok (.istore 4, 2) := by decide +kernel
theorem dX4_bestRule_3 : decode cX4_bestRule 3 = .ok (.iconst 0, 1) := by decide +kernel
theorem dX4_bestRule_4 : decode cX4_bestRule 4 = .ok (.istore 5, 2) := by decide +kernel
theorem dX4_bestRule_6 : decode cX4_bestRule 6 = .ok (.iconst 0, 1) := by decide +kernel
theorem dX4_bestRule_7 : decode cX4_bestRule 7 = .ok (.istore 6, 2) := by decide +kernel
theorem dX4_bestRule_9 : decode cX4_bestRule 9 = .ok (.sipush 400, 3) := by decide +kernel
theorem dX4_bestRule_12 : decode cX4_bestRule 12 = .ok (.iconst 2, 1) := by decide +kernel
theorem dX4_bestRule_13 : decode cX4_bestRule 13 = .ok (.iload_n 2, 1) := by decide +kernel
theorem dX4_bestRule_14 : decode cX4_bestRule 14 = .ok (.imul, 1) := by decide +kernel
theorem dX4_bestRule_15 : decode cX4_bestRule 15 = .ok (.iconst 1, 1) := by decide +kernel
theorem dX4_bestRule_16 : decode cX4_bestRule 16 = .ok (.iadd, 1) := by decide +kernel
theorem dX4_bestRule_17 : decode cX4_bestRule 17 = .ok (.imul, 1) := by decide +kernel
theorem dX4_bestRule_18 : decode cX4_bestRule 18 = .ok (.istore 7, 2) := by decide +kernel
theorem dX4_bestRule_20 : decode cX4_bestRule 20 = .ok (.iconst 0, 1) := by decide +kernel
theorem dX4_bestRule_21 : decode cX4_bestRule 21 = .ok (.istore 8, 2) := by decide +kernel
theorem dX4_bestRule_23 : decode cX4_bestRule 23 = .ok (.iload 8, 2) := by decide +kernel
theorem dX4_bestRule_25 : decode cX4_bestRule 25 = .ok (.bipush 20, 2) := by decide +kernel
theorem dX4_bestRule_27 : decode cX4_bestRule 27 = .ok (.if_icmp .gt 84, 3) := by decide +kernel
theorem dX4_bestRule_30 : decode cX4_bestRule 30 = .ok (.iload 4, 2) := by decide +kernel
theorem dX4_bestRule_32 : decode cX4_bestRule 32 = .ok (.iload 7, 2) := by decide +kernel
theorem dX4_bestRule_34 : decode cX4_bestRule 34 = .ok (.if_icmp .ge 77, 3) := by decide +kernel
theorem dX4_bestRule_37 : decode cX4_bestRule 37 = .ok (.iconst 0, 1) := by decide +kernel
theorem dX4_bestRule_38 : decode cX4_bestRule 38 = .ok (.istore 9, 2) := by decide +kernel
theorem dX4_bestRule_40 : decode cX4_bestRule 40 = .ok (.iload 9, 2) := by decide +kernel
theorem dX4_bestRule_42 : decode cX4_bestRule 42 = .ok (.bipush 20, 2) := by decide +kernel
theorem dX4_bestRule_44 : decode cX4_bestRule 44 = .ok (.if_icmp .gt 61, 3) := by decide +kernel
theorem dX4_bestRule_47 : decode cX4_bestRule 47 = .ok (.iload 4, 2) := by decide +kernel
theorem dX4_bestRule_49 : decode cX4_bestRule 49 = .ok (.iload 7, 2) := by decide +kernel
theorem dX4_bestRule_51 : decode cX4_bestRule 51 = .ok (.if_icmp .ge 54, 3) := by decide +kernel
theorem dX4_bestRule_54 : decode cX4_bestRule 54 = .ok (.aload_n 0, 1) := by decide +kernel
theorem dX4_bestRule_55 : decode cX4_bestRule 55 = .ok (.getfield 9, 3) := by decide +kernel
theorem dX4_bestRule_58 : decode cX4_bestRule 58 = .ok (.iconst 0, 1) := by decide +kernel
theorem dX4_bestRule_59 : decode cX4_bestRule 59 = .ok (.iload 8, 2) := by decide +kernel
theorem dX4_bestRule_61 : decode cX4_bestRule 61 = .ok (.iastore, 1) := by decide +kernel
theorem dX4_bestRule_62 : decode cX4_bestRule 62 = .ok (.aload_n 0, 1) := by decide +kernel
theorem dX4_bestRule_63 : decode cX4_bestRule 63 = .ok (.getfield 9, 3) := by decide +kernel
theorem dX4_bestRule_66 : decode cX4_bestRule 66 = .ok (.iconst 1, 1) := by decide +kernel
theorem dX4_bestRule_67 : decode cX4_bestRule 67 = .ok (.iload 9, 2) := by decide +kernel
theorem dX4_bestRule_69 : decode cX4_bestRule 69 = .ok (.iastore, 1) := by decide +kernel
theorem dX4_bestRule_70 : decode cX4_bestRule 70 = .ok (.aload_n 0, 1) := by decide +kernel
theorem dX4_bestRule_71 : decode cX4_bestRule 71 = .ok (.aload_n 1, 1) := by decide +kernel
theorem dX4_bestRule_72 : decode cX4_bestRule 72 = .ok (.iload_n 2, 1) := by decide +kernel
theorem dX4_bestRule_73 : decode cX4_bestRule 73 = .ok (.iload 4, 2) := by decide +kernel
theorem dX4_bestRule_75 : decode cX4_bestRule 75 = .ok (.invokevirtual 91, 3) := by decide +kernel
theorem dX4_bestRule_78 : decode cX4_bestRule 78 = .ok (.istore 10, 2) := by decide +kernel
theorem dX4_bestRule_80 : decode cX4_bestRule 80 = .ok (.iload 10, 2) := by decide +kernel
theorem dX4_bestRule_82 : decode cX4_bestRule 82 = .ok (.iload 4, 2) := by decide +kernel
theorem dX4_bestRule_84 : decode cX4_bestRule 84 = .ok (.if_icmp .le 15, 3) := by decide +kernel
theorem dX4_bestRule_87 : decode cX4_bestRule 87 = .ok (.iload 10, 2) := by decide +kernel
theorem dX4_bestRule_89 : decode cX4_bestRule 89 = .ok (.istore 4, 2) := by decide +kernel
theorem dX4_bestRule_91 : decode cX4_bestRule 91 = .ok (.iload 8, 2) := by decide +kernel
theorem dX4_bestRule_93 : decode cX4_bestRule 93 = .ok (.istore 5, 2) := by decide +kernel
theorem dX4_bestRule_95 : decode cX4_bestRule 95 = .ok (.iload 9, 2) := by decide +kernel
theorem dX4_bestRule_97 : decode cX4_bestRule 97 = .ok (.istore 6, 2) := by decide +kernel
theorem dX4_bestRule_99 : decode cX4_bestRule 99 = .ok (.iinc 9 1, 3) := by decide +kernel
theorem dX4_bestRule_102 : decode cX4_bestRule 102 = .ok (.goto (-62), 3) := by decide +kernel
theorem dX4_bestRule_105 : decode cX4_bestRule 105 = .ok (.iinc 8 1, 3) := by decide +kernel
theorem dX4_bestRule_108 : decode cX4_bestRule 108 = .ok (.goto (-85), 3) := by decide +kernel
theorem dX4_bestRule_111 : decode cX4_bestRule 111 = .ok (.iload_n 3, 1) := by decide +kernel
theorem dX4_bestRule_112 : decode cX4_bestRule 112 = .ok (.ifCond .ne 6, 3) := by decide +kernel
theorem dX4_bestRule_115 : decode cX4_bestRule 115 = .ok (.iload 4, 2) := by decide +kernel
theorem dX4_bestRule_117 : decode cX4_bestRule 117 = .ok (.ireturn, 1) := by decide +kernel
theorem dX4_bestRule_118 : decode cX4_bestRule 118 = .ok (.iload_n 3, 1) := by decide +kernel
theorem dX4_bestRule_119 : decode cX4_bestRule 119 = .ok (.iconst 1, 1) := by decide +kernel
theorem dX4_bestRule_120 : decode cX4_bestRule 120 = .ok (.if_icmp .ne 8, 3) := by decide +kernel
theorem dX4_bestRule_123 : decode cX4_bestRule 123 = .ok (.iload 5, 2) := by decide +kernel
theorem dX4_bestRule_125 : decode cX4_bestRule 125 = .ok (.goto 5, 3) := by decide +kernel
theorem dX4_bestRule_128 : decode cX4_bestRule 128 = .ok (.iload 6, 2) := by decide +kernel
theorem dX4_bestRule_130 : decode cX4_bestRule 130 = .ok (.ireturn, 1) := by decide +kernel
theorem dX4_together_0 : decode cX4_together 0 = .ok (.sipush 400, 3) := by decide +kernel
theorem dX4_together_3 : decode cX4_together 3 = .ok (.iconst 2, 1) := by decide +kernel
theorem dX4_together_4 : decode cX4_together 4 = .ok (.iload_n 2, 1) := by decide +kernel
theorem dX4_together_5 : decode cX4_together 5 = .ok (.imul, 1) := by decide +kernel
theorem dX4_together_6 : decode cX4_together 6 = .ok (.iconst 1, 1) := by decide +kernel
theorem dX4_together_7 : decode cX4_together 7 = .ok (.iadd, 1) := by decide +kernel
theorem dX4_together_8 : decode cX4_together 8 = .ok (.imul, 1) := by decide +kernel
theorem dX4_together_9 : decode cX4_together 9 = .ok (.istore 4, 2) := by decide +kernel
theorem dX4_together_11 : decode cX4_together 11 = .ok (.iload_n 2, 1) := by decide +kernel
theorem dX4_together_12 : decode cX4_together 12 = .ok (.istore 5, 2) := by decide +kernel
theorem dX4_together_14 : decode cX4_together 14 = .ok (.iload 5, 2) := by decide +kernel
theorem dX4_together_16 : decode cX4_together 16 = .ok (.iload_n 2, 1) := by decide +kernel
theorem dX4_together_17 : decode cX4_together 17 = .ok (.ineg, 1) := by decide +kernel
theorem dX4_together_18 : decode cX4_together 18 = .ok (.if_icmp .lt 35, 3) := by decide +kernel
theorem dX4_together_21 : decode cX4_together 21 = .ok (.iload 4, 2) := by decide +kernel
theorem dX4_together_23 : decode cX4_together 23 = .ok (.iload_n 3, 1) := by decide +kernel
theorem dX4_together_24 : decode cX4_together 24 = .ok (.if_icmp .le 29, 3) := by decide +kernel
theorem dX4_together_27 : decode cX4_together 27 = .ok (.iload 4, 2) := by decide +kernel
theorem dX4_together_29 : decode cX4_together 29 = .ok (.sipush 400, 3) := by decide +kernel
theorem dX4_together_32 : decode cX4_together 32 = .ok (.aload_n 0, 1) := by decide +kernel
theorem dX4_together_33 : decode cX4_together 33 = .ok (.aload_n 1, 1) := by decide +kernel
theorem dX4_together_34 : decode cX4_together 34 = .ok (.iload 5, 2) := by decide +kernel
theorem dX4_together_36 : decode cX4_together 36 = .ok (.iconst 0, 1) := by decide +kernel
theorem dX4_together_37 : decode cX4_together 37 = .ok (.sipush 400, 3) := by decide +kernel
theorem dX4_together_40 : decode cX4_together 40 = .ok (.invokevirtual 70, 3) := by decide +kernel
theorem dX4_together_43 : decode cX4_together 43 = .ok (.isub, 1) := by decide +kernel
theorem dX4_together_44 : decode cX4_together 44 = .ok (.isub, 1) := by decide +kernel
theorem dX4_together_45 : decode cX4_together 45 = .ok (.istore 4, 2) := by decide +kernel
theorem dX4_together_47 : decode cX4_together 47 = .ok (.iinc 5 (-1), 3) := by decide +kernel
theorem dX4_together_50 : decode cX4_together 50 = .ok (.goto (-36), 3) := by decide +kernel
theorem dX4_together_53 : decode cX4_together 53 = .ok (.iload 4, 2) := by decide +kernel
theorem dX4_together_55 : decode cX4_together 55 = .ok (.ireturn, 1) := by decide +kernel
theorem dX4_chances_0 : decode cX4_chances 0 = .ok (.iconst 0, 1) := by decide +kernel
theorem dX4_chances_1 : decode cX4_chances 1 = .ok (.istore 6, 2) := by decide +kernel
theorem dX4_chances_3 : decode cX4_chances 3 = .ok (.iconst 3, 1) := by decide +kernel
theorem dX4_chances_4 : decode cX4_chances 4 = .ok (.iload_n 3, 1) := by decide +kernel
theorem dX4_chances_5 : decode cX4_chances 5 = .ok (.invokestatic 95, 3) := by decide +kernel
theorem dX4_chances_8 : decode cX4_chances 8 = .ok (.istore 7, 2) := by decide +kernel
theorem dX4_chances_10 : decode cX4_chances 10 = .ok (.iconst 0, 1) := by decide +kernel
theorem dX4_chances_11 : decode cX4_chances 11 = .ok (.istore 8, 2) := by decide +kernel
theorem dX4_chances_13 : decode cX4_chances 13 = .ok (.iload 8, 2) := by decide +kernel
theorem dX4_chances_15 : decode cX4_chances 15 = .ok (.iload 7, 2) := by decide +kernel
theorem dX4_chances_17 : decode cX4_chances 17 = .ok (.if_icmp .ge 130, 3) := by decide +kernel
theorem dX4_chances_20 : decode cX4_chances 20 = .ok (.aload_n 0, 1) := by decide +kernel
theorem dX4_chances_21 : decode cX4_chances 21 = .ok (.getfield 18, 3) := by decide +kernel
theorem dX4_chances_24 : decode cX4_chances 24 = .ok (.iconst 0, 1) := by decide +kernel
theorem dX4_chances_25 : decode cX4_chances 25 = .ok (.iload_n 2, 1) := by decide +kernel
theorem dX4_chances_26 : decode cX4_chances 26 = .ok (.iconst 0, 1) := by decide +kernel
theorem dX4_chances_27 : decode cX4_chances 27 = .ok (.invokevirtual 42, 3) := by decide +kernel
theorem dX4_chances_30 : decode cX4_chances 30 = .ok (.iconst 1, 1) := by decide +kernel
theorem dX4_chances_31 : decode cX4_chances 31 = .ok (.istore 9, 2) := by decide +kernel
theorem dX4_chances_33 : decode cX4_chances 33 = .ok (.iload 8, 2) := by decide +kernel
theorem dX4_chances_35 : decode cX4_chances 35 = .ok (.istore 10, 2) := by decide +kernel
theorem dX4_chances_37 : decode cX4_chances 37 = .ok (.iconst 0, 1) := by decide +kernel
theorem dX4_chances_38 : decode cX4_chances 38 = .ok (.istore 11, 2) := by decide +kernel
theorem dX4_chances_40 : decode cX4_chances 40 = .ok (.iload 11, 2) := by decide +kernel
theorem dX4_chances_42 : decode cX4_chances 42 = .ok (.iload_n 3, 1) := by decide +kernel
theorem dX4_chances_43 : decode cX4_chances 43 = .ok (.if_icmp .ge 77, 3) := by decide +kernel
theorem dX4_chances_46 : decode cX4_chances 46 = .ok (.aload_n 0, 1) := by decide +kernel
theorem dX4_chances_47 : decode cX4_chances 47 = .ok (.getfield 18, 3) := by decide +kernel
theorem dX4_chances_50 : decode cX4_chances 50 = .ok (.aload_n 0, 1) := by decide +kernel
theorem dX4_chances_51 : decode cX4_chances 51 = .ok (.getfield 9, 3) := by decide +kernel
theorem dX4_chances_54 : decode cX4_chances 54 = .ok (.invokevirtual 46, 3) := by decide +kernel
theorem dX4_chances_57 : decode cX4_chances 57 = .ok (.ifCond .ne 63, 3) := by decide +kernel
theorem dX4_chances_60 : decode cX4_chances 60 = .ok (.iload 10, 2) := by decide +kernel
theorem dX4_chances_62 : decode cX4_chances 62 = .ok (.iconst 3, 1) := by decide +kernel
theorem dX4_chances_63 : decode cX4_chances 63 = .ok (.irem, 1) := by decide +kernel
theorem dX4_chances_64 : decode cX4_chances 64 = .ok (.iconst 1, 1) := by decide +kernel
theorem dX4_chances_65 : decode cX4_chances 65 = .ok (.isub, 1) := by decide +kernel
theorem dX4_chances_66 : decode cX4_chances 66 = .ok (.istore 12, 2) := by decide +kernel
theorem dX4_chances_68 : decode cX4_chances 68 = .ok (.iload 9, 2) := by decide +kernel
theorem dX4_chances_70 : decode cX4_chances 70 = .ok (.iload 12, 2) := by decide +kernel
theorem dX4_chances_72 : decode cX4_chances 72 = .ok (.ifCond .ne 13, 3) := by decide +kernel
theorem dX4_chances_75 : decode cX4_chances 75 = .ok (.bipush 10, 2) := by decide +kernel
theorem dX4_chances_77 : decode cX4_chances 77 = .ok (.iconst 2, 1) := by decide +kernel
theorem dX4_chances_78 : decode cX4_chances 78 = .ok (.iload 5, 2) := by decide +kernel
theorem dX4_chances_80 : decode cX4_chances 80 = .ok (.imul, 1) := by decide +kernel
theorem dX4_chances_81 : decode cX4_chances 81 = .ok (.isub, 1) := by decide +kernel
theorem dX4_chances_82 : decode cX4_chances 82 = .ok (.goto 5, 3) := by decide +kernel
theorem dX4_chances_85 : decode cX4_chances 85 = .ok (.iload 5, 2) := by decide +kernel
theorem dX4_chances_87 : decode cX4_chances 87 = .ok (.imul, 1) := by decide +kernel
theorem dX4_chances_88 : decode cX4_chances 88 = .ok (.istore 9, 2) := by decide +kernel
theorem dX4_chances_90 : decode cX4_chances 90 = .ok (.iload 10, 2) := by decide +kernel
theorem dX4_chances_92 : decode cX4_chances 92 = .ok (.iconst 3, 1) := by decide +kernel
theorem dX4_chances_93 : decode cX4_chances 93 = .ok (.idiv, 1) := by decide +kernel
theorem dX4_chances_94 : decode cX4_chances 94 = .ok (.istore 10, 2) := by decide +kernel
theorem dX4_chances_96 : decode cX4_chances 96 = .ok (.aload_n 0, 1) := by decide +kernel
theorem dX4_chances_97 : decode cX4_chances 97 = .ok (.getfield 18, 3) := by decide +kernel
theorem dX4_chances_100 : decode cX4_chances 100 = .ok (.aload_n 1, 1) := by decide +kernel
theorem dX4_chances_101 : decode cX4_chances 101 = .ok (.aload_n 0, 1) := by decide +kernel
theorem dX4_chances_102 : decode cX4_chances 102 = .ok (.getfield 9, 3) := by decide +kernel
theorem dX4_chances_105 : decode cX4_chances 105 = .ok (.iconst 1, 1) := by decide +kernel
theorem dX4_chances_106 : decode cX4_chances 106 = .ok (.iload 4, 2) := by decide +kernel
theorem dX4_chances_108 : decode cX4_chances 108 = .ok (.iload 12, 2) := by decide +kernel
theorem dX4_chances_110 : decode cX4_chances 110 = .ok (.imul, 1) := by decide +kernel
theorem dX4_chances_111 : decode cX4_chances 111 = .ok (.invokevirtual 58, 3) := by decide +kernel
theorem dX4_chances_114 : decode cX4_chances 114 = .ok (.iinc 11 1, 3) := by decide +kernel
theorem dX4_chances_117 : decode cX4_chances 117 = .ok (.goto (-77), 3) := by decide +kernel
theorem dX4_chances_120 : decode cX4_chances 120 = .ok (.aload_n 0, 1) := by decide +kernel
theorem dX4_chances_121 : decode cX4_chances 121 = .ok (.getfield 18, 3) := by decide +kernel
theorem dX4_chances_124 : decode cX4_chances 124 = .ok (.aload_n 0, 1) := by decide +kernel
theorem dX4_chances_125 : decode cX4_chances 125 = .ok (.getfield 9, 3) := by decide +kernel
theorem dX4_chances_128 : decode cX4_chances 128 = .ok (.invokevirtual 46, 3) := by decide +kernel
theorem dX4_chances_131 : decode cX4_chances 131 = .ok (.ifCond .ne 10, 3) := by decide +kernel
theorem dX4_chances_134 : decode cX4_chances 134 = .ok (.iload 6, 2) := by decide +kernel
theorem dX4_chances_136 : decode cX4_chances 136 = .ok (.iload 9, 2) := by decide +kernel
theorem dX4_chances_138 : decode cX4_chances 138 = .ok (.iadd, 1) := by decide +kernel
theorem dX4_chances_139 : decode cX4_chances 139 = .ok (.istore 6, 2) := by decide +kernel
theorem dX4_chances_141 : decode cX4_chances 141 = .ok (.iinc 8 1, 3) := by decide +kernel
theorem dX4_chances_144 : decode cX4_chances 144 = .ok (.goto (-131), 3) := by decide +kernel
theorem dX4_chances_147 : decode cX4_chances 147 = .ok (.iload 6, 2) := by decide +kernel
theorem dX4_chances_149 : decode cX4_chances 149 = .ok (.ireturn, 1) := by decide +kernel
theorem dX4_leastShake_0 : decode cX4_leastShake 0 = .ok (.iconst 0, 1) := by decide +kernel
theorem dX4_leastShake_1 : decode cX4_leastShake 1 = .ok (.istore_n 3, 1) := by decide +kernel
theorem dX4_leastShake_2 : decode cX4_leastShake 2 = .ok (.iload_n 3, 1) := by decide +kernel
theorem dX4_leastShake_3 : decode cX4_leastShake 3 = .ok (.getstatic 98, 3) := by decide +kernel
theorem dX4_leastShake_6 : decode cX4_leastShake 6 = .ok (.bipush 9, 2) := by decide +kernel
theorem dX4_leastShake_8 : decode cX4_leastShake 8 = .ok (.iaload, 1) := by decide +kernel
theorem dX4_leastShake_9 : decode cX4_leastShake 9 = .ok (.if_icmp .gt 28, 3) := by decide +kernel
theorem dX4_leastShake_12 : decode cX4_leastShake 12 = .ok (.aload_n 0, 1) := by decide +kernel
theorem dX4_leastShake_13 : decode cX4_leastShake 13 = .ok (.getfield 9, 3) := by decide +kernel
theorem dX4_leastShake_16 : decode cX4_leastShake 16 = .ok (.bipush 9, 2) := by decide +kernel
theorem dX4_leastShake_18 : decode cX4_leastShake 18 = .ok (.iload_n 3, 1) := by decide +kernel
theorem dX4_leastShake_19 : decode cX4_leastShake 19 = .ok (.iastore, 1) := by decide +kernel
theorem dX4_leastShake_20 : decode cX4_leastShake 20 = .ok (.aload_n 0, 1) := by decide +kernel
theorem dX4_leastShake_21 : decode cX4_leastShake 21 = .ok (.aload_n 1, 1) := by decide +kernel
theorem dX4_leastShake_22 : decode cX4_leastShake 22 = .ok (.iload_n 2, 1) := by decide +kernel
theorem dX4_leastShake_23 : decode cX4_leastShake 23 = .ok (.invokevirtual 101, 3) := by decide +kernel
theorem dX4_leastShake_26 : decode cX4_leastShake 26 = .ok (.ifCond .eq 5, 3) := by decide +kernel
theorem dX4_leastShake_29 : decode cX4_leastShake 29 = .ok (.iload_n 3, 1) := by decide +kernel
theorem dX4_leastShake_30 : decode cX4_leastShake 30 = .ok (.ireturn, 1) := by decide +kernel
theorem dX4_leastShake_31 : decode cX4_leastShake 31 = .ok (.iinc 3 1, 3) := by decide +kernel
theorem dX4_leastShake_34 : decode cX4_leastShake 34 = .ok (.goto (-32), 3) := by decide +kernel
theorem dX4_leastShake_37 : decode cX4_leastShake 37 = .ok (.iconst (-1), 1) := by decide +kernel
theorem dX4_leastShake_38 : decode cX4_leastShake 38 = .ok (.ireturn, 1) := by decide +kernel
theorem dX4_standsAlone_0 : decode cX4_standsAlone 0 = .ok (.aload_n 0, 1) := by decide +kernel
theorem dX4_standsAlone_1 : decode cX4_standsAlone 1 = .ok (.getfield 18, 3) := by decide +kernel
theorem dX4_standsAlone_4 : decode cX4_standsAlone 4 = .ok (.iconst 0, 1) := by decide +kernel
theorem dX4_standsAlone_5 : decode cX4_standsAlone 5 = .ok (.iload_n 2, 1) := by decide +kernel
theorem dX4_standsAlone_6 : decode cX4_standsAlone 6 = .ok (.iconst 0, 1) := by decide +kernel
theorem dX4_standsAlone_7 : decode cX4_standsAlone 7 = .ok (.invokevirtual 42, 3) := by decide +kernel
theorem dX4_standsAlone_10 : decode cX4_standsAlone 10 = .ok (.iconst 0, 1) := by decide +kernel
theorem dX4_standsAlone_11 : decode cX4_standsAlone 11 = .ok (.istore_n 3, 1) := by decide +kernel
theorem dX4_standsAlone_12 : decode cX4_standsAlone 12 = .ok (.iload_n 3, 1) := by decide +kernel
theorem dX4_standsAlone_13 : decode cX4_standsAlone 13 = .ok (.sipush 400, 3) := by decide +kernel
theorem dX4_standsAlone_16 : decode cX4_standsAlone 16 = .ok (.if_icmp .ge 37, 3) := by decide +kernel
theorem dX4_standsAlone_19 : decode cX4_standsAlone 19 = .ok (.aload_n 0, 1) := by decide +kernel
theorem dX4_standsAlone_20 : decode cX4_standsAlone 20 = .ok (.getfield 18, 3) := by decide +kernel
theorem dX4_standsAlone_23 : decode cX4_standsAlone 23 = .ok (.aload_n 0, 1) := by decide +kernel
theorem dX4_standsAlone_24 : decode cX4_standsAlone 24 = .ok (.getfield 9, 3) := by decide +kernel
theorem dX4_standsAlone_27 : decode cX4_standsAlone 27 = .ok (.invokevirtual 46, 3) := by decide +kernel
theorem dX4_standsAlone_30 : decode cX4_standsAlone 30 = .ok (.ifCond .ne 23, 3) := by decide +kernel
theorem dX4_standsAlone_33 : decode cX4_standsAlone 33 = .ok (.aload_n 0, 1) := by decide +kernel
theorem dX4_standsAlone_34 : decode cX4_standsAlone 34 = .ok (.getfield 18, 3) := by decide +kernel
theorem dX4_standsAlone_37 : decode cX4_standsAlone 37 = .ok (.aload_n 1, 1) := by decide +kernel
theorem dX4_standsAlone_38 : decode cX4_standsAlone 38 = .ok (.aload_n 0, 1) := by decide +kernel
theorem dX4_standsAlone_39 : decode cX4_standsAlone 39 = .ok (.getfield 9, 3) := by decide +kernel
theorem dX4_standsAlone_42 : decode cX4_standsAlone 42 = .ok (.iconst 0, 1) := by decide +kernel
theorem dX4_standsAlone_43 : decode cX4_standsAlone 43 = .ok (.iconst 0, 1) := by decide +kernel
theorem dX4_standsAlone_44 : decode cX4_standsAlone 44 = .ok (.invokevirtual 58, 3) := by decide +kernel
theorem dX4_standsAlone_47 : decode cX4_standsAlone 47 = .ok (.iinc 3 1, 3) := by decide +kernel
theorem dX4_standsAlone_50 : decode cX4_standsAlone 50 = .ok (.goto (-38), 3) := by decide +kernel
theorem dX4_standsAlone_53 : decode cX4_standsAlone 53 = .ok (.aload_n 0, 1) := by decide +kernel
theorem dX4_standsAlone_54 : decode cX4_standsAlone 54 = .ok (.getfield 18, 3) := by decide +kernel
theorem dX4_standsAlone_57 : decode cX4_standsAlone 57 = .ok (.getfield 62, 3) := by decide +kernel
theorem dX4_standsAlone_60 : decode cX4_standsAlone 60 = .ok (.sipush 400, 3) := by decide +kernel
theorem dX4_standsAlone_63 : decode cX4_standsAlone 63 = .ok (.if_icmp .ne 7, 3) := by decide +kernel
theorem dX4_standsAlone_66 : decode cX4_standsAlone 66 = .ok (.iconst 1, 1) := by decide +kernel
theorem dX4_standsAlone_67 : decode cX4_standsAlone 67 = .ok (.goto 4, 3) := by decide +kernel
theorem dX4_standsAlone_70 : decode cX4_standsAlone 70 = .ok (.iconst 0, 1) := by decide +kernel
theorem dX4_standsAlone_71 : decode cX4_standsAlone 71 = .ok (.ireturn, 1) := by decide +kernel
theorem dX4_bothLast_0 : decode cX4_bothLast 0 = .ok (.iconst 1, 1) := by decide +kernel
theorem dX4_bothLast_1 : decode cX4_bothLast 1 = .ok (.iload_n 3, 1) := by decide +kernel
theorem dX4_bothLast_2 : decode cX4_bothLast 2 = .ok (.iload 4, 2) := by decide +kernel
theorem dX4_bothLast_4 : decode cX4_bothLast 4 = .ok (.iadd, 1) := by decide +kernel
theorem dX4_bothLast_5 : decode cX4_bothLast 5 = .ok (.invokestatic 104, 3) := by decide +kernel
theorem dX4_bothLast_8 : decode cX4_bothLast 8 = .ok (.istore 5, 2) := by decide +kernel
theorem dX4_bothLast_10 : decode cX4_bothLast 10 = .ok (.iconst 0, 1) := by decide +kernel
theorem dX4_bothLast_11 : decode cX4_bothLast 11 = .ok (.istore 6, 2) := by decide +kernel
theorem dX4_bothLast_13 : decode cX4_bothLast 13 = .ok (.iload 6, 2) := by decide +kernel
theorem dX4_bothLast_15 : decode cX4_bothLast 15 = .ok (.sipush 400, 3) := by decide +kernel
theorem dX4_bothLast_18 : decode cX4_bothLast 18 = .ok (.if_icmp .ge 91, 3) := by decide +kernel
theorem dX4_bothLast_21 : decode cX4_bothLast 21 = .ok (.aload_n 0, 1) := by decide +kernel
theorem dX4_bothLast_22 : decode cX4_bothLast 22 = .ok (.getfield 18, 3) := by decide +kernel
theorem dX4_bothLast_25 : decode cX4_bothLast 25 = .ok (.aload_n 0, 1) := by decide +kernel
theorem dX4_bothLast_26 : decode cX4_bothLast 26 = .ok (.getfield 9, 3) := by decide +kernel
theorem dX4_bothLast_29 : decode cX4_bothLast 29 = .ok (.invokevirtual 46, 3) := by decide +kernel
theorem dX4_bothLast_32 : decode cX4_bothLast 32 = .ok (.ifCond .ne 77, 3) := by decide +kernel
theorem dX4_bothLast_35 : decode cX4_bothLast 35 = .ok (.aload_n 0, 1) := by decide +kernel
theorem dX4_bothLast_36 : decode cX4_bothLast 36 = .ok (.getfield 22, 3) := by decide +kernel
theorem dX4_bothLast_39 : decode cX4_bothLast 39 = .ok (.aload_n 0, 1) := by decide +kernel
theorem dX4_bothLast_40 : decode cX4_bothLast 40 = .ok (.getfield 9, 3) := by decide +kernel
theorem dX4_bothLast_43 : decode cX4_bothLast 43 = .ok (.invokevirtual 46, 3) := by decide +kernel
theorem dX4_bothLast_46 : decode cX4_bothLast 46 = .ok (.ifCond .ne 63, 3) := by decide +kernel
theorem dX4_bothLast_49 : decode cX4_bothLast 49 = .ok (.iload 6, 2) := by decide +kernel
theorem dX4_bothLast_51 : decode cX4_bothLast 51 = .ok (.iload 5, 2) := by decide +kernel
theorem dX4_bothLast_53 : decode cX4_bothLast 53 = .ok (.irem, 1) := by decide +kernel
theorem dX4_bothLast_54 : decode cX4_bothLast 54 = .ok (.iload_n 3, 1) := by decide +kernel
theorem dX4_bothLast_55 : decode cX4_bothLast 55 = .ok (.if_icmp .ge 7, 3) := by decide +kernel
theorem dX4_bothLast_58 : decode cX4_bothLast 58 = .ok (.iconst 1, 1) := by decide +kernel
theorem dX4_bothLast_59 : decode cX4_bothLast 59 = .ok (.goto 4, 3) := by decide +kernel
theorem dX4_bothLast_62 : decode cX4_bothLast 62 = .ok (.iconst 0, 1) := by decide +kernel
theorem dX4_bothLast_63 : decode cX4_bothLast 63 = .ok (.istore 7, 2) := by decide +kernel
theorem dX4_bothLast_65 : decode cX4_bothLast 65 = .ok (.aload_n 0, 1) := by decide +kernel
theorem dX4_bothLast_66 : decode cX4_bothLast 66 = .ok (.getfield 18, 3) := by decide +kernel
theorem dX4_bothLast_69 : decode cX4_bothLast 69 = .ok (.aload_n 1, 1) := by decide +kernel
theorem dX4_bothLast_70 : decode cX4_bothLast 70 = .ok (.aload_n 0, 1) := by decide +kernel
theorem dX4_bothLast_71 : decode cX4_bothLast 71 = .ok (.getfield 9, 3) := by decide +kernel
theorem dX4_bothLast_74 : decode cX4_bothLast 74 = .ok (.iload 7, 2) := by decide +kernel
theorem dX4_bothLast_76 : decode cX4_bothLast 76 = .ok (.iconst 0, 1) := by decide +kernel
theorem dX4_bothLast_77 : decode cX4_bothLast 77 = .ok (.invokevirtual 58, 3) := by decide +kernel
theorem dX4_bothLast_80 : decode cX4_bothLast 80 = .ok (.aload_n 0, 1) := by decide +kernel
theorem dX4_bothLast_81 : decode cX4_bothLast 81 = .ok (.getfield 22, 3) := by decide +kernel
theorem dX4_bothLast_84 : decode cX4_bothLast 84 = .ok (.aload_n 2, 1) := by decide +kernel
theorem dX4_bothLast_85 : decode cX4_bothLast 85 = .ok (.aload_n 0, 1) := by decide +kernel
theorem dX4_bothLast_86 : decode cX4_bothLast 86 = .ok (.getfield 9, 3) := by decide +kernel
theorem dX4_bothLast_89 : decode cX4_bothLast 89 = .ok (.iload 7, 2) := by decide +kernel
theorem dX4_bothLast_91 : decode cX4_bothLast 91 = .ok (.ifCond .ne 7, 3) := by decide +kernel
theorem dX4_bothLast_94 : decode cX4_bothLast 94 = .ok (.iconst 1, 1) := by decide +kernel
theorem dX4_bothLast_95 : decode cX4_bothLast 95 = .ok (.goto 4, 3) := by decide +kernel
theorem dX4_bothLast_98 : decode cX4_bothLast 98 = .ok (.iconst 0, 1) := by decide +kernel
theorem dX4_bothLast_99 : decode cX4_bothLast 99 = .ok (.iconst 0, 1) := by decide +kernel
theorem dX4_bothLast_100 : decode cX4_bothLast 100 = .ok (.invokevirtual 58, 3) := by decide +kernel
theorem dX4_bothLast_103 : decode cX4_bothLast 103 = .ok (.iinc 6 1, 3) := by decide +kernel
theorem dX4_bothLast_106 : decode cX4_bothLast 106 = .ok (.goto (-93), 3) := by decide +kernel
theorem dX4_bothLast_109 : decode cX4_bothLast 109 = .ok (.aload_n 0, 1) := by decide +kernel
theorem dX4_bothLast_110 : decode cX4_bothLast 110 = .ok (.getfield 18, 3) := by decide +kernel
theorem dX4_bothLast_113 : decode cX4_bothLast 113 = .ok (.getfield 62, 3) := by decide +kernel
theorem dX4_bothLast_116 : decode cX4_bothLast 116 = .ok (.ireturn, 1) := by decide +kernel
theorem dX5_init_0 : decode cX5_init 0 = .ok (.aload_n 0, 1) := by decide +kernel
theorem dX5_init_1 : decode cX5_init 1 = .ok (.invokespecial 3, 3) := by decide +kernel
theorem dX5_init_4 : decode cX5_init 4 = .ok (.aload_n 0, 1) := by decide +kernel
theorem dX5_init_5 : decode cX5_init 5 = .ok (.sipush 200, 3) := by decide +kernel
theorem dX5_init_8 : decode cX5_init 8 = .ok (.newarray .int, 2) := by decide +kernel
theorem dX5_init_10 : decode cX5_init 10 = .ok (.putfield 9, 3) := by decide +kernel
theorem dX5_init_13 : decode cX5_init 13 = .ok (.aload_n 0, 1) := by decide +kernel
theorem dX5_init_14 : decode cX5_init 14 = .ok (.iconst 0, 1) := by decide +kernel
theorem dX5_init_15 : decode cX5_init 15 = .ok (.putfield 15, 3) := by decide +kernel
theorem dX5_init_18 : decode cX5_init 18 = .ok (.aload_n 0, 1) := by decide +kernel
theorem dX5_init_19 : decode cX5_init 19 = .ok (.iconst 0, 1) := by decide +kernel
theorem dX5_init_20 : decode cX5_init 20 = .ok (.putfield 19, 3) := by decide +kernel
theorem dX5_init_23 : decode cX5_init 23 = .ok (.aload_n 0, 1) := by decide +kernel
theorem dX5_init_24 : decode cX5_init 24 = .ok (.bipush 8, 2) := by decide +kernel
theorem dX5_init_26 : decode cX5_init 26 = .ok (.newarray .int, 2) := by decide +kernel
theorem dX5_init_28 : decode cX5_init 28 = .ok (.putfield 22, 3) := by decide +kernel
theorem dX5_init_31 : decode cX5_init 31 = .ok (.aload_n 0, 1) := by decide +kernel
theorem dX5_init_32 : decode cX5_init 32 = .ok (.bipush 40, 2) := by decide +kernel
theorem dX5_init_34 : decode cX5_init 34 = .ok (.newarray .int, 2) := by decide +kernel
theorem dX5_init_36 : decode cX5_init 36 = .ok (.putfield 25, 3) := by decide +kernel
theorem dX5_init_39 : decode cX5_init 39 = .ok (.aload_n 0, 1) := by decide +kernel
theorem dX5_init_40 : decode cX5_init 40 = .ok (.iconst 0, 1) := by decide +kernel
theorem dX5_init_41 : decode cX5_init 41 = .ok (.putfield 28, 3) := by decide +kernel
theorem dX5_init_44 : decode cX5_init 44 = .ok (.aload_n 0, 1) := by decide +kernel
theorem dX5_init_45 : decode cX5_init 45 = .ok (.bipush 8, 2) := by decide +kernel
theorem dX5_init_47 : decode cX5_init 47 = .ok (.newarray .int, 2) := by decide +kernel
theorem dX5_init_49 : decode cX5_init 49 = .ok (.putfield 31, 3) := by decide +kernel
theorem dX5_init_52 : decode cX5_init 52 = .ok (.aload_n 0, 1) := by decide +kernel
theorem dX5_init_53 : decode cX5_init 53 = .ok (.iconst 4, 1) := by decide +kernel
theorem dX5_init_54 : decode cX5_init 54 = .ok (.newarray .int, 2) := by decide +kernel
theorem dX5_init_56 : decode cX5_init 56 = .ok (.putfield 34, 3) := by decide +kernel
theorem dX5_init_59 : decode cX5_init 59 = .ok (.aload_n 0, 1) := by decide +kernel
theorem dX5_init_60 : decode cX5_init 60 = .ok (.iconst 0, 1) := by decide +kernel
theorem dX5_init_61 : decode cX5_init 61 = .ok (.putfield 37, 3) := by decide +kernel
theorem dX5_init_64 : decode cX5_init 64 = .ok (.aload_n 0, 1) := by decide +kernel
theorem dX5_init_65 : decode cX5_init 65 = .ok (.iconst 0, 1) := by decide +kernel
theorem dX5_init_66 : decode cX5_init 66 = .ok (.putfield 40, 3) := by decide +kernel
theorem dX5_init_69 : decode cX5_init 69 = .ok (.aload_n 0, 1) := by decide +kernel
theorem dX5_init_70 : decode cX5_init 70 = .ok (.iconst 0, 1) := by decide +kernel
theorem dX5_init_71 : decode cX5_init 71 = .ok (.putfield 43, 3) := by decide +kernel
theorem dX5_init_74 : decode cX5_init 74 = .ok (.return_, 1) := by decide +kernel
theorem dX5_append_0 : decode cX5_append 0 = .ok (.aload_n 0, 1) := by decide +kernel
theorem dX5_append_1 : decode cX5_append 1 = .ok (.getfield 15, 3) := by decide +kernel
theorem dX5_append_4 : decode cX5_append 4 = .ok (.sipush 200, 3) := by decide +kernel
theorem dX5_append_7 : decode cX5_append 7 = .ok (.if_icmp .ge 23, 3) := by decide +kernel
theorem dX5_append_10 : decode cX5_append 10 = .ok (.aload_n 0, 1) := by decide +kernel
theorem dX5_append_11 : decode cX5_append 11 = .ok (.getfield 9, 3) := by decide +kernel
theorem dX5_append_14 : decode cX5_append 14 = .ok (.aload_n 0, 1) := by decide +kernel
theorem dX5_append_15 : decode cX5_append 15 = .ok (.getfield 15, 3) := by decide +kernel
theorem dX5_append_18 : decode cX5_append 18 = .ok (.iload_n 1, 1) := by decide +kernel
theorem dX5_append_19 : decode cX5_append 19 = .ok (.iastore, 1) := by decide +kernel
theorem dX5_append_20 : decode cX5_append 20 = .ok (.aload_n 0, 1) := by decide +kernel
theorem dX5_append_21 : decode cX5_append 21 = .ok (.dup, 1) := by decide +kernel
theorem dX5_append_22 : decode cX5_append 22 = .ok (.getfield 15, 3) := by decide +kernel
theorem dX5_append_25 : decode cX5_append 25 = .ok (.iconst 1, 1) := by decide +kernel
theorem dX5_append_26 : decode cX5_append 26 = .ok (.iadd, 1) := by decide +kernel
theorem dX5_append_27 : decode cX5_append 27 = .ok (.putfield 15, 3) := by decide +kernel
theorem dX5_append_30 : decode cX5_append 30 = .ok (.return_, 1) := by decide +kernel
theorem dX5_firstFault_0 : decode cX5_firstFault 0 = .ok (.iconst 0, 1) := by decide +kernel
theorem dX5_firstFault_1 : decode cX5_firstFault 1 = .ok (.istore_n 2, 1) := by decide +kernel
theorem dX5_firstFault_2 : decode cX5_firstFault 2 = .ok (.iload_n 2, 1) := by decide +kernel
theorem dX5_firstFault_3 : decode cX5_firstFault 3 = .ok (.iconst 4, 1) := by decide +kernel
theorem dX5_firstFault_4 : decode cX5_firstFault 4 = .ok (.if_icmp .ge 24, 3) := by decide +kernel
theorem dX5_firstFault_7 : decode cX5_firstFault 7 = .ok (.aload_n 0, 1) := by decide +kernel
theorem dX5_firstFault_8 : decode cX5_firstFault 8 = .ok (.getfield 34, 3) := by decide +kernel
theorem dX5_firstFault_11 : decode cX5_firstFault 11 = .ok (.iload_n 2, 1) := by decide +kernel
theorem dX5_firstFault_12 : decode cX5_firstFault 12 = .ok (.aload_n 1, 1) := by decide +kernel
theorem dX5_firstFault_13 : decode cX5_firstFault 13 = .ok (.getfield 46, 3) := by decide +kernel
theorem dX5_firstFault_16 : decode cX5_firstFault 16 = .ok (.iload_n 2, 1) := by decide +kernel
theorem dX5_firstFault_17 : decode cX5_firstFault 17 = .ok (.aaload, 1) := by decide +kernel
theorem dX5_firstFault_18 : decode cX5_firstFault 18 = .ok (.getfield 52, 3) := by decide +kernel
theorem dX5_firstFault_21 : decode cX5_firstFault 21 = .ok (.iastore, 1) := by decide +kernel
theorem dX5_firstFault_22 : decode cX5_firstFault 22 = .ok (.iinc 2 1, 3) := by decide +kernel
theorem dX5_firstFault_25 : decode cX5_firstFault 25 = .ok (.goto (-23), 3) := by decide +kernel
theorem dX5_firstFault_28 : decode cX5_firstFault 28 = .ok (.aload_n 0, 1) := by decide +kernel
theorem dX5_firstFault_29 : decode cX5_firstFault 29 = .ok (.iconst 0, 1) := by decide +kernel
theorem dX5_firstFault_30 : decode cX5_firstFault 30 = .ok (.putfield 43, 3) := by decide +kernel
theorem dX5_firstFault_33 : decode cX5_firstFault 33 = .ok (.iconst 0, 1) := by decide +kernel
theorem dX5_firstFault_34 : decode cX5_firstFault 34 = .ok (.istore_n 2, 1) := by decide +kernel
theorem dX5_firstFault_35 : decode cX5_firstFault 35 = .ok (.iload_n 2, 1) := by decide +kernel
theorem dX5_firstFault_36 : decode cX5_firstFault 36 = .ok (.bipush 8, 2) := by decide +kernel
theorem dX5_firstFault_38 : decode cX5_firstFault 38 = .ok (.if_icmp .ge 80, 3) := by decide +kernel
theorem dX5_firstFault_41 : decode cX5_firstFault 41 = .ok (.aload_n 0, 1) := by decide +kernel
theorem dX5_firstFault_42 : decode cX5_firstFault 42 = .ok (.iload_n 2, 1) := by decide +kernel
theorem dX5_firstFault_43 : decode cX5_firstFault 43 = .ok (.putfield 19, 3) := by decide +kernel
theorem dX5_firstFault_46 : decode cX5_firstFault 46 = .ok (.aload_n 0, 1) := by decide +kernel
theorem dX5_firstFault_47 : decode cX5_firstFault 47 = .ok (.iload_n 2, 1) := by decide +kernel
theorem dX5_firstFault_48 : decode cX5_firstFault 48 = .ok (.iconst 5, 1) := by decide +kernel
theorem dX5_firstFault_49 : decode cX5_firstFault 49 = .ok (.imul, 1) := by decide +kernel
theorem dX5_firstFault_50 : decode cX5_firstFault 50 = .ok (.putfield 28, 3) := by decide +kernel
theorem dX5_firstFault_53 : decode cX5_firstFault 53 = .ok (.aload_n 0, 1) := by decide +kernel
theorem dX5_firstFault_54 : decode cX5_firstFault 54 = .ok (.invokevirtual 56, 3) := by decide +kernel
theorem dX5_firstFault_57 : decode cX5_firstFault 57 = .ok (.aload_n 0, 1) := by decide +kernel
theorem dX5_firstFault_58 : decode cX5_firstFault 58 = .ok (.invokevirtual 59, 3) := by decide +kernel
theorem dX5_firstFault_61 : decode cX5_firstFault 61 = .ok (.ifCond .ne 8, 3) := by decide +kernel
theorem dX5_firstFault_64 : decode cX5_firstFault 64 = .ok (.aload_n 0, 1) := by decide +kernel
theorem dX5_firstFault_65 : decode cX5_firstFault 65 = .ok (.getfield 40, 3) := by decide +kernel
theorem dX5_firstFault_68 : decode cX5_firstFault 68 = .ok (.ireturn, 1) := by decide +kernel
theorem dX5_firstFault_69 : decode cX5_firstFault 69 = .ok (.aload_n 0, 1) := by decide +kernel
theorem dX5_firstFault_70 : decode cX5_firstFault 70 = .ok (.getfield 37, 3) := by decide +kernel
theorem dX5_firstFault_73 : decode cX5_firstFault 73 = .ok (.ifCond .ne 12, 3) := by decide +kernel
theorem dX5_firstFault_76 : decode cX5_firstFault 76 = .ok (.aload_n 0, 1) := by decide +kernel
theorem dX5_firstFault_77 : decode cX5_firstFault 77 = .ok (.iload_n 2, 1) := by decide +kernel
theorem dX5_firstFault_78 : decode cX5_firstFault 78 = .ok (.iconst 1, 1) := by decide +kernel
theorem dX5_firstFault_79 : decode cX5_firstFault 79 = .ok (.iadd, 1) := by decide +kernel
theorem dX5_firstFault_80 : decode cX5_firstFault 80 = .ok (.putfield 19, 3) := by decide +kernel
theorem dX5_firstFault_83 : decode cX5_firstFault 83 = .ok (.iconst (-1), 1) := by decide +kernel
theorem dX5_firstFault_84 : decode cX5_firstFault 84 = .ok (.ireturn, 1) := by decide +kernel
theorem dX5_firstFault_85 : decode cX5_firstFault 85 = .ok (.aload_n 0, 1) := by decide +kernel
theorem dX5_firstFault_86 : decode cX5_firstFault 86 = .ok (.getfield 37, 3) := by decide +kernel
theorem dX5_firstFault_89 : decode cX5_firstFault 89 = .ok (.iconst 3, 1) := by decide +kernel
theorem dX5_firstFault_90 : decode cX5_firstFault 90 = .ok (.if_icmp .ne 17, 3) := by decide +kernel
theorem dX5_firstFault_93 : decode cX5_firstFault 93 = .ok (.aload_n 0, 1) := by decide +kernel
theorem dX5_firstFault_94 : decode cX5_firstFault 94 = .ok (.getfield 9, 3) := by decide +kernel
theorem dX5_firstFault_97 : decode cX5_firstFault 97 = .ok (.aload_n 0, 1) := by decide +kernel
theorem dX5_firstFault_98 : decode cX5_firstFault 98 = .ok (.getfield 40, 3) := by decide +kernel
theorem dX5_firstFault_101 : decode cX5_firstFault 101 = .ok (.iaload, 1) := by decide +kernel
theorem dX5_firstFault_102 : decode cX5_firstFault 102 = .ok (.bipush 59, 2) := by decide +kernel
theorem dX5_firstFault_104 : decode cX5_firstFault 104 = .ok (.if_icmp .eq 8, 3) := by decide +kernel
theorem dX5_firstFault_107 : decode cX5_firstFault 107 = .ok (.aload_n 0, 1) := by decide +kernel
theorem dX5_firstFault_108 : decode cX5_firstFault 108 = .ok (.getfield 40, 3) := by decide +kernel
theorem dX5_firstFault_111 : decode cX5_firstFault 111 = .ok (.ireturn, 1) := by decide +kernel
theorem dX5_firstFault_112 : decode cX5_firstFault 112 = .ok (.iinc 2 1, 3) := by decide +kernel
theorem dX5_firstFault_115 : decode cX5_firstFault 115 = .ok (.goto (-80), 3) := by decide +kernel
theorem dX5_firstFault_118 : decode cX5_firstFault 118 = .ok (.aload_n 0, 1) := by decide +kernel
theorem dX5_firstFault_119 : decode cX5_firstFault 119 = .ok (.getfield 40, 3) := by decide +kernel
theorem dX5_firstFault_122 : decode cX5_firstFault 122 = .ok (.ireturn, 1) := by decide +kernel
theorem dX5_readToken_0 : decode cX5_readToken 0 = .ok (.aload_n 0, 1) := by decide +kernel
theorem dX5_readToken_1 : decode cX5_readToken 1 = .ok (.aload_n 0, 1) := by decide +kernel
theorem dX5_readToken_2 : decode cX5_readToken 2 = .ok (.getfield 43, 3) := by decide +kernel
theorem dX5_readToken_5 : decode cX5_readToken 5 = .ok (.putfield 40, 3) := by decide +kernel
theorem dX5_readToken_8 : decode cX5_readToken 8 = .ok (.aload_n 0, 1) := by decide +kernel
theorem dX5_readToken_9 : decode cX5_readToken 9 = .ok (.getfield 40, 3) := by decide +kernel
theorem dX5_readToken_12 : decode cX5_readToken 12 = .ok (.aload_n 0, 1) := by decide +kernel
theorem dX5_readToken_13 : decode cX5_readToken 13 = .ok (.getfield 15, 3) := by decide +kernel
theorem dX5_readToken_16 : decode cX5_readToken 16 = .ok (.if_icmp .ge 30, 3) := by decide +kernel
theorem dX5_readToken_19 : decode cX5_readToken 19 = .ok (.aload_n 0, 1) := by decide +kernel
theorem dX5_readToken_20 : decode cX5_readToken 20 = .ok (.getfield 9, 3) := by decide +kernel
theorem dX5_readToken_23 : decode cX5_readToken 23 = .ok (.aload_n 0, 1) := by decide +kernel
theorem dX5_readToken_24 : decode cX5_readToken 24 = .ok (.getfield 40, 3) := by decide +kernel
theorem dX5_readToken_27 : decode cX5_readToken 27 = .ok (.iaload, 1) := by decide +kernel
theorem dX5_readToken_28 : decode cX5_readToken 28 = .ok (.bipush 32, 2) := by decide +kernel
theorem dX5_readToken_30 : decode cX5_readToken 30 = .ok (.if_icmp .ne 16, 3) := by decide +kernel
theorem dX5_readToken_33 : decode cX5_readToken 33 = .ok (.aload_n 0, 1) := by decide +kernel
theorem dX5_readToken_34 : decode cX5_readToken 34 = .ok (.dup, 1) := by decide +kernel
theorem dX5_readToken_35 : decode cX5_readToken 35 = .ok (.getfield 40, 3) := by decide +kernel
theorem dX5_readToken_38 : decode cX5_readToken 38 = .ok (.iconst 1, 1) := by decide +kernel
theorem dX5_readToken_39 : decode cX5_readToken 39 = .ok (.iadd, 1) := by decide +kernel
theorem dX5_readToken_40 : decode cX5_readToken 40 = .ok (.putfield 40, 3) := by decide +kernel
theorem dX5_readToken_43 : decode cX5_readToken 43 = .ok (.goto (-35), 3) := by decide +kernel
theorem dX5_readToken_46 : decode cX5_readToken 46 = .ok (.aload_n 0, 1) := by decide +kernel
theorem dX5_readToken_47 : decode cX5_readToken 47 = .ok (.aload_n 0, 1) := by decide +kernel
theorem dX5_readToken_48 : decode cX5_readToken 48 = .ok (.getfield 40, 3) := by decide +kernel
theorem dX5_readToken_51 : decode cX5_readToken 51 = .ok (.aload_n 0, 1) := by decide +kernel
theorem dX5_readToken_52 : decode cX5_readToken 52 = .ok (.getfield 15, 3) := by decide +kernel
theorem dX5_readToken_55 : decode cX5_readToken 55 = .ok (.if_icmp .ge 18, 3) := by decide +kernel
theorem dX5_readToken_58 : decode cX5_readToken 58 = .ok (.aload_n 0, 1) := by decide +kernel
theorem dX5_readToken_59 : decode cX5_readToken 59 = .ok (.getfield 9, 3) := by decide +kernel
theorem dX5_readToken_62 : decode cX5_readToken 62 = .ok (.aload_n 0, 1) := by decide +kernel
theorem dX5_readToken_63 : decode cX5_readToken 63 = .ok (.getfield 40, 3) := by decide +kernel
theorem dX5_readToken_66 : decode cX5_readToken 66 = .ok (.iaload, 1) := by decide +kernel
theorem dX5_readToken_67 : decode cX5_readToken 67 = .ok (.invokestatic 63, 3) := by decide +kernel
theorem dX5_readToken_70 : decode cX5_readToken 70 = .ok (.goto 4, 3) := by decide +kernel
theorem dX5_readToken_73 : decode cX5_readToken 73 = .ok (.iconst 0, 1) := by decide +kernel
theorem dX5_readToken_74 : decode cX5_readToken 74 = .ok (.putfield 37, 3) := by decide +kernel
theorem dX5_readToken_77 : decode cX5_readToken 77 = .ok (.aload_n 0, 1) := by decide +kernel
theorem dX5_readToken_78 : decode cX5_readToken 78 = .ok (.aload_n 0, 1) := by decide +kernel
theorem dX5_readToken_79 : decode cX5_readToken 79 = .ok (.getfield 40, 3) := by decide +kernel
theorem dX5_readToken_82 : decode cX5_readToken 82 = .ok (.iconst 1, 1) := by decide +kernel
theorem dX5_readToken_83 : decode cX5_readToken 83 = .ok (.iadd, 1) := by decide +kernel
theorem dX5_readToken_84 : decode cX5_readToken 84 = .ok (.aload_n 0, 1) := by decide +kernel
theorem dX5_readToken_85 : decode cX5_readToken 85 = .ok (.getfield 15, 3) := by decide +kernel
theorem dX5_readToken_88 : decode cX5_readToken 88 = .ok (.invokestatic 67, 3) := by decide +kernel
theorem dX5_readToken_91 : decode cX5_readToken 91 = .ok (.putfield 43, 3) := by decide +kernel
theorem dX5_readToken_94 : decode cX5_readToken 94 = .ok (.aload_n 0, 1) := by decide +kernel
theorem dX5_readToken_95 : decode cX5_readToken 95 = .ok (.getfield 37, 3) := by decide +kernel
theorem dX5_readToken_98 : decode cX5_readToken 98 = .ok (.iconst 1, 1) := by decide +kernel
theorem dX5_readToken_99 : decode cX5_readToken 99 = .ok (.if_icmp .eq 11, 3) := by decide +kernel
theorem dX5_readToken_102 : decode cX5_readToken 102 = .ok (.aload_n 0, 1) := by decide +kernel
theorem dX5_readToken_103 : decode cX5_readToken 103 = .ok (.getfield 37, 3) := by decide +kernel
theorem dX5_readToken_106 : decode cX5_readToken 106 = .ok (.iconst 2, 1) := by decide +kernel
theorem dX5_readToken_107 : decode cX5_readToken 107 = .ok (.if_icmp .ne 46, 3) := by decide +kernel
theorem dX5_readToken_110 : decode cX5_readToken 110 = .ok (.aload_n 0, 1) := by decide +kernel
theorem dX5_readToken_111 : decode cX5_readToken 111 = .ok (.getfield 43, 3) := by decide +kernel
theorem dX5_readToken_114 : decode cX5_readToken 114 = .ok (.aload_n 0, 1) := by decide +kernel
theorem dX5_readToken_115 : decode cX5_readToken 115 = .ok (.getfield 15, 3) := by decide +kernel
theorem dX5_readToken_118 : decode cX5_readToken 118 = .ok (.if_icmp .ge 35, 3) := by decide +kernel
theorem dX5_readToken_121 : decode cX5_readToken 121 = .ok (.aload_n 0, 1) := by decide +kernel
theorem dX5_readToken_122 : decode cX5_readToken 122 = .ok (.getfield 9, 3) := by decide +kernel
theorem dX5_readToken_125 : decode cX5_readToken 125 = .ok (.aload_n 0, 1) := by decide +kernel
theorem dX5_readToken_126 : decode cX5_readToken 126 = .ok (.getfield 43, 3) := by decide +kernel
theorem dX5_readToken_129 : decode cX5_readToken 129 = .ok (.iaload, 1) := by decide +kernel
theorem dX5_readToken_130 : decode cX5_readToken 130 = .ok (.invokestatic 63, 3) := by decide +kernel
theorem dX5_readToken_133 : decode cX5_readToken 133 = .ok (.aload_n 0, 1) := by decide +kernel
theorem dX5_readToken_134 : decode cX5_readToken 134 = .ok (.getfield 37, 3) := by decide +kernel
theorem dX5_readToken_137 : decode cX5_readToken 137 = .ok (.if_icmp .ne 16, 3) := by decide +kernel
theorem dX5_readToken_140 : decode cX5_readToken 140 = .ok (.aload_n 0, 1) := by decide +kernel
theorem dX5_readToken_141 : decode cX5_readToken 141 = .ok (.dup, 1) := by decide +kernel
theorem dX5_readToken_142 : decode cX5_readToken 142 = .ok (.getfield 43, 3) := by decide +kernel
theorem dX5_readToken_145 : decode cX5_readToken 145 = .ok (.iconst 1, 1) := by decide +kernel
theorem dX5_readToken_146 : decode cX5_readToken 146 = .ok (.iadd, 1) := by decide +kernel
theorem dX5_readToken_147 : decode cX5_readToken 147 = .ok (.putfield 43, 3) := by decide +kernel
theorem dX5_readToken_150 : decode cX5_readToken 150 = .ok (.goto (-40), 3) := by decide +kernel
theorem dX5_readToken_153 : decode cX5_readToken 153 = .ok (.return_, 1) := by decide +kernel
theorem dX5_sort_0 : decode cX5_sort 0 = .ok (.iload_n 0, 1) := by decide +kernel
theorem dX5_sort_1 : decode cX5_sort 1 = .ok (.bipush 97, 2) := by decide +kernel
theorem dX5_sort_3 : decode cX5_sort 3 = .ok (.if_icmp .lt 11, 3) := by decide +kernel
theorem dX5_sort_6 : decode cX5_sort 6 = .ok (.iload_n 0, 1) := by decide +kernel
theorem dX5_sort_7 : decode cX5_sort 7 = .ok (.bipush 122, 2) := by decide +kernel
theorem dX5_sort_9 : decode cX5_sort 9 = .ok (.if_icmp .gt 5, 3) := by decide +kernel
theorem dX5_sort_12 : decode cX5_sort 12 = .ok (.iconst 1, 1) := by decide +kernel
theorem dX5_sort_13 : decode cX5_sort 13 = .ok (.ireturn, 1) := by decide +kernel
theorem dX5_sort_14 : decode cX5_sort 14 = .ok (.iload_n 0, 1) := by decide +kernel
theorem dX5_sort_15 : decode cX5_sort 15 = .ok (.bipush 48, 2) := by decide +kernel
theorem dX5_sort_17 : decode cX5_sort 17 = .ok (.if_icmp .lt 13, 3) := by decide +kernel
theorem dX5_sort_20 : decode cX5_sort 20 = .ok (.iload_n 0, 1) := by decide +kernel
theorem dX5_sort_21 : decode cX5_sort 21 = .ok (.bipush 57, 2) := by decide +kernel
theorem dX5_sort_23 : decode cX5_sort 23 = .ok (.if_icmp .gt 7, 3) := by decide +kernel
theorem dX5_sort_26 : decode cX5_sort 26 = .ok (.iconst 2, 1) := by decide +kernel
theorem dX5_sort_27 : decode cX5_sort 27 = .ok (.goto 4, 3) := by decide +kernel
theorem dX5_sort_30 : decode cX5_sort 30 = .ok (.iconst 3, 1) := by decide +kernel
theorem dX5_sort_31 : decode cX5_sort 31 = .ok (.ireturn, 1) := by decide +kernel
theorem dX5_says_0 : decode cX5_says 0 = .ok (.aload_n 0, 1) := by decide +kernel
theorem dX5_says_1 : decode cX5_says 1 = .ok (.getfield 37, 3) := by decide +kernel
theorem dX5_says_4 : decode cX5_says 4 = .ok (.iconst 1, 1) := by decide +kernel
theorem dX5_says_5 : decode cX5_says 5 = .ok (.if_icmp .ne 19, 3) := by decide +kernel
theorem dX5_says_8 : decode cX5_says 8 = .ok (.aload_n 0, 1) := by decide +kernel
theorem dX5_says_9 : decode cX5_says 9 = .ok (.getfield 43, 3) := by decide +kernel
theorem dX5_says_12 : decode cX5_says 12 = .ok (.aload_n 0, 1) := by decide +kernel
theorem dX5_says_13 : decode cX5_says 13 = .ok (.getfield 40, 3) := by decide +kernel
theorem dX5_says_16 : decode cX5_says 16 = .ok (.isub, 1) := by decide +kernel
theorem dX5_says_17 : decode cX5_says 17 = .ok (.aload_n 1, 1) := by decide +kernel
theorem dX5_says_18 : decode cX5_says 18 = .ok (.invokevirtual 73, 3) := by decide +kernel
theorem dX5_says_21 : decode cX5_says 21 = .ok (.if_icmp .eq 5, 3) := by decide +kernel
theorem dX5_says_24 : decode cX5_says 24 = .ok (.iconst 0, 1) := by decide +kernel
theorem dX5_says_25 : decode cX5_says 25 = .ok (.ireturn, 1) := by decide +kernel
theorem dX5_says_26 : decode cX5_says 26 = .ok (.iconst 0, 1) := by decide +kernel
theorem dX5_says_27 : decode cX5_says 27 = .ok (.istore_n 2, 1) := by decide +kernel
theorem dX5_says_28 : decode cX5_says 28 = .ok (.iload_n 2, 1) := by decide +kernel
theorem dX5_says_29 : decode cX5_says 29 = .ok (.aload_n 1, 1) := by decide +kernel
theorem dX5_says_30 : decode cX5_says 30 = .ok (.invokevirtual 73, 3) := by decide +kernel
theorem dX5_says_33 : decode cX5_says 33 = .ok (.if_icmp .ge 30, 3) := by decide +kernel
theorem dX5_says_36 : decode cX5_says 36 = .ok (.aload_n 0, 1) := by decide +kernel
theorem dX5_says_37 : decode cX5_says 37 = .ok (.getfield 9, 3) := by decide +kernel
theorem dX5_says_40 : decode cX5_says 40 = .ok (.aload_n 0, 1) := by decide +kernel
theorem dX5_says_41 : decode cX5_says 41 = .ok (.getfield 40, 3) := by decide +kernel
theorem dX5_says_44 : decode cX5_says 44 = .ok (.iload_n 2, 1) := by decide +kernel
theorem dX5_says_45 : decode cX5_says 45 = .ok (.iadd, 1) := by decide +kernel
theorem dX5_says_46 : decode cX5_says 46 = .ok (.iaload, 1) := by decide +kernel
theorem dX5_says_47 : decode cX5_says 47 = .ok (.aload_n 1, 1) := by decide +kernel
theorem dX5_says_48 : decode cX5_says 48 = .ok (.iload_n 2, 1) := by decide +kernel
theorem dX5_says_49 : decode cX5_says 49 = .ok (.invokevirtual 78, 3) := by decide +kernel
theorem dX5_says_52 : decode cX5_says 52 = .ok (.if_icmp .eq 5, 3) := by decide +kernel
theorem dX5_says_55 : decode cX5_says 55 = .ok (.iconst 0, 1) := by decide +kernel
theorem dX5_says_56 : decode cX5_says 56 = .ok (.ireturn, 1) := by decide +kernel
theorem dX5_says_57 : decode cX5_says 57 = .ok (.iinc 2 1, 3) := by decide +kernel
theorem dX5_says_60 : decode cX5_says 60 = .ok (.goto (-32), 3) := by decide +kernel
theorem dX5_says_63 : decode cX5_says 63 = .ok (.iconst 1, 1) := by decide +kernel
theorem dX5_says_64 : decode cX5_says 64 = .ok (.ireturn, 1) := by decide +kernel
theorem dX5_readLine_0 : decode cX5_readLine 0 = .ok (.aload_n 0, 1) := by decide +kernel
theorem dX5_readLine_1 : decode cX5_readLine 1 = .ok (.ldc 82, 2) := by decide +kernel
theorem dX5_readLine_3 : decode cX5_readLine 3 = .ok (.invokevirtual 84, 3) := by decide +kernel
theorem dX5_readLine_6 : decode cX5_readLine 6 = .ok (.ifCond .eq 8, 3) := by decide +kernel
theorem dX5_readLine_9 : decode cX5_readLine 9 = .ok (.aload_n 0, 1) := by decide +kernel
theorem dX5_readLine_10 : decode cX5_readLine 10 = .ok (.invokevirtual 88, 3) := by decide +kernel
theorem dX5_readLine_13 : decode cX5_readLine 13 = .ok (.ireturn, 1) := by decide +kernel
theorem dX5_readLine_14 : decode cX5_readLine 14 = .ok (.aload_n 0, 1) := by decide +kernel
theorem dX5_readLine_15 : decode cX5_readLine 15 = .ok (.ldc 91, 2) := by decide +kernel
theorem dX5_readLine_17 : decode cX5_readLine 17 = .ok (.invokevirtual 84, 3) := by decide +kernel
theorem dX5_readLine_20 : decode cX5_readLine 20 = .ok (.ifCond .eq 8, 3) := by decide +kernel
theorem dX5_readLine_23 : decode cX5_readLine 23 = .ok (.aload_n 0, 1) := by decide +kernel
theorem dX5_readLine_24 : decode cX5_readLine 24 = .ok (.invokevirtual 93, 3) := by decide +kernel
theorem dX5_readLine_27 : decode cX5_readLine 27 = .ok (.ireturn, 1) := by decide +kernel
theorem dX5_readLine_28 : decode cX5_readLine 28 = .ok (.aload_n 0, 1) := by decide +kernel
theorem dX5_readLine_29 : decode cX5_readLine 29 = .ok (.ldc 96, 2) := by decide +kernel
theorem dX5_readLine_31 : decode cX5_readLine 31 = .ok (.invokevirtual 84, 3) := by decide +kernel
theorem dX5_readLine_34 : decode cX5_readLine 34 = .ok (.ifCond .eq 8, 3) := by decide +kernel
theorem dX5_readLine_37 : decode cX5_readLine 37 = .ok (.aload_n 0, 1) := by decide +kernel
theorem dX5_readLine_38 : decode cX5_readLine 38 = .ok (.invokevirtual 98, 3) := by decide +kernel
theorem dX5_readLine_41 : decode cX5_readLine 41 = .ok (.ireturn, 1) := by decide +kernel
theorem dX5_readLine_42 : decode cX5_readLine 42 = .ok (.aload_n 0, 1) := by decide +kernel
theorem dX5_readLine_43 : decode cX5_readLine 43 = .ok (.ldc 101, 2) := by decide +kernel
theorem dX5_readLine_45 : decode cX5_readLine 45 = .ok (.invokevirtual 84, 3) := by decide +kernel
theorem dX5_readLine_48 : decode cX5_readLine 48 = .ok (.ifCond .eq 10, 3) := by decide +kernel
theorem dX5_readLine_51 : decode cX5_readLine 51 = .ok (.aload_n 0, 1) := by decide +kernel
theorem dX5_readLine_52 : decode cX5_readLine 52 = .ok (.iconst 0, 1) := by decide +kernel
theorem dX5_readLine_53 : decode cX5_readLine 53 = .ok (.iconst 4, 1) := by decide +kernel
theorem dX5_readLine_54 : decode cX5_readLine 54 = .ok (.invokevirtual 103, 3) := by decide +kernel
theorem dX5_readLine_57 : decode cX5_readLine 57 = .ok (.ireturn, 1) := by decide +kernel
theorem dX5_readLine_58 : decode cX5_readLine 58 = .ok (.aload_n 0, 1) := by decide +kernel
theorem dX5_readLine_59 : decode cX5_readLine 59 = .ok (.invokevirtual 107, 3) := by decide +kernel
theorem dX5_readLine_62 : decode cX5_readLine 62 = .ok (.istore_n 1, 1) := by decide +kernel
theorem dX5_readLine_63 : decode cX5_readLine 63 = .ok (.iload_n 1, 1) := by decide +kernel
theorem dX5_readLine_64 : decode cX5_readLine 64 = .ok (.iconst (-1), 1) := by decide +kernel
theorem dX5_readLine_65 : decode cX5_readLine 65 = .ok (.if_icmp .eq 16, 3) := by decide +kernel
theorem dX5_readLine_68 : decode cX5_readLine 68 = .ok (.aload_n 0, 1) := by decide +kernel
theorem dX5_readLine_69 : decode cX5_readLine 69 = .ok (.iload_n 1, 1) := by decide +kernel
theorem dX5_readLine_70 : decode cX5_readLine 70 = .ok (.iload_n 1, 1) := by decide +kernel
theorem dX5_readLine_71 : decode cX5_readLine 71 = .ok (.invokevirtual 103, 3) := by decide +kernel
theorem dX5_readLine_74 : decode cX5_readLine 74 = .ok (.ifCond .eq 7, 3) := by decide +kernel
theorem dX5_readLine_77 : decode cX5_readLine 77 = .ok (.iconst 1, 1) := by decide +kernel
theorem dX5_readLine_78 : decode cX5_readLine 78 = .ok (.goto 4, 3) := by decide +kernel
theorem dX5_readLine_81 : decode cX5_readLine 81 = .ok (.iconst 0, 1) := by decide +kernel
theorem dX5_readLine_82 : decode cX5_readLine 82 = .ok (.ireturn, 1) := by decide +kernel
theorem dX5_placeNamed_0 : decode cX5_placeNamed 0 = .ok (.aload_n 0, 1) := by decide +kernel
theorem dX5_placeNamed_1 : decode cX5_placeNamed 1 = .ok (.ldc 110, 2) := by decide +kernel
theorem dX5_placeNamed_3 : decode cX5_placeNamed 3 = .ok (.invokevirtual 84, 3) := by decide +kernel
theorem dX5_placeNamed_6 : decode cX5_placeNamed 6 = .ok (.ifCond .eq 5, 3) := by decide +kernel
theorem dX5_placeNamed_9 : decode cX5_placeNamed 9 = .ok (.iconst 5, 1) := by decide +kernel
theorem dX5_placeNamed_10 : decode cX5_placeNamed 10 = .ok (.ireturn, 1) := by decide +kernel
theorem dX5_placeNamed_11 : decode cX5_placeNamed 11 = .ok (.aload_n 0, 1) := by decide +kernel
theorem dX5_placeNamed_12 : decode cX5_placeNamed 12 = .ok (.ldc 112, 2) := by decide +kernel
theorem dX5_placeNamed_14 : decode cX5_placeNamed 14 = .ok (.invokevirtual 84, 3) := by decide +kernel
theorem dX5_placeNamed_17 : decode cX5_placeNamed 17 = .ok (.ifCond .eq 6, 3) := by decide +kernel
theorem dX5_placeNamed_20 : decode cX5_placeNamed 20 = .ok (.bipush 6, 2) := by decide +kernel
theorem dX5_placeNamed_22 : decode cX5_placeNamed 22 = .ok (.ireturn, 1) := by decide +kernel
