theorem dX5_placeNamed_23 : decode cX5_placeNamed 23 = .ok (.aload_n 0, 1) := by decide +kernel
theorem dX5_placeNamed_24 : decode cX5_placeNamed 24 = .ok (.ldc 114, 2) := by decide +kernel
theorem dX5_placeNamed_26 : decode cX5_placeNamed 26 = .ok (.invokevirtual 84, 3) := by decide +kernel
theorem dX5_placeNamed_29 : decode cX5_placeNamed 29 = .ok (.ifCond .eq 6, 3) := by decide +kernel
theorem dX5_placeNamed_32 : decode cX5_placeNamed 32 = .ok (.bipush 7, 2) := by decide +kernel
theorem dX5_placeNamed_34 : decode cX5_placeNamed 34 = .ok (.ireturn, 1) := by decide +kernel
theorem dX5_placeNamed_35 : decode cX5_placeNamed 35 = .ok (.aload_n 0, 1) := by decide +kernel
theorem dX5_placeNamed_36 : decode cX5_placeNamed 36 = .ok (.ldc 116, 2) := by decide +kernel
theorem dX5_placeNamed_38 : decode cX5_placeNamed 38 = .ok (.invokevirtual 84, 3) := by decide +kernel
theorem dX5_placeNamed_41 : decode cX5_placeNamed 41 = .ok (.ifCond .eq 6, 3) := by decide +kernel
theorem dX5_placeNamed_44 : decode cX5_placeNamed 44 = .ok (.bipush 8, 2) := by decide +kernel
theorem dX5_placeNamed_46 : decode cX5_placeNamed 46 = .ok (.ireturn, 1) := by decide +kernel
theorem dX5_placeNamed_47 : decode cX5_placeNamed 47 = .ok (.aload_n 0, 1) := by decide +kernel
theorem dX5_placeNamed_48 : decode cX5_placeNamed 48 = .ok (.ldc 118, 2) := by decide +kernel
theorem dX5_placeNamed_50 : decode cX5_placeNamed 50 = .ok (.invokevirtual 84, 3) := by decide +kernel
theorem dX5_placeNamed_53 : decode cX5_placeNamed 53 = .ok (.ifCond .eq 8, 3) := by decide +kernel
theorem dX5_placeNamed_56 : decode cX5_placeNamed 56 = .ok (.bipush 9, 2) := by decide +kernel
theorem dX5_placeNamed_58 : decode cX5_placeNamed 58 = .ok (.goto 4, 3) := by decide +kernel
theorem dX5_placeNamed_61 : decode cX5_placeNamed 61 = .ok (.iconst (-1), 1) := by decide +kernel
theorem dX5_placeNamed_62 : decode cX5_placeNamed 62 = .ok (.ireturn, 1) := by decide +kernel
theorem dX5_readThing_0 : decode cX5_readThing 0 = .ok (.aload_n 0, 1) := by decide +kernel
theorem dX5_readThing_1 : decode cX5_readThing 1 = .ok (.getfield 22, 3) := by decide +kernel
theorem dX5_readThing_4 : decode cX5_readThing 4 = .ok (.aload_n 0, 1) := by decide +kernel
theorem dX5_readThing_5 : decode cX5_readThing 5 = .ok (.getfield 19, 3) := by decide +kernel
theorem dX5_readThing_8 : decode cX5_readThing 8 = .ok (.iconst 0, 1) := by decide +kernel
theorem dX5_readThing_9 : decode cX5_readThing 9 = .ok (.iastore, 1) := by decide +kernel
theorem dX5_readThing_10 : decode cX5_readThing 10 = .ok (.aload_n 0, 1) := by decide +kernel
theorem dX5_readThing_11 : decode cX5_readThing 11 = .ok (.invokevirtual 56, 3) := by decide +kernel
theorem dX5_readThing_14 : decode cX5_readThing 14 = .ok (.aload_n 0, 1) := by decide +kernel
theorem dX5_readThing_15 : decode cX5_readThing 15 = .ok (.iconst 0, 1) := by decide +kernel
theorem dX5_readThing_16 : decode cX5_readThing 16 = .ok (.iconst 3, 1) := by decide +kernel
theorem dX5_readThing_17 : decode cX5_readThing 17 = .ok (.invokevirtual 120, 3) := by decide +kernel
theorem dX5_readThing_20 : decode cX5_readThing 20 = .ok (.ifCond .ne 5, 3) := by decide +kernel
theorem dX5_readThing_23 : decode cX5_readThing 23 = .ok (.iconst 0, 1) := by decide +kernel
theorem dX5_readThing_24 : decode cX5_readThing 24 = .ok (.ireturn, 1) := by decide +kernel
theorem dX5_readThing_25 : decode cX5_readThing 25 = .ok (.aload_n 0, 1) := by decide +kernel
theorem dX5_readThing_26 : decode cX5_readThing 26 = .ok (.invokevirtual 123, 3) := by decide +kernel
theorem dX5_readThing_29 : decode cX5_readThing 29 = .ok (.istore_n 1, 1) := by decide +kernel
theorem dX5_readThing_30 : decode cX5_readThing 30 = .ok (.iload_n 1, 1) := by decide +kernel
theorem dX5_readThing_31 : decode cX5_readThing 31 = .ok (.iconst (-1), 1) := by decide +kernel
theorem dX5_readThing_32 : decode cX5_readThing 32 = .ok (.if_icmp .ne 5, 3) := by decide +kernel
theorem dX5_readThing_35 : decode cX5_readThing 35 = .ok (.iconst 0, 1) := by decide +kernel
theorem dX5_readThing_36 : decode cX5_readThing 36 = .ok (.ireturn, 1) := by decide +kernel
theorem dX5_readThing_37 : decode cX5_readThing 37 = .ok (.aload_n 0, 1) := by decide +kernel
theorem dX5_readThing_38 : decode cX5_readThing 38 = .ok (.iload_n 1, 1) := by decide +kernel
theorem dX5_readThing_39 : decode cX5_readThing 39 = .ok (.invokevirtual 126, 3) := by decide +kernel
theorem dX5_readThing_42 : decode cX5_readThing 42 = .ok (.aload_n 0, 1) := by decide +kernel
theorem dX5_readThing_43 : decode cX5_readThing 43 = .ok (.invokevirtual 56, 3) := by decide +kernel
theorem dX5_readThing_46 : decode cX5_readThing 46 = .ok (.iload_n 1, 1) := by decide +kernel
theorem dX5_readThing_47 : decode cX5_readThing 47 = .ok (.ifCond .ne 10, 3) := by decide +kernel
theorem dX5_readThing_50 : decode cX5_readThing 50 = .ok (.aload_n 0, 1) := by decide +kernel
theorem dX5_readThing_51 : decode cX5_readThing 51 = .ok (.iconst 0, 1) := by decide +kernel
theorem dX5_readThing_52 : decode cX5_readThing 52 = .ok (.invokevirtual 126, 3) := by decide +kernel
theorem dX5_readThing_55 : decode cX5_readThing 55 = .ok (.iconst 1, 1) := by decide +kernel
theorem dX5_readThing_56 : decode cX5_readThing 56 = .ok (.ireturn, 1) := by decide +kernel
theorem dX5_readThing_57 : decode cX5_readThing 57 = .ok (.aload_n 0, 1) := by decide +kernel
theorem dX5_readThing_58 : decode cX5_readThing 58 = .ok (.iconst 1, 1) := by decide +kernel
theorem dX5_readThing_59 : decode cX5_readThing 59 = .ok (.bipush 9, 2) := by decide +kernel
theorem dX5_readThing_61 : decode cX5_readThing 61 = .ok (.invokevirtual 120, 3) := by decide +kernel
theorem dX5_readThing_64 : decode cX5_readThing 64 = .ok (.ireturn, 1) := by decide +kernel
theorem dX5_kindNamed_0 : decode cX5_kindNamed 0 = .ok (.aload_n 0, 1) := by decide +kernel
theorem dX5_kindNamed_1 : decode cX5_kindNamed 1 = .ok (.ldc 130, 2) := by decide +kernel
theorem dX5_kindNamed_3 : decode cX5_kindNamed 3 = .ok (.invokevirtual 84, 3) := by decide +kernel
theorem dX5_kindNamed_6 : decode cX5_kindNamed 6 = .ok (.ifCond .eq 5, 3) := by decide +kernel
theorem dX5_kindNamed_9 : decode cX5_kindNamed 9 = .ok (.iconst 0, 1) := by decide +kernel
theorem dX5_kindNamed_10 : decode cX5_kindNamed 10 = .ok (.ireturn, 1) := by decide +kernel
theorem dX5_kindNamed_11 : decode cX5_kindNamed 11 = .ok (.aload_n 0, 1) := by decide +kernel
theorem dX5_kindNamed_12 : decode cX5_kindNamed 12 = .ok (.ldc 132, 2) := by decide +kernel
theorem dX5_kindNamed_14 : decode cX5_kindNamed 14 = .ok (.invokevirtual 84, 3) := by decide +kernel
theorem dX5_kindNamed_17 : decode cX5_kindNamed 17 = .ok (.ifCond .eq 5, 3) := by decide +kernel
theorem dX5_kindNamed_20 : decode cX5_kindNamed 20 = .ok (.iconst 1, 1) := by decide +kernel
theorem dX5_kindNamed_21 : decode cX5_kindNamed 21 = .ok (.ireturn, 1) := by decide +kernel
theorem dX5_kindNamed_22 : decode cX5_kindNamed 22 = .ok (.aload_n 0, 1) := by decide +kernel
theorem dX5_kindNamed_23 : decode cX5_kindNamed 23 = .ok (.ldc 134, 2) := by decide +kernel
theorem dX5_kindNamed_25 : decode cX5_kindNamed 25 = .ok (.invokevirtual 84, 3) := by decide +kernel
theorem dX5_kindNamed_28 : decode cX5_kindNamed 28 = .ok (.ifCond .eq 5, 3) := by decide +kernel
theorem dX5_kindNamed_31 : decode cX5_kindNamed 31 = .ok (.iconst 2, 1) := by decide +kernel
theorem dX5_kindNamed_32 : decode cX5_kindNamed 32 = .ok (.ireturn, 1) := by decide +kernel
theorem dX5_kindNamed_33 : decode cX5_kindNamed 33 = .ok (.aload_n 0, 1) := by decide +kernel
theorem dX5_kindNamed_34 : decode cX5_kindNamed 34 = .ok (.ldc 136, 2) := by decide +kernel
theorem dX5_kindNamed_36 : decode cX5_kindNamed 36 = .ok (.invokevirtual 84, 3) := by decide +kernel
theorem dX5_kindNamed_39 : decode cX5_kindNamed 39 = .ok (.ifCond .eq 7, 3) := by decide +kernel
theorem dX5_kindNamed_42 : decode cX5_kindNamed 42 = .ok (.iconst 3, 1) := by decide +kernel
theorem dX5_kindNamed_43 : decode cX5_kindNamed 43 = .ok (.goto 4, 3) := by decide +kernel
theorem dX5_kindNamed_46 : decode cX5_kindNamed 46 = .ok (.iconst (-1), 1) := by decide +kernel
theorem dX5_kindNamed_47 : decode cX5_kindNamed 47 = .ok (.ireturn, 1) := by decide +kernel
theorem dX5_readLump_0 : decode cX5_readLump 0 = .ok (.aload_n 0, 1) := by decide +kernel
theorem dX5_readLump_1 : decode cX5_readLump 1 = .ok (.getfield 22, 3) := by decide +kernel
theorem dX5_readLump_4 : decode cX5_readLump 4 = .ok (.aload_n 0, 1) := by decide +kernel
theorem dX5_readLump_5 : decode cX5_readLump 5 = .ok (.getfield 19, 3) := by decide +kernel
theorem dX5_readLump_8 : decode cX5_readLump 8 = .ok (.iconst 1, 1) := by decide +kernel
theorem dX5_readLump_9 : decode cX5_readLump 9 = .ok (.iastore, 1) := by decide +kernel
theorem dX5_readLump_10 : decode cX5_readLump 10 = .ok (.aload_n 0, 1) := by decide +kernel
theorem dX5_readLump_11 : decode cX5_readLump 11 = .ok (.invokevirtual 56, 3) := by decide +kernel
theorem dX5_readLump_14 : decode cX5_readLump 14 = .ok (.aload_n 0, 1) := by decide +kernel
theorem dX5_readLump_15 : decode cX5_readLump 15 = .ok (.invokevirtual 138, 3) := by decide +kernel
theorem dX5_readLump_18 : decode cX5_readLump 18 = .ok (.istore_n 1, 1) := by decide +kernel
theorem dX5_readLump_19 : decode cX5_readLump 19 = .ok (.iload_n 1, 1) := by decide +kernel
theorem dX5_readLump_20 : decode cX5_readLump 20 = .ok (.invokestatic 141, 3) := by decide +kernel
theorem dX5_readLump_23 : decode cX5_readLump 23 = .ok (.ifCond .eq 13, 3) := by decide +kernel
theorem dX5_readLump_26 : decode cX5_readLump 26 = .ok (.aload_n 0, 1) := by decide +kernel
theorem dX5_readLump_27 : decode cX5_readLump 27 = .ok (.getfield 34, 3) := by decide +kernel
theorem dX5_readLump_30 : decode cX5_readLump 30 = .ok (.iload_n 1, 1) := by decide +kernel
theorem dX5_readLump_31 : decode cX5_readLump 31 = .ok (.iaload, 1) := by decide +kernel
theorem dX5_readLump_32 : decode cX5_readLump 32 = .ok (.iconst 4, 1) := by decide +kernel
theorem dX5_readLump_33 : decode cX5_readLump 33 = .ok (.if_icmp .lt 5, 3) := by decide +kernel
theorem dX5_readLump_36 : decode cX5_readLump 36 = .ok (.iconst 0, 1) := by decide +kernel
theorem dX5_readLump_37 : decode cX5_readLump 37 = .ok (.ireturn, 1) := by decide +kernel
theorem dX5_readLump_38 : decode cX5_readLump 38 = .ok (.aload_n 0, 1) := by decide +kernel
theorem dX5_readLump_39 : decode cX5_readLump 39 = .ok (.getfield 34, 3) := by decide +kernel
theorem dX5_readLump_42 : decode cX5_readLump 42 = .ok (.iload_n 1, 1) := by decide +kernel
theorem dX5_readLump_43 : decode cX5_readLump 43 = .ok (.dup2, 1) := by decide +kernel
theorem dX5_readLump_44 : decode cX5_readLump 44 = .ok (.iaload, 1) := by decide +kernel
theorem dX5_readLump_45 : decode cX5_readLump 45 = .ok (.iconst 1, 1) := by decide +kernel
theorem dX5_readLump_46 : decode cX5_readLump 46 = .ok (.iadd, 1) := by decide +kernel
theorem dX5_readLump_47 : decode cX5_readLump 47 = .ok (.iastore, 1) := by decide +kernel
theorem dX5_readLump_48 : decode cX5_readLump 48 = .ok (.aload_n 0, 1) := by decide +kernel
theorem dX5_readLump_49 : decode cX5_readLump 49 = .ok (.iconst 0, 1) := by decide +kernel
theorem dX5_readLump_50 : decode cX5_readLump 50 = .ok (.iconst 3, 1) := by decide +kernel
theorem dX5_readLump_51 : decode cX5_readLump 51 = .ok (.invokevirtual 120, 3) := by decide +kernel
theorem dX5_readLump_54 : decode cX5_readLump 54 = .ok (.ifCond .eq 28, 3) := by decide +kernel
theorem dX5_readLump_57 : decode cX5_readLump 57 = .ok (.aload_n 0, 1) := by decide +kernel
theorem dX5_readLump_58 : decode cX5_readLump 58 = .ok (.iconst 1, 1) := by decide +kernel
theorem dX5_readLump_59 : decode cX5_readLump 59 = .ok (.sipush 300, 3) := by decide +kernel
theorem dX5_readLump_62 : decode cX5_readLump 62 = .ok (.invokevirtual 120, 3) := by decide +kernel
theorem dX5_readLump_65 : decode cX5_readLump 65 = .ok (.ifCond .eq 17, 3) := by decide +kernel
theorem dX5_readLump_68 : decode cX5_readLump 68 = .ok (.aload_n 0, 1) := by decide +kernel
theorem dX5_readLump_69 : decode cX5_readLump 69 = .ok (.iconst 1, 1) := by decide +kernel
theorem dX5_readLump_70 : decode cX5_readLump 70 = .ok (.bipush 99, 2) := by decide +kernel
theorem dX5_readLump_72 : decode cX5_readLump 72 = .ok (.invokevirtual 120, 3) := by decide +kernel
theorem dX5_readLump_75 : decode cX5_readLump 75 = .ok (.ifCond .eq 7, 3) := by decide +kernel
theorem dX5_readLump_78 : decode cX5_readLump 78 = .ok (.iconst 1, 1) := by decide +kernel
theorem dX5_readLump_79 : decode cX5_readLump 79 = .ok (.goto 4, 3) := by decide +kernel
theorem dX5_readLump_82 : decode cX5_readLump 82 = .ok (.iconst 0, 1) := by decide +kernel
theorem dX5_readLump_83 : decode cX5_readLump 83 = .ok (.ireturn, 1) := by decide +kernel
theorem dX5_readBare_0 : decode cX5_readBare 0 = .ok (.aload_n 0, 1) := by decide +kernel
theorem dX5_readBare_1 : decode cX5_readBare 1 = .ok (.getfield 22, 3) := by decide +kernel
theorem dX5_readBare_4 : decode cX5_readBare 4 = .ok (.aload_n 0, 1) := by decide +kernel
theorem dX5_readBare_5 : decode cX5_readBare 5 = .ok (.getfield 19, 3) := by decide +kernel
theorem dX5_readBare_8 : decode cX5_readBare 8 = .ok (.iconst 2, 1) := by decide +kernel
theorem dX5_readBare_9 : decode cX5_readBare 9 = .ok (.iastore, 1) := by decide +kernel
theorem dX5_readBare_10 : decode cX5_readBare 10 = .ok (.aload_n 0, 1) := by decide +kernel
theorem dX5_readBare_11 : decode cX5_readBare 11 = .ok (.invokevirtual 56, 3) := by decide +kernel
theorem dX5_readBare_14 : decode cX5_readBare 14 = .ok (.aload_n 0, 1) := by decide +kernel
theorem dX5_readBare_15 : decode cX5_readBare 15 = .ok (.invokevirtual 138, 3) := by decide +kernel
theorem dX5_readBare_18 : decode cX5_readBare 18 = .ok (.istore_n 1, 1) := by decide +kernel
theorem dX5_readBare_19 : decode cX5_readBare 19 = .ok (.iload_n 1, 1) := by decide +kernel
theorem dX5_readBare_20 : decode cX5_readBare 20 = .ok (.invokestatic 141, 3) := by decide +kernel
theorem dX5_readBare_23 : decode cX5_readBare 23 = .ok (.ifCond .ne 5, 3) := by decide +kernel
theorem dX5_readBare_26 : decode cX5_readBare 26 = .ok (.iconst 0, 1) := by decide +kernel
theorem dX5_readBare_27 : decode cX5_readBare 27 = .ok (.ireturn, 1) := by decide +kernel
theorem dX5_readBare_28 : decode cX5_readBare 28 = .ok (.aload_n 0, 1) := by decide +kernel
theorem dX5_readBare_29 : decode cX5_readBare 29 = .ok (.getfield 34, 3) := by decide +kernel
theorem dX5_readBare_32 : decode cX5_readBare 32 = .ok (.iload_n 1, 1) := by decide +kernel
theorem dX5_readBare_33 : decode cX5_readBare 33 = .ok (.iconst 0, 1) := by decide +kernel
theorem dX5_readBare_34 : decode cX5_readBare 34 = .ok (.iastore, 1) := by decide +kernel
theorem dX5_readBare_35 : decode cX5_readBare 35 = .ok (.aload_n 0, 1) := by decide +kernel
theorem dX5_readBare_36 : decode cX5_readBare 36 = .ok (.iconst 0, 1) := by decide +kernel
theorem dX5_readBare_37 : decode cX5_readBare 37 = .ok (.iconst 3, 1) := by decide +kernel
theorem dX5_readBare_38 : decode cX5_readBare 38 = .ok (.invokevirtual 120, 3) := by decide +kernel
theorem dX5_readBare_41 : decode cX5_readBare 41 = .ok (.ireturn, 1) := by decide +kernel
theorem dX5_readNumbers_0 : decode cX5_readNumbers 0 = .ok (.aload_n 0, 1) := by decide +kernel
theorem dX5_readNumbers_1 : decode cX5_readNumbers 1 = .ok (.getfield 22, 3) := by decide +kernel
theorem dX5_readNumbers_4 : decode cX5_readNumbers 4 = .ok (.aload_n 0, 1) := by decide +kernel
theorem dX5_readNumbers_5 : decode cX5_readNumbers 5 = .ok (.getfield 19, 3) := by decide +kernel
theorem dX5_readNumbers_8 : decode cX5_readNumbers 8 = .ok (.iconst 3, 1) := by decide +kernel
theorem dX5_readNumbers_9 : decode cX5_readNumbers 9 = .ok (.iastore, 1) := by decide +kernel
theorem dX5_readNumbers_10 : decode cX5_readNumbers 10 = .ok (.aload_n 0, 1) := by decide +kernel
theorem dX5_readNumbers_11 : decode cX5_readNumbers 11 = .ok (.getfield 31, 3) := by decide +kernel
theorem dX5_readNumbers_14 : decode cX5_readNumbers 14 = .ok (.aload_n 0, 1) := by decide +kernel
theorem dX5_readNumbers_15 : decode cX5_readNumbers 15 = .ok (.getfield 19, 3) := by decide +kernel
theorem dX5_readNumbers_18 : decode cX5_readNumbers 18 = .ok (.iload_n 1, 1) := by decide +kernel
theorem dX5_readNumbers_19 : decode cX5_readNumbers 19 = .ok (.iastore, 1) := by decide +kernel
theorem dX5_readNumbers_20 : decode cX5_readNumbers 20 = .ok (.aload_n 0, 1) := by decide +kernel
theorem dX5_readNumbers_21 : decode cX5_readNumbers 21 = .ok (.invokevirtual 56, 3) := by decide +kernel
theorem dX5_readNumbers_24 : decode cX5_readNumbers 24 = .ok (.iload_n 1, 1) := by decide +kernel
theorem dX5_readNumbers_25 : decode cX5_readNumbers 25 = .ok (.istore_n 3, 1) := by decide +kernel
theorem dX5_readNumbers_26 : decode cX5_readNumbers 26 = .ok (.iload_n 3, 1) := by decide +kernel
theorem dX5_readNumbers_27 : decode cX5_readNumbers 27 = .ok (.iload_n 2, 1) := by decide +kernel
theorem dX5_readNumbers_28 : decode cX5_readNumbers 28 = .ok (.if_icmp .gt 28, 3) := by decide +kernel
theorem dX5_readNumbers_31 : decode cX5_readNumbers 31 = .ok (.aload_n 0, 1) := by decide +kernel
theorem dX5_readNumbers_32 : decode cX5_readNumbers 32 = .ok (.getstatic 145, 3) := by decide +kernel
theorem dX5_readNumbers_35 : decode cX5_readNumbers 35 = .ok (.iload_n 3, 1) := by decide +kernel
theorem dX5_readNumbers_36 : decode cX5_readNumbers 36 = .ok (.iaload, 1) := by decide +kernel
theorem dX5_readNumbers_37 : decode cX5_readNumbers 37 = .ok (.getstatic 148, 3) := by decide +kernel
theorem dX5_readNumbers_40 : decode cX5_readNumbers 40 = .ok (.iload_n 3, 1) := by decide +kernel
theorem dX5_readNumbers_41 : decode cX5_readNumbers 41 = .ok (.iaload, 1) := by decide +kernel
theorem dX5_readNumbers_42 : decode cX5_readNumbers 42 = .ok (.invokevirtual 120, 3) := by decide +kernel
theorem dX5_readNumbers_45 : decode cX5_readNumbers 45 = .ok (.ifCond .ne 5, 3) := by decide +kernel
theorem dX5_readNumbers_48 : decode cX5_readNumbers 48 = .ok (.iconst 0, 1) := by decide +kernel
theorem dX5_readNumbers_49 : decode cX5_readNumbers 49 = .ok (.ireturn, 1) := by decide +kernel
theorem dX5_readNumbers_50 : decode cX5_readNumbers 50 = .ok (.iinc 3 1, 3) := by decide +kernel
theorem dX5_readNumbers_53 : decode cX5_readNumbers 53 = .ok (.goto (-27), 3) := by decide +kernel
theorem dX5_readNumbers_56 : decode cX5_readNumbers 56 = .ok (.iconst 1, 1) := by decide +kernel
theorem dX5_readNumbers_57 : decode cX5_readNumbers 57 = .ok (.ireturn, 1) := by decide +kernel
theorem dX5_readNumber_0 : decode cX5_readNumber 0 = .ok (.aload_n 0, 1) := by decide +kernel
theorem dX5_readNumber_1 : decode cX5_readNumber 1 = .ok (.invokevirtual 138, 3) := by decide +kernel
theorem dX5_readNumber_4 : decode cX5_readNumber 4 = .ok (.istore_n 3, 1) := by decide +kernel
theorem dX5_readNumber_5 : decode cX5_readNumber 5 = .ok (.iload_n 3, 1) := by decide +kernel
theorem dX5_readNumber_6 : decode cX5_readNumber 6 = .ok (.iconst (-1), 1) := by decide +kernel
theorem dX5_readNumber_7 : decode cX5_readNumber 7 = .ok (.if_icmp .eq 12, 3) := by decide +kernel
theorem dX5_readNumber_10 : decode cX5_readNumber 10 = .ok (.iload_n 3, 1) := by decide +kernel
theorem dX5_readNumber_11 : decode cX5_readNumber 11 = .ok (.iload_n 1, 1) := by decide +kernel
theorem dX5_readNumber_12 : decode cX5_readNumber 12 = .ok (.iload_n 2, 1) := by decide +kernel
theorem dX5_readNumber_13 : decode cX5_readNumber 13 = .ok (.invokestatic 151, 3) := by decide +kernel
theorem dX5_readNumber_16 : decode cX5_readNumber 16 = .ok (.ifCond .ne 5, 3) := by decide +kernel
theorem dX5_readNumber_19 : decode cX5_readNumber 19 = .ok (.iconst 0, 1) := by decide +kernel
theorem dX5_readNumber_20 : decode cX5_readNumber 20 = .ok (.ireturn, 1) := by decide +kernel
theorem dX5_readNumber_21 : decode cX5_readNumber 21 = .ok (.aload_n 0, 1) := by decide +kernel
theorem dX5_readNumber_22 : decode cX5_readNumber 22 = .ok (.iload_n 3, 1) := by decide +kernel
theorem dX5_readNumber_23 : decode cX5_readNumber 23 = .ok (.invokevirtual 126, 3) := by decide +kernel
theorem dX5_readNumber_26 : decode cX5_readNumber 26 = .ok (.aload_n 0, 1) := by decide +kernel
theorem dX5_readNumber_27 : decode cX5_readNumber 27 = .ok (.invokevirtual 56, 3) := by decide +kernel
theorem dX5_readNumber_30 : decode cX5_readNumber 30 = .ok (.iconst 1, 1) := by decide +kernel
theorem dX5_readNumber_31 : decode cX5_readNumber 31 = .ok (.ireturn, 1) := by decide +kernel
theorem dX5_number_0 : decode cX5_number 0 = .ok (.aload_n 0, 1) := by decide +kernel
theorem dX5_number_1 : decode cX5_number 1 = .ok (.getfield 37, 3) := by decide +kernel
theorem dX5_number_4 : decode cX5_number 4 = .ok (.iconst 2, 1) := by decide +kernel
theorem dX5_number_5 : decode cX5_number 5 = .ok (.if_icmp .ne 16, 3) := by decide +kernel
theorem dX5_number_8 : decode cX5_number 8 = .ok (.aload_n 0, 1) := by decide +kernel
theorem dX5_number_9 : decode cX5_number 9 = .ok (.getfield 43, 3) := by decide +kernel
theorem dX5_number_12 : decode cX5_number 12 = .ok (.aload_n 0, 1) := by decide +kernel
theorem dX5_number_13 : decode cX5_number 13 = .ok (.getfield 40, 3) := by decide +kernel
theorem dX5_number_16 : decode cX5_number 16 = .ok (.isub, 1) := by decide +kernel
theorem dX5_number_17 : decode cX5_number 17 = .ok (.iconst 3, 1) := by decide +kernel
theorem dX5_number_18 : decode cX5_number 18 = .ok (.if_icmp .le 5, 3) := by decide +kernel
theorem dX5_number_21 : decode cX5_number 21 = .ok (.iconst (-1), 1) := by decide +kernel
theorem dX5_number_22 : decode cX5_number 22 = .ok (.ireturn, 1) := by decide +kernel
theorem dX5_number_23 : decode cX5_number 23 = .ok (.iconst 0, 1) := by decide +kernel
theorem dX5_number_24 : decode cX5_number 24 = .ok (.istore_n 1, 1) := by decide +kernel
theorem dX5_number_25 : decode cX5_number 25 = .ok (.aload_n 0, 1) := by decide +kernel
theorem dX5_number_26 : decode cX5_number 26 = .ok (.getfield 40, 3) := by decide +kernel
theorem dX5_number_29 : decode cX5_number 29 = .ok (.istore_n 2, 1) := by decide +kernel
theorem dX5_number_30 : decode cX5_number 30 = .ok (.iload_n 2, 1) := by decide +kernel
theorem dX5_number_31 : decode cX5_number 31 = .ok (.aload_n 0, 1) := by decide +kernel
theorem dX5_number_32 : decode cX5_number 32 = .ok (.getfield 43, 3) := by decide +kernel
theorem dX5_number_35 : decode cX5_number 35 = .ok (.if_icmp .ge 24, 3) := by decide +kernel
theorem dX5_number_38 : decode cX5_number 38 = .ok (.bipush 10, 2) := by decide +kernel
theorem dX5_number_40 : decode cX5_number 40 = .ok (.iload_n 1, 1) := by decide +kernel
theorem dX5_number_41 : decode cX5_number 41 = .ok (.imul, 1) := by decide +kernel
theorem dX5_number_42 : decode cX5_number 42 = .ok (.aload_n 0, 1) := by decide +kernel
theorem dX5_number_43 : decode cX5_number 43 = .ok (.getfield 9, 3) := by decide +kernel
theorem dX5_number_46 : decode cX5_number 46 = .ok (.iload_n 2, 1) := by decide +kernel
theorem dX5_number_47 : decode cX5_number 47 = .ok (.iaload, 1) := by decide +kernel
theorem dX5_number_48 : decode cX5_number 48 = .ok (.iadd, 1) := by decide +kernel
theorem dX5_number_49 : decode cX5_number 49 = .ok (.bipush 48, 2) := by decide +kernel
theorem dX5_number_51 : decode cX5_number 51 = .ok (.isub, 1) := by decide +kernel
theorem dX5_number_52 : decode cX5_number 52 = .ok (.istore_n 1, 1) := by decide +kernel
theorem dX5_number_53 : decode cX5_number 53 = .ok (.iinc 2 1, 3) := by decide +kernel
theorem dX5_number_56 : decode cX5_number 56 = .ok (.goto (-26), 3) := by decide +kernel
theorem dX5_number_59 : decode cX5_number 59 = .ok (.iload_n 1, 1) := by decide +kernel
theorem dX5_number_60 : decode cX5_number 60 = .ok (.ireturn, 1) := by decide +kernel
theorem dX5_store_0 : decode cX5_store 0 = .ok (.aload_n 0, 1) := by decide +kernel
theorem dX5_store_1 : decode cX5_store 1 = .ok (.getfield 28, 3) := by decide +kernel
theorem dX5_store_4 : decode cX5_store 4 = .ok (.aload_n 0, 1) := by decide +kernel
theorem dX5_store_5 : decode cX5_store 5 = .ok (.getfield 25, 3) := by decide +kernel
theorem dX5_store_8 : decode cX5_store 8 = .ok (.arraylength, 1) := by decide +kernel
theorem dX5_store_9 : decode cX5_store 9 = .ok (.if_icmp .ge 23, 3) := by decide +kernel
theorem dX5_store_12 : decode cX5_store 12 = .ok (.aload_n 0, 1) := by decide +kernel
theorem dX5_store_13 : decode cX5_store 13 = .ok (.getfield 25, 3) := by decide +kernel
theorem dX5_store_16 : decode cX5_store 16 = .ok (.aload_n 0, 1) := by decide +kernel
theorem dX5_store_17 : decode cX5_store 17 = .ok (.getfield 28, 3) := by decide +kernel
theorem dX5_store_20 : decode cX5_store 20 = .ok (.iload_n 1, 1) := by decide +kernel
theorem dX5_store_21 : decode cX5_store 21 = .ok (.iastore, 1) := by decide +kernel
theorem dX5_store_22 : decode cX5_store 22 = .ok (.aload_n 0, 1) := by decide +kernel
theorem dX5_store_23 : decode cX5_store 23 = .ok (.dup, 1) := by decide +kernel
theorem dX5_store_24 : decode cX5_store 24 = .ok (.getfield 28, 3) := by decide +kernel
theorem dX5_store_27 : decode cX5_store 27 = .ok (.iconst 1, 1) := by decide +kernel
theorem dX5_store_28 : decode cX5_store 28 = .ok (.iadd, 1) := by decide +kernel
theorem dX5_store_29 : decode cX5_store 29 = .ok (.putfield 28, 3) := by decide +kernel
theorem dX5_store_32 : decode cX5_store 32 = .ok (.return_, 1) := by decide +kernel
theorem dX5_tell_0 : decode cX5_tell 0 = .ok (.iconst 0, 1) := by decide +kernel
theorem dX5_tell_1 : decode cX5_tell 1 = .ok (.istore_n 2, 1) := by decide +kernel
theorem dX5_tell_2 : decode cX5_tell 2 = .ok (.iload_n 2, 1) := by decide +kernel
theorem dX5_tell_3 : decode cX5_tell 3 = .ok (.aload_n 0, 1) := by decide +kernel
theorem dX5_tell_4 : decode cX5_tell 4 = .ok (.getfield 19, 3) := by decide +kernel
theorem dX5_tell_7 : decode cX5_tell 7 = .ok (.if_icmp .ge 96, 3) := by decide +kernel
theorem dX5_tell_10 : decode cX5_tell 10 = .ok (.iload_n 2, 1) := by decide +kernel
theorem dX5_tell_11 : decode cX5_tell 11 = .ok (.iconst 5, 1) := by decide +kernel
theorem dX5_tell_12 : decode cX5_tell 12 = .ok (.imul, 1) := by decide +kernel
theorem dX5_tell_13 : decode cX5_tell 13 = .ok (.istore_n 3, 1) := by decide +kernel
theorem dX5_tell_14 : decode cX5_tell 14 = .ok (.aload_n 0, 1) := by decide +kernel
theorem dX5_tell_15 : decode cX5_tell 15 = .ok (.getfield 22, 3) := by decide +kernel
theorem dX5_tell_18 : decode cX5_tell 18 = .ok (.iload_n 2, 1) := by decide +kernel
theorem dX5_tell_19 : decode cX5_tell 19 = .ok (.iaload, 1) := by decide +kernel
theorem dX5_tell_20 : decode cX5_tell 20 = .ok (.iconst 3, 1) := by decide +kernel
theorem dX5_tell_21 : decode cX5_tell 21 = .ok (.if_icmp .ne 42, 3) := by decide +kernel
theorem dX5_tell_24 : decode cX5_tell 24 = .ok (.aload_n 0, 1) := by decide +kernel
theorem dX5_tell_25 : decode cX5_tell 25 = .ok (.getfield 31, 3) := by decide +kernel
theorem dX5_tell_28 : decode cX5_tell 28 = .ok (.iload_n 2, 1) := by decide +kernel
theorem dX5_tell_29 : decode cX5_tell 29 = .ok (.iaload, 1) := by decide +kernel
theorem dX5_tell_30 : decode cX5_tell 30 = .ok (.ifCond .ne 7, 3) := by decide +kernel
theorem dX5_tell_33 : decode cX5_tell 33 = .ok (.iconst 5, 1) := by decide +kernel
theorem dX5_tell_34 : decode cX5_tell 34 = .ok (.goto 4, 3) := by decide +kernel
theorem dX5_tell_37 : decode cX5_tell 37 = .ok (.iconst 1, 1) := by decide +kernel
theorem dX5_tell_38 : decode cX5_tell 38 = .ok (.istore 4, 2) := by decide +kernel
theorem dX5_tell_40 : decode cX5_tell 40 = .ok (.aload_n 0, 1) := by decide +kernel
theorem dX5_tell_41 : decode cX5_tell 41 = .ok (.getfield 25, 3) := by decide +kernel
theorem dX5_tell_44 : decode cX5_tell 44 = .ok (.iload_n 3, 1) := by decide +kernel
theorem dX5_tell_45 : decode cX5_tell 45 = .ok (.aload_n 1, 1) := by decide +kernel
theorem dX5_tell_46 : decode cX5_tell 46 = .ok (.getfield 155, 3) := by decide +kernel
theorem dX5_tell_49 : decode cX5_tell 49 = .ok (.aload_n 0, 1) := by decide +kernel
theorem dX5_tell_50 : decode cX5_tell 50 = .ok (.getfield 31, 3) := by decide +kernel
theorem dX5_tell_53 : decode cX5_tell 53 = .ok (.iload_n 2, 1) := by decide +kernel
theorem dX5_tell_54 : decode cX5_tell 54 = .ok (.iaload, 1) := by decide +kernel
theorem dX5_tell_55 : decode cX5_tell 55 = .ok (.iload 4, 2) := by decide +kernel
theorem dX5_tell_57 : decode cX5_tell 57 = .ok (.invokestatic 156, 3) := by decide +kernel
theorem dX5_tell_60 : decode cX5_tell 60 = .ok (.goto 37, 3) := by decide +kernel
theorem dX5_tell_63 : decode cX5_tell 63 = .ok (.aload_n 0, 1) := by decide +kernel
theorem dX5_tell_64 : decode cX5_tell 64 = .ok (.getfield 25, 3) := by decide +kernel
theorem dX5_tell_67 : decode cX5_tell 67 = .ok (.iload_n 3, 1) := by decide +kernel
theorem dX5_tell_68 : decode cX5_tell 68 = .ok (.iaload, 1) := by decide +kernel
theorem dX5_tell_69 : decode cX5_tell 69 = .ok (.invokestatic 141, 3) := by decide +kernel
theorem dX5_tell_72 : decode cX5_tell 72 = .ok (.ifCond .eq 25, 3) := by decide +kernel
theorem dX5_tell_75 : decode cX5_tell 75 = .ok (.aload_n 0, 1) := by decide +kernel
theorem dX5_tell_76 : decode cX5_tell 76 = .ok (.aload_n 1, 1) := by decide +kernel
theorem dX5_tell_77 : decode cX5_tell 77 = .ok (.getfield 46, 3) := by decide +kernel
theorem dX5_tell_80 : decode cX5_tell 80 = .ok (.aload_n 0, 1) := by decide +kernel
theorem dX5_tell_81 : decode cX5_tell 81 = .ok (.getfield 25, 3) := by decide +kernel
theorem dX5_tell_84 : decode cX5_tell 84 = .ok (.iload_n 3, 1) := by decide +kernel
theorem dX5_tell_85 : decode cX5_tell 85 = .ok (.iaload, 1) := by decide +kernel
theorem dX5_tell_86 : decode cX5_tell 86 = .ok (.aaload, 1) := by decide +kernel
theorem dX5_tell_87 : decode cX5_tell 87 = .ok (.aload_n 0, 1) := by decide +kernel
theorem dX5_tell_88 : decode cX5_tell 88 = .ok (.getfield 22, 3) := by decide +kernel
theorem dX5_tell_91 : decode cX5_tell 91 = .ok (.iload_n 2, 1) := by decide +kernel
theorem dX5_tell_92 : decode cX5_tell 92 = .ok (.iaload, 1) := by decide +kernel
theorem dX5_tell_93 : decode cX5_tell 93 = .ok (.iload_n 3, 1) := by decide +kernel
theorem dX5_tell_94 : decode cX5_tell 94 = .ok (.invokevirtual 162, 3) := by decide +kernel
theorem dX5_tell_97 : decode cX5_tell 97 = .ok (.iinc 2 1, 3) := by decide +kernel
theorem dX5_tell_100 : decode cX5_tell 100 = .ok (.goto (-98), 3) := by decide +kernel
theorem dX5_tell_103 : decode cX5_tell 103 = .ok (.return_, 1) := by decide +kernel
theorem dX5_tellThing_0 : decode cX5_tellThing 0 = .ok (.iload_n 2, 1) := by decide +kernel
theorem dX5_tellThing_1 : decode cX5_tellThing 1 = .ok (.ifCond .ne 26, 3) := by decide +kernel
theorem dX5_tellThing_4 : decode cX5_tellThing 4 = .ok (.aload_n 1, 1) := by decide +kernel
theorem dX5_tellThing_5 : decode cX5_tellThing 5 = .ok (.aload_n 0, 1) := by decide +kernel
theorem dX5_tellThing_6 : decode cX5_tellThing 6 = .ok (.getfield 25, 3) := by decide +kernel
theorem dX5_tellThing_9 : decode cX5_tellThing 9 = .ok (.iload_n 3, 1) := by decide +kernel
theorem dX5_tellThing_10 : decode cX5_tellThing 10 = .ok (.iconst 1, 1) := by decide +kernel
theorem dX5_tellThing_11 : decode cX5_tellThing 11 = .ok (.iadd, 1) := by decide +kernel
theorem dX5_tellThing_12 : decode cX5_tellThing 12 = .ok (.iaload, 1) := by decide +kernel
theorem dX5_tellThing_13 : decode cX5_tellThing 13 = .ok (.aload_n 0, 1) := by decide +kernel
theorem dX5_tellThing_14 : decode cX5_tellThing 14 = .ok (.getfield 25, 3) := by decide +kernel
theorem dX5_tellThing_17 : decode cX5_tellThing 17 = .ok (.iload_n 3, 1) := by decide +kernel
theorem dX5_tellThing_18 : decode cX5_tellThing 18 = .ok (.iconst 2, 1) := by decide +kernel
theorem dX5_tellThing_19 : decode cX5_tellThing 19 = .ok (.iadd, 1) := by decide +kernel
theorem dX5_tellThing_20 : decode cX5_tellThing 20 = .ok (.iaload, 1) := by decide +kernel
theorem dX5_tellThing_21 : decode cX5_tellThing 21 = .ok (.invokevirtual 166, 3) := by decide +kernel
theorem dX5_tellThing_24 : decode cX5_tellThing 24 = .ok (.goto 35, 3) := by decide +kernel
theorem dX5_tellThing_27 : decode cX5_tellThing 27 = .ok (.iload_n 2, 1) := by decide +kernel
theorem dX5_tellThing_28 : decode cX5_tellThing 28 = .ok (.iconst 1, 1) := by decide +kernel
theorem dX5_tellThing_29 : decode cX5_tellThing 29 = .ok (.if_icmp .ne 26, 3) := by decide +kernel
theorem dX5_tellThing_32 : decode cX5_tellThing 32 = .ok (.aload_n 1, 1) := by decide +kernel
theorem dX5_tellThing_33 : decode cX5_tellThing 33 = .ok (.aload_n 0, 1) := by decide +kernel
theorem dX5_tellThing_34 : decode cX5_tellThing 34 = .ok (.getfield 25, 3) := by decide +kernel
theorem dX5_tellThing_37 : decode cX5_tellThing 37 = .ok (.iload_n 3, 1) := by decide +kernel
theorem dX5_tellThing_38 : decode cX5_tellThing 38 = .ok (.iconst 1, 1) := by decide +kernel
theorem dX5_tellThing_39 : decode cX5_tellThing 39 = .ok (.iadd, 1) := by decide +kernel
theorem dX5_tellThing_40 : decode cX5_tellThing 40 = .ok (.iaload, 1) := by decide +kernel
theorem dX5_tellThing_41 : decode cX5_tellThing 41 = .ok (.aload_n 0, 1) := by decide +kernel
theorem dX5_tellThing_42 : decode cX5_tellThing 42 = .ok (.getfield 25, 3) := by decide +kernel
theorem dX5_tellThing_45 : decode cX5_tellThing 45 = .ok (.iload_n 3, 1) := by decide +kernel
theorem dX5_tellThing_46 : decode cX5_tellThing 46 = .ok (.iconst 2, 1) := by decide +kernel
theorem dX5_tellThing_47 : decode cX5_tellThing 47 = .ok (.iadd, 1) := by decide +kernel
theorem dX5_tellThing_48 : decode cX5_tellThing 48 = .ok (.iaload, 1) := by decide +kernel
theorem dX5_tellThing_49 : decode cX5_tellThing 49 = .ok (.invokevirtual 170, 3) := by decide +kernel
theorem dX5_tellThing_52 : decode cX5_tellThing 52 = .ok (.goto 7, 3) := by decide +kernel
theorem dX5_tellThing_55 : decode cX5_tellThing 55 = .ok (.aload_n 1, 1) := by decide +kernel
theorem dX5_tellThing_56 : decode cX5_tellThing 56 = .ok (.invokevirtual 173, 3) := by decide +kernel
theorem dX5_tellThing_59 : decode cX5_tellThing 59 = .ok (.return_, 1) := by decide +kernel
theorem dX6_init_0 : decode cX6_init 0 = .ok (.aload_n 0, 1) := by decide +kernel
theorem dX6_init_1 : decode cX6_init 1 = .ok (.invokespecial 3, 3) := by decide +kernel
theorem dX6_init_4 : decode cX6_init 4 = .ok (.aload_n 0, 1) := by decide +kernel
theorem dX6_init_5 : decode cX6_init 5 = .ok (.iconst 0, 1) := by decide +kernel
theorem dX6_init_6 : decode cX6_init 6 = .ok (.putfield 9, 3) := by decide +kernel
theorem dX6_init_9 : decode cX6_init 9 = .ok (.aload_n 0, 1) := by decide +kernel
theorem dX6_init_10 : decode cX6_init 10 = .ok (.iconst 0, 1) := by decide +kernel
theorem dX6_init_11 : decode cX6_init 11 = .ok (.putfield 15, 3) := by decide +kernel
theorem dX6_init_14 : decode cX6_init 14 = .ok (.aload_n 0, 1) := by decide +kernel
theorem dX6_init_15 : decode cX6_init 15 = .ok (.iconst 0, 1) := by decide +kernel
theorem dX6_init_16 : decode cX6_init 16 = .ok (.putfield 18, 3) := by decide +kernel
theorem dX6_init_19 : decode cX6_init 19 = .ok (.aload_n 0, 1) := by decide +kernel
theorem dX6_init_20 : decode cX6_init 20 = .ok (.iconst (-1), 1) := by decide +kernel
theorem dX6_init_21 : decode cX6_init 21 = .ok (.putfield 21, 3) := by decide +kernel
theorem dX6_init_24 : decode cX6_init 24 = .ok (.aload_n 0, 1) := by decide +kernel
theorem dX6_init_25 : decode cX6_init 25 = .ok (.iconst 0, 1) := by decide +kernel
theorem dX6_init_26 : decode cX6_init 26 = .ok (.putfield 24, 3) := by decide +kernel
theorem dX6_init_29 : decode cX6_init 29 = .ok (.aload_n 0, 1) := by decide +kernel
theorem dX6_init_30 : decode cX6_init 30 = .ok (.iconst 4, 1) := by decide +kernel
theorem dX6_init_31 : decode cX6_init 31 = .ok (.newarray .int, 2) := by decide +kernel
theorem dX6_init_33 : decode cX6_init 33 = .ok (.putfield 27, 3) := by decide +kernel
theorem dX6_init_36 : decode cX6_init 36 = .ok (.aload_n 0, 1) := by decide +kernel
theorem dX6_init_37 : decode cX6_init 37 = .ok (.iconst 4, 1) := by decide +kernel
theorem dX6_init_38 : decode cX6_init 38 = .ok (.newarray .int, 2) := by decide +kernel
theorem dX6_init_40 : decode cX6_init 40 = .ok (.putfield 31, 3) := by decide +kernel
theorem dX6_init_43 : decode cX6_init 43 = .ok (.return_, 1) := by decide +kernel
theorem dX6_become_0 : decode cX6_become 0 = .ok (.aload_n 0, 1) := by decide +kernel
theorem dX6_become_1 : decode cX6_become 1 = .ok (.iload_n 1, 1) := by decide +kernel
theorem dX6_become_2 : decode cX6_become 2 = .ok (.putfield 9, 3) := by decide +kernel
theorem dX6_become_5 : decode cX6_become 5 = .ok (.aload_n 0, 1) := by decide +kernel
theorem dX6_become_6 : decode cX6_become 6 = .ok (.iload_n 2, 1) := by decide +kernel
theorem dX6_become_7 : decode cX6_become 7 = .ok (.putfield 15, 3) := by decide +kernel
theorem dX6_become_10 : decode cX6_become 10 = .ok (.return_, 1) := by decide +kernel
theorem dX6_addLump_0 : decode cX6_addLump 0 = .ok (.aload_n 0, 1) := by decide +kernel
theorem dX6_addLump_1 : decode cX6_addLump 1 = .ok (.getfield 18, 3) := by decide +kernel
theorem dX6_addLump_4 : decode cX6_addLump 4 = .ok (.iconst 4, 1) := by decide +kernel
theorem dX6_addLump_5 : decode cX6_addLump 5 = .ok (.if_icmp .lt 4, 3) := by decide +kernel
theorem dX6_addLump_8 : decode cX6_addLump 8 = .ok (.return_, 1) := by decide +kernel
theorem dX6_addLump_9 : decode cX6_addLump 9 = .ok (.aload_n 0, 1) := by decide +kernel
theorem dX6_addLump_10 : decode cX6_addLump 10 = .ok (.getfield 27, 3) := by decide +kernel
theorem dX6_addLump_13 : decode cX6_addLump 13 = .ok (.aload_n 0, 1) := by decide +kernel
theorem dX6_addLump_14 : decode cX6_addLump 14 = .ok (.getfield 18, 3) := by decide +kernel
theorem dX6_addLump_17 : decode cX6_addLump 17 = .ok (.iload_n 1, 1) := by decide +kernel
theorem dX6_addLump_18 : decode cX6_addLump 18 = .ok (.iastore, 1) := by decide +kernel
theorem dX6_addLump_19 : decode cX6_addLump 19 = .ok (.aload_n 0, 1) := by decide +kernel
theorem dX6_addLump_20 : decode cX6_addLump 20 = .ok (.getfield 31, 3) := by decide +kernel
theorem dX6_addLump_23 : decode cX6_addLump 23 = .ok (.aload_n 0, 1) := by decide +kernel
theorem dX6_addLump_24 : decode cX6_addLump 24 = .ok (.getfield 18, 3) := by decide +kernel
theorem dX6_addLump_27 : decode cX6_addLump 27 = .ok (.iload_n 2, 1) := by decide +kernel
theorem dX6_addLump_28 : decode cX6_addLump 28 = .ok (.iastore, 1) := by decide +kernel
theorem dX6_addLump_29 : decode cX6_addLump 29 = .ok (.aload_n 0, 1) := by decide +kernel
theorem dX6_addLump_30 : decode cX6_addLump 30 = .ok (.dup, 1) := by decide +kernel
theorem dX6_addLump_31 : decode cX6_addLump 31 = .ok (.getfield 18, 3) := by decide +kernel
theorem dX6_addLump_34 : decode cX6_addLump 34 = .ok (.iconst 1, 1) := by decide +kernel
theorem dX6_addLump_35 : decode cX6_addLump 35 = .ok (.iadd, 1) := by decide +kernel
theorem dX6_addLump_36 : decode cX6_addLump 36 = .ok (.putfield 18, 3) := by decide +kernel
theorem dX6_addLump_39 : decode cX6_addLump 39 = .ok (.aload_n 0, 1) := by decide +kernel
theorem dX6_addLump_40 : decode cX6_addLump 40 = .ok (.invokevirtual 34, 3) := by decide +kernel
theorem dX6_addLump_43 : decode cX6_addLump 43 = .ok (.return_, 1) := by decide +kernel
theorem dX6_strip_0 : decode cX6_strip 0 = .ok (.aload_n 0, 1) := by decide +kernel
theorem dX6_strip_1 : decode cX6_strip 1 = .ok (.iconst 0, 1) := by decide +kernel
theorem dX6_strip_2 : decode cX6_strip 2 = .ok (.putfield 18, 3) := by decide +kernel
theorem dX6_strip_5 : decode cX6_strip 5 = .ok (.aload_n 0, 1) := by decide +kernel
theorem dX6_strip_6 : decode cX6_strip 6 = .ok (.invokevirtual 34, 3) := by decide +kernel
theorem dX6_strip_9 : decode cX6_strip 9 = .ok (.return_, 1) := by decide +kernel
theorem dX6_measure_0 : decode cX6_measure 0 = .ok (.iconst 0, 1) := by decide +kernel
theorem dX6_measure_1 : decode cX6_measure 1 = .ok (.istore_n 1, 1) := by decide +kernel
theorem dX6_measure_2 : decode cX6_measure 2 = .ok (.iconst 0, 1) := by decide +kernel
theorem dX6_measure_3 : decode cX6_measure 3 = .ok (.istore_n 2, 1) := by decide +kernel
theorem dX6_measure_4 : decode cX6_measure 4 = .ok (.aload_n 0, 1) := by decide +kernel
theorem dX6_measure_5 : decode cX6_measure 5 = .ok (.iconst 0, 1) := by decide +kernel
theorem dX6_measure_6 : decode cX6_measure 6 = .ok (.putfield 24, 3) := by decide +kernel
theorem dX6_measure_9 : decode cX6_measure 9 = .ok (.iconst 0, 1) := by decide +kernel
theorem dX6_measure_10 : decode cX6_measure 10 = .ok (.istore_n 3, 1) := by decide +kernel
theorem dX6_measure_11 : decode cX6_measure 11 = .ok (.iload_n 3, 1) := by decide +kernel
theorem dX6_measure_12 : decode cX6_measure 12 = .ok (.aload_n 0, 1) := by decide +kernel
theorem dX6_measure_13 : decode cX6_measure 13 = .ok (.getfield 18, 3) := by decide +kernel
theorem dX6_measure_16 : decode cX6_measure 16 = .ok (.if_icmp .ge 65, 3) := by decide +kernel
theorem dX6_measure_19 : decode cX6_measure 19 = .ok (.iload_n 1, 1) := by decide +kernel
theorem dX6_measure_20 : decode cX6_measure 20 = .ok (.aload_n 0, 1) := by decide +kernel
theorem dX6_measure_21 : decode cX6_measure 21 = .ok (.getfield 27, 3) := by decide +kernel
theorem dX6_measure_24 : decode cX6_measure 24 = .ok (.iload_n 3, 1) := by decide +kernel
theorem dX6_measure_25 : decode cX6_measure 25 = .ok (.iaload, 1) := by decide +kernel
theorem dX6_measure_26 : decode cX6_measure 26 = .ok (.aload_n 0, 1) := by decide +kernel
theorem dX6_measure_27 : decode cX6_measure 27 = .ok (.getfield 27, 3) := by decide +kernel
theorem dX6_measure_30 : decode cX6_measure 30 = .ok (.iload_n 3, 1) := by decide +kernel
theorem dX6_measure_31 : decode cX6_measure 31 = .ok (.iaload, 1) := by decide +kernel
theorem dX6_measure_32 : decode cX6_measure 32 = .ok (.imul, 1) := by decide +kernel
theorem dX6_measure_33 : decode cX6_measure 33 = .ok (.aload_n 0, 1) := by decide +kernel
theorem dX6_measure_34 : decode cX6_measure 34 = .ok (.getfield 31, 3) := by decide +kernel
theorem dX6_measure_37 : decode cX6_measure 37 = .ok (.iload_n 3, 1) := by decide +kernel
theorem dX6_measure_38 : decode cX6_measure 38 = .ok (.iaload, 1) := by decide +kernel
theorem dX6_measure_39 : decode cX6_measure 39 = .ok (.imul, 1) := by decide +kernel
theorem dX6_measure_40 : decode cX6_measure 40 = .ok (.iadd, 1) := by decide +kernel
theorem dX6_measure_41 : decode cX6_measure 41 = .ok (.istore_n 1, 1) := by decide +kernel
theorem dX6_measure_42 : decode cX6_measure 42 = .ok (.iload_n 2, 1) := by decide +kernel
theorem dX6_measure_43 : decode cX6_measure 43 = .ok (.aload_n 0, 1) := by decide +kernel
theorem dX6_measure_44 : decode cX6_measure 44 = .ok (.getfield 27, 3) := by decide +kernel
theorem dX6_measure_47 : decode cX6_measure 47 = .ok (.iload_n 3, 1) := by decide +kernel
theorem dX6_measure_48 : decode cX6_measure 48 = .ok (.iaload, 1) := by decide +kernel
theorem dX6_measure_49 : decode cX6_measure 49 = .ok (.aload_n 0, 1) := by decide +kernel
theorem dX6_measure_50 : decode cX6_measure 50 = .ok (.getfield 31, 3) := by decide +kernel
theorem dX6_measure_53 : decode cX6_measure 53 = .ok (.iload_n 3, 1) := by decide +kernel
theorem dX6_measure_54 : decode cX6_measure 54 = .ok (.iaload, 1) := by decide +kernel
theorem dX6_measure_55 : decode cX6_measure 55 = .ok (.imul, 1) := by decide +kernel
theorem dX6_measure_56 : decode cX6_measure 56 = .ok (.iadd, 1) := by decide +kernel
theorem dX6_measure_57 : decode cX6_measure 57 = .ok (.istore_n 2, 1) := by decide +kernel
theorem dX6_measure_58 : decode cX6_measure 58 = .ok (.aload_n 0, 1) := by decide +kernel
theorem dX6_measure_59 : decode cX6_measure 59 = .ok (.aload_n 0, 1) := by decide +kernel
theorem dX6_measure_60 : decode cX6_measure 60 = .ok (.getfield 24, 3) := by decide +kernel
theorem dX6_measure_63 : decode cX6_measure 63 = .ok (.aload_n 0, 1) := by decide +kernel
theorem dX6_measure_64 : decode cX6_measure 64 = .ok (.getfield 27, 3) := by decide +kernel
theorem dX6_measure_67 : decode cX6_measure 67 = .ok (.iload_n 3, 1) := by decide +kernel
theorem dX6_measure_68 : decode cX6_measure 68 = .ok (.iaload, 1) := by decide +kernel
theorem dX6_measure_69 : decode cX6_measure 69 = .ok (.invokestatic 37, 3) := by decide +kernel
theorem dX6_measure_72 : decode cX6_measure 72 = .ok (.putfield 24, 3) := by decide +kernel
theorem dX6_measure_75 : decode cX6_measure 75 = .ok (.iinc 3 1, 3) := by decide +kernel
theorem dX6_measure_78 : decode cX6_measure 78 = .ok (.goto (-67), 3) := by decide +kernel
theorem dX6_measure_81 : decode cX6_measure 81 = .ok (.aload_n 0, 1) := by decide +kernel
theorem dX6_measure_82 : decode cX6_measure 82 = .ok (.iload_n 2, 1) := by decide +kernel
theorem dX6_measure_83 : decode cX6_measure 83 = .ok (.ifCond .le 9, 3) := by decide +kernel
theorem dX6_measure_86 : decode cX6_measure 86 = .ok (.iload_n 1, 1) := by decide +kernel
theorem dX6_measure_87 : decode cX6_measure 87 = .ok (.iload_n 2, 1) := by decide +kernel
theorem dX6_measure_88 : decode cX6_measure 88 = .ok (.idiv, 1) := by decide +kernel
theorem dX6_measure_89 : decode cX6_measure 89 = .ok (.goto 4, 3) := by decide +kernel
theorem dX6_measure_92 : decode cX6_measure 92 = .ok (.iconst (-1), 1) := by decide +kernel
theorem dX6_measure_93 : decode cX6_measure 93 = .ok (.putfield 21, 3) := by decide +kernel
theorem dX6_measure_96 : decode cX6_measure 96 = .ok (.return_, 1) := by decide +kernel
theorem dX6_leaning_0 : decode cX6_leaning 0 = .ok (.aload_n 0, 1) := by decide +kernel
theorem dX6_leaning_1 : decode cX6_leaning 1 = .ok (.getfield 21, 3) := by decide +kernel
theorem dX6_leaning_4 : decode cX6_leaning 4 = .ok (.ifCond .le 14, 3) := by decide +kernel
theorem dX6_leaning_7 : decode cX6_leaning 7 = .ok (.iload_n 1, 1) := by decide +kernel
theorem dX6_leaning_8 : decode cX6_leaning 8 = .ok (.iload_n 3, 1) := by decide +kernel
theorem dX6_leaning_9 : decode cX6_leaning 9 = .ok (.imul, 1) := by decide +kernel
theorem dX6_leaning_10 : decode cX6_leaning 10 = .ok (.aload_n 0, 1) := by decide +kernel
theorem dX6_leaning_11 : decode cX6_leaning 11 = .ok (.getfield 21, 3) := by decide +kernel
theorem dX6_leaning_14 : decode cX6_leaning 14 = .ok (.idiv, 1) := by decide +kernel
theorem dX6_leaning_15 : decode cX6_leaning 15 = .ok (.goto 4, 3) := by decide +kernel
theorem dX6_leaning_18 : decode cX6_leaning 18 = .ok (.iconst 0, 1) := by decide +kernel
theorem dX6_leaning_19 : decode cX6_leaning 19 = .ok (.istore 4, 2) := by decide +kernel
theorem dX6_leaning_21 : decode cX6_leaning 21 = .ok (.aload_n 0, 1) := by decide +kernel
theorem dX6_leaning_22 : decode cX6_leaning 22 = .ok (.getfield 9, 3) := by decide +kernel
theorem dX6_leaning_25 : decode cX6_leaning 25 = .ok (.iconst 1, 1) := by decide +kernel
theorem dX6_leaning_26 : decode cX6_leaning 26 = .ok (.if_icmp .ne 16, 3) := by decide +kernel
theorem dX6_leaning_29 : decode cX6_leaning 29 = .ok (.iload 4, 2) := by decide +kernel
theorem dX6_leaning_31 : decode cX6_leaning 31 = .ok (.iload_n 1, 1) := by decide +kernel
theorem dX6_leaning_32 : decode cX6_leaning 32 = .ok (.aload_n 0, 1) := by decide +kernel
theorem dX6_leaning_33 : decode cX6_leaning 33 = .ok (.getfield 15, 3) := by decide +kernel
theorem dX6_leaning_36 : decode cX6_leaning 36 = .ok (.imul, 1) := by decide +kernel
theorem dX6_leaning_37 : decode cX6_leaning 37 = .ok (.bipush 10, 2) := by decide +kernel
theorem dX6_leaning_39 : decode cX6_leaning 39 = .ok (.idiv, 1) := by decide +kernel
theorem dX6_leaning_40 : decode cX6_leaning 40 = .ok (.isub, 1) := by decide +kernel
theorem dX6_leaning_41 : decode cX6_leaning 41 = .ok (.ireturn, 1) := by decide +kernel
theorem dX6_leaning_42 : decode cX6_leaning 42 = .ok (.aload_n 0, 1) := by decide +kernel
theorem dX6_leaning_43 : decode cX6_leaning 43 = .ok (.getfield 9, 3) := by decide +kernel
theorem dX6_leaning_46 : decode cX6_leaning 46 = .ok (.iconst 2, 1) := by decide +kernel
theorem dX6_leaning_47 : decode cX6_leaning 47 = .ok (.if_icmp .ne 16, 3) := by decide +kernel
theorem dX6_leaning_50 : decode cX6_leaning 50 = .ok (.iload 4, 2) := by decide +kernel
theorem dX6_leaning_52 : decode cX6_leaning 52 = .ok (.iload_n 2, 1) := by decide +kernel
theorem dX6_leaning_53 : decode cX6_leaning 53 = .ok (.aload_n 0, 1) := by decide +kernel
theorem dX6_leaning_54 : decode cX6_leaning 54 = .ok (.getfield 15, 3) := by decide +kernel
theorem dX6_leaning_57 : decode cX6_leaning 57 = .ok (.imul, 1) := by decide +kernel
theorem dX6_leaning_58 : decode cX6_leaning 58 = .ok (.bipush 20, 2) := by decide +kernel
theorem dX6_leaning_60 : decode cX6_leaning 60 = .ok (.idiv, 1) := by decide +kernel
theorem dX6_leaning_61 : decode cX6_leaning 61 = .ok (.iadd, 1) := by decide +kernel
theorem dX6_leaning_62 : decode cX6_leaning 62 = .ok (.ireturn, 1) := by decide +kernel
theorem dX6_leaning_63 : decode cX6_leaning 63 = .ok (.iload 4, 2) := by decide +kernel
theorem dX6_leaning_65 : decode cX6_leaning 65 = .ok (.ireturn, 1) := by decide +kernel
theorem dX6_seenLater_0 : decode cX6_seenLater 0 = .ok (.aload_n 0, 1) := by decide +kernel
theorem dX6_seenLater_1 : decode cX6_seenLater 1 = .ok (.getfield 9, 3) := by decide +kernel
theorem dX6_seenLater_4 : decode cX6_seenLater 4 = .ok (.iconst 3, 1) := by decide +kernel
theorem dX6_seenLater_5 : decode cX6_seenLater 5 = .ok (.if_icmp .ne 10, 3) := by decide +kernel
theorem dX6_seenLater_8 : decode cX6_seenLater 8 = .ok (.aload_n 0, 1) := by decide +kernel
theorem dX6_seenLater_9 : decode cX6_seenLater 9 = .ok (.getfield 15, 3) := by decide +kernel
theorem dX6_seenLater_12 : decode cX6_seenLater 12 = .ok (.goto 4, 3) := by decide +kernel
theorem dX6_seenLater_15 : decode cX6_seenLater 15 = .ok (.iconst 0, 1) := by decide +kernel
theorem dX6_seenLater_16 : decode cX6_seenLater 16 = .ok (.ireturn, 1) := by decide +kernel
theorem dX7_init_0 : decode cX7_init 0 = .ok (.aload_n 0, 1) := by decide +kernel
theorem dX7_init_1 : decode cX7_init 1 = .ok (.invokespecial 3, 3) := by decide +kernel
theorem dX7_init_4 : decode cX7_init 4 = .ok (.aload_n 0, 1) := by decide +kernel
theorem dX7_init_5 : decode cX7_init 5 = .ok (.iconst 4, 1) := by decide +kernel
theorem dX7_init_6 : decode cX7_init 6 = .ok (.anewarray 9, 3) := by decide +kernel
theorem dX7_init_9 : decode cX7_init 9 = .ok (.putfield 11, 3) := by decide +kernel
theorem dX7_init_12 : decode cX7_init 12 = .ok (.aload_n 0, 1) := by decide +kernel
theorem dX7_init_13 : decode cX7_init 13 = .ok (.bipush 10, 2) := by decide +kernel
theorem dX7_init_15 : decode cX7_init 15 = .ok (.newarray .int, 2) := by decide +kernel
theorem dX7_init_17 : decode cX7_init 17 = .ok (.putfield 17, 3) := by decide +kernel
theorem dX7_init_20 : decode cX7_init 20 = .ok (.iconst 0, 1) := by decide +kernel
theorem dX7_init_21 : decode cX7_init 21 = .ok (.istore_n 1, 1) := by decide +kernel
theorem dX7_init_22 : decode cX7_init 22 = .ok (.iload_n 1, 1) := by decide +kernel
theorem dX7_init_23 : decode cX7_init 23 = .ok (.iconst 4, 1) := by decide +kernel
theorem dX7_init_24 : decode cX7_init 24 = .ok (.if_icmp .ge 22, 3) := by decide +kernel
theorem dX7_init_27 : decode cX7_init 27 = .ok (.aload_n 0, 1) := by decide +kernel
theorem dX7_init_28 : decode cX7_init 28 = .ok (.getfield 11, 3) := by decide +kernel
theorem dX7_init_31 : decode cX7_init 31 = .ok (.iload_n 1, 1) := by decide +kernel
theorem dX7_init_32 : decode cX7_init 32 = .ok (.new 9, 3) := by decide +kernel
theorem dX7_init_35 : decode cX7_init 35 = .ok (.dup, 1) := by decide +kernel
theorem dX7_init_36 : decode cX7_init 36 = .ok (.invokespecial 21, 3) := by decide +kernel
theorem dX7_init_39 : decode cX7_init 39 = .ok (.aastore, 1) := by decide +kernel
theorem dX7_init_40 : decode cX7_init 40 = .ok (.iinc 1 1, 3) := by decide +kernel
theorem dX7_init_43 : decode cX7_init 43 = .ok (.goto (-21), 3) := by decide +kernel
theorem dX7_init_46 : decode cX7_init 46 = .ok (.getstatic 22, 3) := by decide +kernel
theorem dX7_init_49 : decode cX7_init 49 = .ok (.iconst 0, 1) := by decide +kernel
theorem dX7_init_50 : decode cX7_init 50 = .ok (.aload_n 0, 1) := by decide +kernel
theorem dX7_init_51 : decode cX7_init 51 = .ok (.getfield 17, 3) := by decide +kernel
theorem dX7_init_54 : decode cX7_init 54 = .ok (.iconst 0, 1) := by decide +kernel
theorem dX7_init_55 : decode cX7_init 55 = .ok (.bipush 10, 2) := by decide +kernel
theorem dX7_init_57 : decode cX7_init 57 = .ok (.invokestatic 25, 3) := by decide +kernel
theorem dX7_init_60 : decode cX7_init 60 = .ok (.return_, 1) := by decide +kernel
theorem dX8_init_0 : decode cX8_init 0 = .ok (.aload_n 0, 1) := by decide +kernel
theorem dX8_init_1 : decode cX8_init 1 = .ok (.invokespecial 3, 3) := by decide +kernel
theorem dX8_init_4 : decode cX8_init 4 = .ok (.aload_n 0, 1) := by decide +kernel
theorem dX8_init_5 : decode cX8_init 5 = .ok (.new 9, 3) := by decide +kernel
theorem dX8_init_8 : decode cX8_init 8 = .ok (.dup, 1) := by decide +kernel
theorem dX8_init_9 : decode cX8_init 9 = .ok (.invokespecial 11, 3) := by decide +kernel
theorem dX8_init_12 : decode cX8_init 12 = .ok (.putfield 12, 3) := by decide +kernel
theorem dX8_init_15 : decode cX8_init 15 = .ok (.aload_n 0, 1) := by decide +kernel
theorem dX8_init_16 : decode cX8_init 16 = .ok (.new 16, 3) := by decide +kernel
theorem dX8_init_19 : decode cX8_init 19 = .ok (.dup, 1) := by decide +kernel
theorem dX8_init_20 : decode cX8_init 20 = .ok (.invokespecial 18, 3) := by decide +kernel
theorem dX8_init_23 : decode cX8_init 23 = .ok (.putfield 19, 3) := by decide +kernel
theorem dX8_init_26 : decode cX8_init 26 = .ok (.aload_n 0, 1) := by decide +kernel
theorem dX8_init_27 : decode cX8_init 27 = .ok (.new 23, 3) := by decide +kernel
theorem dX8_init_30 : decode cX8_init 30 = .ok (.dup, 1) := by decide +kernel
theorem dX8_init_31 : decode cX8_init 31 = .ok (.invokespecial 25, 3) := by decide +kernel
theorem dX8_init_34 : decode cX8_init 34 = .ok (.putfield 26, 3) := by decide +kernel
theorem dX8_init_37 : decode cX8_init 37 = .ok (.aload_n 0, 1) := by decide +kernel
theorem dX8_init_38 : decode cX8_init 38 = .ok (.iconst 2, 1) := by decide +kernel
theorem dX8_init_39 : decode cX8_init 39 = .ok (.anewarray 23, 3) := by decide +kernel
theorem dX8_init_42 : decode cX8_init 42 = .ok (.putfield 30, 3) := by decide +kernel
theorem dX8_init_45 : decode cX8_init 45 = .ok (.iconst 0, 1) := by decide +kernel
theorem dX8_init_46 : decode cX8_init 46 = .ok (.istore_n 1, 1) := by decide +kernel
theorem dX8_init_47 : decode cX8_init 47 = .ok (.iload_n 1, 1) := by decide +kernel
theorem dX8_init_48 : decode cX8_init 48 = .ok (.iconst 2, 1) := by decide +kernel
theorem dX8_init_49 : decode cX8_init 49 = .ok (.if_icmp .ge 22, 3) := by decide +kernel
theorem dX8_init_52 : decode cX8_init 52 = .ok (.aload_n 0, 1) := by decide +kernel
theorem dX8_init_53 : decode cX8_init 53 = .ok (.getfield 30, 3) := by decide +kernel
theorem dX8_init_56 : decode cX8_init 56 = .ok (.iload_n 1, 1) := by decide +kernel
theorem dX8_init_57 : decode cX8_init 57 = .ok (.new 23, 3) := by decide +kernel
theorem dX8_init_60 : decode cX8_init 60 = .ok (.dup, 1) := by decide +kernel
theorem dX8_init_61 : decode cX8_init 61 = .ok (.invokespecial 25, 3) := by decide +kernel
theorem dX8_init_64 : decode cX8_init 64 = .ok (.aastore, 1) := by decide +kernel
theorem dX8_init_65 : decode cX8_init 65 = .ok (.iinc 1 1, 3) := by decide +kernel
theorem dX8_init_68 : decode cX8_init 68 = .ok (.goto (-21), 3) := by decide +kernel
theorem dX8_init_71 : decode cX8_init 71 = .ok (.aload_n 0, 1) := by decide +kernel
theorem dX8_init_72 : decode cX8_init 72 = .ok (.new 34, 3) := by decide +kernel
theorem dX8_init_75 : decode cX8_init 75 = .ok (.dup, 1) := by decide +kernel
theorem dX8_init_76 : decode cX8_init 76 = .ok (.invokespecial 36, 3) := by decide +kernel
theorem dX8_init_79 : decode cX8_init 79 = .ok (.putfield 37, 3) := by decide +kernel
theorem dX8_init_82 : decode cX8_init 82 = .ok (.aload_n 0, 1) := by decide +kernel
theorem dX8_init_83 : decode cX8_init 83 = .ok (.new 41, 3) := by decide +kernel
theorem dX8_init_86 : decode cX8_init 86 = .ok (.dup, 1) := by decide +kernel
theorem dX8_init_87 : decode cX8_init 87 = .ok (.invokespecial 43, 3) := by decide +kernel
theorem dX8_init_90 : decode cX8_init 90 = .ok (.putfield 44, 3) := by decide +kernel
theorem dX8_init_93 : decode cX8_init 93 = .ok (.aload_n 0, 1) := by decide +kernel
theorem dX8_init_94 : decode cX8_init 94 = .ok (.new 48, 3) := by decide +kernel
theorem dX8_init_97 : decode cX8_init 97 = .ok (.dup, 1) := by decide +kernel
theorem dX8_init_98 : decode cX8_init 98 = .ok (.invokespecial 50, 3) := by decide +kernel
theorem dX8_init_101 : decode cX8_init 101 = .ok (.putfield 51, 3) := by decide +kernel
theorem dX8_init_104 : decode cX8_init 104 = .ok (.aload_n 0, 1) := by decide +kernel
theorem dX8_init_105 : decode cX8_init 105 = .ok (.new 55, 3) := by decide +kernel
theorem dX8_init_108 : decode cX8_init 108 = .ok (.dup, 1) := by decide +kernel
theorem dX8_init_109 : decode cX8_init 109 = .ok (.invokespecial 57, 3) := by decide +kernel
theorem dX8_init_112 : decode cX8_init 112 = .ok (.putfield 58, 3) := by decide +kernel
theorem dX8_init_115 : decode cX8_init 115 = .ok (.return_, 1) := by decide +kernel
theorem dX8_write_0 : decode cX8_write 0 = .ok (.iload_n 3, 1) := by decide +kernel
theorem dX8_write_1 : decode cX8_write 1 = .ok (.iconst 1, 1) := by decide +kernel
theorem dX8_write_2 : decode cX8_write 2 = .ok (.bipush 8, 2) := by decide +kernel
theorem dX8_write_4 : decode cX8_write 4 = .ok (.invokestatic 62, 3) := by decide +kernel
theorem dX8_write_7 : decode cX8_write 7 = .ok (.ifCond .ne 6, 3) := by decide +kernel
theorem dX8_write_10 : decode cX8_write 10 = .ok (.bipush (-3), 2) := by decide +kernel
theorem dX8_write_12 : decode cX8_write 12 = .ok (.ireturn, 1) := by decide +kernel
theorem dX8_write_13 : decode cX8_write 13 = .ok (.aload_n 0, 1) := by decide +kernel
theorem dX8_write_14 : decode cX8_write 14 = .ok (.getfield 19, 3) := by decide +kernel
theorem dX8_write_17 : decode cX8_write 17 = .ok (.getfield 66, 3) := by decide +kernel
theorem dX8_write_20 : decode cX8_write 20 = .ok (.iload_n 3, 1) := by decide +kernel
theorem dX8_write_21 : decode cX8_write 21 = .ok (.iadd, 1) := by decide +kernel
theorem dX8_write_22 : decode cX8_write 22 = .ok (.sipush 200, 3) := by decide +kernel
theorem dX8_write_25 : decode cX8_write 25 = .ok (.if_icmp .le 6, 3) := by decide +kernel
theorem dX8_write_28 : decode cX8_write 28 = .ok (.bipush (-5), 2) := by decide +kernel
theorem dX8_write_30 : decode cX8_write 30 = .ok (.ireturn, 1) := by decide +kernel
theorem dX8_write_31 : decode cX8_write 31 = .ok (.iconst 0, 1) := by decide +kernel
theorem dX8_write_32 : decode cX8_write 32 = .ok (.istore 4, 2) := by decide +kernel
theorem dX8_write_34 : decode cX8_write 34 = .ok (.iload 4, 2) := by decide +kernel
theorem dX8_write_36 : decode cX8_write 36 = .ok (.iload_n 3, 1) := by decide +kernel
theorem dX8_write_37 : decode cX8_write 37 = .ok (.if_icmp .ge 28, 3) := by decide +kernel
theorem dX8_write_40 : decode cX8_write 40 = .ok (.aload_n 0, 1) := by decide +kernel
theorem dX8_write_41 : decode cX8_write 41 = .ok (.getfield 19, 3) := by decide +kernel
theorem dX8_write_44 : decode cX8_write 44 = .ok (.lload_n 1, 1) := by decide +kernel
theorem dX8_write_45 : decode cX8_write 45 = .ok (.bipush 8, 2) := by decide +kernel
theorem dX8_write_47 : decode cX8_write 47 = .ok (.iload 4, 2) := by decide +kernel
theorem dX8_write_49 : decode cX8_write 49 = .ok (.imul, 1) := by decide +kernel
theorem dX8_write_50 : decode cX8_write 50 = .ok (.lshr, 1) := by decide +kernel
theorem dX8_write_51 : decode cX8_write 51 = .ok (.ldc2_w 70, 3) := by decide +kernel
theorem dX8_write_54 : decode cX8_write 54 = .ok (.land, 1) := by decide +kernel
theorem dX8_write_55 : decode cX8_write 55 = .ok (.l2i, 1) := by decide +kernel
theorem dX8_write_56 : decode cX8_write 56 = .ok (.invokevirtual 72, 3) := by decide +kernel
theorem dX8_write_59 : decode cX8_write 59 = .ok (.iinc 4 1, 3) := by decide +kernel
theorem dX8_write_62 : decode cX8_write 62 = .ok (.goto (-28), 3) := by decide +kernel
theorem dX8_write_65 : decode cX8_write 65 = .ok (.aload_n 0, 1) := by decide +kernel
theorem dX8_write_66 : decode cX8_write 66 = .ok (.getfield 19, 3) := by decide +kernel
theorem dX8_write_69 : decode cX8_write 69 = .ok (.getfield 66, 3) := by decide +kernel
theorem dX8_write_72 : decode cX8_write 72 = .ok (.ireturn, 1) := by decide +kernel
theorem dX8_erase_0 : decode cX8_erase 0 = .ok (.aload_n 0, 1) := by decide +kernel
theorem dX8_erase_1 : decode cX8_erase 1 = .ok (.getfield 19, 3) := by decide +kernel
theorem dX8_erase_4 : decode cX8_erase 4 = .ok (.getfield 66, 3) := by decide +kernel
theorem dX8_erase_7 : decode cX8_erase 7 = .ok (.istore_n 1, 1) := by decide +kernel
theorem dX8_erase_8 : decode cX8_erase 8 = .ok (.aload_n 0, 1) := by decide +kernel
theorem dX8_erase_9 : decode cX8_erase 9 = .ok (.getfield 19, 3) := by decide +kernel
theorem dX8_erase_12 : decode cX8_erase 12 = .ok (.iconst 0, 1) := by decide +kernel
theorem dX8_erase_13 : decode cX8_erase 13 = .ok (.putfield 66, 3) := by decide +kernel
theorem dX8_erase_16 : decode cX8_erase 16 = .ok (.iload_n 1, 1) := by decide +kernel
theorem dX8_erase_17 : decode cX8_erase 17 = .ok (.ireturn, 1) := by decide +kernel
theorem dX8_fault_0 : decode cX8_fault 0 = .ok (.aload_n 0, 1) := by decide +kernel
theorem dX8_fault_1 : decode cX8_fault 1 = .ok (.getfield 19, 3) := by decide +kernel
theorem dX8_fault_4 : decode cX8_fault 4 = .ok (.aload_n 0, 1) := by decide +kernel
theorem dX8_fault_5 : decode cX8_fault 5 = .ok (.getfield 12, 3) := by decide +kernel
theorem dX8_fault_8 : decode cX8_fault 8 = .ok (.invokevirtual 76, 3) := by decide +kernel
theorem dX8_fault_11 : decode cX8_fault 11 = .ok (.ireturn, 1) := by decide +kernel
theorem dX8_chin_0 : decode cX8_chin 0 = .ok (.aload_n 0, 1) := by decide +kernel
theorem dX8_chin_1 : decode cX8_chin 1 = .ok (.getfield 19, 3) := by decide +kernel
theorem dX8_chin_4 : decode cX8_chin 4 = .ok (.aload_n 0, 1) := by decide +kernel
theorem dX8_chin_5 : decode cX8_chin 5 = .ok (.getfield 12, 3) := by decide +kernel
theorem dX8_chin_8 : decode cX8_chin 8 = .ok (.invokevirtual 76, 3) := by decide +kernel
theorem dX8_chin_11 : decode cX8_chin 11 = .ok (.iconst (-1), 1) := by decide +kernel
theorem dX8_chin_12 : decode cX8_chin 12 = .ok (.if_icmp .eq 6, 3) := by decide +kernel
theorem dX8_chin_15 : decode cX8_chin 15 = .ok (.bipush (-4), 2) := by decide +kernel
theorem dX8_chin_17 : decode cX8_chin 17 = .ok (.ireturn, 1) := by decide +kernel
theorem dX8_chin_18 : decode cX8_chin 18 = .ok (.aload_n 0, 1) := by decide +kernel
theorem dX8_chin_19 : decode cX8_chin 19 = .ok (.getfield 19, 3) := by decide +kernel
theorem dX8_chin_22 : decode cX8_chin 22 = .ok (.aload_n 0, 1) := by decide +kernel
theorem dX8_chin_23 : decode cX8_chin 23 = .ok (.getfield 12, 3) := by decide +kernel
theorem dX8_chin_26 : decode cX8_chin 26 = .ok (.invokevirtual 80, 3) := by decide +kernel
theorem dX8_chin_29 : decode cX8_chin 29 = .ok (.aload_n 0, 1) := by decide +kernel
theorem dX8_chin_30 : decode cX8_chin 30 = .ok (.getfield 19, 3) := by decide +kernel
theorem dX8_chin_33 : decode cX8_chin 33 = .ok (.iconst 0, 1) := by decide +kernel
theorem dX8_chin_34 : decode cX8_chin 34 = .ok (.putfield 66, 3) := by decide +kernel
theorem dX8_chin_37 : decode cX8_chin 37 = .ok (.aload_n 0, 1) := by decide +kernel
theorem dX8_chin_38 : decode cX8_chin 38 = .ok (.getfield 19, 3) := by decide +kernel
theorem dX8_chin_41 : decode cX8_chin 41 = .ok (.getfield 84, 3) := by decide +kernel
theorem dX8_chin_44 : decode cX8_chin 44 = .ok (.ireturn, 1) := by decide +kernel
theorem dX8_thing_0 : decode cX8_thing 0 = .ok (.iload_n 1, 1) := by decide +kernel
theorem dX8_thing_1 : decode cX8_thing 1 = .ok (.invokestatic 87, 3) := by decide +kernel
theorem dX8_thing_4 : decode cX8_thing 4 = .ok (.ifCond .ne 6, 3) := by decide +kernel
theorem dX8_thing_7 : decode cX8_thing 7 = .ok (.bipush (-2), 2) := by decide +kernel
theorem dX8_thing_9 : decode cX8_thing 9 = .ok (.ireturn, 1) := by decide +kernel
theorem dX8_thing_10 : decode cX8_thing 10 = .ok (.aload_n 0, 1) := by decide +kernel
theorem dX8_thing_11 : decode cX8_thing 11 = .ok (.getfield 12, 3) := by decide +kernel
theorem dX8_thing_14 : decode cX8_thing 14 = .ok (.getfield 91, 3) := by decide +kernel
theorem dX8_thing_17 : decode cX8_thing 17 = .ok (.iload_n 1, 1) := by decide +kernel
theorem dX8_thing_18 : decode cX8_thing 18 = .ok (.aaload, 1) := by decide +kernel
theorem dX8_thing_19 : decode cX8_thing 19 = .ok (.astore_n 3, 1) := by decide +kernel
theorem dX8_thing_20 : decode cX8_thing 20 = .ok (.iload_n 2, 1) := by decide +kernel
theorem dX8_thing_21 : decode cX8_thing 21 = .ok (.tableswitch 60 0 4 #[35, 40, 45, 50, 55], 35) := by decide +kernel
theorem dX8_thing_56 : decode cX8_thing 56 = .ok (.aload_n 3, 1) := by decide +kernel
theorem dX8_thing_57 : decode cX8_thing 57 = .ok (.getfield 95, 3) := by decide +kernel
theorem dX8_thing_60 : decode cX8_thing 60 = .ok (.ireturn, 1) := by decide +kernel
theorem dX8_thing_61 : decode cX8_thing 61 = .ok (.aload_n 3, 1) := by decide +kernel
theorem dX8_thing_62 : decode cX8_thing 62 = .ok (.getfield 100, 3) := by decide +kernel
theorem dX8_thing_65 : decode cX8_thing 65 = .ok (.ireturn, 1) := by decide +kernel
theorem dX8_thing_66 : decode cX8_thing 66 = .ok (.aload_n 3, 1) := by decide +kernel
theorem dX8_thing_67 : decode cX8_thing 67 = .ok (.getfield 103, 3) := by decide +kernel
theorem dX8_thing_70 : decode cX8_thing 70 = .ok (.ireturn, 1) := by decide +kernel
theorem dX8_thing_71 : decode cX8_thing 71 = .ok (.aload_n 3, 1) := by decide +kernel
theorem dX8_thing_72 : decode cX8_thing 72 = .ok (.getfield 106, 3) := by decide +kernel
theorem dX8_thing_75 : decode cX8_thing 75 = .ok (.ireturn, 1) := by decide +kernel
theorem dX8_thing_76 : decode cX8_thing 76 = .ok (.aload_n 3, 1) := by decide +kernel
theorem dX8_thing_77 : decode cX8_thing 77 = .ok (.getfield 109, 3) := by decide +kernel
theorem dX8_thing_80 : decode cX8_thing 80 = .ok (.ireturn, 1) := by decide +kernel
theorem dX8_thing_81 : decode cX8_thing 81 = .ok (.bipush (-3), 2) := by decide +kernel
theorem dX8_thing_83 : decode cX8_thing 83 = .ok (.ireturn, 1) := by decide +kernel
theorem dX8_lump_0 : decode cX8_lump 0 = .ok (.iload_n 1, 1) := by decide +kernel
theorem dX8_lump_1 : decode cX8_lump 1 = .ok (.invokestatic 87, 3) := by decide +kernel
theorem dX8_lump_4 : decode cX8_lump 4 = .ok (.ifCond .eq 25, 3) := by decide +kernel
theorem dX8_lump_7 : decode cX8_lump 7 = .ok (.iload_n 2, 1) := by decide +kernel
theorem dX8_lump_8 : decode cX8_lump 8 = .ok (.iconst 0, 1) := by decide +kernel
theorem dX8_lump_9 : decode cX8_lump 9 = .ok (.aload_n 0, 1) := by decide +kernel
theorem dX8_lump_10 : decode cX8_lump 10 = .ok (.getfield 12, 3) := by decide +kernel
theorem dX8_lump_13 : decode cX8_lump 13 = .ok (.getfield 91, 3) := by decide +kernel
theorem dX8_lump_16 : decode cX8_lump 16 = .ok (.iload_n 1, 1) := by decide +kernel
theorem dX8_lump_17 : decode cX8_lump 17 = .ok (.aaload, 1) := by decide +kernel
theorem dX8_lump_18 : decode cX8_lump 18 = .ok (.getfield 103, 3) := by decide +kernel
theorem dX8_lump_21 : decode cX8_lump 21 = .ok (.iconst 1, 1) := by decide +kernel
theorem dX8_lump_22 : decode cX8_lump 22 = .ok (.isub, 1) := by decide +kernel
theorem dX8_lump_23 : decode cX8_lump 23 = .ok (.invokestatic 62, 3) := by decide +kernel
theorem dX8_lump_26 : decode cX8_lump 26 = .ok (.ifCond .ne 6, 3) := by decide +kernel
theorem dX8_lump_29 : decode cX8_lump 29 = .ok (.bipush (-2), 2) := by decide +kernel
theorem dX8_lump_31 : decode cX8_lump 31 = .ok (.ireturn, 1) := by decide +kernel
theorem dX8_lump_32 : decode cX8_lump 32 = .ok (.iload_n 3, 1) := by decide +kernel
theorem dX8_lump_33 : decode cX8_lump 33 = .ok (.lookupswitch 57 #[(0, 27), (1, 42)], 27) := by decide +kernel
theorem dX8_lump_60 : decode cX8_lump 60 = .ok (.aload_n 0, 1) := by decide +kernel
theorem dX8_lump_61 : decode cX8_lump 61 = .ok (.getfield 12, 3) := by decide +kernel
theorem dX8_lump_64 : decode cX8_lump 64 = .ok (.getfield 91, 3) := by decide +kernel
theorem dX8_lump_67 : decode cX8_lump 67 = .ok (.iload_n 1, 1) := by decide +kernel
theorem dX8_lump_68 : decode cX8_lump 68 = .ok (.aaload, 1) := by decide +kernel
theorem dX8_lump_69 : decode cX8_lump 69 = .ok (.getfield 112, 3) := by decide +kernel
theorem dX8_lump_72 : decode cX8_lump 72 = .ok (.iload_n 2, 1) := by decide +kernel
theorem dX8_lump_73 : decode cX8_lump 73 = .ok (.iaload, 1) := by decide +kernel
theorem dX8_lump_74 : decode cX8_lump 74 = .ok (.ireturn, 1) := by decide +kernel
theorem dX8_lump_75 : decode cX8_lump 75 = .ok (.aload_n 0, 1) := by decide +kernel
theorem dX8_lump_76 : decode cX8_lump 76 = .ok (.getfield 12, 3) := by decide +kernel
theorem dX8_lump_79 : decode cX8_lump 79 = .ok (.getfield 91, 3) := by decide +kernel
theorem dX8_lump_82 : decode cX8_lump 82 = .ok (.iload_n 1, 1) := by decide +kernel
theorem dX8_lump_83 : decode cX8_lump 83 = .ok (.aaload, 1) := by decide +kernel
theorem dX8_lump_84 : decode cX8_lump 84 = .ok (.getfield 116, 3) := by decide +kernel
theorem dX8_lump_87 : decode cX8_lump 87 = .ok (.iload_n 2, 1) := by decide +kernel
theorem dX8_lump_88 : decode cX8_lump 88 = .ok (.iaload, 1) := by decide +kernel
theorem dX8_lump_89 : decode cX8_lump 89 = .ok (.ireturn, 1) := by decide +kernel
theorem dX8_lump_90 : decode cX8_lump 90 = .ok (.bipush (-3), 2) := by decide +kernel
theorem dX8_lump_92 : decode cX8_lump 92 = .ok (.ireturn, 1) := by decide +kernel
theorem dX8_begin_0 : decode cX8_begin 0 = .ok (.aload_n 0, 1) := by decide +kernel
theorem dX8_begin_1 : decode cX8_begin 1 = .ok (.iload_n 1, 1) := by decide +kernel
theorem dX8_begin_2 : decode cX8_begin 2 = .ok (.iload_n 2, 1) := by decide +kernel
theorem dX8_begin_3 : decode cX8_begin 3 = .ok (.sipush (-999), 3) := by decide +kernel
theorem dX8_begin_6 : decode cX8_begin 6 = .ok (.sipush 999, 3) := by decide +kernel
theorem dX8_begin_9 : decode cX8_begin 9 = .ok (.invokestatic 62, 3) := by decide +kernel
theorem dX8_begin_12 : decode cX8_begin 12 = .ok (.ifCond .eq 18, 3) := by decide +kernel
theorem dX8_begin_15 : decode cX8_begin 15 = .ok (.iload_n 3, 1) := by decide +kernel
theorem dX8_begin_16 : decode cX8_begin 16 = .ok (.bipush (-99), 2) := by decide +kernel
theorem dX8_begin_18 : decode cX8_begin 18 = .ok (.bipush 99, 2) := by decide +kernel
theorem dX8_begin_20 : decode cX8_begin 20 = .ok (.invokestatic 62, 3) := by decide +kernel
theorem dX8_begin_23 : decode cX8_begin 23 = .ok (.ifCond .eq 7, 3) := by decide +kernel
theorem dX8_begin_26 : decode cX8_begin 26 = .ok (.iconst 1, 1) := by decide +kernel
theorem dX8_begin_27 : decode cX8_begin 27 = .ok (.goto 4, 3) := by decide +kernel
theorem dX8_begin_30 : decode cX8_begin 30 = .ok (.iconst 0, 1) := by decide +kernel
theorem dX8_begin_31 : decode cX8_begin 31 = .ok (.invokevirtual 119, 3) := by decide +kernel
theorem dX8_begin_34 : decode cX8_begin 34 = .ok (.istore 4, 2) := by decide +kernel
theorem dX8_begin_36 : decode cX8_begin 36 = .ok (.iload 4, 2) := by decide +kernel
theorem dX8_begin_38 : decode cX8_begin 38 = .ok (.ifCond .eq 6, 3) := by decide +kernel
theorem dX8_begin_41 : decode cX8_begin 41 = .ok (.iload 4, 2) := by decide +kernel
theorem dX8_begin_43 : decode cX8_begin 43 = .ok (.ireturn, 1) := by decide +kernel
theorem dX8_begin_44 : decode cX8_begin 44 = .ok (.aload_n 0, 1) := by decide +kernel
theorem dX8_begin_45 : decode cX8_begin 45 = .ok (.getfield 26, 3) := by decide +kernel
theorem dX8_begin_48 : decode cX8_begin 48 = .ok (.iload_n 1, 1) := by decide +kernel
theorem dX8_begin_49 : decode cX8_begin 49 = .ok (.iload_n 2, 1) := by decide +kernel
theorem dX8_begin_50 : decode cX8_begin 50 = .ok (.iload_n 3, 1) := by decide +kernel
theorem dX8_begin_51 : decode cX8_begin 51 = .ok (.invokevirtual 123, 3) := by decide +kernel
theorem dX8_begin_54 : decode cX8_begin 54 = .ok (.iconst 1, 1) := by decide +kernel
theorem dX8_begin_55 : decode cX8_begin 55 = .ok (.ireturn, 1) := by decide +kernel
theorem dX8_ticks_0 : decode cX8_ticks 0 = .ok (.iload_n 1, 1) := by decide +kernel
theorem dX8_ticks_1 : decode cX8_ticks 1 = .ok (.iconst 1, 1) := by decide +kernel
theorem dX8_ticks_2 : decode cX8_ticks 2 = .ok (.bipush 100, 2) := by decide +kernel
theorem dX8_ticks_4 : decode cX8_ticks 4 = .ok (.invokestatic 62, 3) := by decide +kernel
theorem dX8_ticks_7 : decode cX8_ticks 7 = .ok (.ifCond .ne 6, 3) := by decide +kernel
theorem dX8_ticks_10 : decode cX8_ticks 10 = .ok (.bipush (-3), 2) := by decide +kernel
theorem dX8_ticks_12 : decode cX8_ticks 12 = .ok (.ireturn, 1) := by decide +kernel
theorem dX8_ticks_13 : decode cX8_ticks 13 = .ok (.aload_n 0, 1) := by decide +kernel
theorem dX8_ticks_14 : decode cX8_ticks 14 = .ok (.getfield 26, 3) := by decide +kernel
theorem dX8_ticks_17 : decode cX8_ticks 17 = .ok (.getfield 127, 3) := by decide +kernel
theorem dX8_ticks_20 : decode cX8_ticks 20 = .ok (.invokestatic 87, 3) := by decide +kernel
theorem dX8_ticks_23 : decode cX8_ticks 23 = .ok (.ifCond .eq 34, 3) := by decide +kernel
theorem dX8_ticks_26 : decode cX8_ticks 26 = .ok (.aload_n 0, 1) := by decide +kernel
theorem dX8_ticks_27 : decode cX8_ticks 27 = .ok (.getfield 26, 3) := by decide +kernel
theorem dX8_ticks_30 : decode cX8_ticks 30 = .ok (.aload_n 0, 1) := by decide +kernel
theorem dX8_ticks_31 : decode cX8_ticks 31 = .ok (.getfield 12, 3) := by decide +kernel
theorem dX8_ticks_34 : decode cX8_ticks 34 = .ok (.getfield 130, 3) := by decide +kernel
theorem dX8_ticks_37 : decode cX8_ticks 37 = .ok (.invokevirtual 133, 3) := by decide +kernel
theorem dX8_ticks_40 : decode cX8_ticks 40 = .ok (.ifCond .ne 17, 3) := by decide +kernel
theorem dX8_ticks_43 : decode cX8_ticks 43 = .ok (.aload_n 0, 1) := by decide +kernel
theorem dX8_ticks_44 : decode cX8_ticks 44 = .ok (.aload_n 0, 1) := by decide +kernel
theorem dX8_ticks_45 : decode cX8_ticks 45 = .ok (.getfield 26, 3) := by decide +kernel
theorem dX8_ticks_48 : decode cX8_ticks 48 = .ok (.getfield 127, 3) := by decide +kernel
theorem dX8_ticks_51 : decode cX8_ticks 51 = .ok (.invokevirtual 137, 3) := by decide +kernel
theorem dX8_ticks_54 : decode cX8_ticks 54 = .ok (.ifCond .ne 6, 3) := by decide +kernel
theorem dX8_ticks_57 : decode cX8_ticks 57 = .ok (.bipush (-4), 2) := by decide +kernel
theorem dX8_ticks_59 : decode cX8_ticks 59 = .ok (.ireturn, 1) := by decide +kernel
theorem dX8_ticks_60 : decode cX8_ticks 60 = .ok (.iconst 0, 1) := by decide +kernel
theorem dX8_ticks_61 : decode cX8_ticks 61 = .ok (.istore_n 2, 1) := by decide +kernel
theorem dX8_ticks_62 : decode cX8_ticks 62 = .ok (.iload_n 2, 1) := by decide +kernel
theorem dX8_ticks_63 : decode cX8_ticks 63 = .ok (.iload_n 1, 1) := by decide +kernel
theorem dX8_ticks_64 : decode cX8_ticks 64 = .ok (.if_icmp .ge 70, 3) := by decide +kernel
theorem dX8_ticks_67 : decode cX8_ticks 67 = .ok (.aload_n 0, 1) := by decide +kernel
theorem dX8_ticks_68 : decode cX8_ticks 68 = .ok (.getfield 26, 3) := by decide +kernel
theorem dX8_ticks_71 : decode cX8_ticks 71 = .ok (.getfield 140, 3) := by decide +kernel
theorem dX8_ticks_74 : decode cX8_ticks 74 = .ok (.sipush 400, 3) := by decide +kernel
theorem dX8_ticks_77 : decode cX8_ticks 77 = .ok (.if_icmp .ge 57, 3) := by decide +kernel
theorem dX8_ticks_80 : decode cX8_ticks 80 = .ok (.aload_n 0, 1) := by decide +kernel
theorem dX8_ticks_81 : decode cX8_ticks 81 = .ok (.getfield 26, 3) := by decide +kernel
theorem dX8_ticks_84 : decode cX8_ticks 84 = .ok (.aload_n 0, 1) := by decide +kernel
theorem dX8_ticks_85 : decode cX8_ticks 85 = .ok (.getfield 12, 3) := by decide +kernel
theorem dX8_ticks_88 : decode cX8_ticks 88 = .ok (.getfield 130, 3) := by decide +kernel
theorem dX8_ticks_91 : decode cX8_ticks 91 = .ok (.invokevirtual 133, 3) := by decide +kernel
theorem dX8_ticks_94 : decode cX8_ticks 94 = .ok (.ifCond .ne 40, 3) := by decide +kernel
theorem dX8_ticks_97 : decode cX8_ticks 97 = .ok (.aload_n 0, 1) := by decide +kernel
theorem dX8_ticks_98 : decode cX8_ticks 98 = .ok (.getfield 26, 3) := by decide +kernel
theorem dX8_ticks_101 : decode cX8_ticks 101 = .ok (.aload_n 0, 1) := by decide +kernel
theorem dX8_ticks_102 : decode cX8_ticks 102 = .ok (.getfield 12, 3) := by decide +kernel
theorem dX8_ticks_105 : decode cX8_ticks 105 = .ok (.getfield 91, 3) := by decide +kernel
theorem dX8_ticks_108 : decode cX8_ticks 108 = .ok (.aload_n 0, 1) := by decide +kernel
theorem dX8_ticks_109 : decode cX8_ticks 109 = .ok (.getfield 26, 3) := by decide +kernel
theorem dX8_ticks_112 : decode cX8_ticks 112 = .ok (.getfield 127, 3) := by decide +kernel
theorem dX8_ticks_115 : decode cX8_ticks 115 = .ok (.aaload, 1) := by decide +kernel
theorem dX8_ticks_116 : decode cX8_ticks 116 = .ok (.aload_n 0, 1) := by decide +kernel
theorem dX8_ticks_117 : decode cX8_ticks 117 = .ok (.getfield 12, 3) := by decide +kernel
theorem dX8_ticks_120 : decode cX8_ticks 120 = .ok (.getfield 130, 3) := by decide +kernel
theorem dX8_ticks_123 : decode cX8_ticks 123 = .ok (.iconst 1, 1) := by decide +kernel
theorem dX8_ticks_124 : decode cX8_ticks 124 = .ok (.iconst 0, 1) := by decide +kernel
theorem dX8_ticks_125 : decode cX8_ticks 125 = .ok (.invokevirtual 143, 3) := by decide +kernel
theorem dX8_ticks_128 : decode cX8_ticks 128 = .ok (.iinc 2 1, 3) := by decide +kernel
theorem dX8_ticks_131 : decode cX8_ticks 131 = .ok (.goto (-69), 3) := by decide +kernel
theorem dX8_ticks_134 : decode cX8_ticks 134 = .ok (.iload_n 2, 1) := by decide +kernel
theorem dX8_ticks_135 : decode cX8_ticks 135 = .ok (.ireturn, 1) := by decide +kernel
theorem dX8_now_0 : decode cX8_now 0 = .ok (.iload_n 1, 1) := by decide +kernel
theorem dX8_now_1 : decode cX8_now 1 = .ok (.iconst 0, 1) := by decide +kernel
theorem dX8_now_2 : decode cX8_now 2 = .ok (.bipush 6, 2) := by decide +kernel
theorem dX8_now_4 : decode cX8_now 4 = .ok (.invokestatic 62, 3) := by decide +kernel
theorem dX8_now_7 : decode cX8_now 7 = .ok (.ifCond .ne 6, 3) := by decide +kernel
theorem dX8_now_10 : decode cX8_now 10 = .ok (.bipush (-3), 2) := by decide +kernel
theorem dX8_now_12 : decode cX8_now 12 = .ok (.ireturn, 1) := by decide +kernel
theorem dX8_now_13 : decode cX8_now 13 = .ok (.aload_n 0, 1) := by decide +kernel
theorem dX8_now_14 : decode cX8_now 14 = .ok (.getfield 26, 3) := by decide +kernel
theorem dX8_now_17 : decode cX8_now 17 = .ok (.getfield 127, 3) := by decide +kernel
theorem dX8_now_20 : decode cX8_now 20 = .ok (.invokestatic 87, 3) := by decide +kernel
theorem dX8_now_23 : decode cX8_now 23 = .ok (.ifCond .ne 6, 3) := by decide +kernel
theorem dX8_now_26 : decode cX8_now 26 = .ok (.bipush (-4), 2) := by decide +kernel
theorem dX8_now_28 : decode cX8_now 28 = .ok (.ireturn, 1) := by decide +kernel
theorem dX8_now_29 : decode cX8_now 29 = .ok (.iload_n 1, 1) := by decide +kernel
theorem dX8_now_30 : decode cX8_now 30 = .ok (.tableswitch 115 0 5 #[38, 49, 60, 72, 80, 92], 38) := by decide +kernel
theorem dX8_now_68 : decode cX8_now 68 = .ok (.aload_n 0, 1) := by decide +kernel
theorem dX8_now_69 : decode cX8_now 69 = .ok (.getfield 26, 3) := by decide +kernel
theorem dX8_now_72 : decode cX8_now 72 = .ok (.getfield 147, 3) := by decide +kernel
theorem dX8_now_75 : decode cX8_now 75 = .ok (.ldc 150, 2) := by decide +kernel
theorem dX8_now_77 : decode cX8_now 77 = .ok (.iadd, 1) := by decide +kernel
theorem dX8_now_78 : decode cX8_now 78 = .ok (.ireturn, 1) := by decide +kernel
theorem dX8_now_79 : decode cX8_now 79 = .ok (.aload_n 0, 1) := by decide +kernel
theorem dX8_now_80 : decode cX8_now 80 = .ok (.getfield 26, 3) := by decide +kernel
theorem dX8_now_83 : decode cX8_now 83 = .ok (.getfield 151, 3) := by decide +kernel
theorem dX8_now_86 : decode cX8_now 86 = .ok (.ldc 150, 2) := by decide +kernel
theorem dX8_now_88 : decode cX8_now 88 = .ok (.iadd, 1) := by decide +kernel
theorem dX8_now_89 : decode cX8_now 89 = .ok (.ireturn, 1) := by decide +kernel
theorem dX8_now_90 : decode cX8_now 90 = .ok (.aload_n 0, 1) := by decide +kernel
theorem dX8_now_91 : decode cX8_now 91 = .ok (.getfield 26, 3) := by decide +kernel
theorem dX8_now_94 : decode cX8_now 94 = .ok (.getfield 154, 3) := by decide +kernel
theorem dX8_now_97 : decode cX8_now 97 = .ok (.sipush 1000, 3) := by decide +kernel
theorem dX8_now_100 : decode cX8_now 100 = .ok (.iadd, 1) := by decide +kernel
theorem dX8_now_101 : decode cX8_now 101 = .ok (.ireturn, 1) := by decide +kernel
theorem dX8_now_102 : decode cX8_now 102 = .ok (.aload_n 0, 1) := by decide +kernel
theorem dX8_now_103 : decode cX8_now 103 = .ok (.getfield 26, 3) := by decide +kernel
theorem dX8_now_106 : decode cX8_now 106 = .ok (.getfield 140, 3) := by decide +kernel
theorem dX8_now_109 : decode cX8_now 109 = .ok (.ireturn, 1) := by decide +kernel
theorem dX8_now_110 : decode cX8_now 110 = .ok (.aload_n 0, 1) := by decide +kernel
theorem dX8_now_111 : decode cX8_now 111 = .ok (.getfield 26, 3) := by decide +kernel
theorem dX8_now_114 : decode cX8_now 114 = .ok (.getfield 157, 3) := by decide +kernel
theorem dX8_now_117 : decode cX8_now 117 = .ok (.sipush 1000, 3) := by decide +kernel
theorem dX8_now_120 : decode cX8_now 120 = .ok (.iadd, 1) := by decide +kernel
theorem dX8_now_121 : decode cX8_now 121 = .ok (.ireturn, 1) := by decide +kernel
theorem dX8_now_122 : decode cX8_now 122 = .ok (.aload_n 0, 1) := by decide +kernel
theorem dX8_now_123 : decode cX8_now 123 = .ok (.getfield 26, 3) := by decide +kernel
theorem dX8_now_126 : decode cX8_now 126 = .ok (.aload_n 0, 1) := by decide +kernel
theorem dX8_now_127 : decode cX8_now 127 = .ok (.getfield 12, 3) := by decide +kernel
theorem dX8_now_130 : decode cX8_now 130 = .ok (.getfield 130, 3) := by decide +kernel
theorem dX8_now_133 : decode cX8_now 133 = .ok (.invokevirtual 133, 3) := by decide +kernel
theorem dX8_now_136 : decode cX8_now 136 = .ok (.ifCond .eq 7, 3) := by decide +kernel
theorem dX8_now_139 : decode cX8_now 139 = .ok (.iconst 1, 1) := by decide +kernel
theorem dX8_now_140 : decode cX8_now 140 = .ok (.goto 4, 3) := by decide +kernel
theorem dX8_now_143 : decode cX8_now 143 = .ok (.iconst 0, 1) := by decide +kernel
theorem dX8_now_144 : decode cX8_now 144 = .ok (.ireturn, 1) := by decide +kernel
theorem dX8_now_145 : decode cX8_now 145 = .ok (.aload_n 0, 1) := by decide +kernel
theorem dX8_now_146 : decode cX8_now 146 = .ok (.getfield 26, 3) := by decide +kernel
theorem dX8_now_149 : decode cX8_now 149 = .ok (.getfield 127, 3) := by decide +kernel
theorem dX8_now_152 : decode cX8_now 152 = .ok (.ireturn, 1) := by decide +kernel
theorem dX8_keep_0 : decode cX8_keep 0 = .ok (.iload_n 1, 1) := by decide +kernel
theorem dX8_keep_1 : decode cX8_keep 1 = .ok (.iconst 0, 1) := by decide +kernel
theorem dX8_keep_2 : decode cX8_keep 2 = .ok (.iconst 1, 1) := by decide +kernel
theorem dX8_keep_3 : decode cX8_keep 3 = .ok (.invokestatic 62, 3) := by decide +kernel
theorem dX8_keep_6 : decode cX8_keep 6 = .ok (.ifCond .ne 6, 3) := by decide +kernel
theorem dX8_keep_9 : decode cX8_keep 9 = .ok (.bipush (-2), 2) := by decide +kernel
theorem dX8_keep_11 : decode cX8_keep 11 = .ok (.ireturn, 1) := by decide +kernel
theorem dX8_keep_12 : decode cX8_keep 12 = .ok (.aload_n 0, 1) := by decide +kernel
theorem dX8_keep_13 : decode cX8_keep 13 = .ok (.getfield 26, 3) := by decide +kernel
theorem dX8_keep_16 : decode cX8_keep 16 = .ok (.getfield 127, 3) := by decide +kernel
theorem dX8_keep_19 : decode cX8_keep 19 = .ok (.invokestatic 87, 3) := by decide +kernel
theorem dX8_keep_22 : decode cX8_keep 22 = .ok (.ifCond .ne 6, 3) := by decide +kernel
theorem dX8_keep_25 : decode cX8_keep 25 = .ok (.bipush (-4), 2) := by decide +kernel
theorem dX8_keep_27 : decode cX8_keep 27 = .ok (.ireturn, 1) := by decide +kernel
theorem dX8_keep_28 : decode cX8_keep 28 = .ok (.aload_n 0, 1) := by decide +kernel
theorem dX8_keep_29 : decode cX8_keep 29 = .ok (.getfield 30, 3) := by decide +kernel
theorem dX8_keep_32 : decode cX8_keep 32 = .ok (.iload_n 1, 1) := by decide +kernel
theorem dX8_keep_33 : decode cX8_keep 33 = .ok (.aaload, 1) := by decide +kernel
theorem dX8_keep_34 : decode cX8_keep 34 = .ok (.aload_n 0, 1) := by decide +kernel
theorem dX8_keep_35 : decode cX8_keep 35 = .ok (.getfield 26, 3) := by decide +kernel
theorem dX8_keep_38 : decode cX8_keep 38 = .ok (.invokevirtual 160, 3) := by decide +kernel
theorem dX8_keep_41 : decode cX8_keep 41 = .ok (.iconst 1, 1) := by decide +kernel
theorem dX8_keep_42 : decode cX8_keep 42 = .ok (.ireturn, 1) := by decide +kernel
theorem dX8_back_0 : decode cX8_back 0 = .ok (.iload_n 1, 1) := by decide +kernel
theorem dX8_back_1 : decode cX8_back 1 = .ok (.iconst 0, 1) := by decide +kernel
theorem dX8_back_2 : decode cX8_back 2 = .ok (.iconst 1, 1) := by decide +kernel
theorem dX8_back_3 : decode cX8_back 3 = .ok (.invokestatic 62, 3) := by decide +kernel
theorem dX8_back_6 : decode cX8_back 6 = .ok (.ifCond .ne 6, 3) := by decide +kernel
theorem dX8_back_9 : decode cX8_back 9 = .ok (.bipush (-2), 2) := by decide +kernel
theorem dX8_back_11 : decode cX8_back 11 = .ok (.ireturn, 1) := by decide +kernel
theorem dX8_back_12 : decode cX8_back 12 = .ok (.aload_n 0, 1) := by decide +kernel
theorem dX8_back_13 : decode cX8_back 13 = .ok (.getfield 30, 3) := by decide +kernel
theorem dX8_back_16 : decode cX8_back 16 = .ok (.iload_n 1, 1) := by decide +kernel
theorem dX8_back_17 : decode cX8_back 17 = .ok (.aaload, 1) := by decide +kernel
theorem dX8_back_18 : decode cX8_back 18 = .ok (.getfield 127, 3) := by decide +kernel
theorem dX8_back_21 : decode cX8_back 21 = .ok (.invokestatic 87, 3) := by decide +kernel
theorem dX8_back_24 : decode cX8_back 24 = .ok (.ifCond .ne 6, 3) := by decide +kernel
theorem dX8_back_27 : decode cX8_back 27 = .ok (.bipush (-4), 2) := by decide +kernel
theorem dX8_back_29 : decode cX8_back 29 = .ok (.ireturn, 1) := by decide +kernel
theorem dX8_back_30 : decode cX8_back 30 = .ok (.aload_n 0, 1) := by decide +kernel
theorem dX8_back_31 : decode cX8_back 31 = .ok (.getfield 26, 3) := by decide +kernel
theorem dX8_back_34 : decode cX8_back 34 = .ok (.aload_n 0, 1) := by decide +kernel
theorem dX8_back_35 : decode cX8_back 35 = .ok (.getfield 30, 3) := by decide +kernel
theorem dX8_back_38 : decode cX8_back 38 = .ok (.iload_n 1, 1) := by decide +kernel
theorem dX8_back_39 : decode cX8_back 39 = .ok (.aaload, 1) := by decide +kernel
theorem dX8_back_40 : decode cX8_back 40 = .ok (.invokevirtual 160, 3) := by decide +kernel
theorem dX8_back_43 : decode cX8_back 43 = .ok (.aload_n 0, 1) := by decide +kernel
theorem dX8_back_44 : decode cX8_back 44 = .ok (.getfield 26, 3) := by decide +kernel
theorem dX8_back_47 : decode cX8_back 47 = .ok (.getfield 140, 3) := by decide +kernel
theorem dX8_back_50 : decode cX8_back 50 = .ok (.ireturn, 1) := by decide +kernel
theorem dX8_kept_0 : decode cX8_kept 0 = .ok (.aload_n 0, 1) := by decide +kernel
theorem dX8_kept_1 : decode cX8_kept 1 = .ok (.iload_n 1, 1) := by decide +kernel
theorem dX8_kept_2 : decode cX8_kept 2 = .ok (.iload_n 2, 1) := by decide +kernel
theorem dX8_kept_3 : decode cX8_kept 3 = .ok (.sipush (-999), 3) := by decide +kernel
theorem dX8_kept_6 : decode cX8_kept 6 = .ok (.sipush 999, 3) := by decide +kernel
theorem dX8_kept_9 : decode cX8_kept 9 = .ok (.invokestatic 62, 3) := by decide +kernel
theorem dX8_kept_12 : decode cX8_kept 12 = .ok (.ifCond .eq 18, 3) := by decide +kernel
theorem dX8_kept_15 : decode cX8_kept 15 = .ok (.iload_n 3, 1) := by decide +kernel
theorem dX8_kept_16 : decode cX8_kept 16 = .ok (.bipush (-99), 2) := by decide +kernel
theorem dX8_kept_18 : decode cX8_kept 18 = .ok (.bipush 99, 2) := by decide +kernel
theorem dX8_kept_20 : decode cX8_kept 20 = .ok (.invokestatic 62, 3) := by decide +kernel
theorem dX8_kept_23 : decode cX8_kept 23 = .ok (.ifCond .eq 7, 3) := by decide +kernel
theorem dX8_kept_26 : decode cX8_kept 26 = .ok (.iconst 1, 1) := by decide +kernel
theorem dX8_kept_27 : decode cX8_kept 27 = .ok (.goto 4, 3) := by decide +kernel
theorem dX8_kept_30 : decode cX8_kept 30 = .ok (.iconst 0, 1) := by decide +kernel
theorem dX8_kept_31 : decode cX8_kept 31 = .ok (.invokevirtual 119, 3) := by decide +kernel
theorem dX8_kept_34 : decode cX8_kept 34 = .ok (.istore 4, 2) := by decide +kernel
theorem dX8_kept_36 : decode cX8_kept 36 = .ok (.iload 4, 2) := by decide +kernel
theorem dX8_kept_38 : decode cX8_kept 38 = .ok (.ifCond .eq 6, 3) := by decide +kernel
theorem dX8_kept_41 : decode cX8_kept 41 = .ok (.iload 4, 2) := by decide +kernel
theorem dX8_kept_43 : decode cX8_kept 43 = .ok (.ireturn, 1) := by decide +kernel
theorem dX8_kept_44 : decode cX8_kept 44 = .ok (.aload_n 0, 1) := by decide +kernel
theorem dX8_kept_45 : decode cX8_kept 45 = .ok (.getfield 37, 3) := by decide +kernel
theorem dX8_kept_48 : decode cX8_kept 48 = .ok (.aload_n 0, 1) := by decide +kernel
theorem dX8_kept_49 : decode cX8_kept 49 = .ok (.getfield 12, 3) := by decide +kernel
theorem dX8_kept_52 : decode cX8_kept 52 = .ok (.getfield 130, 3) := by decide +kernel
theorem dX8_kept_55 : decode cX8_kept 55 = .ok (.invokevirtual 164, 3) := by decide +kernel
theorem dX8_kept_58 : decode cX8_kept 58 = .ok (.aload_n 0, 1) := by decide +kernel
theorem dX8_kept_59 : decode cX8_kept 59 = .ok (.getfield 37, 3) := by decide +kernel
theorem dX8_kept_62 : decode cX8_kept 62 = .ok (.aload_n 0, 1) := by decide +kernel
theorem dX8_kept_63 : decode cX8_kept 63 = .ok (.getfield 12, 3) := by decide +kernel
theorem dX8_kept_66 : decode cX8_kept 66 = .ok (.getfield 91, 3) := by decide +kernel
theorem dX8_kept_69 : decode cX8_kept 69 = .ok (.iload_n 1, 1) := by decide +kernel
theorem dX8_kept_70 : decode cX8_kept 70 = .ok (.aaload, 1) := by decide +kernel
theorem dX8_kept_71 : decode cX8_kept 71 = .ok (.iload_n 2, 1) := by decide +kernel
theorem dX8_kept_72 : decode cX8_kept 72 = .ok (.iload_n 3, 1) := by decide +kernel
theorem dX8_kept_73 : decode cX8_kept 73 = .ok (.sipush 400, 3) := by decide +kernel
theorem dX8_kept_76 : decode cX8_kept 76 = .ok (.invokevirtual 168, 3) := by decide +kernel
theorem dX8_kept_79 : decode cX8_kept 79 = .ok (.ireturn, 1) := by decide +kernel
theorem dX8_steady_0 : decode cX8_steady 0 = .ok (.aload_n 0, 1) := by decide +kernel
theorem dX8_steady_1 : decode cX8_steady 1 = .ok (.iload_n 1, 1) := by decide +kernel
theorem dX8_steady_2 : decode cX8_steady 2 = .ok (.iload_n 2, 1) := by decide +kernel
theorem dX8_steady_3 : decode cX8_steady 3 = .ok (.iconst 0, 1) := by decide +kernel
theorem dX8_steady_4 : decode cX8_steady 4 = .ok (.bipush 20, 2) := by decide +kernel
theorem dX8_steady_6 : decode cX8_steady 6 = .ok (.invokestatic 62, 3) := by decide +kernel
theorem dX8_steady_9 : decode cX8_steady 9 = .ok (.invokevirtual 119, 3) := by decide +kernel
theorem dX8_steady_12 : decode cX8_steady 12 = .ok (.istore_n 3, 1) := by decide +kernel
theorem dX8_steady_13 : decode cX8_steady 13 = .ok (.iload_n 3, 1) := by decide +kernel
theorem dX8_steady_14 : decode cX8_steady 14 = .ok (.ifCond .eq 5, 3) := by decide +kernel
theorem dX8_steady_17 : decode cX8_steady 17 = .ok (.iload_n 3, 1) := by decide +kernel
theorem dX8_steady_18 : decode cX8_steady 18 = .ok (.ireturn, 1) := by decide +kernel
theorem dX8_steady_19 : decode cX8_steady 19 = .ok (.aload_n 0, 1) := by decide +kernel
theorem dX8_steady_20 : decode cX8_steady 20 = .ok (.getfield 37, 3) := by decide +kernel
theorem dX8_steady_23 : decode cX8_steady 23 = .ok (.aload_n 0, 1) := by decide +kernel
theorem dX8_steady_24 : decode cX8_steady 24 = .ok (.getfield 12, 3) := by decide +kernel
theorem dX8_steady_27 : decode cX8_steady 27 = .ok (.getfield 130, 3) := by decide +kernel
theorem dX8_steady_30 : decode cX8_steady 30 = .ok (.invokevirtual 164, 3) := by decide +kernel
theorem dX8_steady_33 : decode cX8_steady 33 = .ok (.aload_n 0, 1) := by decide +kernel
theorem dX8_steady_34 : decode cX8_steady 34 = .ok (.getfield 37, 3) := by decide +kernel
theorem dX8_steady_37 : decode cX8_steady 37 = .ok (.aload_n 0, 1) := by decide +kernel
theorem dX8_steady_38 : decode cX8_steady 38 = .ok (.getfield 12, 3) := by decide +kernel
theorem dX8_steady_41 : decode cX8_steady 41 = .ok (.getfield 91, 3) := by decide +kernel
theorem dX8_steady_44 : decode cX8_steady 44 = .ok (.iload_n 1, 1) := by decide +kernel
theorem dX8_steady_45 : decode cX8_steady 45 = .ok (.aaload, 1) := by decide +kernel
theorem dX8_steady_46 : decode cX8_steady 46 = .ok (.iload_n 2, 1) := by decide +kernel
theorem dX8_steady_47 : decode cX8_steady 47 = .ok (.invokevirtual 172, 3) := by decide +kernel
theorem dX8_steady_50 : decode cX8_steady 50 = .ok (.ireturn, 1) := by decide +kernel
theorem dX8_line_0 : decode cX8_line 0 = .ok (.iload_n 1, 1) := by decide +kernel
theorem dX8_line_1 : decode cX8_line 1 = .ok (.iconst 0, 1) := by decide +kernel
theorem dX8_line_2 : decode cX8_line 2 = .ok (.bipush 20, 2) := by decide +kernel
theorem dX8_line_4 : decode cX8_line 4 = .ok (.invokestatic 62, 3) := by decide +kernel
theorem dX8_line_7 : decode cX8_line 7 = .ok (.ifCond .ne 6, 3) := by decide +kernel
theorem dX8_line_10 : decode cX8_line 10 = .ok (.bipush (-3), 2) := by decide +kernel
theorem dX8_line_12 : decode cX8_line 12 = .ok (.ireturn, 1) := by decide +kernel
theorem dX8_line_13 : decode cX8_line 13 = .ok (.aload_n 0, 1) := by decide +kernel
theorem dX8_line_14 : decode cX8_line 14 = .ok (.getfield 37, 3) := by decide +kernel
theorem dX8_line_17 : decode cX8_line 17 = .ok (.aload_n 0, 1) := by decide +kernel
theorem dX8_line_18 : decode cX8_line 18 = .ok (.getfield 12, 3) := by decide +kernel
theorem dX8_line_21 : decode cX8_line 21 = .ok (.getfield 130, 3) := by decide +kernel
theorem dX8_line_24 : decode cX8_line 24 = .ok (.invokevirtual 164, 3) := by decide +kernel
theorem dX8_line_27 : decode cX8_line 27 = .ok (.aload_n 0, 1) := by decide +kernel
theorem dX8_line_28 : decode cX8_line 28 = .ok (.getfield 37, 3) := by decide +kernel
theorem dX8_line_31 : decode cX8_line 31 = .ok (.iload_n 1, 1) := by decide +kernel
theorem dX8_line_32 : decode cX8_line 32 = .ok (.invokevirtual 176, 3) := by decide +kernel
theorem dX8_line_35 : decode cX8_line 35 = .ok (.ireturn, 1) := by decide +kernel
theorem dX8_best_0 : decode cX8_best 0 = .ok (.aload_n 0, 1) := by decide +kernel
theorem dX8_best_1 : decode cX8_best 1 = .ok (.iload_n 1, 1) := by decide +kernel
theorem dX8_best_2 : decode cX8_best 2 = .ok (.iload_n 2, 1) := by decide +kernel
theorem dX8_best_3 : decode cX8_best 3 = .ok (.iconst 0, 1) := by decide +kernel
theorem dX8_best_4 : decode cX8_best 4 = .ok (.iconst 4, 1) := by decide +kernel
theorem dX8_best_5 : decode cX8_best 5 = .ok (.invokestatic 62, 3) := by decide +kernel
theorem dX8_best_8 : decode cX8_best 8 = .ok (.ifCond .eq 16, 3) := by decide +kernel
theorem dX8_best_11 : decode cX8_best 11 = .ok (.iload_n 3, 1) := by decide +kernel
theorem dX8_best_12 : decode cX8_best 12 = .ok (.iconst 0, 1) := by decide +kernel
theorem dX8_best_13 : decode cX8_best 13 = .ok (.iconst 2, 1) := by decide +kernel
theorem dX8_best_14 : decode cX8_best 14 = .ok (.invokestatic 62, 3) := by decide +kernel
theorem dX8_best_17 : decode cX8_best 17 = .ok (.ifCond .eq 7, 3) := by decide +kernel
theorem dX8_best_20 : decode cX8_best 20 = .ok (.iconst 1, 1) := by decide +kernel
theorem dX8_best_21 : decode cX8_best 21 = .ok (.goto 4, 3) := by decide +kernel
theorem dX8_best_24 : decode cX8_best 24 = .ok (.iconst 0, 1) := by decide +kernel
theorem dX8_best_25 : decode cX8_best 25 = .ok (.invokevirtual 119, 3) := by decide +kernel
theorem dX8_best_28 : decode cX8_best 28 = .ok (.istore 4, 2) := by decide +kernel
theorem dX8_best_30 : decode cX8_best 30 = .ok (.iload 4, 2) := by decide +kernel
theorem dX8_best_32 : decode cX8_best 32 = .ok (.ifCond .eq 6, 3) := by decide +kernel
theorem dX8_best_35 : decode cX8_best 35 = .ok (.iload 4, 2) := by decide +kernel
theorem dX8_best_37 : decode cX8_best 37 = .ok (.ireturn, 1) := by decide +kernel
theorem dX8_best_38 : decode cX8_best 38 = .ok (.aload_n 0, 1) := by decide +kernel
theorem dX8_best_39 : decode cX8_best 39 = .ok (.getfield 37, 3) := by decide +kernel
theorem dX8_best_42 : decode cX8_best 42 = .ok (.aload_n 0, 1) := by decide +kernel
theorem dX8_best_43 : decode cX8_best 43 = .ok (.getfield 12, 3) := by decide +kernel
theorem dX8_best_46 : decode cX8_best 46 = .ok (.getfield 130, 3) := by decide +kernel
theorem dX8_best_49 : decode cX8_best 49 = .ok (.invokevirtual 164, 3) := by decide +kernel
theorem dX8_best_52 : decode cX8_best 52 = .ok (.aload_n 0, 1) := by decide +kernel
theorem dX8_best_53 : decode cX8_best 53 = .ok (.getfield 37, 3) := by decide +kernel
theorem dX8_best_56 : decode cX8_best 56 = .ok (.aload_n 0, 1) := by decide +kernel
theorem dX8_best_57 : decode cX8_best 57 = .ok (.getfield 12, 3) := by decide +kernel
theorem dX8_best_60 : decode cX8_best 60 = .ok (.getfield 91, 3) := by decide +kernel
theorem dX8_best_63 : decode cX8_best 63 = .ok (.iload_n 1, 1) := by decide +kernel
theorem dX8_best_64 : decode cX8_best 64 = .ok (.aaload, 1) := by decide +kernel
theorem dX8_best_65 : decode cX8_best 65 = .ok (.iload_n 2, 1) := by decide +kernel
theorem dX8_best_66 : decode cX8_best 66 = .ok (.iload_n 3, 1) := by decide +kernel
theorem dX8_best_67 : decode cX8_best 67 = .ok (.invokevirtual 180, 3) := by decide +kernel
theorem dX8_best_70 : decode cX8_best 70 = .ok (.ireturn, 1) := by decide +kernel
theorem dX8_odds_0 : decode cX8_odds 0 = .ok (.iload_n 2, 1) := by decide +kernel
theorem dX8_odds_1 : decode cX8_odds 1 = .ok (.sipush (-999), 3) := by decide +kernel
theorem dX8_odds_4 : decode cX8_odds 4 = .ok (.sipush 999, 3) := by decide +kernel
theorem dX8_odds_7 : decode cX8_odds 7 = .ok (.invokestatic 62, 3) := by decide +kernel
theorem dX8_odds_10 : decode cX8_odds 10 = .ok (.ifCond .eq 48, 3) := by decide +kernel
theorem dX8_odds_13 : decode cX8_odds 13 = .ok (.iload_n 3, 1) := by decide +kernel
theorem dX8_odds_14 : decode cX8_odds 14 = .ok (.iconst 0, 1) := by decide +kernel
theorem dX8_odds_15 : decode cX8_odds 15 = .ok (.bipush 6, 2) := by decide +kernel
theorem dX8_odds_17 : decode cX8_odds 17 = .ok (.invokestatic 62, 3) := by decide +kernel
theorem dX8_odds_20 : decode cX8_odds 20 = .ok (.ifCond .eq 38, 3) := by decide +kernel
theorem dX8_odds_23 : decode cX8_odds 23 = .ok (.iload 4, 2) := by decide +kernel
theorem dX8_odds_25 : decode cX8_odds 25 = .ok (.iconst 0, 1) := by decide +kernel
theorem dX8_odds_26 : decode cX8_odds 26 = .ok (.bipush 99, 2) := by decide +kernel
theorem dX8_odds_28 : decode cX8_odds 28 = .ok (.invokestatic 62, 3) := by decide +kernel
theorem dX8_odds_31 : decode cX8_odds 31 = .ok (.ifCond .eq 27, 3) := by decide +kernel
theorem dX8_odds_34 : decode cX8_odds 34 = .ok (.iload 5, 2) := by decide +kernel
theorem dX8_odds_36 : decode cX8_odds 36 = .ok (.iconst 0, 1) := by decide +kernel
theorem dX8_odds_37 : decode cX8_odds 37 = .ok (.iconst 5, 1) := by decide +kernel
theorem dX8_odds_38 : decode cX8_odds 38 = .ok (.invokestatic 62, 3) := by decide +kernel
theorem dX8_odds_41 : decode cX8_odds 41 = .ok (.ifCond .eq 17, 3) := by decide +kernel
theorem dX8_odds_44 : decode cX8_odds 44 = .ok (.iload 6, 2) := by decide +kernel
theorem dX8_odds_46 : decode cX8_odds 46 = .ok (.iconst 0, 1) := by decide +kernel
theorem dX8_odds_47 : decode cX8_odds 47 = .ok (.iconst 1, 1) := by decide +kernel
theorem dX8_odds_48 : decode cX8_odds 48 = .ok (.invokestatic 62, 3) := by decide +kernel
theorem dX8_odds_51 : decode cX8_odds 51 = .ok (.ifCond .eq 7, 3) := by decide +kernel
theorem dX8_odds_54 : decode cX8_odds 54 = .ok (.iconst 1, 1) := by decide +kernel
theorem dX8_odds_55 : decode cX8_odds 55 = .ok (.goto 4, 3) := by decide +kernel
theorem dX8_odds_58 : decode cX8_odds 58 = .ok (.iconst 0, 1) := by decide +kernel
theorem dX8_odds_59 : decode cX8_odds 59 = .ok (.istore 7, 2) := by decide +kernel
theorem dX8_odds_61 : decode cX8_odds 61 = .ok (.aload_n 0, 1) := by decide +kernel
theorem dX8_odds_62 : decode cX8_odds 62 = .ok (.iload_n 1, 1) := by decide +kernel
theorem dX8_odds_63 : decode cX8_odds 63 = .ok (.iload 7, 2) := by decide +kernel
theorem dX8_odds_65 : decode cX8_odds 65 = .ok (.invokevirtual 119, 3) := by decide +kernel
theorem dX8_odds_68 : decode cX8_odds 68 = .ok (.istore 8, 2) := by decide +kernel
theorem dX8_odds_70 : decode cX8_odds 70 = .ok (.iload 8, 2) := by decide +kernel
theorem dX8_odds_72 : decode cX8_odds 72 = .ok (.ifCond .eq 6, 3) := by decide +kernel
theorem dX8_odds_75 : decode cX8_odds 75 = .ok (.iload 8, 2) := by decide +kernel
theorem dX8_odds_77 : decode cX8_odds 77 = .ok (.ireturn, 1) := by decide +kernel
theorem dX8_odds_78 : decode cX8_odds 78 = .ok (.aload_n 0, 1) := by decide +kernel
theorem dX8_odds_79 : decode cX8_odds 79 = .ok (.getfield 37, 3) := by decide +kernel
theorem dX8_odds_82 : decode cX8_odds 82 = .ok (.aload_n 0, 1) := by decide +kernel
theorem dX8_odds_83 : decode cX8_odds 83 = .ok (.getfield 12, 3) := by decide +kernel
theorem dX8_odds_86 : decode cX8_odds 86 = .ok (.getfield 130, 3) := by decide +kernel
theorem dX8_odds_89 : decode cX8_odds 89 = .ok (.invokevirtual 164, 3) := by decide +kernel
theorem dX8_odds_92 : decode cX8_odds 92 = .ok (.aload_n 0, 1) := by decide +kernel
theorem dX8_odds_93 : decode cX8_odds 93 = .ok (.getfield 37, 3) := by decide +kernel
theorem dX8_odds_96 : decode cX8_odds 96 = .ok (.aload_n 0, 1) := by decide +kernel
theorem dX8_odds_97 : decode cX8_odds 97 = .ok (.getfield 12, 3) := by decide +kernel
theorem dX8_odds_100 : decode cX8_odds 100 = .ok (.getfield 91, 3) := by decide +kernel
theorem dX8_odds_103 : decode cX8_odds 103 = .ok (.iload_n 1, 1) := by decide +kernel
theorem dX8_odds_104 : decode cX8_odds 104 = .ok (.aaload, 1) := by decide +kernel
theorem dX8_odds_105 : decode cX8_odds 105 = .ok (.iload_n 2, 1) := by decide +kernel
theorem dX8_odds_106 : decode cX8_odds 106 = .ok (.iload_n 3, 1) := by decide +kernel
theorem dX8_odds_107 : decode cX8_odds 107 = .ok (.iload 4, 2) := by decide +kernel
theorem dX8_odds_109 : decode cX8_odds 109 = .ok (.iload 5, 2) := by decide +kernel
theorem dX8_odds_111 : decode cX8_odds 111 = .ok (.invokevirtual 184, 3) := by decide +kernel
theorem dX8_odds_114 : decode cX8_odds 114 = .ok (.iload_n 3, 1) := by decide +kernel
theorem dX8_odds_115 : decode cX8_odds 115 = .ok (.iload 6, 2) := by decide +kernel
theorem dX8_odds_117 : decode cX8_odds 117 = .ok (.invokestatic 188, 3) := by decide +kernel
theorem dX8_odds_120 : decode cX8_odds 120 = .ok (.ireturn, 1) := by decide +kernel
theorem dX8_stands_0 : decode cX8_stands 0 = .ok (.aload_n 0, 1) := by decide +kernel
theorem dX8_stands_1 : decode cX8_stands 1 = .ok (.iload_n 1, 1) := by decide +kernel
theorem dX8_stands_2 : decode cX8_stands 2 = .ok (.iload_n 2, 1) := by decide +kernel
theorem dX8_stands_3 : decode cX8_stands 3 = .ok (.sipush (-999), 3) := by decide +kernel
theorem dX8_stands_6 : decode cX8_stands 6 = .ok (.sipush 999, 3) := by decide +kernel
theorem dX8_stands_9 : decode cX8_stands 9 = .ok (.invokestatic 62, 3) := by decide +kernel
theorem dX8_stands_12 : decode cX8_stands 12 = .ok (.invokevirtual 119, 3) := by decide +kernel
theorem dX8_stands_15 : decode cX8_stands 15 = .ok (.istore_n 3, 1) := by decide +kernel
theorem dX8_stands_16 : decode cX8_stands 16 = .ok (.iload_n 3, 1) := by decide +kernel
theorem dX8_stands_17 : decode cX8_stands 17 = .ok (.ifCond .eq 5, 3) := by decide +kernel
theorem dX8_stands_20 : decode cX8_stands 20 = .ok (.iload_n 3, 1) := by decide +kernel
theorem dX8_stands_21 : decode cX8_stands 21 = .ok (.ireturn, 1) := by decide +kernel
theorem dX8_stands_22 : decode cX8_stands 22 = .ok (.aload_n 0, 1) := by decide +kernel
theorem dX8_stands_23 : decode cX8_stands 23 = .ok (.getfield 37, 3) := by decide +kernel
theorem dX8_stands_26 : decode cX8_stands 26 = .ok (.aload_n 0, 1) := by decide +kernel
theorem dX8_stands_27 : decode cX8_stands 27 = .ok (.getfield 12, 3) := by decide +kernel
theorem dX8_stands_30 : decode cX8_stands 30 = .ok (.getfield 130, 3) := by decide +kernel
theorem dX8_stands_33 : decode cX8_stands 33 = .ok (.invokevirtual 164, 3) := by decide +kernel
theorem dX8_stands_36 : decode cX8_stands 36 = .ok (.aload_n 0, 1) := by decide +kernel
theorem dX8_stands_37 : decode cX8_stands 37 = .ok (.getfield 37, 3) := by decide +kernel
theorem dX8_stands_40 : decode cX8_stands 40 = .ok (.aload_n 0, 1) := by decide +kernel
theorem dX8_stands_41 : decode cX8_stands 41 = .ok (.getfield 12, 3) := by decide +kernel
theorem dX8_stands_44 : decode cX8_stands 44 = .ok (.getfield 91, 3) := by decide +kernel
theorem dX8_stands_47 : decode cX8_stands 47 = .ok (.iload_n 1, 1) := by decide +kernel
theorem dX8_stands_48 : decode cX8_stands 48 = .ok (.aaload, 1) := by decide +kernel
theorem dX8_stands_49 : decode cX8_stands 49 = .ok (.iload_n 2, 1) := by decide +kernel
theorem dX8_stands_50 : decode cX8_stands 50 = .ok (.invokevirtual 192, 3) := by decide +kernel
theorem dX8_stands_53 : decode cX8_stands 53 = .ok (.ireturn, 1) := by decide +kernel
theorem dX8_two_0 : decode cX8_two 0 = .ok (.iload_n 1, 1) := by decide +kernel
theorem dX8_two_1 : decode cX8_two 1 = .ok (.invokestatic 87, 3) := by decide +kernel
theorem dX8_two_4 : decode cX8_two 4 = .ok (.ifCond .eq 10, 3) := by decide +kernel
theorem dX8_two_7 : decode cX8_two 7 = .ok (.iload_n 3, 1) := by decide +kernel
theorem dX8_two_8 : decode cX8_two 8 = .ok (.invokestatic 87, 3) := by decide +kernel
theorem dX8_two_11 : decode cX8_two 11 = .ok (.ifCond .ne 6, 3) := by decide +kernel
theorem dX8_two_14 : decode cX8_two 14 = .ok (.bipush (-2), 2) := by decide +kernel
theorem dX8_two_16 : decode cX8_two 16 = .ok (.ireturn, 1) := by decide +kernel
theorem dX8_two_17 : decode cX8_two 17 = .ok (.iload_n 2, 1) := by decide +kernel
theorem dX8_two_18 : decode cX8_two 18 = .ok (.sipush (-999), 3) := by decide +kernel
theorem dX8_two_21 : decode cX8_two 21 = .ok (.sipush 999, 3) := by decide +kernel
theorem dX8_two_24 : decode cX8_two 24 = .ok (.invokestatic 62, 3) := by decide +kernel
theorem dX8_two_27 : decode cX8_two 27 = .ok (.ifCond .eq 39, 3) := by decide +kernel
theorem dX8_two_30 : decode cX8_two 30 = .ok (.iload 4, 2) := by decide +kernel
theorem dX8_two_32 : decode cX8_two 32 = .ok (.sipush (-999), 3) := by decide +kernel
theorem dX8_two_35 : decode cX8_two 35 = .ok (.sipush 999, 3) := by decide +kernel
theorem dX8_two_38 : decode cX8_two 38 = .ok (.invokestatic 62, 3) := by decide +kernel
theorem dX8_two_41 : decode cX8_two 41 = .ok (.ifCond .eq 25, 3) := by decide +kernel
theorem dX8_two_44 : decode cX8_two 44 = .ok (.iload 5, 2) := by decide +kernel
theorem dX8_two_46 : decode cX8_two 46 = .ok (.iconst 1, 1) := by decide +kernel
theorem dX8_two_47 : decode cX8_two 47 = .ok (.bipush 9, 2) := by decide +kernel
theorem dX8_two_49 : decode cX8_two 49 = .ok (.invokestatic 62, 3) := by decide +kernel
theorem dX8_two_52 : decode cX8_two 52 = .ok (.ifCond .eq 14, 3) := by decide +kernel
theorem dX8_two_55 : decode cX8_two 55 = .ok (.iload 6, 2) := by decide +kernel
theorem dX8_two_57 : decode cX8_two 57 = .ok (.iconst 1, 1) := by decide +kernel
theorem dX8_two_58 : decode cX8_two 58 = .ok (.bipush 9, 2) := by decide +kernel
theorem dX8_two_60 : decode cX8_two 60 = .ok (.invokestatic 62, 3) := by decide +kernel
theorem dX8_two_63 : decode cX8_two 63 = .ok (.ifCond .ne 6, 3) := by decide +kernel
theorem dX8_two_66 : decode cX8_two 66 = .ok (.bipush (-3), 2) := by decide +kernel
theorem dX8_two_68 : decode cX8_two 68 = .ok (.ireturn, 1) := by decide +kernel
theorem dX8_two_69 : decode cX8_two 69 = .ok (.aload_n 0, 1) := by decide +kernel
theorem dX8_two_70 : decode cX8_two 70 = .ok (.iload_n 1, 1) := by decide +kernel
theorem dX8_two_71 : decode cX8_two 71 = .ok (.invokevirtual 137, 3) := by decide +kernel
theorem dX8_two_74 : decode cX8_two 74 = .ok (.ifCond .eq 11, 3) := by decide +kernel
theorem dX8_two_77 : decode cX8_two 77 = .ok (.aload_n 0, 1) := by decide +kernel
theorem dX8_two_78 : decode cX8_two 78 = .ok (.iload_n 3, 1) := by decide +kernel
theorem dX8_two_79 : decode cX8_two 79 = .ok (.invokevirtual 137, 3) := by decide +kernel
theorem dX8_two_82 : decode cX8_two 82 = .ok (.ifCond .ne 6, 3) := by decide +kernel
theorem dX8_two_85 : decode cX8_two 85 = .ok (.bipush (-4), 2) := by decide +kernel
theorem dX8_two_87 : decode cX8_two 87 = .ok (.ireturn, 1) := by decide +kernel
theorem dX8_two_88 : decode cX8_two 88 = .ok (.aload_n 0, 1) := by decide +kernel
theorem dX8_two_89 : decode cX8_two 89 = .ok (.getfield 37, 3) := by decide +kernel
theorem dX8_two_92 : decode cX8_two 92 = .ok (.aload_n 0, 1) := by decide +kernel
theorem dX8_two_93 : decode cX8_two 93 = .ok (.getfield 12, 3) := by decide +kernel
theorem dX8_two_96 : decode cX8_two 96 = .ok (.getfield 130, 3) := by decide +kernel
theorem dX8_two_99 : decode cX8_two 99 = .ok (.invokevirtual 164, 3) := by decide +kernel
theorem dX8_two_102 : decode cX8_two 102 = .ok (.aload_n 0, 1) := by decide +kernel
theorem dX8_two_103 : decode cX8_two 103 = .ok (.getfield 37, 3) := by decide +kernel
theorem dX8_two_106 : decode cX8_two 106 = .ok (.getfield 195, 3) := by decide +kernel
theorem dX8_two_109 : decode cX8_two 109 = .ok (.iload_n 1, 1) := by decide +kernel
theorem dX8_two_110 : decode cX8_two 110 = .ok (.iload_n 2, 1) := by decide +kernel
theorem dX8_two_111 : decode cX8_two 111 = .ok (.iconst 0, 1) := by decide +kernel
theorem dX8_two_112 : decode cX8_two 112 = .ok (.invokevirtual 123, 3) := by decide +kernel
theorem dX8_two_115 : decode cX8_two 115 = .ok (.aload_n 0, 1) := by decide +kernel
theorem dX8_two_116 : decode cX8_two 116 = .ok (.getfield 37, 3) := by decide +kernel
theorem dX8_two_119 : decode cX8_two 119 = .ok (.getfield 198, 3) := by decide +kernel
theorem dX8_two_122 : decode cX8_two 122 = .ok (.iload_n 3, 1) := by decide +kernel
theorem dX8_two_123 : decode cX8_two 123 = .ok (.iload 4, 2) := by decide +kernel
theorem dX8_two_125 : decode cX8_two 125 = .ok (.iconst 0, 1) := by decide +kernel
theorem dX8_two_126 : decode cX8_two 126 = .ok (.invokevirtual 123, 3) := by decide +kernel
theorem dX8_two_129 : decode cX8_two 129 = .ok (.aload_n 0, 1) := by decide +kernel
theorem dX8_two_130 : decode cX8_two 130 = .ok (.getfield 37, 3) := by decide +kernel
theorem dX8_two_133 : decode cX8_two 133 = .ok (.aload_n 0, 1) := by decide +kernel
theorem dX8_two_134 : decode cX8_two 134 = .ok (.getfield 12, 3) := by decide +kernel
theorem dX8_two_137 : decode cX8_two 137 = .ok (.getfield 91, 3) := by decide +kernel
theorem dX8_two_140 : decode cX8_two 140 = .ok (.iload_n 1, 1) := by decide +kernel
theorem dX8_two_141 : decode cX8_two 141 = .ok (.aaload, 1) := by decide +kernel
theorem dX8_two_142 : decode cX8_two 142 = .ok (.aload_n 0, 1) := by decide +kernel
theorem dX8_two_143 : decode cX8_two 143 = .ok (.getfield 12, 3) := by decide +kernel
theorem dX8_two_146 : decode cX8_two 146 = .ok (.getfield 91, 3) := by decide +kernel
theorem dX8_two_149 : decode cX8_two 149 = .ok (.iload_n 3, 1) := by decide +kernel
theorem dX8_two_150 : decode cX8_two 150 = .ok (.aaload, 1) := by decide +kernel
theorem dX8_two_151 : decode cX8_two 151 = .ok (.iload 5, 2) := by decide +kernel
theorem dX8_two_153 : decode cX8_two 153 = .ok (.iload 6, 2) := by decide +kernel
theorem dX8_two_155 : decode cX8_two 155 = .ok (.invokevirtual 201, 3) := by decide +kernel
theorem dX8_two_158 : decode cX8_two 158 = .ok (.ireturn, 1) := by decide +kernel
theorem dX8_film_0 : decode cX8_film 0 = .ok (.iload_n 1, 1) := by decide +kernel
theorem dX8_film_1 : decode cX8_film 1 = .ok (.sipush (-999), 3) := by decide +kernel
theorem dX8_film_4 : decode cX8_film 4 = .ok (.sipush 999, 3) := by decide +kernel
theorem dX8_film_7 : decode cX8_film 7 = .ok (.invokestatic 62, 3) := by decide +kernel
theorem dX8_film_10 : decode cX8_film 10 = .ok (.ifCond .eq 14, 3) := by decide +kernel
theorem dX8_film_13 : decode cX8_film 13 = .ok (.iload_n 2, 1) := by decide +kernel
theorem dX8_film_14 : decode cX8_film 14 = .ok (.bipush (-99), 2) := by decide +kernel
theorem dX8_film_16 : decode cX8_film 16 = .ok (.bipush 99, 2) := by decide +kernel
theorem dX8_film_18 : decode cX8_film 18 = .ok (.invokestatic 62, 3) := by decide +kernel
theorem dX8_film_21 : decode cX8_film 21 = .ok (.ifCond .ne 6, 3) := by decide +kernel
theorem dX8_film_24 : decode cX8_film 24 = .ok (.bipush (-3), 2) := by decide +kernel
theorem dX8_film_26 : decode cX8_film 26 = .ok (.ireturn, 1) := by decide +kernel
theorem dX8_film_27 : decode cX8_film 27 = .ok (.aload_n 0, 1) := by decide +kernel
theorem dX8_film_28 : decode cX8_film 28 = .ok (.getfield 51, 3) := by decide +kernel
theorem dX8_film_31 : decode cX8_film 31 = .ok (.getfield 205, 3) := by decide +kernel
theorem dX8_film_34 : decode cX8_film 34 = .ok (.bipush 24, 2) := by decide +kernel
theorem dX8_film_36 : decode cX8_film 36 = .ok (.if_icmp .lt 6, 3) := by decide +kernel
theorem dX8_film_39 : decode cX8_film 39 = .ok (.bipush (-5), 2) := by decide +kernel
theorem dX8_film_41 : decode cX8_film 41 = .ok (.ireturn, 1) := by decide +kernel
theorem dX8_film_42 : decode cX8_film 42 = .ok (.aload_n 0, 1) := by decide +kernel
theorem dX8_film_43 : decode cX8_film 43 = .ok (.getfield 51, 3) := by decide +kernel
theorem dX8_film_46 : decode cX8_film 46 = .ok (.iload_n 1, 1) := by decide +kernel
theorem dX8_film_47 : decode cX8_film 47 = .ok (.iload_n 2, 1) := by decide +kernel
theorem dX8_film_48 : decode cX8_film 48 = .ok (.invokevirtual 208, 3) := by decide +kernel
theorem dX8_film_51 : decode cX8_film 51 = .ok (.aload_n 0, 1) := by decide +kernel
theorem dX8_film_52 : decode cX8_film 52 = .ok (.getfield 51, 3) := by decide +kernel
theorem dX8_film_55 : decode cX8_film 55 = .ok (.getfield 205, 3) := by decide +kernel
theorem dX8_film_58 : decode cX8_film 58 = .ok (.ireturn, 1) := by decide +kernel
theorem dX8_wind_0 : decode cX8_wind 0 = .ok (.aload_n 0, 1) := by decide +kernel
theorem dX8_wind_1 : decode cX8_wind 1 = .ok (.getfield 51, 3) := by decide +kernel
theorem dX8_wind_4 : decode cX8_wind 4 = .ok (.getfield 205, 3) := by decide +kernel
theorem dX8_wind_7 : decode cX8_wind 7 = .ok (.istore_n 1, 1) := by decide +kernel
theorem dX8_wind_8 : decode cX8_wind 8 = .ok (.aload_n 0, 1) := by decide +kernel
theorem dX8_wind_9 : decode cX8_wind 9 = .ok (.getfield 51, 3) := by decide +kernel
theorem dX8_wind_12 : decode cX8_wind 12 = .ok (.iconst 0, 1) := by decide +kernel
theorem dX8_wind_13 : decode cX8_wind 13 = .ok (.putfield 205, 3) := by decide +kernel
theorem dX8_wind_16 : decode cX8_wind 16 = .ok (.iload_n 1, 1) := by decide +kernel
theorem dX8_wind_17 : decode cX8_wind 17 = .ok (.ireturn, 1) := by decide +kernel
theorem dX8_fits_0 : decode cX8_fits 0 = .ok (.iload_n 1, 1) := by decide +kernel
theorem dX8_fits_1 : decode cX8_fits 1 = .ok (.iconst 0, 1) := by decide +kernel
theorem dX8_fits_2 : decode cX8_fits 2 = .ok (.iconst 3, 1) := by decide +kernel
theorem dX8_fits_3 : decode cX8_fits 3 = .ok (.invokestatic 62, 3) := by decide +kernel
theorem dX8_fits_6 : decode cX8_fits 6 = .ok (.ifCond .ne 6, 3) := by decide +kernel
theorem dX8_fits_9 : decode cX8_fits 9 = .ok (.bipush (-3), 2) := by decide +kernel
theorem dX8_fits_11 : decode cX8_fits 11 = .ok (.ireturn, 1) := by decide +kernel
theorem dX8_fits_12 : decode cX8_fits 12 = .ok (.aload_n 0, 1) := by decide +kernel
theorem dX8_fits_13 : decode cX8_fits 13 = .ok (.getfield 51, 3) := by decide +kernel
theorem dX8_fits_16 : decode cX8_fits 16 = .ok (.aload_n 0, 1) := by decide +kernel
theorem dX8_fits_17 : decode cX8_fits 17 = .ok (.getfield 12, 3) := by decide +kernel
theorem dX8_fits_20 : decode cX8_fits 20 = .ok (.getfield 130, 3) := by decide +kernel
theorem dX8_fits_23 : decode cX8_fits 23 = .ok (.iconst 0, 1) := by decide +kernel
theorem dX8_fits_24 : decode cX8_fits 24 = .ok (.invokevirtual 211, 3) := by decide +kernel
theorem dX8_fits_27 : decode cX8_fits 27 = .ok (.iload_n 1, 1) := by decide +kernel
theorem dX8_fits_28 : decode cX8_fits 28 = .ok (.tableswitch 52 0 2 #[28, 36, 44], 28) := by decide +kernel
theorem dX8_fits_56 : decode cX8_fits 56 = .ok (.aload_n 0, 1) := by decide +kernel
theorem dX8_fits_57 : decode cX8_fits 57 = .ok (.getfield 51, 3) := by decide +kernel
theorem dX8_fits_60 : decode cX8_fits 60 = .ok (.getfield 215, 3) := by decide +kernel
theorem dX8_fits_63 : decode cX8_fits 63 = .ok (.ireturn, 1) := by decide +kernel
theorem dX8_fits_64 : decode cX8_fits 64 = .ok (.aload_n 0, 1) := by decide +kernel
theorem dX8_fits_65 : decode cX8_fits 65 = .ok (.getfield 51, 3) := by decide +kernel
theorem dX8_fits_68 : decode cX8_fits 68 = .ok (.getfield 218, 3) := by decide +kernel
theorem dX8_fits_71 : decode cX8_fits 71 = .ok (.ireturn, 1) := by decide +kernel
theorem dX8_fits_72 : decode cX8_fits 72 = .ok (.aload_n 0, 1) := by decide +kernel
theorem dX8_fits_73 : decode cX8_fits 73 = .ok (.getfield 51, 3) := by decide +kernel
theorem dX8_fits_76 : decode cX8_fits 76 = .ok (.getfield 221, 3) := by decide +kernel
theorem dX8_fits_79 : decode cX8_fits 79 = .ok (.ireturn, 1) := by decide +kernel
theorem dX8_fits_80 : decode cX8_fits 80 = .ok (.aload_n 0, 1) := by decide +kernel
theorem dX8_fits_81 : decode cX8_fits 81 = .ok (.getfield 51, 3) := by decide +kernel
theorem dX8_fits_84 : decode cX8_fits 84 = .ok (.getfield 224, 3) := by decide +kernel
theorem dX8_fits_87 : decode cX8_fits 87 = .ok (.ireturn, 1) := by decide +kernel
theorem dX8_next_0 : decode cX8_next 0 = .ok (.iload_n 1, 1) := by decide +kernel
theorem dX8_next_1 : decode cX8_next 1 = .ok (.sipush (-999), 3) := by decide +kernel
theorem dX8_next_4 : decode cX8_next 4 = .ok (.sipush 999, 3) := by decide +kernel
theorem dX8_next_7 : decode cX8_next 7 = .ok (.invokestatic 62, 3) := by decide +kernel
theorem dX8_next_10 : decode cX8_next 10 = .ok (.ifCond .eq 12, 3) := by decide +kernel
theorem dX8_next_13 : decode cX8_next 13 = .ok (.iload_n 2, 1) := by decide +kernel
theorem dX8_next_14 : decode cX8_next 14 = .ok (.iconst 0, 1) := by decide +kernel
theorem dX8_next_15 : decode cX8_next 15 = .ok (.iconst 1, 1) := by decide +kernel
theorem dX8_next_16 : decode cX8_next 16 = .ok (.invokestatic 62, 3) := by decide +kernel
theorem dX8_next_19 : decode cX8_next 19 = .ok (.ifCond .ne 6, 3) := by decide +kernel
theorem dX8_next_22 : decode cX8_next 22 = .ok (.bipush (-3), 2) := by decide +kernel
theorem dX8_next_24 : decode cX8_next 24 = .ok (.ireturn, 1) := by decide +kernel
theorem dX8_next_25 : decode cX8_next 25 = .ok (.aload_n 0, 1) := by decide +kernel
theorem dX8_next_26 : decode cX8_next 26 = .ok (.getfield 51, 3) := by decide +kernel
theorem dX8_next_29 : decode cX8_next 29 = .ok (.aload_n 0, 1) := by decide +kernel
theorem dX8_next_30 : decode cX8_next 30 = .ok (.getfield 12, 3) := by decide +kernel
theorem dX8_next_33 : decode cX8_next 33 = .ok (.getfield 130, 3) := by decide +kernel
theorem dX8_next_36 : decode cX8_next 36 = .ok (.iload_n 1, 1) := by decide +kernel
theorem dX8_next_37 : decode cX8_next 37 = .ok (.invokevirtual 211, 3) := by decide +kernel
theorem dX8_next_40 : decode cX8_next 40 = .ok (.aload_n 0, 1) := by decide +kernel
theorem dX8_next_41 : decode cX8_next 41 = .ok (.getfield 51, 3) := by decide +kernel
theorem dX8_next_44 : decode cX8_next 44 = .ok (.getfield 215, 3) := by decide +kernel
theorem dX8_next_47 : decode cX8_next 47 = .ok (.ifCond .ne 5, 3) := by decide +kernel
theorem dX8_next_50 : decode cX8_next 50 = .ok (.iconst (-1), 1) := by decide +kernel
theorem dX8_next_51 : decode cX8_next 51 = .ok (.ireturn, 1) := by decide +kernel
theorem dX8_next_52 : decode cX8_next 52 = .ok (.sipush 1000, 3) := by decide +kernel
theorem dX8_next_55 : decode cX8_next 55 = .ok (.iload_n 2, 1) := by decide +kernel
theorem dX8_next_56 : decode cX8_next 56 = .ok (.ifCond .ne 13, 3) := by decide +kernel
theorem dX8_next_59 : decode cX8_next 59 = .ok (.aload_n 0, 1) := by decide +kernel
theorem dX8_next_60 : decode cX8_next 60 = .ok (.getfield 51, 3) := by decide +kernel
theorem dX8_next_63 : decode cX8_next 63 = .ok (.getfield 227, 3) := by decide +kernel
theorem dX8_next_66 : decode cX8_next 66 = .ok (.goto 10, 3) := by decide +kernel
theorem dX8_next_69 : decode cX8_next 69 = .ok (.aload_n 0, 1) := by decide +kernel
theorem dX8_next_70 : decode cX8_next 70 = .ok (.getfield 51, 3) := by decide +kernel
theorem dX8_next_73 : decode cX8_next 73 = .ok (.getfield 230, 3) := by decide +kernel
theorem dX8_next_76 : decode cX8_next 76 = .ok (.iadd, 1) := by decide +kernel
theorem dX8_next_77 : decode cX8_next 77 = .ok (.ireturn, 1) := by decide +kernel
theorem dX8_plan_0 : decode cX8_plan 0 = .ok (.iload_n 1, 1) := by decide +kernel
theorem dX8_plan_1 : decode cX8_plan 1 = .ok (.iconst 1, 1) := by decide +kernel
theorem dX8_plan_2 : decode cX8_plan 2 = .ok (.iconst 5, 1) := by decide +kernel
theorem dX8_plan_3 : decode cX8_plan 3 = .ok (.invokestatic 62, 3) := by decide +kernel
theorem dX8_plan_6 : decode cX8_plan 6 = .ok (.ifCond .eq 14, 3) := by decide +kernel
theorem dX8_plan_9 : decode cX8_plan 9 = .ok (.iload_n 2, 1) := by decide +kernel
theorem dX8_plan_10 : decode cX8_plan 10 = .ok (.iconst (-1), 1) := by decide +kernel
theorem dX8_plan_11 : decode cX8_plan 11 = .ok (.iload_n 1, 1) := by decide +kernel
theorem dX8_plan_12 : decode cX8_plan 12 = .ok (.iconst 1, 1) := by decide +kernel
theorem dX8_plan_13 : decode cX8_plan 13 = .ok (.isub, 1) := by decide +kernel
theorem dX8_plan_14 : decode cX8_plan 14 = .ok (.invokestatic 62, 3) := by decide +kernel
theorem dX8_plan_17 : decode cX8_plan 17 = .ok (.ifCond .ne 6, 3) := by decide +kernel
theorem dX8_plan_20 : decode cX8_plan 20 = .ok (.bipush (-3), 2) := by decide +kernel
theorem dX8_plan_22 : decode cX8_plan 22 = .ok (.ireturn, 1) := by decide +kernel
theorem dX8_plan_23 : decode cX8_plan 23 = .ok (.aload_n 0, 1) := by decide +kernel
theorem dX8_plan_24 : decode cX8_plan 24 = .ok (.getfield 37, 3) := by decide +kernel
theorem dX8_plan_27 : decode cX8_plan 27 = .ok (.aload_n 0, 1) := by decide +kernel
theorem dX8_plan_28 : decode cX8_plan 28 = .ok (.getfield 12, 3) := by decide +kernel
theorem dX8_plan_31 : decode cX8_plan 31 = .ok (.getfield 130, 3) := by decide +kernel
theorem dX8_plan_34 : decode cX8_plan 34 = .ok (.invokevirtual 164, 3) := by decide +kernel
theorem dX8_plan_37 : decode cX8_plan 37 = .ok (.aload_n 0, 1) := by decide +kernel
theorem dX8_plan_38 : decode cX8_plan 38 = .ok (.getfield 44, 3) := by decide +kernel
theorem dX8_plan_41 : decode cX8_plan 41 = .ok (.aload_n 0, 1) := by decide +kernel
theorem dX8_plan_42 : decode cX8_plan 42 = .ok (.getfield 12, 3) := by decide +kernel
theorem dX8_plan_45 : decode cX8_plan 45 = .ok (.aload_n 0, 1) := by decide +kernel
theorem dX8_plan_46 : decode cX8_plan 46 = .ok (.getfield 37, 3) := by decide +kernel
theorem dX8_plan_49 : decode cX8_plan 49 = .ok (.invokevirtual 233, 3) := by decide +kernel
theorem dX8_plan_52 : decode cX8_plan 52 = .ok (.aload_n 0, 1) := by decide +kernel
theorem dX8_plan_53 : decode cX8_plan 53 = .ok (.getfield 44, 3) := by decide +kernel
theorem dX8_plan_56 : decode cX8_plan 56 = .ok (.bipush 10, 2) := by decide +kernel
theorem dX8_plan_58 : decode cX8_plan 58 = .ok (.aload_n 0, 1) := by decide +kernel
theorem dX8_plan_59 : decode cX8_plan 59 = .ok (.getfield 12, 3) := by decide +kernel
theorem dX8_plan_62 : decode cX8_plan 62 = .ok (.getfield 130, 3) := by decide +kernel
theorem dX8_plan_65 : decode cX8_plan 65 = .ok (.iconst 2, 1) := by decide +kernel
theorem dX8_plan_66 : decode cX8_plan 66 = .ok (.iaload, 1) := by decide +kernel
theorem dX8_plan_67 : decode cX8_plan 67 = .ok (.imul, 1) := by decide +kernel
theorem dX8_plan_68 : decode cX8_plan 68 = .ok (.iload_n 1, 1) := by decide +kernel
theorem dX8_plan_69 : decode cX8_plan 69 = .ok (.invokevirtual 237, 3) := by decide +kernel
theorem dX8_plan_72 : decode cX8_plan 72 = .ok (.istore_n 3, 1) := by decide +kernel
theorem dX8_plan_73 : decode cX8_plan 73 = .ok (.iload_n 3, 1) := by decide +kernel
theorem dX8_plan_74 : decode cX8_plan 74 = .ok (.iconst (-1), 1) := by decide +kernel
theorem dX8_plan_75 : decode cX8_plan 75 = .ok (.if_icmp .ne 5, 3) := by decide +kernel
theorem dX8_plan_78 : decode cX8_plan 78 = .ok (.iconst (-1), 1) := by decide +kernel
theorem dX8_plan_79 : decode cX8_plan 79 = .ok (.ireturn, 1) := by decide +kernel
theorem dX8_plan_80 : decode cX8_plan 80 = .ok (.iload_n 2, 1) := by decide +kernel
theorem dX8_plan_81 : decode cX8_plan 81 = .ok (.iconst (-1), 1) := by decide +kernel
theorem dX8_plan_82 : decode cX8_plan 82 = .ok (.if_icmp .ne 13, 3) := by decide +kernel
theorem dX8_plan_85 : decode cX8_plan 85 = .ok (.aload_n 0, 1) := by decide +kernel
theorem dX8_plan_86 : decode cX8_plan 86 = .ok (.getfield 44, 3) := by decide +kernel
theorem dX8_plan_89 : decode cX8_plan 89 = .ok (.getfield 241, 3) := by decide +kernel
theorem dX8_plan_92 : decode cX8_plan 92 = .ok (.goto 9, 3) := by decide +kernel
theorem dX8_plan_95 : decode cX8_plan 95 = .ok (.iload_n 3, 1) := by decide +kernel
theorem dX8_plan_96 : decode cX8_plan 96 = .ok (.iload_n 1, 1) := by decide +kernel
theorem dX8_plan_97 : decode cX8_plan 97 = .ok (.iload_n 2, 1) := by decide +kernel
theorem dX8_plan_98 : decode cX8_plan 98 = .ok (.invokestatic 244, 3) := by decide +kernel
theorem dX8_plan_101 : decode cX8_plan 101 = .ok (.ireturn, 1) := by decide +kernel
theorem dX8_room_0 : decode cX8_room 0 = .ok (.iload_n 1, 1) := by decide +kernel
theorem dX8_room_1 : decode cX8_room 1 = .ok (.iconst 0, 1) := by decide +kernel
theorem dX8_room_2 : decode cX8_room 2 = .ok (.bipush 35, 2) := by decide +kernel
theorem dX8_room_4 : decode cX8_room 4 = .ok (.invokestatic 62, 3) := by decide +kernel
theorem dX8_room_7 : decode cX8_room 7 = .ok (.ifCond .ne 6, 3) := by decide +kernel
theorem dX8_room_10 : decode cX8_room 10 = .ok (.bipush (-2), 2) := by decide +kernel
theorem dX8_room_12 : decode cX8_room 12 = .ok (.ireturn, 1) := by decide +kernel
theorem dX8_room_13 : decode cX8_room 13 = .ok (.iload_n 2, 1) := by decide +kernel
theorem dX8_room_14 : decode cX8_room 14 = .ok (.iconst 0, 1) := by decide +kernel
theorem dX8_room_15 : decode cX8_room 15 = .ok (.bipush 99, 2) := by decide +kernel
theorem dX8_room_17 : decode cX8_room 17 = .ok (.invokestatic 62, 3) := by decide +kernel
theorem dX8_room_20 : decode cX8_room 20 = .ok (.ifCond .eq 14, 3) := by decide +kernel
theorem dX8_room_23 : decode cX8_room 23 = .ok (.iload_n 3, 1) := by decide +kernel
theorem dX8_room_24 : decode cX8_room 24 = .ok (.iconst 0, 1) := by decide +kernel
theorem dX8_room_25 : decode cX8_room 25 = .ok (.sipush 300, 3) := by decide +kernel
theorem dX8_room_28 : decode cX8_room 28 = .ok (.invokestatic 62, 3) := by decide +kernel
theorem dX8_room_31 : decode cX8_room 31 = .ok (.ifCond .ne 6, 3) := by decide +kernel
theorem dX8_room_34 : decode cX8_room 34 = .ok (.bipush (-3), 2) := by decide +kernel
theorem dX8_room_36 : decode cX8_room 36 = .ok (.ireturn, 1) := by decide +kernel
theorem dX8_room_37 : decode cX8_room 37 = .ok (.aload_n 0, 1) := by decide +kernel
theorem dX8_room_38 : decode cX8_room 38 = .ok (.getfield 58, 3) := by decide +kernel
theorem dX8_room_41 : decode cX8_room 41 = .ok (.getfield 247, 3) := by decide +kernel
theorem dX8_room_44 : decode cX8_room 44 = .ok (.iload_n 1, 1) := by decide +kernel
theorem dX8_room_45 : decode cX8_room 45 = .ok (.iaload, 1) := by decide +kernel
theorem dX8_room_46 : decode cX8_room 46 = .ok (.istore 4, 2) := by decide +kernel
theorem dX8_room_48 : decode cX8_room 48 = .ok (.aload_n 0, 1) := by decide +kernel
theorem dX8_room_49 : decode cX8_room 49 = .ok (.getfield 58, 3) := by decide +kernel
theorem dX8_room_52 : decode cX8_room 52 = .ok (.getfield 247, 3) := by decide +kernel
theorem dX8_room_55 : decode cX8_room 55 = .ok (.iload_n 1, 1) := by decide +kernel
theorem dX8_room_56 : decode cX8_room 56 = .ok (.iload_n 2, 1) := by decide +kernel
theorem dX8_room_57 : decode cX8_room 57 = .ok (.iastore, 1) := by decide +kernel
theorem dX8_room_58 : decode cX8_room 58 = .ok (.aload_n 0, 1) := by decide +kernel
theorem dX8_room_59 : decode cX8_room 59 = .ok (.getfield 58, 3) := by decide +kernel
theorem dX8_room_62 : decode cX8_room 62 = .ok (.getfield 250, 3) := by decide +kernel
theorem dX8_room_65 : decode cX8_room 65 = .ok (.iload_n 1, 1) := by decide +kernel
theorem dX8_room_66 : decode cX8_room 66 = .ok (.iload_n 3, 1) := by decide +kernel
theorem dX8_room_67 : decode cX8_room 67 = .ok (.iastore, 1) := by decide +kernel
theorem dX8_room_68 : decode cX8_room 68 = .ok (.iload 4, 2) := by decide +kernel
theorem dX8_room_70 : decode cX8_room 70 = .ok (.ireturn, 1) := by decide +kernel
theorem dX8_way_0 : decode cX8_way 0 = .ok (.iload_n 1, 1) := by decide +kernel
theorem dX8_way_1 : decode cX8_way 1 = .ok (.invokestatic 87, 3) := by decide +kernel
theorem dX8_way_4 : decode cX8_way 4 = .ok (.ifCond .eq 23, 3) := by decide +kernel
theorem dX8_way_7 : decode cX8_way 7 = .ok (.iload_n 2, 1) := by decide +kernel
theorem dX8_way_8 : decode cX8_way 8 = .ok (.iconst 0, 1) := by decide +kernel
theorem dX8_way_9 : decode cX8_way 9 = .ok (.bipush 35, 2) := by decide +kernel
theorem dX8_way_11 : decode cX8_way 11 = .ok (.invokestatic 62, 3) := by decide +kernel
theorem dX8_way_14 : decode cX8_way 14 = .ok (.ifCond .eq 13, 3) := by decide +kernel
theorem dX8_way_17 : decode cX8_way 17 = .ok (.iload_n 3, 1) := by decide +kernel
theorem dX8_way_18 : decode cX8_way 18 = .ok (.iconst 0, 1) := by decide +kernel
theorem dX8_way_19 : decode cX8_way 19 = .ok (.bipush 35, 2) := by decide +kernel
theorem dX8_way_21 : decode cX8_way 21 = .ok (.invokestatic 62, 3) := by decide +kernel
theorem dX8_way_24 : decode cX8_way 24 = .ok (.ifCond .ne 6, 3) := by decide +kernel
theorem dX8_way_27 : decode cX8_way 27 = .ok (.bipush (-2), 2) := by decide +kernel
theorem dX8_way_29 : decode cX8_way 29 = .ok (.ireturn, 1) := by decide +kernel
theorem dX8_way_30 : decode cX8_way 30 = .ok (.iload 4, 2) := by decide +kernel
theorem dX8_way_32 : decode cX8_way 32 = .ok (.iconst 0, 1) := by decide +kernel
theorem dX8_way_33 : decode cX8_way 33 = .ok (.bipush 99, 2) := by decide +kernel
theorem dX8_way_35 : decode cX8_way 35 = .ok (.invokestatic 62, 3) := by decide +kernel
theorem dX8_way_38 : decode cX8_way 38 = .ok (.ifCond .eq 13, 3) := by decide +kernel
theorem dX8_way_41 : decode cX8_way 41 = .ok (.iload 5, 2) := by decide +kernel
theorem dX8_way_43 : decode cX8_way 43 = .ok (.iconst 0, 1) := by decide +kernel
theorem dX8_way_44 : decode cX8_way 44 = .ok (.iconst 1, 1) := by decide +kernel
theorem dX8_way_45 : decode cX8_way 45 = .ok (.invokestatic 62, 3) := by decide +kernel
theorem dX8_way_48 : decode cX8_way 48 = .ok (.ifCond .ne 6, 3) := by decide +kernel
theorem dX8_way_51 : decode cX8_way 51 = .ok (.bipush (-3), 2) := by decide +kernel
theorem dX8_way_53 : decode cX8_way 53 = .ok (.ireturn, 1) := by decide +kernel
theorem dX8_way_54 : decode cX8_way 54 = .ok (.aload_n 0, 1) := by decide +kernel
theorem dX8_way_55 : decode cX8_way 55 = .ok (.iload_n 1, 1) := by decide +kernel
theorem dX8_way_56 : decode cX8_way 56 = .ok (.invokevirtual 137, 3) := by decide +kernel
theorem dX8_way_59 : decode cX8_way 59 = .ok (.ifCond .ne 6, 3) := by decide +kernel
theorem dX8_way_62 : decode cX8_way 62 = .ok (.bipush (-4), 2) := by decide +kernel
theorem dX8_way_64 : decode cX8_way 64 = .ok (.ireturn, 1) := by decide +kernel
theorem dX8_way_65 : decode cX8_way 65 = .ok (.aload_n 0, 1) := by decide +kernel
theorem dX8_way_66 : decode cX8_way 66 = .ok (.getfield 58, 3) := by decide +kernel
theorem dX8_way_69 : decode cX8_way 69 = .ok (.iload_n 2, 1) := by decide +kernel
theorem dX8_way_70 : decode cX8_way 70 = .ok (.iload 4, 2) := by decide +kernel
theorem dX8_way_72 : decode cX8_way 72 = .ok (.aload_n 0, 1) := by decide +kernel
theorem dX8_way_73 : decode cX8_way 73 = .ok (.getfield 12, 3) := by decide +kernel
theorem dX8_way_76 : decode cX8_way 76 = .ok (.getfield 91, 3) := by decide +kernel
theorem dX8_way_79 : decode cX8_way 79 = .ok (.iload_n 1, 1) := by decide +kernel
theorem dX8_way_80 : decode cX8_way 80 = .ok (.aaload, 1) := by decide +kernel
theorem dX8_way_81 : decode cX8_way 81 = .ok (.getfield 109, 3) := by decide +kernel
theorem dX8_way_84 : decode cX8_way 84 = .ok (.invokevirtual 253, 3) := by decide +kernel
theorem dX8_way_87 : decode cX8_way 87 = .ok (.iload 5, 2) := by decide +kernel
theorem dX8_way_89 : decode cX8_way 89 = .ok (.ifCond .ne 15, 3) := by decide +kernel
theorem dX8_way_92 : decode cX8_way 92 = .ok (.aload_n 0, 1) := by decide +kernel
theorem dX8_way_93 : decode cX8_way 93 = .ok (.getfield 58, 3) := by decide +kernel
theorem dX8_way_96 : decode cX8_way 96 = .ok (.getfield 256, 3) := by decide +kernel
theorem dX8_way_99 : decode cX8_way 99 = .ok (.iload_n 3, 1) := by decide +kernel
theorem dX8_way_100 : decode cX8_way 100 = .ok (.iaload, 1) := by decide +kernel
theorem dX8_way_101 : decode cX8_way 101 = .ok (.goto 12, 3) := by decide +kernel
theorem dX8_way_104 : decode cX8_way 104 = .ok (.aload_n 0, 1) := by decide +kernel
theorem dX8_way_105 : decode cX8_way 105 = .ok (.getfield 58, 3) := by decide +kernel
theorem dX8_way_108 : decode cX8_way 108 = .ok (.getfield 259, 3) := by decide +kernel
theorem dX8_way_111 : decode cX8_way 111 = .ok (.iload_n 3, 1) := by decide +kernel
theorem dX8_way_112 : decode cX8_way 112 = .ok (.iaload, 1) := by decide +kernel
theorem dX8_way_113 : decode cX8_way 113 = .ok (.ireturn, 1) := by decide +kernel
theorem dX8_count_0 : decode cX8_count 0 = .ok (.iload_n 1, 1) := by decide +kernel
theorem dX8_count_1 : decode cX8_count 1 = .ok (.iconst 0, 1) := by decide +kernel
theorem dX8_count_2 : decode cX8_count 2 = .ok (.bipush 11, 2) := by decide +kernel
theorem dX8_count_4 : decode cX8_count 4 = .ok (.invokestatic 62, 3) := by decide +kernel
theorem dX8_count_7 : decode cX8_count 7 = .ok (.ifCond .ne 6, 3) := by decide +kernel
theorem dX8_count_10 : decode cX8_count 10 = .ok (.bipush (-3), 2) := by decide +kernel
theorem dX8_count_12 : decode cX8_count 12 = .ok (.ireturn, 1) := by decide +kernel
theorem dX8_count_13 : decode cX8_count 13 = .ok (.iload_n 1, 1) := by decide +kernel
theorem dX8_count_14 : decode cX8_count 14 = .ok (.lookupswitch 42 #[(10, 26), (11, 34)], 26) := by decide +kernel
theorem dX8_count_40 : decode cX8_count 40 = .ok (.aload_n 0, 1) := by decide +kernel
theorem dX8_count_41 : decode cX8_count 41 = .ok (.getfield 51, 3) := by decide +kernel
theorem dX8_count_44 : decode cX8_count 44 = .ok (.getfield 205, 3) := by decide +kernel
theorem dX8_count_47 : decode cX8_count 47 = .ok (.ireturn, 1) := by decide +kernel
theorem dX8_count_48 : decode cX8_count 48 = .ok (.aload_n 0, 1) := by decide +kernel
theorem dX8_count_49 : decode cX8_count 49 = .ok (.getfield 19, 3) := by decide +kernel
theorem dX8_count_52 : decode cX8_count 52 = .ok (.getfield 66, 3) := by decide +kernel
theorem dX8_count_55 : decode cX8_count 55 = .ok (.ireturn, 1) := by decide +kernel
theorem dX8_count_56 : decode cX8_count 56 = .ok (.aload_n 0, 1) := by decide +kernel
theorem dX8_count_57 : decode cX8_count 57 = .ok (.getfield 12, 3) := by decide +kernel
theorem dX8_count_60 : decode cX8_count 60 = .ok (.getfield 130, 3) := by decide +kernel
theorem dX8_count_63 : decode cX8_count 63 = .ok (.iload_n 1, 1) := by decide +kernel
theorem dX8_count_64 : decode cX8_count 64 = .ok (.iaload, 1) := by decide +kernel
theorem dX8_count_65 : decode cX8_count 65 = .ok (.ireturn, 1) := by decide +kernel
theorem dX8_within_0 : decode cX8_within 0 = .ok (.iload_n 0, 1) := by decide +kernel
theorem dX8_within_1 : decode cX8_within 1 = .ok (.iload_n 1, 1) := by decide +kernel
theorem dX8_within_2 : decode cX8_within 2 = .ok (.if_icmp .lt 12, 3) := by decide +kernel
theorem dX8_within_5 : decode cX8_within 5 = .ok (.iload_n 0, 1) := by decide +kernel
theorem dX8_within_6 : decode cX8_within 6 = .ok (.iload_n 2, 1) := by decide +kernel
theorem dX8_within_7 : decode cX8_within 7 = .ok (.if_icmp .gt 7, 3) := by decide +kernel
theorem dX8_within_10 : decode cX8_within 10 = .ok (.iconst 1, 1) := by decide +kernel
theorem dX8_within_11 : decode cX8_within 11 = .ok (.goto 4, 3) := by decide +kernel
theorem dX8_within_14 : decode cX8_within 14 = .ok (.iconst 0, 1) := by decide +kernel
theorem dX8_within_15 : decode cX8_within 15 = .ok (.ireturn, 1) := by decide +kernel
theorem dX8_isThing_0 : decode cX8_isThing 0 = .ok (.iload_n 0, 1) := by decide +kernel
theorem dX8_isThing_1 : decode cX8_isThing 1 = .ok (.iconst 0, 1) := by decide +kernel
theorem dX8_isThing_2 : decode cX8_isThing 2 = .ok (.iconst 3, 1) := by decide +kernel
theorem dX8_isThing_3 : decode cX8_isThing 3 = .ok (.invokestatic 62, 3) := by decide +kernel
theorem dX8_isThing_6 : decode cX8_isThing 6 = .ok (.ireturn, 1) := by decide +kernel
theorem dX8_hasLumps_0 : decode cX8_hasLumps 0 = .ok (.aload_n 0, 1) := by decide +kernel
theorem dX8_hasLumps_1 : decode cX8_hasLumps 1 = .ok (.getfield 12, 3) := by decide +kernel
theorem dX8_hasLumps_4 : decode cX8_hasLumps 4 = .ok (.getfield 91, 3) := by decide +kernel
theorem dX8_hasLumps_7 : decode cX8_hasLumps 7 = .ok (.iload_n 1, 1) := by decide +kernel
theorem dX8_hasLumps_8 : decode cX8_hasLumps 8 = .ok (.aaload, 1) := by decide +kernel
theorem dX8_hasLumps_9 : decode cX8_hasLumps 9 = .ok (.getfield 103, 3) := by decide +kernel
theorem dX8_hasLumps_12 : decode cX8_hasLumps 12 = .ok (.ifCond .le 7, 3) := by decide +kernel
theorem dX8_hasLumps_15 : decode cX8_hasLumps 15 = .ok (.iconst 1, 1) := by decide +kernel
theorem dX8_hasLumps_16 : decode cX8_hasLumps 16 = .ok (.goto 4, 3) := by decide +kernel
theorem dX8_hasLumps_19 : decode cX8_hasLumps 19 = .ok (.iconst 0, 1) := by decide +kernel
theorem dX8_hasLumps_20 : decode cX8_hasLumps 20 = .ok (.ireturn, 1) := by decide +kernel
theorem dX8_refusal_0 : decode cX8_refusal 0 = .ok (.iload_n 1, 1) := by decide +kernel
theorem dX8_refusal_1 : decode cX8_refusal 1 = .ok (.invokestatic 87, 3) := by decide +kernel
theorem dX8_refusal_4 : decode cX8_refusal 4 = .ok (.ifCond .ne 6, 3) := by decide +kernel
theorem dX8_refusal_7 : decode cX8_refusal 7 = .ok (.bipush (-2), 2) := by decide +kernel
theorem dX8_refusal_9 : decode cX8_refusal 9 = .ok (.ireturn, 1) := by decide +kernel
theorem dX8_refusal_10 : decode cX8_refusal 10 = .ok (.iload_n 2, 1) := by decide +kernel
theorem dX8_refusal_11 : decode cX8_refusal 11 = .ok (.ifCond .ne 6, 3) := by decide +kernel
theorem dX8_refusal_14 : decode cX8_refusal 14 = .ok (.bipush (-3), 2) := by decide +kernel
theorem dX8_refusal_16 : decode cX8_refusal 16 = .ok (.ireturn, 1) := by decide +kernel
theorem dX8_refusal_17 : decode cX8_refusal 17 = .ok (.aload_n 0, 1) := by decide +kernel
theorem dX8_refusal_18 : decode cX8_refusal 18 = .ok (.iload_n 1, 1) := by decide +kernel
theorem dX8_refusal_19 : decode cX8_refusal 19 = .ok (.invokevirtual 137, 3) := by decide +kernel
theorem dX8_refusal_22 : decode cX8_refusal 22 = .ok (.ifCond .eq 7, 3) := by decide +kernel
theorem dX8_refusal_25 : decode cX8_refusal 25 = .ok (.iconst 0, 1) := by decide +kernel
theorem dX8_refusal_26 : decode cX8_refusal 26 = .ok (.goto 5, 3) := by decide +kernel
theorem dX8_refusal_29 : decode cX8_refusal 29 = .ok (.bipush (-4), 2) := by decide +kernel
theorem dX8_refusal_31 : decode cX8_refusal 31 = .ok (.ireturn, 1) := by decide +kernel
theorem dX8_limited_0 : decode cX8_limited 0 = .ok (.iload_n 0, 1) := by decide +kernel
theorem dX8_limited_1 : decode cX8_limited 1 = .ok (.iload_n 1, 1) := by decide +kernel
theorem dX8_limited_2 : decode cX8_limited 2 = .ok (.if_icmp .le 5, 3) := by decide +kernel
theorem dX8_limited_5 : decode cX8_limited 5 = .ok (.iload_n 1, 1) := by decide +kernel
theorem dX8_limited_6 : decode cX8_limited 6 = .ok (.ireturn, 1) := by decide +kernel
theorem dX8_limited_7 : decode cX8_limited 7 = .ok (.iload_n 0, 1) := by decide +kernel
theorem dX8_limited_8 : decode cX8_limited 8 = .ok (.iload_n 1, 1) := by decide +kernel
theorem dX8_limited_9 : decode cX8_limited 9 = .ok (.ineg, 1) := by decide +kernel
theorem dX8_limited_10 : decode cX8_limited 10 = .ok (.if_icmp .ge 8, 3) := by decide +kernel
theorem dX8_limited_13 : decode cX8_limited 13 = .ok (.iload_n 1, 1) := by decide +kernel
theorem dX8_limited_14 : decode cX8_limited 14 = .ok (.ineg, 1) := by decide +kernel
theorem dX8_limited_15 : decode cX8_limited 15 = .ok (.goto 4, 3) := by decide +kernel
theorem dX8_limited_18 : decode cX8_limited 18 = .ok (.iload_n 0, 1) := by decide +kernel
theorem dX8_limited_19 : decode cX8_limited 19 = .ok (.ireturn, 1) := by decide +kernel
theorem dX8_wish_0 : decode cX8_wish 0 = .ok (.iload_n 1, 1) := by decide +kernel
theorem dX8_wish_1 : decode cX8_wish 1 = .ok (.invokestatic 262, 3) := by decide +kernel
theorem dX8_wish_4 : decode cX8_wish 4 = .ok (.aload_n 0, 1) := by decide +kernel
theorem dX8_wish_5 : decode cX8_wish 5 = .ok (.iconst 4, 1) := by decide +kernel
theorem dX8_wish_6 : decode cX8_wish 6 = .ok (.iaload, 1) := by decide +kernel
theorem dX8_wish_7 : decode cX8_wish 7 = .ok (.if_icmp .ge 5, 3) := by decide +kernel
theorem dX8_wish_10 : decode cX8_wish 10 = .ok (.iconst 0, 1) := by decide +kernel
theorem dX8_wish_11 : decode cX8_wish 11 = .ok (.ireturn, 1) := by decide +kernel
theorem dX8_wish_12 : decode cX8_wish 12 = .ok (.aload_n 0, 1) := by decide +kernel
theorem dX8_wish_13 : decode cX8_wish 13 = .ok (.iconst 0, 1) := by decide +kernel
theorem dX8_wish_14 : decode cX8_wish 14 = .ok (.iaload, 1) := by decide +kernel
theorem dX8_wish_15 : decode cX8_wish 15 = .ok (.iload_n 1, 1) := by decide +kernel
theorem dX8_wish_16 : decode cX8_wish 16 = .ok (.imul, 1) := by decide +kernel
theorem dX8_wish_17 : decode cX8_wish 17 = .ok (.aload_n 0, 1) := by decide +kernel
theorem dX8_wish_18 : decode cX8_wish 18 = .ok (.iconst 1, 1) := by decide +kernel
theorem dX8_wish_19 : decode cX8_wish 19 = .ok (.iaload, 1) := by decide +kernel
theorem dX8_wish_20 : decode cX8_wish 20 = .ok (.iload_n 1, 1) := by decide +kernel
theorem dX8_wish_21 : decode cX8_wish 21 = .ok (.iload_n 2, 1) := by decide +kernel
theorem dX8_wish_22 : decode cX8_wish 22 = .ok (.isub, 1) := by decide +kernel
theorem dX8_wish_23 : decode cX8_wish 23 = .ok (.imul, 1) := by decide +kernel
theorem dX8_wish_24 : decode cX8_wish 24 = .ok (.iadd, 1) := by decide +kernel
theorem dX8_wish_25 : decode cX8_wish 25 = .ok (.bipush 10, 2) := by decide +kernel
theorem dX8_wish_27 : decode cX8_wish 27 = .ok (.idiv, 1) := by decide +kernel
theorem dX8_wish_28 : decode cX8_wish 28 = .ok (.aload_n 0, 1) := by decide +kernel
theorem dX8_wish_29 : decode cX8_wish 29 = .ok (.iconst 3, 1) := by decide +kernel
theorem dX8_wish_30 : decode cX8_wish 30 = .ok (.iaload, 1) := by decide +kernel
theorem dX8_wish_31 : decode cX8_wish 31 = .ok (.invokestatic 267, 3) := by decide +kernel
theorem dX8_wish_34 : decode cX8_wish 34 = .ok (.ireturn, 1) := by decide +kernel
theorem dX8_lowestTerms_0 : decode cX8_lowestTerms 0 = .ok (.iload_n 0, 1) := by decide +kernel
theorem dX8_lowestTerms_1 : decode cX8_lowestTerms 1 = .ok (.istore_n 3, 1) := by decide +kernel
theorem dX8_lowestTerms_2 : decode cX8_lowestTerms 2 = .ok (.bipush 10, 2) := by decide +kernel
theorem dX8_lowestTerms_4 : decode cX8_lowestTerms 4 = .ok (.iload_n 1, 1) := by decide +kernel
theorem dX8_lowestTerms_5 : decode cX8_lowestTerms 5 = .ok (.invokestatic 270, 3) := by decide +kernel
theorem dX8_lowestTerms_8 : decode cX8_lowestTerms 8 = .ok (.istore 4, 2) := by decide +kernel
theorem dX8_lowestTerms_10 : decode cX8_lowestTerms 10 = .ok (.iconst 0, 1) := by decide +kernel
theorem dX8_lowestTerms_11 : decode cX8_lowestTerms 11 = .ok (.istore 5, 2) := by decide +kernel
theorem dX8_lowestTerms_13 : decode cX8_lowestTerms 13 = .ok (.iload 5, 2) := by decide +kernel
theorem dX8_lowestTerms_15 : decode cX8_lowestTerms 15 = .ok (.iload_n 1, 1) := by decide +kernel
theorem dX8_lowestTerms_16 : decode cX8_lowestTerms 16 = .ok (.if_icmp .ge 41, 3) := by decide +kernel
theorem dX8_lowestTerms_19 : decode cX8_lowestTerms 19 = .ok (.iload_n 3, 1) := by decide +kernel
theorem dX8_lowestTerms_20 : decode cX8_lowestTerms 20 = .ok (.iconst 2, 1) := by decide +kernel
theorem dX8_lowestTerms_21 : decode cX8_lowestTerms 21 = .ok (.irem, 1) := by decide +kernel
theorem dX8_lowestTerms_22 : decode cX8_lowestTerms 22 = .ok (.ifCond .ne 13, 3) := by decide +kernel
theorem dX8_lowestTerms_25 : decode cX8_lowestTerms 25 = .ok (.iload_n 3, 1) := by decide +kernel
theorem dX8_lowestTerms_26 : decode cX8_lowestTerms 26 = .ok (.iconst 2, 1) := by decide +kernel
theorem dX8_lowestTerms_27 : decode cX8_lowestTerms 27 = .ok (.idiv, 1) := by decide +kernel
theorem dX8_lowestTerms_28 : decode cX8_lowestTerms 28 = .ok (.istore_n 3, 1) := by decide +kernel
theorem dX8_lowestTerms_29 : decode cX8_lowestTerms 29 = .ok (.iload 4, 2) := by decide +kernel
theorem dX8_lowestTerms_31 : decode cX8_lowestTerms 31 = .ok (.iconst 2, 1) := by decide +kernel
theorem dX8_lowestTerms_32 : decode cX8_lowestTerms 32 = .ok (.idiv, 1) := by decide +kernel
theorem dX8_lowestTerms_33 : decode cX8_lowestTerms 33 = .ok (.istore 4, 2) := by decide +kernel
theorem dX8_lowestTerms_35 : decode cX8_lowestTerms 35 = .ok (.iload_n 3, 1) := by decide +kernel
theorem dX8_lowestTerms_36 : decode cX8_lowestTerms 36 = .ok (.iconst 5, 1) := by decide +kernel
theorem dX8_lowestTerms_37 : decode cX8_lowestTerms 37 = .ok (.irem, 1) := by decide +kernel
theorem dX8_lowestTerms_38 : decode cX8_lowestTerms 38 = .ok (.ifCond .ne 13, 3) := by decide +kernel
theorem dX8_lowestTerms_41 : decode cX8_lowestTerms 41 = .ok (.iload_n 3, 1) := by decide +kernel
theorem dX8_lowestTerms_42 : decode cX8_lowestTerms 42 = .ok (.iconst 5, 1) := by decide +kernel
theorem dX8_lowestTerms_43 : decode cX8_lowestTerms 43 = .ok (.idiv, 1) := by decide +kernel
theorem dX8_lowestTerms_44 : decode cX8_lowestTerms 44 = .ok (.istore_n 3, 1) := by decide +kernel
theorem dX8_lowestTerms_45 : decode cX8_lowestTerms 45 = .ok (.iload 4, 2) := by decide +kernel
theorem dX8_lowestTerms_47 : decode cX8_lowestTerms 47 = .ok (.iconst 5, 1) := by decide +kernel
theorem dX8_lowestTerms_48 : decode cX8_lowestTerms 48 = .ok (.idiv, 1) := by decide +kernel
theorem dX8_lowestTerms_49 : decode cX8_lowestTerms 49 = .ok (.istore 4, 2) := by decide +kernel
theorem dX8_lowestTerms_51 : decode cX8_lowestTerms 51 = .ok (.iinc 5 1, 3) := by decide +kernel
theorem dX8_lowestTerms_54 : decode cX8_lowestTerms 54 = .ok (.goto (-41), 3) := by decide +kernel
theorem dX8_lowestTerms_57 : decode cX8_lowestTerms 57 = .ok (.iload_n 2, 1) := by decide +kernel
theorem dX8_lowestTerms_58 : decode cX8_lowestTerms 58 = .ok (.ifCond .ne 7, 3) := by decide +kernel
theorem dX8_lowestTerms_61 : decode cX8_lowestTerms 61 = .ok (.iload_n 3, 1) := by decide +kernel
theorem dX8_lowestTerms_62 : decode cX8_lowestTerms 62 = .ok (.goto 5, 3) := by decide +kernel
theorem dX8_lowestTerms_65 : decode cX8_lowestTerms 65 = .ok (.iload 4, 2) := by decide +kernel
theorem dX8_lowestTerms_67 : decode cX8_lowestTerms 67 = .ok (.ireturn, 1) := by decide +kernel
theorem dX8_power_0 : decode cX8_power 0 = .ok (.iconst 1, 1) := by decide +kernel
theorem dX8_power_1 : decode cX8_power 1 = .ok (.istore_n 2, 1) := by decide +kernel
theorem dX8_power_2 : decode cX8_power 2 = .ok (.iconst 0, 1) := by decide +kernel
theorem dX8_power_3 : decode cX8_power 3 = .ok (.istore_n 3, 1) := by decide +kernel
theorem dX8_power_4 : decode cX8_power 4 = .ok (.iload_n 3, 1) := by decide +kernel
theorem dX8_power_5 : decode cX8_power 5 = .ok (.iload_n 1, 1) := by decide +kernel
theorem dX8_power_6 : decode cX8_power 6 = .ok (.if_icmp .ge 13, 3) := by decide +kernel
theorem dX8_power_9 : decode cX8_power 9 = .ok (.iload_n 2, 1) := by decide +kernel
theorem dX8_power_10 : decode cX8_power 10 = .ok (.iload_n 0, 1) := by decide +kernel
theorem dX8_power_11 : decode cX8_power 11 = .ok (.imul, 1) := by decide +kernel
theorem dX8_power_12 : decode cX8_power 12 = .ok (.istore_n 2, 1) := by decide +kernel
theorem dX8_power_13 : decode cX8_power 13 = .ok (.iinc 3 1, 3) := by decide +kernel
theorem dX8_power_16 : decode cX8_power 16 = .ok (.goto (-12), 3) := by decide +kernel
theorem dX8_power_19 : decode cX8_power 19 = .ok (.iload_n 2, 1) := by decide +kernel
theorem dX8_power_20 : decode cX8_power 20 = .ok (.ireturn, 1) := by decide +kernel
