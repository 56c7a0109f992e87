theorem dX9_init_0 : decode cX9_init 0 = .ok (.aload_n 0, 1) := by decide +kernel
theorem dX9_init_1 : decode cX9_init 1 = .ok (.invokespecial 1, 3) := by decide +kernel
theorem dX9_init_4 : decode cX9_init 4 = .ok (.aload_n 0, 1) := by decide +kernel
theorem dX9_init_5 : decode cX9_init 5 = .ok (.sipush 200, 3) := by decide +kernel
theorem dX9_init_8 : decode cX9_init 8 = .ok (.newarray .int, 2) := by decide +kernel
theorem dX9_init_10 : decode cX9_init 10 = .ok (.putfield 7, 3) := by decide +kernel
theorem dX9_init_13 : decode cX9_init 13 = .ok (.aload_n 0, 1) := by decide +kernel
theorem dX9_init_14 : decode cX9_init 14 = .ok (.bipush 48, 2) := by decide +kernel
theorem dX9_init_16 : decode cX9_init 16 = .ok (.newarray .int, 2) := by decide +kernel
theorem dX9_init_18 : decode cX9_init 18 = .ok (.putfield 13, 3) := by decide +kernel
theorem dX9_init_21 : decode cX9_init 21 = .ok (.aload_n 0, 1) := by decide +kernel
theorem dX9_init_22 : decode cX9_init 22 = .ok (.iconst 4, 1) := by decide +kernel
theorem dX9_init_23 : decode cX9_init 23 = .ok (.newarray .int, 2) := by decide +kernel
theorem dX9_init_25 : decode cX9_init 25 = .ok (.putfield 16, 3) := by decide +kernel
theorem dX9_init_28 : decode cX9_init 28 = .ok (.aload_n 0, 1) := by decide +kernel
theorem dX9_init_29 : decode cX9_init 29 = .ok (.iconst 4, 1) := by decide +kernel
theorem dX9_init_30 : decode cX9_init 30 = .ok (.newarray .int, 2) := by decide +kernel
theorem dX9_init_32 : decode cX9_init 32 = .ok (.putfield 19, 3) := by decide +kernel
theorem dX9_init_35 : decode cX9_init 35 = .ok (.aload_n 0, 1) := by decide +kernel
theorem dX9_init_36 : decode cX9_init 36 = .ok (.iconst 4, 1) := by decide +kernel
theorem dX9_init_37 : decode cX9_init 37 = .ok (.newarray .int, 2) := by decide +kernel
theorem dX9_init_39 : decode cX9_init 39 = .ok (.putfield 22, 3) := by decide +kernel
theorem dX9_init_42 : decode cX9_init 42 = .ok (.aload_n 0, 1) := by decide +kernel
theorem dX9_init_43 : decode cX9_init 43 = .ok (.bipush 32, 2) := by decide +kernel
theorem dX9_init_45 : decode cX9_init 45 = .ok (.newarray .int, 2) := by decide +kernel
theorem dX9_init_47 : decode cX9_init 47 = .ok (.putfield 25, 3) := by decide +kernel
theorem dX9_init_50 : decode cX9_init 50 = .ok (.aload_n 0, 1) := by decide +kernel
theorem dX9_init_51 : decode cX9_init 51 = .ok (.bipush 10, 2) := by decide +kernel
theorem dX9_init_53 : decode cX9_init 53 = .ok (.putfield 28, 3) := by decide +kernel
theorem dX9_init_56 : decode cX9_init 56 = .ok (.aload_n 0, 1) := by decide +kernel
theorem dX9_init_57 : decode cX9_init 57 = .ok (.bipush 20, 2) := by decide +kernel
theorem dX9_init_59 : decode cX9_init 59 = .ok (.putfield 32, 3) := by decide +kernel
theorem dX9_init_62 : decode cX9_init 62 = .ok (.aload_n 0, 1) := by decide +kernel
theorem dX9_init_63 : decode cX9_init 63 = .ok (.iconst 1, 1) := by decide +kernel
theorem dX9_init_64 : decode cX9_init 64 = .ok (.putfield 35, 3) := by decide +kernel
theorem dX9_init_67 : decode cX9_init 67 = .ok (.aload_n 0, 1) := by decide +kernel
theorem dX9_init_68 : decode cX9_init 68 = .ok (.bipush 20, 2) := by decide +kernel
theorem dX9_init_70 : decode cX9_init 70 = .ok (.putfield 38, 3) := by decide +kernel
theorem dX9_init_73 : decode cX9_init 73 = .ok (.aload_n 0, 1) := by decide +kernel
theorem dX9_init_74 : decode cX9_init 74 = .ok (.sipush 200, 3) := by decide +kernel
theorem dX9_init_77 : decode cX9_init 77 = .ok (.putfield 41, 3) := by decide +kernel
theorem dX9_init_80 : decode cX9_init 80 = .ok (.aload_n 0, 1) := by decide +kernel
theorem dX9_init_81 : decode cX9_init 81 = .ok (.bipush 20, 2) := by decide +kernel
theorem dX9_init_83 : decode cX9_init 83 = .ok (.putfield 44, 3) := by decide +kernel
theorem dX9_init_86 : decode cX9_init 86 = .ok (.aload_n 0, 1) := by decide +kernel
theorem dX9_init_87 : decode cX9_init 87 = .ok (.bipush 100, 2) := by decide +kernel
theorem dX9_init_89 : decode cX9_init 89 = .ok (.putfield 47, 3) := by decide +kernel
theorem dX9_init_92 : decode cX9_init 92 = .ok (.aload_n 0, 1) := by decide +kernel
theorem dX9_init_93 : decode cX9_init 93 = .ok (.iconst 4, 1) := by decide +kernel
theorem dX9_init_94 : decode cX9_init 94 = .ok (.newarray .int, 2) := by decide +kernel
theorem dX9_init_96 : decode cX9_init 96 = .ok (.putfield 50, 3) := by decide +kernel
theorem dX9_init_99 : decode cX9_init 99 = .ok (.aload_n 0, 1) := by decide +kernel
theorem dX9_init_100 : decode cX9_init 100 = .ok (.sipush 2010, 3) := by decide +kernel
theorem dX9_init_103 : decode cX9_init 103 = .ok (.newarray .int, 2) := by decide +kernel
theorem dX9_init_105 : decode cX9_init 105 = .ok (.putfield 53, 3) := by decide +kernel
theorem dX9_init_108 : decode cX9_init 108 = .ok (.aload_n 0, 1) := by decide +kernel
theorem dX9_init_109 : decode cX9_init 109 = .ok (.iconst 5, 1) := by decide +kernel
theorem dX9_init_110 : decode cX9_init 110 = .ok (.newarray .int, 2) := by decide +kernel
theorem dX9_init_112 : decode cX9_init 112 = .ok (.putfield 56, 3) := by decide +kernel
theorem dX9_init_115 : decode cX9_init 115 = .ok (.aload_n 0, 1) := by decide +kernel
theorem dX9_init_116 : decode cX9_init 116 = .ok (.iconst 5, 1) := by decide +kernel
theorem dX9_init_117 : decode cX9_init 117 = .ok (.newarray .int, 2) := by decide +kernel
theorem dX9_init_119 : decode cX9_init 119 = .ok (.putfield 59, 3) := by decide +kernel
theorem dX9_init_122 : decode cX9_init 122 = .ok (.aload_n 0, 1) := by decide +kernel
theorem dX9_init_123 : decode cX9_init 123 = .ok (.iconst 5, 1) := by decide +kernel
theorem dX9_init_124 : decode cX9_init 124 = .ok (.newarray .int, 2) := by decide +kernel
theorem dX9_init_126 : decode cX9_init 126 = .ok (.putfield 62, 3) := by decide +kernel
theorem dX9_init_129 : decode cX9_init 129 = .ok (.aload_n 0, 1) := by decide +kernel
theorem dX9_init_130 : decode cX9_init 130 = .ok (.iconst 5, 1) := by decide +kernel
theorem dX9_init_131 : decode cX9_init 131 = .ok (.newarray .int, 2) := by decide +kernel
theorem dX9_init_133 : decode cX9_init 133 = .ok (.putfield 65, 3) := by decide +kernel
theorem dX9_init_136 : decode cX9_init 136 = .ok (.aload_n 0, 1) := by decide +kernel
theorem dX9_init_137 : decode cX9_init 137 = .ok (.iconst 5, 1) := by decide +kernel
theorem dX9_init_138 : decode cX9_init 138 = .ok (.newarray .int, 2) := by decide +kernel
theorem dX9_init_140 : decode cX9_init 140 = .ok (.putfield 68, 3) := by decide +kernel
theorem dX9_init_143 : decode cX9_init 143 = .ok (.aload_n 0, 1) := by decide +kernel
theorem dX9_init_144 : decode cX9_init 144 = .ok (.bipush 25, 2) := by decide +kernel
theorem dX9_init_146 : decode cX9_init 146 = .ok (.newarray .int, 2) := by decide +kernel
theorem dX9_init_148 : decode cX9_init 148 = .ok (.putfield 71, 3) := by decide +kernel
theorem dX9_init_151 : decode cX9_init 151 = .ok (.aload_n 0, 1) := by decide +kernel
theorem dX9_init_152 : decode cX9_init 152 = .ok (.bipush 25, 2) := by decide +kernel
theorem dX9_init_154 : decode cX9_init 154 = .ok (.newarray .int, 2) := by decide +kernel
theorem dX9_init_156 : decode cX9_init 156 = .ok (.putfield 74, 3) := by decide +kernel
theorem dX9_init_159 : decode cX9_init 159 = .ok (.aload_n 0, 1) := by decide +kernel
theorem dX9_init_160 : decode cX9_init 160 = .ok (.bipush 28, 2) := by decide +kernel
theorem dX9_init_162 : decode cX9_init 162 = .ok (.newarray .boolean, 2) := by decide +kernel
theorem dX9_init_164 : decode cX9_init 164 = .ok (.putfield 77, 3) := by decide +kernel
theorem dX9_init_167 : decode cX9_init 167 = .ok (.aload_n 0, 1) := by decide +kernel
theorem dX9_init_168 : decode cX9_init 168 = .ok (.bipush 36, 2) := by decide +kernel
theorem dX9_init_170 : decode cX9_init 170 = .ok (.newarray .int, 2) := by decide +kernel
theorem dX9_init_172 : decode cX9_init 172 = .ok (.putfield 81, 3) := by decide +kernel
theorem dX9_init_175 : decode cX9_init 175 = .ok (.aload_n 0, 1) := by decide +kernel
theorem dX9_init_176 : decode cX9_init 176 = .ok (.bipush 36, 2) := by decide +kernel
theorem dX9_init_178 : decode cX9_init 178 = .ok (.newarray .int, 2) := by decide +kernel
theorem dX9_init_180 : decode cX9_init 180 = .ok (.putfield 84, 3) := by decide +kernel
theorem dX9_init_183 : decode cX9_init 183 = .ok (.aload_n 0, 1) := by decide +kernel
theorem dX9_init_184 : decode cX9_init 184 = .ok (.bipush 36, 2) := by decide +kernel
theorem dX9_init_186 : decode cX9_init 186 = .ok (.newarray .int, 2) := by decide +kernel
theorem dX9_init_188 : decode cX9_init 188 = .ok (.putfield 87, 3) := by decide +kernel
theorem dX9_init_191 : decode cX9_init 191 = .ok (.aload_n 0, 1) := by decide +kernel
theorem dX9_init_192 : decode cX9_init 192 = .ok (.getfield 68, 3) := by decide +kernel
theorem dX9_init_195 : decode cX9_init 195 = .ok (.iconst 2, 1) := by decide +kernel
theorem dX9_init_196 : decode cX9_init 196 = .ok (.iconst (-1), 1) := by decide +kernel
theorem dX9_init_197 : decode cX9_init 197 = .ok (.iastore, 1) := by decide +kernel
theorem dX9_init_198 : decode cX9_init 198 = .ok (.aload_n 0, 1) := by decide +kernel
theorem dX9_init_199 : decode cX9_init 199 = .ok (.getfield 68, 3) := by decide +kernel
theorem dX9_init_202 : decode cX9_init 202 = .ok (.iconst 3, 1) := by decide +kernel
theorem dX9_init_203 : decode cX9_init 203 = .ok (.iconst (-1), 1) := by decide +kernel
theorem dX9_init_204 : decode cX9_init 204 = .ok (.iastore, 1) := by decide +kernel
theorem dX9_init_205 : decode cX9_init 205 = .ok (.aload_n 0, 1) := by decide +kernel
theorem dX9_init_206 : decode cX9_init 206 = .ok (.getfield 68, 3) := by decide +kernel
theorem dX9_init_209 : decode cX9_init 209 = .ok (.iconst 4, 1) := by decide +kernel
theorem dX9_init_210 : decode cX9_init 210 = .ok (.iconst (-1), 1) := by decide +kernel
theorem dX9_init_211 : decode cX9_init 211 = .ok (.iastore, 1) := by decide +kernel
theorem dX9_init_212 : decode cX9_init 212 = .ok (.return_, 1) := by decide +kernel
theorem dX9_in_0 : decode cX9_in 0 = .ok (.lload_n 0, 1) := by decide +kernel
theorem dX9_in_1 : decode cX9_in 1 = .ok (.lload_n 2, 1) := by decide +kernel
theorem dX9_in_2 : decode cX9_in 2 = .ok (.lcmp, 1) := by decide +kernel
theorem dX9_in_3 : decode cX9_in 3 = .ok (.ifCond .lt 14, 3) := by decide +kernel
theorem dX9_in_6 : decode cX9_in 6 = .ok (.lload_n 0, 1) := by decide +kernel
theorem dX9_in_7 : decode cX9_in 7 = .ok (.lload 4, 2) := by decide +kernel
theorem dX9_in_9 : decode cX9_in 9 = .ok (.lcmp, 1) := by decide +kernel
theorem dX9_in_10 : decode cX9_in 10 = .ok (.ifCond .gt 7, 3) := by decide +kernel
theorem dX9_in_13 : decode cX9_in 13 = .ok (.iconst 1, 1) := by decide +kernel
theorem dX9_in_14 : decode cX9_in 14 = .ok (.goto 4, 3) := by decide +kernel
theorem dX9_in_17 : decode cX9_in 17 = .ok (.iconst 0, 1) := by decide +kernel
theorem dX9_in_18 : decode cX9_in 18 = .ok (.ireturn, 1) := by decide +kernel
theorem dX9_write_0 : decode cX9_write 0 = .ok (.iload_n 3, 1) := by decide +kernel
theorem dX9_write_1 : decode cX9_write 1 = .ok (.i2l, 1) := by decide +kernel
theorem dX9_write_2 : decode cX9_write 2 = .ok (.lconst 1, 1) := by decide +kernel
theorem dX9_write_3 : decode cX9_write 3 = .ok (.ldc2_w 90, 3) := by decide +kernel
theorem dX9_write_6 : decode cX9_write 6 = .ok (.invokestatic 92, 3) := by decide +kernel
theorem dX9_write_9 : decode cX9_write 9 = .ok (.ifCond .ne 6, 3) := by decide +kernel
theorem dX9_write_12 : decode cX9_write 12 = .ok (.bipush (-3), 2) := by decide +kernel
theorem dX9_write_14 : decode cX9_write 14 = .ok (.ireturn, 1) := by decide +kernel
theorem dX9_write_15 : decode cX9_write 15 = .ok (.aload_n 0, 1) := by decide +kernel
theorem dX9_write_16 : decode cX9_write 16 = .ok (.getfield 96, 3) := by decide +kernel
theorem dX9_write_19 : decode cX9_write 19 = .ok (.iload_n 3, 1) := by decide +kernel
theorem dX9_write_20 : decode cX9_write 20 = .ok (.iadd, 1) := by decide +kernel
theorem dX9_write_21 : decode cX9_write 21 = .ok (.sipush 200, 3) := by decide +kernel
theorem dX9_write_24 : decode cX9_write 24 = .ok (.if_icmp .le 6, 3) := by decide +kernel
theorem dX9_write_27 : decode cX9_write 27 = .ok (.bipush (-5), 2) := by decide +kernel
theorem dX9_write_29 : decode cX9_write 29 = .ok (.ireturn, 1) := by decide +kernel
theorem dX9_write_30 : decode cX9_write 30 = .ok (.iconst 0, 1) := by decide +kernel
theorem dX9_write_31 : decode cX9_write 31 = .ok (.istore 4, 2) := by decide +kernel
theorem dX9_write_33 : decode cX9_write 33 = .ok (.iload 4, 2) := by decide +kernel
theorem dX9_write_35 : decode cX9_write 35 = .ok (.iload_n 3, 1) := by decide +kernel
theorem dX9_write_36 : decode cX9_write 36 = .ok (.if_icmp .ge 40, 3) := by decide +kernel
theorem dX9_write_39 : decode cX9_write 39 = .ok (.aload_n 0, 1) := by decide +kernel
theorem dX9_write_40 : decode cX9_write 40 = .ok (.getfield 7, 3) := by decide +kernel
theorem dX9_write_43 : decode cX9_write 43 = .ok (.aload_n 0, 1) := by decide +kernel
theorem dX9_write_44 : decode cX9_write 44 = .ok (.getfield 96, 3) := by decide +kernel
theorem dX9_write_47 : decode cX9_write 47 = .ok (.lload_n 1, 1) := by decide +kernel
theorem dX9_write_48 : decode cX9_write 48 = .ok (.bipush 8, 2) := by decide +kernel
theorem dX9_write_50 : decode cX9_write 50 = .ok (.iload 4, 2) := by decide +kernel
theorem dX9_write_52 : decode cX9_write 52 = .ok (.imul, 1) := by decide +kernel
theorem dX9_write_53 : decode cX9_write 53 = .ok (.lshr, 1) := by decide +kernel
theorem dX9_write_54 : decode cX9_write 54 = .ok (.ldc2_w 99, 3) := by decide +kernel
theorem dX9_write_57 : decode cX9_write 57 = .ok (.land, 1) := by decide +kernel
theorem dX9_write_58 : decode cX9_write 58 = .ok (.l2i, 1) := by decide +kernel
theorem dX9_write_59 : decode cX9_write 59 = .ok (.iastore, 1) := by decide +kernel
theorem dX9_write_60 : decode cX9_write 60 = .ok (.aload_n 0, 1) := by decide +kernel
theorem dX9_write_61 : decode cX9_write 61 = .ok (.dup, 1) := by decide +kernel
theorem dX9_write_62 : decode cX9_write 62 = .ok (.getfield 96, 3) := by decide +kernel
theorem dX9_write_65 : decode cX9_write 65 = .ok (.iconst 1, 1) := by decide +kernel
theorem dX9_write_66 : decode cX9_write 66 = .ok (.iadd, 1) := by decide +kernel
theorem dX9_write_67 : decode cX9_write 67 = .ok (.putfield 96, 3) := by decide +kernel
theorem dX9_write_70 : decode cX9_write 70 = .ok (.iinc 4 1, 3) := by decide +kernel
theorem dX9_write_73 : decode cX9_write 73 = .ok (.goto (-40), 3) := by decide +kernel
theorem dX9_write_76 : decode cX9_write 76 = .ok (.aload_n 0, 1) := by decide +kernel
theorem dX9_write_77 : decode cX9_write 77 = .ok (.getfield 96, 3) := by decide +kernel
theorem dX9_write_80 : decode cX9_write 80 = .ok (.ireturn, 1) := by decide +kernel
theorem dX9_erase_0 : decode cX9_erase 0 = .ok (.aload_n 0, 1) := by decide +kernel
theorem dX9_erase_1 : decode cX9_erase 1 = .ok (.getfield 96, 3) := by decide +kernel
theorem dX9_erase_4 : decode cX9_erase 4 = .ok (.istore_n 1, 1) := by decide +kernel
theorem dX9_erase_5 : decode cX9_erase 5 = .ok (.aload_n 0, 1) := by decide +kernel
theorem dX9_erase_6 : decode cX9_erase 6 = .ok (.iconst 0, 1) := by decide +kernel
theorem dX9_erase_7 : decode cX9_erase 7 = .ok (.putfield 96, 3) := by decide +kernel
theorem dX9_erase_10 : decode cX9_erase 10 = .ok (.iload_n 1, 1) := by decide +kernel
theorem dX9_erase_11 : decode cX9_erase 11 = .ok (.ireturn, 1) := by decide +kernel
theorem dX9_sort_0 : decode cX9_sort 0 = .ok (.iload_n 0, 1) := by decide +kernel
theorem dX9_sort_1 : decode cX9_sort 1 = .ok (.bipush 97, 2) := by decide +kernel
theorem dX9_sort_3 : decode cX9_sort 3 = .ok (.if_icmp .lt 13, 3) := by decide +kernel
theorem dX9_sort_6 : decode cX9_sort 6 = .ok (.iload_n 0, 1) := by decide +kernel
theorem dX9_sort_7 : decode cX9_sort 7 = .ok (.bipush 122, 2) := by decide +kernel
theorem dX9_sort_9 : decode cX9_sort 9 = .ok (.if_icmp .gt 7, 3) := by decide +kernel
theorem dX9_sort_12 : decode cX9_sort 12 = .ok (.iconst 1, 1) := by decide +kernel
theorem dX9_sort_13 : decode cX9_sort 13 = .ok (.goto 20, 3) := by decide +kernel
theorem dX9_sort_16 : decode cX9_sort 16 = .ok (.iload_n 0, 1) := by decide +kernel
theorem dX9_sort_17 : decode cX9_sort 17 = .ok (.bipush 48, 2) := by decide +kernel
theorem dX9_sort_19 : decode cX9_sort 19 = .ok (.if_icmp .lt 13, 3) := by decide +kernel
theorem dX9_sort_22 : decode cX9_sort 22 = .ok (.iload_n 0, 1) := by decide +kernel
theorem dX9_sort_23 : decode cX9_sort 23 = .ok (.bipush 57, 2) := by decide +kernel
theorem dX9_sort_25 : decode cX9_sort 25 = .ok (.if_icmp .gt 7, 3) := by decide +kernel
theorem dX9_sort_28 : decode cX9_sort 28 = .ok (.iconst 2, 1) := by decide +kernel
theorem dX9_sort_29 : decode cX9_sort 29 = .ok (.goto 4, 3) := by decide +kernel
theorem dX9_sort_32 : decode cX9_sort 32 = .ok (.iconst 0, 1) := by decide +kernel
theorem dX9_sort_33 : decode cX9_sort 33 = .ok (.ireturn, 1) := by decide +kernel
theorem dX9_token_0 : decode cX9_token 0 = .ok (.aload_n 0, 1) := by decide +kernel
theorem dX9_token_1 : decode cX9_token 1 = .ok (.getfield 101, 3) := by decide +kernel
theorem dX9_token_4 : decode cX9_token 4 = .ok (.aload_n 0, 1) := by decide +kernel
theorem dX9_token_5 : decode cX9_token 5 = .ok (.getfield 96, 3) := by decide +kernel
theorem dX9_token_8 : decode cX9_token 8 = .ok (.if_icmp .ge 30, 3) := by decide +kernel
theorem dX9_token_11 : decode cX9_token 11 = .ok (.aload_n 0, 1) := by decide +kernel
theorem dX9_token_12 : decode cX9_token 12 = .ok (.getfield 7, 3) := by decide +kernel
theorem dX9_token_15 : decode cX9_token 15 = .ok (.aload_n 0, 1) := by decide +kernel
theorem dX9_token_16 : decode cX9_token 16 = .ok (.getfield 101, 3) := by decide +kernel
theorem dX9_token_19 : decode cX9_token 19 = .ok (.iaload, 1) := by decide +kernel
theorem dX9_token_20 : decode cX9_token 20 = .ok (.bipush 32, 2) := by decide +kernel
theorem dX9_token_22 : decode cX9_token 22 = .ok (.if_icmp .ne 16, 3) := by decide +kernel
theorem dX9_token_25 : decode cX9_token 25 = .ok (.aload_n 0, 1) := by decide +kernel
theorem dX9_token_26 : decode cX9_token 26 = .ok (.dup, 1) := by decide +kernel
theorem dX9_token_27 : decode cX9_token 27 = .ok (.getfield 101, 3) := by decide +kernel
theorem dX9_token_30 : decode cX9_token 30 = .ok (.iconst 1, 1) := by decide +kernel
theorem dX9_token_31 : decode cX9_token 31 = .ok (.iadd, 1) := by decide +kernel
theorem dX9_token_32 : decode cX9_token 32 = .ok (.putfield 101, 3) := by decide +kernel
theorem dX9_token_35 : decode cX9_token 35 = .ok (.goto (-35), 3) := by decide +kernel
theorem dX9_token_38 : decode cX9_token 38 = .ok (.aload_n 0, 1) := by decide +kernel
theorem dX9_token_39 : decode cX9_token 39 = .ok (.aload_n 0, 1) := by decide +kernel
theorem dX9_token_40 : decode cX9_token 40 = .ok (.getfield 101, 3) := by decide +kernel
theorem dX9_token_43 : decode cX9_token 43 = .ok (.putfield 104, 3) := by decide +kernel
theorem dX9_token_46 : decode cX9_token 46 = .ok (.aload_n 0, 1) := by decide +kernel
theorem dX9_token_47 : decode cX9_token 47 = .ok (.dup, 1) := by decide +kernel
theorem dX9_token_48 : decode cX9_token 48 = .ok (.getfield 101, 3) := by decide +kernel
theorem dX9_token_51 : decode cX9_token 51 = .ok (.aload_n 0, 1) := by decide +kernel
theorem dX9_token_52 : decode cX9_token 52 = .ok (.getfield 101, 3) := by decide +kernel
theorem dX9_token_55 : decode cX9_token 55 = .ok (.aload_n 0, 1) := by decide +kernel
theorem dX9_token_56 : decode cX9_token 56 = .ok (.getfield 96, 3) := by decide +kernel
theorem dX9_token_59 : decode cX9_token 59 = .ok (.if_icmp .ge 7, 3) := by decide +kernel
theorem dX9_token_62 : decode cX9_token 62 = .ok (.iconst 1, 1) := by decide +kernel
theorem dX9_token_63 : decode cX9_token 63 = .ok (.goto 4, 3) := by decide +kernel
theorem dX9_token_66 : decode cX9_token 66 = .ok (.iconst 0, 1) := by decide +kernel
theorem dX9_token_67 : decode cX9_token 67 = .ok (.iadd, 1) := by decide +kernel
theorem dX9_token_68 : decode cX9_token 68 = .ok (.putfield 101, 3) := by decide +kernel
theorem dX9_token_71 : decode cX9_token 71 = .ok (.aload_n 0, 1) := by decide +kernel
theorem dX9_token_72 : decode cX9_token 72 = .ok (.getfield 101, 3) := by decide +kernel
theorem dX9_token_75 : decode cX9_token 75 = .ok (.aload_n 0, 1) := by decide +kernel
theorem dX9_token_76 : decode cX9_token 76 = .ok (.getfield 96, 3) := by decide +kernel
theorem dX9_token_79 : decode cX9_token 79 = .ok (.if_icmp .ge 58, 3) := by decide +kernel
theorem dX9_token_82 : decode cX9_token 82 = .ok (.aload_n 0, 1) := by decide +kernel
theorem dX9_token_83 : decode cX9_token 83 = .ok (.getfield 7, 3) := by decide +kernel
theorem dX9_token_86 : decode cX9_token 86 = .ok (.aload_n 0, 1) := by decide +kernel
theorem dX9_token_87 : decode cX9_token 87 = .ok (.getfield 104, 3) := by decide +kernel
theorem dX9_token_90 : decode cX9_token 90 = .ok (.iaload, 1) := by decide +kernel
theorem dX9_token_91 : decode cX9_token 91 = .ok (.invokestatic 107, 3) := by decide +kernel
theorem dX9_token_94 : decode cX9_token 94 = .ok (.ifCond .le 43, 3) := by decide +kernel
theorem dX9_token_97 : decode cX9_token 97 = .ok (.aload_n 0, 1) := by decide +kernel
theorem dX9_token_98 : decode cX9_token 98 = .ok (.getfield 7, 3) := by decide +kernel
theorem dX9_token_101 : decode cX9_token 101 = .ok (.aload_n 0, 1) := by decide +kernel
theorem dX9_token_102 : decode cX9_token 102 = .ok (.getfield 101, 3) := by decide +kernel
theorem dX9_token_105 : decode cX9_token 105 = .ok (.iaload, 1) := by decide +kernel
theorem dX9_token_106 : decode cX9_token 106 = .ok (.invokestatic 107, 3) := by decide +kernel
theorem dX9_token_109 : decode cX9_token 109 = .ok (.aload_n 0, 1) := by decide +kernel
theorem dX9_token_110 : decode cX9_token 110 = .ok (.getfield 7, 3) := by decide +kernel
theorem dX9_token_113 : decode cX9_token 113 = .ok (.aload_n 0, 1) := by decide +kernel
theorem dX9_token_114 : decode cX9_token 114 = .ok (.getfield 104, 3) := by decide +kernel
theorem dX9_token_117 : decode cX9_token 117 = .ok (.iaload, 1) := by decide +kernel
theorem dX9_token_118 : decode cX9_token 118 = .ok (.invokestatic 107, 3) := by decide +kernel
theorem dX9_token_121 : decode cX9_token 121 = .ok (.if_icmp .ne 16, 3) := by decide +kernel
theorem dX9_token_124 : decode cX9_token 124 = .ok (.aload_n 0, 1) := by decide +kernel
theorem dX9_token_125 : decode cX9_token 125 = .ok (.dup, 1) := by decide +kernel
theorem dX9_token_126 : decode cX9_token 126 = .ok (.getfield 101, 3) := by decide +kernel
theorem dX9_token_129 : decode cX9_token 129 = .ok (.iconst 1, 1) := by decide +kernel
theorem dX9_token_130 : decode cX9_token 130 = .ok (.iadd, 1) := by decide +kernel
theorem dX9_token_131 : decode cX9_token 131 = .ok (.putfield 101, 3) := by decide +kernel
theorem dX9_token_134 : decode cX9_token 134 = .ok (.goto (-63), 3) := by decide +kernel
theorem dX9_token_137 : decode cX9_token 137 = .ok (.aload_n 0, 1) := by decide +kernel
theorem dX9_token_138 : decode cX9_token 138 = .ok (.aload_n 0, 1) := by decide +kernel
theorem dX9_token_139 : decode cX9_token 139 = .ok (.getfield 101, 3) := by decide +kernel
theorem dX9_token_142 : decode cX9_token 142 = .ok (.putfield 111, 3) := by decide +kernel
theorem dX9_token_145 : decode cX9_token 145 = .ok (.return_, 1) := by decide +kernel
theorem dX9_isWord_0 : decode cX9_isWord 0 = .ok (.aload_n 0, 1) := by decide +kernel
theorem dX9_isWord_1 : decode cX9_isWord 1 = .ok (.getfield 111, 3) := by decide +kernel
theorem dX9_isWord_4 : decode cX9_isWord 4 = .ok (.aload_n 0, 1) := by decide +kernel
theorem dX9_isWord_5 : decode cX9_isWord 5 = .ok (.getfield 104, 3) := by decide +kernel
theorem dX9_isWord_8 : decode cX9_isWord 8 = .ok (.isub, 1) := by decide +kernel
theorem dX9_isWord_9 : decode cX9_isWord 9 = .ok (.iload_n 3, 1) := by decide +kernel
theorem dX9_isWord_10 : decode cX9_isWord 10 = .ok (.if_icmp .ne 7, 3) := by decide +kernel
theorem dX9_isWord_13 : decode cX9_isWord 13 = .ok (.iconst 1, 1) := by decide +kernel
theorem dX9_isWord_14 : decode cX9_isWord 14 = .ok (.goto 4, 3) := by decide +kernel
theorem dX9_isWord_17 : decode cX9_isWord 17 = .ok (.iconst 0, 1) := by decide +kernel
theorem dX9_isWord_18 : decode cX9_isWord 18 = .ok (.istore 4, 2) := by decide +kernel
theorem dX9_isWord_20 : decode cX9_isWord 20 = .ok (.iconst 0, 1) := by decide +kernel
theorem dX9_isWord_21 : decode cX9_isWord 21 = .ok (.istore 5, 2) := by decide +kernel
theorem dX9_isWord_23 : decode cX9_isWord 23 = .ok (.iload 4, 2) := by decide +kernel
theorem dX9_isWord_25 : decode cX9_isWord 25 = .ok (.ifCond .eq 51, 3) := by decide +kernel
theorem dX9_isWord_28 : decode cX9_isWord 28 = .ok (.iload 5, 2) := by decide +kernel
theorem dX9_isWord_30 : decode cX9_isWord 30 = .ok (.iload_n 3, 1) := by decide +kernel
theorem dX9_isWord_31 : decode cX9_isWord 31 = .ok (.if_icmp .ge 45, 3) := by decide +kernel
theorem dX9_isWord_34 : decode cX9_isWord 34 = .ok (.aload_n 0, 1) := by decide +kernel
theorem dX9_isWord_35 : decode cX9_isWord 35 = .ok (.getfield 7, 3) := by decide +kernel
theorem dX9_isWord_38 : decode cX9_isWord 38 = .ok (.aload_n 0, 1) := by decide +kernel
theorem dX9_isWord_39 : decode cX9_isWord 39 = .ok (.getfield 104, 3) := by decide +kernel
theorem dX9_isWord_42 : decode cX9_isWord 42 = .ok (.iload 5, 2) := by decide +kernel
theorem dX9_isWord_44 : decode cX9_isWord 44 = .ok (.iadd, 1) := by decide +kernel
theorem dX9_isWord_45 : decode cX9_isWord 45 = .ok (.iaload, 1) := by decide +kernel
theorem dX9_isWord_46 : decode cX9_isWord 46 = .ok (.bipush 96, 2) := by decide +kernel
theorem dX9_isWord_48 : decode cX9_isWord 48 = .ok (.lload_n 1, 1) := by decide +kernel
theorem dX9_isWord_49 : decode cX9_isWord 49 = .ok (.iconst 5, 1) := by decide +kernel
theorem dX9_isWord_50 : decode cX9_isWord 50 = .ok (.iload 5, 2) := by decide +kernel
theorem dX9_isWord_52 : decode cX9_isWord 52 = .ok (.imul, 1) := by decide +kernel
theorem dX9_isWord_53 : decode cX9_isWord 53 = .ok (.lshr, 1) := by decide +kernel
theorem dX9_isWord_54 : decode cX9_isWord 54 = .ok (.ldc2_w 114, 3) := by decide +kernel
theorem dX9_isWord_57 : decode cX9_isWord 57 = .ok (.land, 1) := by decide +kernel
theorem dX9_isWord_58 : decode cX9_isWord 58 = .ok (.l2i, 1) := by decide +kernel
theorem dX9_isWord_59 : decode cX9_isWord 59 = .ok (.iadd, 1) := by decide +kernel
theorem dX9_isWord_60 : decode cX9_isWord 60 = .ok (.if_icmp .ne 7, 3) := by decide +kernel
theorem dX9_isWord_63 : decode cX9_isWord 63 = .ok (.iconst 1, 1) := by decide +kernel
theorem dX9_isWord_64 : decode cX9_isWord 64 = .ok (.goto 4, 3) := by decide +kernel
theorem dX9_isWord_67 : decode cX9_isWord 67 = .ok (.iconst 0, 1) := by decide +kernel
theorem dX9_isWord_68 : decode cX9_isWord 68 = .ok (.istore 4, 2) := by decide +kernel
theorem dX9_isWord_70 : decode cX9_isWord 70 = .ok (.iinc 5 1, 3) := by decide +kernel
theorem dX9_isWord_73 : decode cX9_isWord 73 = .ok (.goto (-50), 3) := by decide +kernel
theorem dX9_isWord_76 : decode cX9_isWord 76 = .ok (.iload 4, 2) := by decide +kernel
theorem dX9_isWord_78 : decode cX9_isWord 78 = .ok (.ireturn, 1) := by decide +kernel
theorem dX9_wordOf_0 : decode cX9_wordOf 0 = .ok (.aload_n 0, 1) := by decide +kernel
theorem dX9_wordOf_1 : decode cX9_wordOf 1 = .ok (.ldc2_w 116, 3) := by decide +kernel
theorem dX9_wordOf_4 : decode cX9_wordOf 4 = .ok (.iconst 5, 1) := by decide +kernel
theorem dX9_wordOf_5 : decode cX9_wordOf 5 = .ok (.invokevirtual 118, 3) := by decide +kernel
theorem dX9_wordOf_8 : decode cX9_wordOf 8 = .ok (.ifCond .eq 7, 3) := by decide +kernel
theorem dX9_wordOf_11 : decode cX9_wordOf 11 = .ok (.iconst 0, 1) := by decide +kernel
theorem dX9_wordOf_12 : decode cX9_wordOf 12 = .ok (.goto 127, 3) := by decide +kernel
theorem dX9_wordOf_15 : decode cX9_wordOf 15 = .ok (.aload_n 0, 1) := by decide +kernel
theorem dX9_wordOf_16 : decode cX9_wordOf 16 = .ok (.ldc2_w 122, 3) := by decide +kernel
theorem dX9_wordOf_19 : decode cX9_wordOf 19 = .ok (.iconst 4, 1) := by decide +kernel
theorem dX9_wordOf_20 : decode cX9_wordOf 20 = .ok (.invokevirtual 118, 3) := by decide +kernel
theorem dX9_wordOf_23 : decode cX9_wordOf 23 = .ok (.ifCond .eq 7, 3) := by decide +kernel
theorem dX9_wordOf_26 : decode cX9_wordOf 26 = .ok (.iconst 1, 1) := by decide +kernel
theorem dX9_wordOf_27 : decode cX9_wordOf 27 = .ok (.goto 112, 3) := by decide +kernel
theorem dX9_wordOf_30 : decode cX9_wordOf 30 = .ok (.aload_n 0, 1) := by decide +kernel
theorem dX9_wordOf_31 : decode cX9_wordOf 31 = .ok (.ldc2_w 124, 3) := by decide +kernel
theorem dX9_wordOf_34 : decode cX9_wordOf 34 = .ok (.iconst 4, 1) := by decide +kernel
theorem dX9_wordOf_35 : decode cX9_wordOf 35 = .ok (.invokevirtual 118, 3) := by decide +kernel
theorem dX9_wordOf_38 : decode cX9_wordOf 38 = .ok (.ifCond .eq 7, 3) := by decide +kernel
theorem dX9_wordOf_41 : decode cX9_wordOf 41 = .ok (.iconst 2, 1) := by decide +kernel
theorem dX9_wordOf_42 : decode cX9_wordOf 42 = .ok (.goto 97, 3) := by decide +kernel
theorem dX9_wordOf_45 : decode cX9_wordOf 45 = .ok (.aload_n 0, 1) := by decide +kernel
theorem dX9_wordOf_46 : decode cX9_wordOf 46 = .ok (.ldc2_w 126, 3) := by decide +kernel
theorem dX9_wordOf_49 : decode cX9_wordOf 49 = .ok (.iconst 3, 1) := by decide +kernel
theorem dX9_wordOf_50 : decode cX9_wordOf 50 = .ok (.invokevirtual 118, 3) := by decide +kernel
theorem dX9_wordOf_53 : decode cX9_wordOf 53 = .ok (.ifCond .eq 7, 3) := by decide +kernel
theorem dX9_wordOf_56 : decode cX9_wordOf 56 = .ok (.iconst 3, 1) := by decide +kernel
theorem dX9_wordOf_57 : decode cX9_wordOf 57 = .ok (.goto 82, 3) := by decide +kernel
theorem dX9_wordOf_60 : decode cX9_wordOf 60 = .ok (.aload_n 0, 1) := by decide +kernel
theorem dX9_wordOf_61 : decode cX9_wordOf 61 = .ok (.ldc2_w 128, 3) := by decide +kernel
theorem dX9_wordOf_64 : decode cX9_wordOf 64 = .ok (.iconst 5, 1) := by decide +kernel
theorem dX9_wordOf_65 : decode cX9_wordOf 65 = .ok (.invokevirtual 118, 3) := by decide +kernel
theorem dX9_wordOf_68 : decode cX9_wordOf 68 = .ok (.ifCond .eq 7, 3) := by decide +kernel
theorem dX9_wordOf_71 : decode cX9_wordOf 71 = .ok (.iconst 4, 1) := by decide +kernel
theorem dX9_wordOf_72 : decode cX9_wordOf 72 = .ok (.goto 67, 3) := by decide +kernel
theorem dX9_wordOf_75 : decode cX9_wordOf 75 = .ok (.aload_n 0, 1) := by decide +kernel
theorem dX9_wordOf_76 : decode cX9_wordOf 76 = .ok (.ldc2_w 130, 3) := by decide +kernel
theorem dX9_wordOf_79 : decode cX9_wordOf 79 = .ok (.iconst 4, 1) := by decide +kernel
theorem dX9_wordOf_80 : decode cX9_wordOf 80 = .ok (.invokevirtual 118, 3) := by decide +kernel
theorem dX9_wordOf_83 : decode cX9_wordOf 83 = .ok (.ifCond .eq 7, 3) := by decide +kernel
theorem dX9_wordOf_86 : decode cX9_wordOf 86 = .ok (.iconst 5, 1) := by decide +kernel
theorem dX9_wordOf_87 : decode cX9_wordOf 87 = .ok (.goto 52, 3) := by decide +kernel
theorem dX9_wordOf_90 : decode cX9_wordOf 90 = .ok (.aload_n 0, 1) := by decide +kernel
theorem dX9_wordOf_91 : decode cX9_wordOf 91 = .ok (.ldc2_w 132, 3) := by decide +kernel
theorem dX9_wordOf_94 : decode cX9_wordOf 94 = .ok (.iconst 5, 1) := by decide +kernel
theorem dX9_wordOf_95 : decode cX9_wordOf 95 = .ok (.invokevirtual 118, 3) := by decide +kernel
theorem dX9_wordOf_98 : decode cX9_wordOf 98 = .ok (.ifCond .eq 8, 3) := by decide +kernel
theorem dX9_wordOf_101 : decode cX9_wordOf 101 = .ok (.bipush 6, 2) := by decide +kernel
theorem dX9_wordOf_103 : decode cX9_wordOf 103 = .ok (.goto 36, 3) := by decide +kernel
theorem dX9_wordOf_106 : decode cX9_wordOf 106 = .ok (.aload_n 0, 1) := by decide +kernel
theorem dX9_wordOf_107 : decode cX9_wordOf 107 = .ok (.ldc2_w 134, 3) := by decide +kernel
theorem dX9_wordOf_110 : decode cX9_wordOf 110 = .ok (.iconst 4, 1) := by decide +kernel
theorem dX9_wordOf_111 : decode cX9_wordOf 111 = .ok (.invokevirtual 118, 3) := by decide +kernel
theorem dX9_wordOf_114 : decode cX9_wordOf 114 = .ok (.ifCond .eq 8, 3) := by decide +kernel
theorem dX9_wordOf_117 : decode cX9_wordOf 117 = .ok (.bipush 7, 2) := by decide +kernel
theorem dX9_wordOf_119 : decode cX9_wordOf 119 = .ok (.goto 20, 3) := by decide +kernel
theorem dX9_wordOf_122 : decode cX9_wordOf 122 = .ok (.aload_n 0, 1) := by decide +kernel
theorem dX9_wordOf_123 : decode cX9_wordOf 123 = .ok (.ldc2_w 136, 3) := by decide +kernel
theorem dX9_wordOf_126 : decode cX9_wordOf 126 = .ok (.iconst 5, 1) := by decide +kernel
theorem dX9_wordOf_127 : decode cX9_wordOf 127 = .ok (.invokevirtual 118, 3) := by decide +kernel
theorem dX9_wordOf_130 : decode cX9_wordOf 130 = .ok (.ifCond .eq 8, 3) := by decide +kernel
theorem dX9_wordOf_133 : decode cX9_wordOf 133 = .ok (.bipush 8, 2) := by decide +kernel
theorem dX9_wordOf_135 : decode cX9_wordOf 135 = .ok (.goto 4, 3) := by decide +kernel
theorem dX9_wordOf_138 : decode cX9_wordOf 138 = .ok (.iconst (-1), 1) := by decide +kernel
theorem dX9_wordOf_139 : decode cX9_wordOf 139 = .ok (.ireturn, 1) := by decide +kernel
theorem dX9_reads_0 : decode cX9_reads 0 = .ok (.aload_n 0, 1) := by decide +kernel
theorem dX9_reads_1 : decode cX9_reads 1 = .ok (.getfield 104, 3) := by decide +kernel
theorem dX9_reads_4 : decode cX9_reads 4 = .ok (.aload_n 0, 1) := by decide +kernel
theorem dX9_reads_5 : decode cX9_reads 5 = .ok (.getfield 96, 3) := by decide +kernel
theorem dX9_reads_8 : decode cX9_reads 8 = .ok (.if_icmp .eq 32, 3) := by decide +kernel
theorem dX9_reads_11 : decode cX9_reads 11 = .ok (.aload_n 0, 1) := by decide +kernel
theorem dX9_reads_12 : decode cX9_reads 12 = .ok (.getfield 7, 3) := by decide +kernel
theorem dX9_reads_15 : decode cX9_reads 15 = .ok (.aload_n 0, 1) := by decide +kernel
theorem dX9_reads_16 : decode cX9_reads 16 = .ok (.getfield 104, 3) := by decide +kernel
theorem dX9_reads_19 : decode cX9_reads 19 = .ok (.iaload, 1) := by decide +kernel
theorem dX9_reads_20 : decode cX9_reads 20 = .ok (.invokestatic 107, 3) := by decide +kernel
theorem dX9_reads_23 : decode cX9_reads 23 = .ok (.iconst 2, 1) := by decide +kernel
theorem dX9_reads_24 : decode cX9_reads 24 = .ok (.if_icmp .ne 16, 3) := by decide +kernel
theorem dX9_reads_27 : decode cX9_reads 27 = .ok (.aload_n 0, 1) := by decide +kernel
theorem dX9_reads_28 : decode cX9_reads 28 = .ok (.getfield 111, 3) := by decide +kernel
theorem dX9_reads_31 : decode cX9_reads 31 = .ok (.aload_n 0, 1) := by decide +kernel
theorem dX9_reads_32 : decode cX9_reads 32 = .ok (.getfield 104, 3) := by decide +kernel
theorem dX9_reads_35 : decode cX9_reads 35 = .ok (.isub, 1) := by decide +kernel
theorem dX9_reads_36 : decode cX9_reads 36 = .ok (.iconst 3, 1) := by decide +kernel
theorem dX9_reads_37 : decode cX9_reads 37 = .ok (.if_icmp .le 5, 3) := by decide +kernel
theorem dX9_reads_40 : decode cX9_reads 40 = .ok (.iconst 0, 1) := by decide +kernel
theorem dX9_reads_41 : decode cX9_reads 41 = .ok (.ireturn, 1) := by decide +kernel
theorem dX9_reads_42 : decode cX9_reads 42 = .ok (.iconst 0, 1) := by decide +kernel
theorem dX9_reads_43 : decode cX9_reads 43 = .ok (.istore 4, 2) := by decide +kernel
theorem dX9_reads_45 : decode cX9_reads 45 = .ok (.aload_n 0, 1) := by decide +kernel
theorem dX9_reads_46 : decode cX9_reads 46 = .ok (.getfield 104, 3) := by decide +kernel
theorem dX9_reads_49 : decode cX9_reads 49 = .ok (.istore 5, 2) := by decide +kernel
theorem dX9_reads_51 : decode cX9_reads 51 = .ok (.iload 5, 2) := by decide +kernel
theorem dX9_reads_53 : decode cX9_reads 53 = .ok (.aload_n 0, 1) := by decide +kernel
theorem dX9_reads_54 : decode cX9_reads 54 = .ok (.getfield 111, 3) := by decide +kernel
theorem dX9_reads_57 : decode cX9_reads 57 = .ok (.if_icmp .ge 27, 3) := by decide +kernel
theorem dX9_reads_60 : decode cX9_reads 60 = .ok (.bipush 10, 2) := by decide +kernel
theorem dX9_reads_62 : decode cX9_reads 62 = .ok (.iload 4, 2) := by decide +kernel
theorem dX9_reads_64 : decode cX9_reads 64 = .ok (.imul, 1) := by decide +kernel
theorem dX9_reads_65 : decode cX9_reads 65 = .ok (.aload_n 0, 1) := by decide +kernel
theorem dX9_reads_66 : decode cX9_reads 66 = .ok (.getfield 7, 3) := by decide +kernel
theorem dX9_reads_69 : decode cX9_reads 69 = .ok (.iload 5, 2) := by decide +kernel
theorem dX9_reads_71 : decode cX9_reads 71 = .ok (.iaload, 1) := by decide +kernel
theorem dX9_reads_72 : decode cX9_reads 72 = .ok (.iadd, 1) := by decide +kernel
theorem dX9_reads_73 : decode cX9_reads 73 = .ok (.bipush 48, 2) := by decide +kernel
theorem dX9_reads_75 : decode cX9_reads 75 = .ok (.isub, 1) := by decide +kernel
theorem dX9_reads_76 : decode cX9_reads 76 = .ok (.istore 4, 2) := by decide +kernel
theorem dX9_reads_78 : decode cX9_reads 78 = .ok (.iinc 5 1, 3) := by decide +kernel
theorem dX9_reads_81 : decode cX9_reads 81 = .ok (.goto (-30), 3) := by decide +kernel
theorem dX9_reads_84 : decode cX9_reads 84 = .ok (.iload 4, 2) := by decide +kernel
theorem dX9_reads_86 : decode cX9_reads 86 = .ok (.i2l, 1) := by decide +kernel
theorem dX9_reads_87 : decode cX9_reads 87 = .ok (.iload_n 2, 1) := by decide +kernel
theorem dX9_reads_88 : decode cX9_reads 88 = .ok (.i2l, 1) := by decide +kernel
theorem dX9_reads_89 : decode cX9_reads 89 = .ok (.iload_n 3, 1) := by decide +kernel
theorem dX9_reads_90 : decode cX9_reads 90 = .ok (.i2l, 1) := by decide +kernel
theorem dX9_reads_91 : decode cX9_reads 91 = .ok (.invokestatic 92, 3) := by decide +kernel
theorem dX9_reads_94 : decode cX9_reads 94 = .ok (.ifCond .ne 5, 3) := by decide +kernel
theorem dX9_reads_97 : decode cX9_reads 97 = .ok (.iconst 0, 1) := by decide +kernel
theorem dX9_reads_98 : decode cX9_reads 98 = .ok (.ireturn, 1) := by decide +kernel
theorem dX9_reads_99 : decode cX9_reads 99 = .ok (.aload_n 0, 1) := by decide +kernel
theorem dX9_reads_100 : decode cX9_reads 100 = .ok (.getfield 13, 3) := by decide +kernel
theorem dX9_reads_103 : decode cX9_reads 103 = .ok (.bipush 6, 2) := by decide +kernel
theorem dX9_reads_105 : decode cX9_reads 105 = .ok (.aload_n 0, 1) := by decide +kernel
theorem dX9_reads_106 : decode cX9_reads 106 = .ok (.getfield 138, 3) := by decide +kernel
theorem dX9_reads_109 : decode cX9_reads 109 = .ok (.imul, 1) := by decide +kernel
theorem dX9_reads_110 : decode cX9_reads 110 = .ok (.iconst 1, 1) := by decide +kernel
theorem dX9_reads_111 : decode cX9_reads 111 = .ok (.iadd, 1) := by decide +kernel
theorem dX9_reads_112 : decode cX9_reads 112 = .ok (.iload_n 1, 1) := by decide +kernel
theorem dX9_reads_113 : decode cX9_reads 113 = .ok (.iadd, 1) := by decide +kernel
theorem dX9_reads_114 : decode cX9_reads 114 = .ok (.iload 4, 2) := by decide +kernel
theorem dX9_reads_116 : decode cX9_reads 116 = .ok (.iastore, 1) := by decide +kernel
theorem dX9_reads_117 : decode cX9_reads 117 = .ok (.aload_n 0, 1) := by decide +kernel
theorem dX9_reads_118 : decode cX9_reads 118 = .ok (.invokevirtual 141, 3) := by decide +kernel
theorem dX9_reads_121 : decode cX9_reads 121 = .ok (.iconst 1, 1) := by decide +kernel
theorem dX9_reads_122 : decode cX9_reads 122 = .ok (.ireturn, 1) := by decide +kernel
theorem dX9_readsKind_0 : decode cX9_readsKind 0 = .ok (.aload_n 0, 1) := by decide +kernel
theorem dX9_readsKind_1 : decode cX9_readsKind 1 = .ok (.ldc2_w 144, 3) := by decide +kernel
theorem dX9_readsKind_4 : decode cX9_readsKind 4 = .ok (.iconst 5, 1) := by decide +kernel
theorem dX9_readsKind_5 : decode cX9_readsKind 5 = .ok (.invokevirtual 118, 3) := by decide +kernel
theorem dX9_readsKind_8 : decode cX9_readsKind 8 = .ok (.ifCond .eq 7, 3) := by decide +kernel
theorem dX9_readsKind_11 : decode cX9_readsKind 11 = .ok (.iconst 0, 1) := by decide +kernel
theorem dX9_readsKind_12 : decode cX9_readsKind 12 = .ok (.goto 51, 3) := by decide +kernel
theorem dX9_readsKind_15 : decode cX9_readsKind 15 = .ok (.aload_n 0, 1) := by decide +kernel
theorem dX9_readsKind_16 : decode cX9_readsKind 16 = .ok (.ldc2_w 146, 3) := by decide +kernel
theorem dX9_readsKind_19 : decode cX9_readsKind 19 = .ok (.bipush 7, 2) := by decide +kernel
theorem dX9_readsKind_21 : decode cX9_readsKind 21 = .ok (.invokevirtual 118, 3) := by decide +kernel
theorem dX9_readsKind_24 : decode cX9_readsKind 24 = .ok (.ifCond .eq 7, 3) := by decide +kernel
theorem dX9_readsKind_27 : decode cX9_readsKind 27 = .ok (.iconst 1, 1) := by decide +kernel
theorem dX9_readsKind_28 : decode cX9_readsKind 28 = .ok (.goto 35, 3) := by decide +kernel
theorem dX9_readsKind_31 : decode cX9_readsKind 31 = .ok (.aload_n 0, 1) := by decide +kernel
theorem dX9_readsKind_32 : decode cX9_readsKind 32 = .ok (.ldc2_w 148, 3) := by decide +kernel
theorem dX9_readsKind_35 : decode cX9_readsKind 35 = .ok (.iconst 3, 1) := by decide +kernel
theorem dX9_readsKind_36 : decode cX9_readsKind 36 = .ok (.invokevirtual 118, 3) := by decide +kernel
theorem dX9_readsKind_39 : decode cX9_readsKind 39 = .ok (.ifCond .eq 7, 3) := by decide +kernel
theorem dX9_readsKind_42 : decode cX9_readsKind 42 = .ok (.iconst 2, 1) := by decide +kernel
theorem dX9_readsKind_43 : decode cX9_readsKind 43 = .ok (.goto 20, 3) := by decide +kernel
theorem dX9_readsKind_46 : decode cX9_readsKind 46 = .ok (.aload_n 0, 1) := by decide +kernel
theorem dX9_readsKind_47 : decode cX9_readsKind 47 = .ok (.ldc2_w 150, 3) := by decide +kernel
theorem dX9_readsKind_50 : decode cX9_readsKind 50 = .ok (.bipush 7, 2) := by decide +kernel
theorem dX9_readsKind_52 : decode cX9_readsKind 52 = .ok (.invokevirtual 118, 3) := by decide +kernel
theorem dX9_readsKind_55 : decode cX9_readsKind 55 = .ok (.ifCond .eq 7, 3) := by decide +kernel
theorem dX9_readsKind_58 : decode cX9_readsKind 58 = .ok (.iconst 3, 1) := by decide +kernel
theorem dX9_readsKind_59 : decode cX9_readsKind 59 = .ok (.goto 4, 3) := by decide +kernel
theorem dX9_readsKind_62 : decode cX9_readsKind 62 = .ok (.iconst (-1), 1) := by decide +kernel
theorem dX9_readsKind_63 : decode cX9_readsKind 63 = .ok (.istore_n 1, 1) := by decide +kernel
theorem dX9_readsKind_64 : decode cX9_readsKind 64 = .ok (.iload_n 1, 1) := by decide +kernel
theorem dX9_readsKind_65 : decode cX9_readsKind 65 = .ok (.iconst (-1), 1) := by decide +kernel
theorem dX9_readsKind_66 : decode cX9_readsKind 66 = .ok (.if_icmp .ne 5, 3) := by decide +kernel
theorem dX9_readsKind_69 : decode cX9_readsKind 69 = .ok (.iconst 0, 1) := by decide +kernel
theorem dX9_readsKind_70 : decode cX9_readsKind 70 = .ok (.ireturn, 1) := by decide +kernel
theorem dX9_readsKind_71 : decode cX9_readsKind 71 = .ok (.aload_n 0, 1) := by decide +kernel
theorem dX9_readsKind_72 : decode cX9_readsKind 72 = .ok (.invokevirtual 141, 3) := by decide +kernel
theorem dX9_readsKind_75 : decode cX9_readsKind 75 = .ok (.aload_n 0, 1) := by decide +kernel
theorem dX9_readsKind_76 : decode cX9_readsKind 76 = .ok (.getfield 13, 3) := by decide +kernel
theorem dX9_readsKind_79 : decode cX9_readsKind 79 = .ok (.bipush 6, 2) := by decide +kernel
theorem dX9_readsKind_81 : decode cX9_readsKind 81 = .ok (.aload_n 0, 1) := by decide +kernel
theorem dX9_readsKind_82 : decode cX9_readsKind 82 = .ok (.getfield 138, 3) := by decide +kernel
theorem dX9_readsKind_85 : decode cX9_readsKind 85 = .ok (.imul, 1) := by decide +kernel
theorem dX9_readsKind_86 : decode cX9_readsKind 86 = .ok (.iconst 2, 1) := by decide +kernel
theorem dX9_readsKind_87 : decode cX9_readsKind 87 = .ok (.iadd, 1) := by decide +kernel
theorem dX9_readsKind_88 : decode cX9_readsKind 88 = .ok (.iload_n 1, 1) := by decide +kernel
theorem dX9_readsKind_89 : decode cX9_readsKind 89 = .ok (.iastore, 1) := by decide +kernel
theorem dX9_readsKind_90 : decode cX9_readsKind 90 = .ok (.aload_n 0, 1) := by decide +kernel
theorem dX9_readsKind_91 : decode cX9_readsKind 91 = .ok (.getfield 13, 3) := by decide +kernel
theorem dX9_readsKind_94 : decode cX9_readsKind 94 = .ok (.bipush 6, 2) := by decide +kernel
theorem dX9_readsKind_96 : decode cX9_readsKind 96 = .ok (.aload_n 0, 1) := by decide +kernel
theorem dX9_readsKind_97 : decode cX9_readsKind 97 = .ok (.getfield 138, 3) := by decide +kernel
theorem dX9_readsKind_100 : decode cX9_readsKind 100 = .ok (.imul, 1) := by decide +kernel
theorem dX9_readsKind_101 : decode cX9_readsKind 101 = .ok (.iconst 3, 1) := by decide +kernel
theorem dX9_readsKind_102 : decode cX9_readsKind 102 = .ok (.iadd, 1) := by decide +kernel
theorem dX9_readsKind_103 : decode cX9_readsKind 103 = .ok (.iconst 0, 1) := by decide +kernel
theorem dX9_readsKind_104 : decode cX9_readsKind 104 = .ok (.iastore, 1) := by decide +kernel
theorem dX9_readsKind_105 : decode cX9_readsKind 105 = .ok (.iload_n 1, 1) := by decide +kernel
theorem dX9_readsKind_106 : decode cX9_readsKind 106 = .ok (.ifCond .eq 14, 3) := by decide +kernel
theorem dX9_readsKind_109 : decode cX9_readsKind 109 = .ok (.aload_n 0, 1) := by decide +kernel
theorem dX9_readsKind_110 : decode cX9_readsKind 110 = .ok (.iconst 2, 1) := by decide +kernel
theorem dX9_readsKind_111 : decode cX9_readsKind 111 = .ok (.iconst 1, 1) := by decide +kernel
theorem dX9_readsKind_112 : decode cX9_readsKind 112 = .ok (.bipush 9, 2) := by decide +kernel
theorem dX9_readsKind_114 : decode cX9_readsKind 114 = .ok (.invokevirtual 152, 3) := by decide +kernel
theorem dX9_readsKind_117 : decode cX9_readsKind 117 = .ok (.ifCond .eq 7, 3) := by decide +kernel
theorem dX9_readsKind_120 : decode cX9_readsKind 120 = .ok (.iconst 1, 1) := by decide +kernel
theorem dX9_readsKind_121 : decode cX9_readsKind 121 = .ok (.goto 4, 3) := by decide +kernel
theorem dX9_readsKind_124 : decode cX9_readsKind 124 = .ok (.iconst 0, 1) := by decide +kernel
theorem dX9_readsKind_125 : decode cX9_readsKind 125 = .ok (.ireturn, 1) := by decide +kernel
theorem dX9_readsLump_0 : decode cX9_readsLump 0 = .ok (.aload_n 0, 1) := by decide +kernel
theorem dX9_readsLump_1 : decode cX9_readsLump 1 = .ok (.getfield 104, 3) := by decide +kernel
theorem dX9_readsLump_4 : decode cX9_readsLump 4 = .ok (.istore_n 1, 1) := by decide +kernel
theorem dX9_readsLump_5 : decode cX9_readsLump 5 = .ok (.aload_n 0, 1) := by decide +kernel
theorem dX9_readsLump_6 : decode cX9_readsLump 6 = .ok (.iconst 0, 1) := by decide +kernel
theorem dX9_readsLump_7 : decode cX9_readsLump 7 = .ok (.iconst 0, 1) := by decide +kernel
theorem dX9_readsLump_8 : decode cX9_readsLump 8 = .ok (.iconst 3, 1) := by decide +kernel
theorem dX9_readsLump_9 : decode cX9_readsLump 9 = .ok (.invokevirtual 152, 3) := by decide +kernel
theorem dX9_readsLump_12 : decode cX9_readsLump 12 = .ok (.ifCond .ne 5, 3) := by decide +kernel
theorem dX9_readsLump_15 : decode cX9_readsLump 15 = .ok (.iconst 0, 1) := by decide +kernel
theorem dX9_readsLump_16 : decode cX9_readsLump 16 = .ok (.ireturn, 1) := by decide +kernel
theorem dX9_readsLump_17 : decode cX9_readsLump 17 = .ok (.aload_n 0, 1) := by decide +kernel
theorem dX9_readsLump_18 : decode cX9_readsLump 18 = .ok (.getfield 50, 3) := by decide +kernel
theorem dX9_readsLump_21 : decode cX9_readsLump 21 = .ok (.aload_n 0, 1) := by decide +kernel
theorem dX9_readsLump_22 : decode cX9_readsLump 22 = .ok (.getfield 13, 3) := by decide +kernel
theorem dX9_readsLump_25 : decode cX9_readsLump 25 = .ok (.bipush 6, 2) := by decide +kernel
theorem dX9_readsLump_27 : decode cX9_readsLump 27 = .ok (.aload_n 0, 1) := by decide +kernel
theorem dX9_readsLump_28 : decode cX9_readsLump 28 = .ok (.getfield 138, 3) := by decide +kernel
theorem dX9_readsLump_31 : decode cX9_readsLump 31 = .ok (.imul, 1) := by decide +kernel
theorem dX9_readsLump_32 : decode cX9_readsLump 32 = .ok (.iconst 1, 1) := by decide +kernel
theorem dX9_readsLump_33 : decode cX9_readsLump 33 = .ok (.iadd, 1) := by decide +kernel
theorem dX9_readsLump_34 : decode cX9_readsLump 34 = .ok (.iaload, 1) := by decide +kernel
theorem dX9_readsLump_35 : decode cX9_readsLump 35 = .ok (.iaload, 1) := by decide +kernel
theorem dX9_readsLump_36 : decode cX9_readsLump 36 = .ok (.iconst 4, 1) := by decide +kernel
theorem dX9_readsLump_37 : decode cX9_readsLump 37 = .ok (.if_icmp .ne 10, 3) := by decide +kernel
theorem dX9_readsLump_40 : decode cX9_readsLump 40 = .ok (.aload_n 0, 1) := by decide +kernel
theorem dX9_readsLump_41 : decode cX9_readsLump 41 = .ok (.iload_n 1, 1) := by decide +kernel
theorem dX9_readsLump_42 : decode cX9_readsLump 42 = .ok (.putfield 104, 3) := by decide +kernel
theorem dX9_readsLump_45 : decode cX9_readsLump 45 = .ok (.iconst 0, 1) := by decide +kernel
theorem dX9_readsLump_46 : decode cX9_readsLump 46 = .ok (.ireturn, 1) := by decide +kernel
theorem dX9_readsLump_47 : decode cX9_readsLump 47 = .ok (.aload_n 0, 1) := by decide +kernel
theorem dX9_readsLump_48 : decode cX9_readsLump 48 = .ok (.iconst 1, 1) := by decide +kernel
theorem dX9_readsLump_49 : decode cX9_readsLump 49 = .ok (.iconst 1, 1) := by decide +kernel
theorem dX9_readsLump_50 : decode cX9_readsLump 50 = .ok (.sipush 300, 3) := by decide +kernel
theorem dX9_readsLump_53 : decode cX9_readsLump 53 = .ok (.invokevirtual 152, 3) := by decide +kernel
theorem dX9_readsLump_56 : decode cX9_readsLump 56 = .ok (.ifCond .eq 18, 3) := by decide +kernel
theorem dX9_readsLump_59 : decode cX9_readsLump 59 = .ok (.aload_n 0, 1) := by decide +kernel
theorem dX9_readsLump_60 : decode cX9_readsLump 60 = .ok (.iconst 2, 1) := by decide +kernel
theorem dX9_readsLump_61 : decode cX9_readsLump 61 = .ok (.iconst 1, 1) := by decide +kernel
theorem dX9_readsLump_62 : decode cX9_readsLump 62 = .ok (.bipush 99, 2) := by decide +kernel
theorem dX9_readsLump_64 : decode cX9_readsLump 64 = .ok (.invokevirtual 152, 3) := by decide +kernel
theorem dX9_readsLump_67 : decode cX9_readsLump 67 = .ok (.ifCond .eq 7, 3) := by decide +kernel
theorem dX9_readsLump_70 : decode cX9_readsLump 70 = .ok (.iconst 1, 1) := by decide +kernel
theorem dX9_readsLump_71 : decode cX9_readsLump 71 = .ok (.goto 4, 3) := by decide +kernel
theorem dX9_readsLump_74 : decode cX9_readsLump 74 = .ok (.iconst 0, 1) := by decide +kernel
theorem dX9_readsLump_75 : decode cX9_readsLump 75 = .ok (.ireturn, 1) := by decide +kernel
theorem dX9_readsRest_0 : decode cX9_readsRest 0 = .ok (.iload_n 1, 1) := by decide +kernel
theorem dX9_readsRest_1 : decode cX9_readsRest 1 = .ok (.tableswitch 182 0 7 #[47, 70, 75, 83, 144, 154, 163, 173], 47) := by decide +kernel
theorem dX9_readsRest_48 : decode cX9_readsRest 48 = .ok (.aload_n 0, 1) := by decide +kernel
theorem dX9_readsRest_49 : decode cX9_readsRest 49 = .ok (.iconst 0, 1) := by decide +kernel
theorem dX9_readsRest_50 : decode cX9_readsRest 50 = .ok (.iconst 0, 1) := by decide +kernel
theorem dX9_readsRest_51 : decode cX9_readsRest 51 = .ok (.iconst 3, 1) := by decide +kernel
theorem dX9_readsRest_52 : decode cX9_readsRest 52 = .ok (.invokevirtual 152, 3) := by decide +kernel
theorem dX9_readsRest_55 : decode cX9_readsRest 55 = .ok (.ifCond .eq 14, 3) := by decide +kernel
theorem dX9_readsRest_58 : decode cX9_readsRest 58 = .ok (.aload_n 0, 1) := by decide +kernel
theorem dX9_readsRest_59 : decode cX9_readsRest 59 = .ok (.invokevirtual 156, 3) := by decide +kernel
theorem dX9_readsRest_62 : decode cX9_readsRest 62 = .ok (.ifCond .eq 7, 3) := by decide +kernel
theorem dX9_readsRest_65 : decode cX9_readsRest 65 = .ok (.iconst 1, 1) := by decide +kernel
theorem dX9_readsRest_66 : decode cX9_readsRest 66 = .ok (.goto 4, 3) := by decide +kernel
theorem dX9_readsRest_69 : decode cX9_readsRest 69 = .ok (.iconst 0, 1) := by decide +kernel
theorem dX9_readsRest_70 : decode cX9_readsRest 70 = .ok (.ireturn, 1) := by decide +kernel
theorem dX9_readsRest_71 : decode cX9_readsRest 71 = .ok (.aload_n 0, 1) := by decide +kernel
theorem dX9_readsRest_72 : decode cX9_readsRest 72 = .ok (.invokevirtual 160, 3) := by decide +kernel
theorem dX9_readsRest_75 : decode cX9_readsRest 75 = .ok (.ireturn, 1) := by decide +kernel
theorem dX9_readsRest_76 : decode cX9_readsRest 76 = .ok (.aload_n 0, 1) := by decide +kernel
theorem dX9_readsRest_77 : decode cX9_readsRest 77 = .ok (.iconst 0, 1) := by decide +kernel
theorem dX9_readsRest_78 : decode cX9_readsRest 78 = .ok (.iconst 0, 1) := by decide +kernel
theorem dX9_readsRest_79 : decode cX9_readsRest 79 = .ok (.iconst 3, 1) := by decide +kernel
theorem dX9_readsRest_80 : decode cX9_readsRest 80 = .ok (.invokevirtual 152, 3) := by decide +kernel
theorem dX9_readsRest_83 : decode cX9_readsRest 83 = .ok (.ireturn, 1) := by decide +kernel
theorem dX9_readsRest_84 : decode cX9_readsRest 84 = .ok (.aload_n 0, 1) := by decide +kernel
theorem dX9_readsRest_85 : decode cX9_readsRest 85 = .ok (.iconst 0, 1) := by decide +kernel
theorem dX9_readsRest_86 : decode cX9_readsRest 86 = .ok (.iconst 0, 1) := by decide +kernel
theorem dX9_readsRest_87 : decode cX9_readsRest 87 = .ok (.bipush 40, 2) := by decide +kernel
theorem dX9_readsRest_89 : decode cX9_readsRest 89 = .ok (.invokevirtual 152, 3) := by decide +kernel
theorem dX9_readsRest_92 : decode cX9_readsRest 92 = .ok (.ifCond .eq 51, 3) := by decide +kernel
theorem dX9_readsRest_95 : decode cX9_readsRest 95 = .ok (.aload_n 0, 1) := by decide +kernel
theorem dX9_readsRest_96 : decode cX9_readsRest 96 = .ok (.iconst 1, 1) := by decide +kernel
theorem dX9_readsRest_97 : decode cX9_readsRest 97 = .ok (.iconst 0, 1) := by decide +kernel
theorem dX9_readsRest_98 : decode cX9_readsRest 98 = .ok (.bipush 40, 2) := by decide +kernel
theorem dX9_readsRest_100 : decode cX9_readsRest 100 = .ok (.invokevirtual 152, 3) := by decide +kernel
theorem dX9_readsRest_103 : decode cX9_readsRest 103 = .ok (.ifCond .eq 40, 3) := by decide +kernel
theorem dX9_readsRest_106 : decode cX9_readsRest 106 = .ok (.aload_n 0, 1) := by decide +kernel
theorem dX9_readsRest_107 : decode cX9_readsRest 107 = .ok (.iconst 2, 1) := by decide +kernel
theorem dX9_readsRest_108 : decode cX9_readsRest 108 = .ok (.iconst 0, 1) := by decide +kernel
theorem dX9_readsRest_109 : decode cX9_readsRest 109 = .ok (.bipush 6, 2) := by decide +kernel
theorem dX9_readsRest_111 : decode cX9_readsRest 111 = .ok (.invokevirtual 152, 3) := by decide +kernel
theorem dX9_readsRest_114 : decode cX9_readsRest 114 = .ok (.ifCond .eq 29, 3) := by decide +kernel
theorem dX9_readsRest_117 : decode cX9_readsRest 117 = .ok (.aload_n 0, 1) := by decide +kernel
theorem dX9_readsRest_118 : decode cX9_readsRest 118 = .ok (.iconst 3, 1) := by decide +kernel
theorem dX9_readsRest_119 : decode cX9_readsRest 119 = .ok (.iconst 1, 1) := by decide +kernel
theorem dX9_readsRest_120 : decode cX9_readsRest 120 = .ok (.bipush 99, 2) := by decide +kernel
theorem dX9_readsRest_122 : decode cX9_readsRest 122 = .ok (.invokevirtual 152, 3) := by decide +kernel
theorem dX9_readsRest_125 : decode cX9_readsRest 125 = .ok (.ifCond .eq 18, 3) := by decide +kernel
theorem dX9_readsRest_128 : decode cX9_readsRest 128 = .ok (.aload_n 0, 1) := by decide +kernel
theorem dX9_readsRest_129 : decode cX9_readsRest 129 = .ok (.iconst 4, 1) := by decide +kernel
theorem dX9_readsRest_130 : decode cX9_readsRest 130 = .ok (.iconst 0, 1) := by decide +kernel
theorem dX9_readsRest_131 : decode cX9_readsRest 131 = .ok (.bipush 99, 2) := by decide +kernel
theorem dX9_readsRest_133 : decode cX9_readsRest 133 = .ok (.invokevirtual 152, 3) := by decide +kernel
theorem dX9_readsRest_136 : decode cX9_readsRest 136 = .ok (.ifCond .eq 7, 3) := by decide +kernel
theorem dX9_readsRest_139 : decode cX9_readsRest 139 = .ok (.iconst 1, 1) := by decide +kernel
theorem dX9_readsRest_140 : decode cX9_readsRest 140 = .ok (.goto 4, 3) := by decide +kernel
theorem dX9_readsRest_143 : decode cX9_readsRest 143 = .ok (.iconst 0, 1) := by decide +kernel
theorem dX9_readsRest_144 : decode cX9_readsRest 144 = .ok (.ireturn, 1) := by decide +kernel
theorem dX9_readsRest_145 : decode cX9_readsRest 145 = .ok (.aload_n 0, 1) := by decide +kernel
theorem dX9_readsRest_146 : decode cX9_readsRest 146 = .ok (.iconst 0, 1) := by decide +kernel
theorem dX9_readsRest_147 : decode cX9_readsRest 147 = .ok (.iconst 0, 1) := by decide +kernel
theorem dX9_readsRest_148 : decode cX9_readsRest 148 = .ok (.sipush 999, 3) := by decide +kernel
theorem dX9_readsRest_151 : decode cX9_readsRest 151 = .ok (.invokevirtual 152, 3) := by decide +kernel
theorem dX9_readsRest_154 : decode cX9_readsRest 154 = .ok (.ireturn, 1) := by decide +kernel
theorem dX9_readsRest_155 : decode cX9_readsRest 155 = .ok (.aload_n 0, 1) := by decide +kernel
theorem dX9_readsRest_156 : decode cX9_readsRest 156 = .ok (.iconst 0, 1) := by decide +kernel
theorem dX9_readsRest_157 : decode cX9_readsRest 157 = .ok (.iconst 1, 1) := by decide +kernel
theorem dX9_readsRest_158 : decode cX9_readsRest 158 = .ok (.bipush 99, 2) := by decide +kernel
theorem dX9_readsRest_160 : decode cX9_readsRest 160 = .ok (.invokevirtual 152, 3) := by decide +kernel
theorem dX9_readsRest_163 : decode cX9_readsRest 163 = .ok (.ireturn, 1) := by decide +kernel
theorem dX9_readsRest_164 : decode cX9_readsRest 164 = .ok (.aload_n 0, 1) := by decide +kernel
theorem dX9_readsRest_165 : decode cX9_readsRest 165 = .ok (.iconst 0, 1) := by decide +kernel
theorem dX9_readsRest_166 : decode cX9_readsRest 166 = .ok (.iconst 1, 1) := by decide +kernel
theorem dX9_readsRest_167 : decode cX9_readsRest 167 = .ok (.sipush 999, 3) := by decide +kernel
theorem dX9_readsRest_170 : decode cX9_readsRest 170 = .ok (.invokevirtual 152, 3) := by decide +kernel
theorem dX9_readsRest_173 : decode cX9_readsRest 173 = .ok (.ireturn, 1) := by decide +kernel
theorem dX9_readsRest_174 : decode cX9_readsRest 174 = .ok (.aload_n 0, 1) := by decide +kernel
theorem dX9_readsRest_175 : decode cX9_readsRest 175 = .ok (.iconst 0, 1) := by decide +kernel
theorem dX9_readsRest_176 : decode cX9_readsRest 176 = .ok (.iconst 0, 1) := by decide +kernel
theorem dX9_readsRest_177 : decode cX9_readsRest 177 = .ok (.bipush 20, 2) := by decide +kernel
theorem dX9_readsRest_179 : decode cX9_readsRest 179 = .ok (.invokevirtual 152, 3) := by decide +kernel
theorem dX9_readsRest_182 : decode cX9_readsRest 182 = .ok (.ireturn, 1) := by decide +kernel
theorem dX9_readsRest_183 : decode cX9_readsRest 183 = .ok (.aload_n 0, 1) := by decide +kernel
theorem dX9_readsRest_184 : decode cX9_readsRest 184 = .ok (.iconst 0, 1) := by decide +kernel
theorem dX9_readsRest_185 : decode cX9_readsRest 185 = .ok (.iconst 0, 1) := by decide +kernel
theorem dX9_readsRest_186 : decode cX9_readsRest 186 = .ok (.bipush 99, 2) := by decide +kernel
theorem dX9_readsRest_188 : decode cX9_readsRest 188 = .ok (.invokevirtual 152, 3) := by decide +kernel
theorem dX9_readsRest_191 : decode cX9_readsRest 191 = .ok (.ireturn, 1) := by decide +kernel
theorem dX9_readsLine_0 : decode cX9_readsLine 0 = .ok (.aload_n 0, 1) := by decide +kernel
theorem dX9_readsLine_1 : decode cX9_readsLine 1 = .ok (.invokevirtual 163, 3) := by decide +kernel
theorem dX9_readsLine_4 : decode cX9_readsLine 4 = .ok (.istore_n 1, 1) := by decide +kernel
theorem dX9_readsLine_5 : decode cX9_readsLine 5 = .ok (.iload_n 1, 1) := by decide +kernel
theorem dX9_readsLine_6 : decode cX9_readsLine 6 = .ok (.iconst (-1), 1) := by decide +kernel
theorem dX9_readsLine_7 : decode cX9_readsLine 7 = .ok (.if_icmp .ne 5, 3) := by decide +kernel
theorem dX9_readsLine_10 : decode cX9_readsLine 10 = .ok (.iconst 0, 1) := by decide +kernel
theorem dX9_readsLine_11 : decode cX9_readsLine 11 = .ok (.ireturn, 1) := by decide +kernel
theorem dX9_readsLine_12 : decode cX9_readsLine 12 = .ok (.aload_n 0, 1) := by decide +kernel
theorem dX9_readsLine_13 : decode cX9_readsLine 13 = .ok (.invokevirtual 141, 3) := by decide +kernel
theorem dX9_readsLine_16 : decode cX9_readsLine 16 = .ok (.bipush 6, 2) := by decide +kernel
theorem dX9_readsLine_18 : decode cX9_readsLine 18 = .ok (.aload_n 0, 1) := by decide +kernel
theorem dX9_readsLine_19 : decode cX9_readsLine 19 = .ok (.getfield 138, 3) := by decide +kernel
theorem dX9_readsLine_22 : decode cX9_readsLine 22 = .ok (.imul, 1) := by decide +kernel
theorem dX9_readsLine_23 : decode cX9_readsLine 23 = .ok (.istore_n 2, 1) := by decide +kernel
theorem dX9_readsLine_24 : decode cX9_readsLine 24 = .ok (.aload_n 0, 1) := by decide +kernel
theorem dX9_readsLine_25 : decode cX9_readsLine 25 = .ok (.getfield 13, 3) := by decide +kernel
theorem dX9_readsLine_28 : decode cX9_readsLine 28 = .ok (.iload_n 2, 1) := by decide +kernel
theorem dX9_readsLine_29 : decode cX9_readsLine 29 = .ok (.iload_n 1, 1) := by decide +kernel
theorem dX9_readsLine_30 : decode cX9_readsLine 30 = .ok (.iastore, 1) := by decide +kernel
theorem dX9_readsLine_31 : decode cX9_readsLine 31 = .ok (.aload_n 0, 1) := by decide +kernel
theorem dX9_readsLine_32 : decode cX9_readsLine 32 = .ok (.iload_n 1, 1) := by decide +kernel
theorem dX9_readsLine_33 : decode cX9_readsLine 33 = .ok (.invokevirtual 167, 3) := by decide +kernel
theorem dX9_readsLine_36 : decode cX9_readsLine 36 = .ok (.ifCond .ne 5, 3) := by decide +kernel
theorem dX9_readsLine_39 : decode cX9_readsLine 39 = .ok (.iconst 0, 1) := by decide +kernel
theorem dX9_readsLine_40 : decode cX9_readsLine 40 = .ok (.ireturn, 1) := by decide +kernel
theorem dX9_readsLine_41 : decode cX9_readsLine 41 = .ok (.iload_n 1, 1) := by decide +kernel
theorem dX9_readsLine_42 : decode cX9_readsLine 42 = .ok (.iconst 1, 1) := by decide +kernel
theorem dX9_readsLine_43 : decode cX9_readsLine 43 = .ok (.if_icmp .ne 23, 3) := by decide +kernel
theorem dX9_readsLine_46 : decode cX9_readsLine 46 = .ok (.aload_n 0, 1) := by decide +kernel
theorem dX9_readsLine_47 : decode cX9_readsLine 47 = .ok (.getfield 50, 3) := by decide +kernel
theorem dX9_readsLine_50 : decode cX9_readsLine 50 = .ok (.aload_n 0, 1) := by decide +kernel
theorem dX9_readsLine_51 : decode cX9_readsLine 51 = .ok (.getfield 13, 3) := by decide +kernel
theorem dX9_readsLine_54 : decode cX9_readsLine 54 = .ok (.iload_n 2, 1) := by decide +kernel
theorem dX9_readsLine_55 : decode cX9_readsLine 55 = .ok (.iconst 1, 1) := by decide +kernel
theorem dX9_readsLine_56 : decode cX9_readsLine 56 = .ok (.iadd, 1) := by decide +kernel
theorem dX9_readsLine_57 : decode cX9_readsLine 57 = .ok (.iaload, 1) := by decide +kernel
theorem dX9_readsLine_58 : decode cX9_readsLine 58 = .ok (.dup2, 1) := by decide +kernel
theorem dX9_readsLine_59 : decode cX9_readsLine 59 = .ok (.iaload, 1) := by decide +kernel
theorem dX9_readsLine_60 : decode cX9_readsLine 60 = .ok (.iconst 1, 1) := by decide +kernel
theorem dX9_readsLine_61 : decode cX9_readsLine 61 = .ok (.iadd, 1) := by decide +kernel
theorem dX9_readsLine_62 : decode cX9_readsLine 62 = .ok (.iastore, 1) := by decide +kernel
theorem dX9_readsLine_63 : decode cX9_readsLine 63 = .ok (.goto 22, 3) := by decide +kernel
theorem dX9_readsLine_66 : decode cX9_readsLine 66 = .ok (.iload_n 1, 1) := by decide +kernel
theorem dX9_readsLine_67 : decode cX9_readsLine 67 = .ok (.iconst 2, 1) := by decide +kernel
theorem dX9_readsLine_68 : decode cX9_readsLine 68 = .ok (.if_icmp .ne 17, 3) := by decide +kernel
theorem dX9_readsLine_71 : decode cX9_readsLine 71 = .ok (.aload_n 0, 1) := by decide +kernel
theorem dX9_readsLine_72 : decode cX9_readsLine 72 = .ok (.getfield 50, 3) := by decide +kernel
theorem dX9_readsLine_75 : decode cX9_readsLine 75 = .ok (.aload_n 0, 1) := by decide +kernel
theorem dX9_readsLine_76 : decode cX9_readsLine 76 = .ok (.getfield 13, 3) := by decide +kernel
theorem dX9_readsLine_79 : decode cX9_readsLine 79 = .ok (.iload_n 2, 1) := by decide +kernel
theorem dX9_readsLine_80 : decode cX9_readsLine 80 = .ok (.iconst 1, 1) := by decide +kernel
theorem dX9_readsLine_81 : decode cX9_readsLine 81 = .ok (.iadd, 1) := by decide +kernel
theorem dX9_readsLine_82 : decode cX9_readsLine 82 = .ok (.iaload, 1) := by decide +kernel
theorem dX9_readsLine_83 : decode cX9_readsLine 83 = .ok (.iconst 0, 1) := by decide +kernel
theorem dX9_readsLine_84 : decode cX9_readsLine 84 = .ok (.iastore, 1) := by decide +kernel
theorem dX9_readsLine_85 : decode cX9_readsLine 85 = .ok (.aload_n 0, 1) := by decide +kernel
theorem dX9_readsLine_86 : decode cX9_readsLine 86 = .ok (.dup, 1) := by decide +kernel
theorem dX9_readsLine_87 : decode cX9_readsLine 87 = .ok (.getfield 138, 3) := by decide +kernel
theorem dX9_readsLine_90 : decode cX9_readsLine 90 = .ok (.iconst 1, 1) := by decide +kernel
theorem dX9_readsLine_91 : decode cX9_readsLine 91 = .ok (.iadd, 1) := by decide +kernel
theorem dX9_readsLine_92 : decode cX9_readsLine 92 = .ok (.putfield 138, 3) := by decide +kernel
theorem dX9_readsLine_95 : decode cX9_readsLine 95 = .ok (.iconst 1, 1) := by decide +kernel
theorem dX9_readsLine_96 : decode cX9_readsLine 96 = .ok (.ireturn, 1) := by decide +kernel
theorem dX9_fault_0 : decode cX9_fault 0 = .ok (.aload_n 0, 1) := by decide +kernel
theorem dX9_fault_1 : decode cX9_fault 1 = .ok (.iconst 0, 1) := by decide +kernel
theorem dX9_fault_2 : decode cX9_fault 2 = .ok (.putfield 101, 3) := by decide +kernel
theorem dX9_fault_5 : decode cX9_fault 5 = .ok (.aload_n 0, 1) := by decide +kernel
theorem dX9_fault_6 : decode cX9_fault 6 = .ok (.iconst 0, 1) := by decide +kernel
theorem dX9_fault_7 : decode cX9_fault 7 = .ok (.putfield 138, 3) := by decide +kernel
theorem dX9_fault_10 : decode cX9_fault 10 = .ok (.iconst 0, 1) := by decide +kernel
theorem dX9_fault_11 : decode cX9_fault 11 = .ok (.istore_n 1, 1) := by decide +kernel
theorem dX9_fault_12 : decode cX9_fault 12 = .ok (.iload_n 1, 1) := by decide +kernel
theorem dX9_fault_13 : decode cX9_fault 13 = .ok (.iconst 4, 1) := by decide +kernel
theorem dX9_fault_14 : decode cX9_fault 14 = .ok (.if_icmp .ge 21, 3) := by decide +kernel
theorem dX9_fault_17 : decode cX9_fault 17 = .ok (.aload_n 0, 1) := by decide +kernel
theorem dX9_fault_18 : decode cX9_fault 18 = .ok (.getfield 50, 3) := by decide +kernel
theorem dX9_fault_21 : decode cX9_fault 21 = .ok (.iload_n 1, 1) := by decide +kernel
theorem dX9_fault_22 : decode cX9_fault 22 = .ok (.aload_n 0, 1) := by decide +kernel
theorem dX9_fault_23 : decode cX9_fault 23 = .ok (.getfield 22, 3) := by decide +kernel
theorem dX9_fault_26 : decode cX9_fault 26 = .ok (.iload_n 1, 1) := by decide +kernel
theorem dX9_fault_27 : decode cX9_fault 27 = .ok (.iaload, 1) := by decide +kernel
theorem dX9_fault_28 : decode cX9_fault 28 = .ok (.iastore, 1) := by decide +kernel
theorem dX9_fault_29 : decode cX9_fault 29 = .ok (.iinc 1 1, 3) := by decide +kernel
theorem dX9_fault_32 : decode cX9_fault 32 = .ok (.goto (-20), 3) := by decide +kernel
theorem dX9_fault_35 : decode cX9_fault 35 = .ok (.aload_n 0, 1) := by decide +kernel
theorem dX9_fault_36 : decode cX9_fault 36 = .ok (.invokevirtual 141, 3) := by decide +kernel
theorem dX9_fault_39 : decode cX9_fault 39 = .ok (.aload_n 0, 1) := by decide +kernel
theorem dX9_fault_40 : decode cX9_fault 40 = .ok (.invokevirtual 171, 3) := by decide +kernel
theorem dX9_fault_43 : decode cX9_fault 43 = .ok (.ifCond .ne 8, 3) := by decide +kernel
theorem dX9_fault_46 : decode cX9_fault 46 = .ok (.aload_n 0, 1) := by decide +kernel
theorem dX9_fault_47 : decode cX9_fault 47 = .ok (.getfield 104, 3) := by decide +kernel
theorem dX9_fault_50 : decode cX9_fault 50 = .ok (.ireturn, 1) := by decide +kernel
theorem dX9_fault_51 : decode cX9_fault 51 = .ok (.aload_n 0, 1) := by decide +kernel
theorem dX9_fault_52 : decode cX9_fault 52 = .ok (.getfield 104, 3) := by decide +kernel
theorem dX9_fault_55 : decode cX9_fault 55 = .ok (.aload_n 0, 1) := by decide +kernel
theorem dX9_fault_56 : decode cX9_fault 56 = .ok (.getfield 96, 3) := by decide +kernel
theorem dX9_fault_59 : decode cX9_fault 59 = .ok (.if_icmp .ge 70, 3) := by decide +kernel
theorem dX9_fault_62 : decode cX9_fault 62 = .ok (.aload_n 0, 1) := by decide +kernel
theorem dX9_fault_63 : decode cX9_fault 63 = .ok (.getfield 111, 3) := by decide +kernel
theorem dX9_fault_66 : decode cX9_fault 66 = .ok (.aload_n 0, 1) := by decide +kernel
theorem dX9_fault_67 : decode cX9_fault 67 = .ok (.getfield 104, 3) := by decide +kernel
theorem dX9_fault_70 : decode cX9_fault 70 = .ok (.isub, 1) := by decide +kernel
theorem dX9_fault_71 : decode cX9_fault 71 = .ok (.iconst 1, 1) := by decide +kernel
theorem dX9_fault_72 : decode cX9_fault 72 = .ok (.if_icmp .ne 30, 3) := by decide +kernel
theorem dX9_fault_75 : decode cX9_fault 75 = .ok (.aload_n 0, 1) := by decide +kernel
theorem dX9_fault_76 : decode cX9_fault 76 = .ok (.getfield 7, 3) := by decide +kernel
theorem dX9_fault_79 : decode cX9_fault 79 = .ok (.aload_n 0, 1) := by decide +kernel
theorem dX9_fault_80 : decode cX9_fault 80 = .ok (.getfield 104, 3) := by decide +kernel
theorem dX9_fault_83 : decode cX9_fault 83 = .ok (.iaload, 1) := by decide +kernel
theorem dX9_fault_84 : decode cX9_fault 84 = .ok (.bipush 59, 2) := by decide +kernel
theorem dX9_fault_86 : decode cX9_fault 86 = .ok (.if_icmp .ne 16, 3) := by decide +kernel
theorem dX9_fault_89 : decode cX9_fault 89 = .ok (.aload_n 0, 1) := by decide +kernel
theorem dX9_fault_90 : decode cX9_fault 90 = .ok (.getfield 138, 3) := by decide +kernel
theorem dX9_fault_93 : decode cX9_fault 93 = .ok (.bipush 8, 2) := by decide +kernel
theorem dX9_fault_95 : decode cX9_fault 95 = .ok (.if_icmp .ge 7, 3) := by decide +kernel
theorem dX9_fault_98 : decode cX9_fault 98 = .ok (.iconst 1, 1) := by decide +kernel
theorem dX9_fault_99 : decode cX9_fault 99 = .ok (.goto 4, 3) := by decide +kernel
theorem dX9_fault_102 : decode cX9_fault 102 = .ok (.iconst 0, 1) := by decide +kernel
theorem dX9_fault_103 : decode cX9_fault 103 = .ok (.istore_n 1, 1) := by decide +kernel
theorem dX9_fault_104 : decode cX9_fault 104 = .ok (.iload_n 1, 1) := by decide +kernel
theorem dX9_fault_105 : decode cX9_fault 105 = .ok (.ifCond .eq 12, 3) := by decide +kernel
theorem dX9_fault_108 : decode cX9_fault 108 = .ok (.aload_n 0, 1) := by decide +kernel
theorem dX9_fault_109 : decode cX9_fault 109 = .ok (.invokevirtual 141, 3) := by decide +kernel
theorem dX9_fault_112 : decode cX9_fault 112 = .ok (.aload_n 0, 1) := by decide +kernel
theorem dX9_fault_113 : decode cX9_fault 113 = .ok (.invokevirtual 171, 3) := by decide +kernel
theorem dX9_fault_116 : decode cX9_fault 116 = .ok (.istore_n 1, 1) := by decide +kernel
theorem dX9_fault_117 : decode cX9_fault 117 = .ok (.iload_n 1, 1) := by decide +kernel
theorem dX9_fault_118 : decode cX9_fault 118 = .ok (.ifCond .ne 8, 3) := by decide +kernel
theorem dX9_fault_121 : decode cX9_fault 121 = .ok (.aload_n 0, 1) := by decide +kernel
theorem dX9_fault_122 : decode cX9_fault 122 = .ok (.getfield 104, 3) := by decide +kernel
theorem dX9_fault_125 : decode cX9_fault 125 = .ok (.ireturn, 1) := by decide +kernel
theorem dX9_fault_126 : decode cX9_fault 126 = .ok (.goto (-75), 3) := by decide +kernel
theorem dX9_fault_129 : decode cX9_fault 129 = .ok (.iconst (-1), 1) := by decide +kernel
theorem dX9_fault_130 : decode cX9_fault 130 = .ok (.ireturn, 1) := by decide +kernel
theorem dX9_tell_0 : decode cX9_tell 0 = .ok (.aload_n 0, 1) := by decide +kernel
theorem dX9_tell_1 : decode cX9_tell 1 = .ok (.getfield 13, 3) := by decide +kernel
theorem dX9_tell_4 : decode cX9_tell 4 = .ok (.iload_n 1, 1) := by decide +kernel
theorem dX9_tell_5 : decode cX9_tell 5 = .ok (.iconst 1, 1) := by decide +kernel
theorem dX9_tell_6 : decode cX9_tell 6 = .ok (.iadd, 1) := by decide +kernel
theorem dX9_tell_7 : decode cX9_tell 7 = .ok (.iaload, 1) := by decide +kernel
theorem dX9_tell_8 : decode cX9_tell 8 = .ok (.istore_n 2, 1) := by decide +kernel
theorem dX9_tell_9 : decode cX9_tell 9 = .ok (.aload_n 0, 1) := by decide +kernel
theorem dX9_tell_10 : decode cX9_tell 10 = .ok (.getfield 13, 3) := by decide +kernel
theorem dX9_tell_13 : decode cX9_tell 13 = .ok (.iload_n 1, 1) := by decide +kernel
theorem dX9_tell_14 : decode cX9_tell 14 = .ok (.iconst 2, 1) := by decide +kernel
theorem dX9_tell_15 : decode cX9_tell 15 = .ok (.iadd, 1) := by decide +kernel
theorem dX9_tell_16 : decode cX9_tell 16 = .ok (.iaload, 1) := by decide +kernel
theorem dX9_tell_17 : decode cX9_tell 17 = .ok (.istore_n 3, 1) := by decide +kernel
theorem dX9_tell_18 : decode cX9_tell 18 = .ok (.aload_n 0, 1) := by decide +kernel
theorem dX9_tell_19 : decode cX9_tell 19 = .ok (.getfield 13, 3) := by decide +kernel
theorem dX9_tell_22 : decode cX9_tell 22 = .ok (.iload_n 1, 1) := by decide +kernel
theorem dX9_tell_23 : decode cX9_tell 23 = .ok (.iconst 3, 1) := by decide +kernel
theorem dX9_tell_24 : decode cX9_tell 24 = .ok (.iadd, 1) := by decide +kernel
theorem dX9_tell_25 : decode cX9_tell 25 = .ok (.iaload, 1) := by decide +kernel
theorem dX9_tell_26 : decode cX9_tell 26 = .ok (.istore 4, 2) := by decide +kernel
theorem dX9_tell_28 : decode cX9_tell 28 = .ok (.aload_n 0, 1) := by decide +kernel
theorem dX9_tell_29 : decode cX9_tell 29 = .ok (.getfield 13, 3) := by decide +kernel
theorem dX9_tell_32 : decode cX9_tell 32 = .ok (.iload_n 1, 1) := by decide +kernel
theorem dX9_tell_33 : decode cX9_tell 33 = .ok (.iaload, 1) := by decide +kernel
theorem dX9_tell_34 : decode cX9_tell 34 = .ok (.tableswitch 187 0 7 #[46, 62, 114, 122, 163, 169, 175, 181], 46) := by decide +kernel
theorem dX9_tell_80 : decode cX9_tell 80 = .ok (.aload_n 0, 1) := by decide +kernel
theorem dX9_tell_81 : decode cX9_tell 81 = .ok (.getfield 16, 3) := by decide +kernel
theorem dX9_tell_84 : decode cX9_tell 84 = .ok (.iload_n 2, 1) := by decide +kernel
theorem dX9_tell_85 : decode cX9_tell 85 = .ok (.iload_n 3, 1) := by decide +kernel
theorem dX9_tell_86 : decode cX9_tell 86 = .ok (.iastore, 1) := by decide +kernel
theorem dX9_tell_87 : decode cX9_tell 87 = .ok (.aload_n 0, 1) := by decide +kernel
theorem dX9_tell_88 : decode cX9_tell 88 = .ok (.getfield 19, 3) := by decide +kernel
theorem dX9_tell_91 : decode cX9_tell 91 = .ok (.iload_n 2, 1) := by decide +kernel
theorem dX9_tell_92 : decode cX9_tell 92 = .ok (.iload 4, 2) := by decide +kernel
theorem dX9_tell_94 : decode cX9_tell 94 = .ok (.iastore, 1) := by decide +kernel
theorem dX9_tell_95 : decode cX9_tell 95 = .ok (.return_, 1) := by decide +kernel
theorem dX9_tell_96 : decode cX9_tell 96 = .ok (.aload_n 0, 1) := by decide +kernel
theorem dX9_tell_97 : decode cX9_tell 97 = .ok (.getfield 25, 3) := by decide +kernel
theorem dX9_tell_100 : decode cX9_tell 100 = .ok (.bipush 8, 2) := by decide +kernel
theorem dX9_tell_102 : decode cX9_tell 102 = .ok (.iload_n 2, 1) := by decide +kernel
theorem dX9_tell_103 : decode cX9_tell 103 = .ok (.imul, 1) := by decide +kernel
theorem dX9_tell_104 : decode cX9_tell 104 = .ok (.iconst 2, 1) := by decide +kernel
theorem dX9_tell_105 : decode cX9_tell 105 = .ok (.aload_n 0, 1) := by decide +kernel
theorem dX9_tell_106 : decode cX9_tell 106 = .ok (.getfield 22, 3) := by decide +kernel
theorem dX9_tell_109 : decode cX9_tell 109 = .ok (.iload_n 2, 1) := by decide +kernel
theorem dX9_tell_110 : decode cX9_tell 110 = .ok (.iaload, 1) := by decide +kernel
theorem dX9_tell_111 : decode cX9_tell 111 = .ok (.imul, 1) := by decide +kernel
theorem dX9_tell_112 : decode cX9_tell 112 = .ok (.iadd, 1) := by decide +kernel
theorem dX9_tell_113 : decode cX9_tell 113 = .ok (.iload_n 3, 1) := by decide +kernel
theorem dX9_tell_114 : decode cX9_tell 114 = .ok (.iastore, 1) := by decide +kernel
theorem dX9_tell_115 : decode cX9_tell 115 = .ok (.aload_n 0, 1) := by decide +kernel
theorem dX9_tell_116 : decode cX9_tell 116 = .ok (.getfield 25, 3) := by decide +kernel
theorem dX9_tell_119 : decode cX9_tell 119 = .ok (.bipush 8, 2) := by decide +kernel
theorem dX9_tell_121 : decode cX9_tell 121 = .ok (.iload_n 2, 1) := by decide +kernel
theorem dX9_tell_122 : decode cX9_tell 122 = .ok (.imul, 1) := by decide +kernel
theorem dX9_tell_123 : decode cX9_tell 123 = .ok (.iconst 2, 1) := by decide +kernel
theorem dX9_tell_124 : decode cX9_tell 124 = .ok (.aload_n 0, 1) := by decide +kernel
theorem dX9_tell_125 : decode cX9_tell 125 = .ok (.getfield 22, 3) := by decide +kernel
theorem dX9_tell_128 : decode cX9_tell 128 = .ok (.iload_n 2, 1) := by decide +kernel
theorem dX9_tell_129 : decode cX9_tell 129 = .ok (.iaload, 1) := by decide +kernel
theorem dX9_tell_130 : decode cX9_tell 130 = .ok (.imul, 1) := by decide +kernel
theorem dX9_tell_131 : decode cX9_tell 131 = .ok (.iadd, 1) := by decide +kernel
theorem dX9_tell_132 : decode cX9_tell 132 = .ok (.iconst 1, 1) := by decide +kernel
theorem dX9_tell_133 : decode cX9_tell 133 = .ok (.iadd, 1) := by decide +kernel
theorem dX9_tell_134 : decode cX9_tell 134 = .ok (.iload 4, 2) := by decide +kernel
theorem dX9_tell_136 : decode cX9_tell 136 = .ok (.iastore, 1) := by decide +kernel
theorem dX9_tell_137 : decode cX9_tell 137 = .ok (.aload_n 0, 1) := by decide +kernel
theorem dX9_tell_138 : decode cX9_tell 138 = .ok (.getfield 22, 3) := by decide +kernel
theorem dX9_tell_141 : decode cX9_tell 141 = .ok (.iload_n 2, 1) := by decide +kernel
theorem dX9_tell_142 : decode cX9_tell 142 = .ok (.dup2, 1) := by decide +kernel
theorem dX9_tell_143 : decode cX9_tell 143 = .ok (.iaload, 1) := by decide +kernel
theorem dX9_tell_144 : decode cX9_tell 144 = .ok (.iconst 1, 1) := by decide +kernel
theorem dX9_tell_145 : decode cX9_tell 145 = .ok (.iadd, 1) := by decide +kernel
theorem dX9_tell_146 : decode cX9_tell 146 = .ok (.iastore, 1) := by decide +kernel
theorem dX9_tell_147 : decode cX9_tell 147 = .ok (.return_, 1) := by decide +kernel
theorem dX9_tell_148 : decode cX9_tell 148 = .ok (.aload_n 0, 1) := by decide +kernel
theorem dX9_tell_149 : decode cX9_tell 149 = .ok (.getfield 22, 3) := by decide +kernel
theorem dX9_tell_152 : decode cX9_tell 152 = .ok (.iload_n 2, 1) := by decide +kernel
theorem dX9_tell_153 : decode cX9_tell 153 = .ok (.iconst 0, 1) := by decide +kernel
theorem dX9_tell_154 : decode cX9_tell 154 = .ok (.iastore, 1) := by decide +kernel
theorem dX9_tell_155 : decode cX9_tell 155 = .ok (.return_, 1) := by decide +kernel
theorem dX9_tell_156 : decode cX9_tell 156 = .ok (.aload_n 0, 1) := by decide +kernel
theorem dX9_tell_157 : decode cX9_tell 157 = .ok (.iload_n 2, 1) := by decide +kernel
theorem dX9_tell_158 : decode cX9_tell 158 = .ok (.putfield 28, 3) := by decide +kernel
theorem dX9_tell_161 : decode cX9_tell 161 = .ok (.aload_n 0, 1) := by decide +kernel
theorem dX9_tell_162 : decode cX9_tell 162 = .ok (.iload_n 3, 1) := by decide +kernel
theorem dX9_tell_163 : decode cX9_tell 163 = .ok (.putfield 32, 3) := by decide +kernel
theorem dX9_tell_166 : decode cX9_tell 166 = .ok (.aload_n 0, 1) := by decide +kernel
theorem dX9_tell_167 : decode cX9_tell 167 = .ok (.iload 4, 2) := by decide +kernel
theorem dX9_tell_169 : decode cX9_tell 169 = .ok (.putfield 35, 3) := by decide +kernel
theorem dX9_tell_172 : decode cX9_tell 172 = .ok (.aload_n 0, 1) := by decide +kernel
theorem dX9_tell_173 : decode cX9_tell 173 = .ok (.aload_n 0, 1) := by decide +kernel
theorem dX9_tell_174 : decode cX9_tell 174 = .ok (.getfield 13, 3) := by decide +kernel
theorem dX9_tell_177 : decode cX9_tell 177 = .ok (.iload_n 1, 1) := by decide +kernel
theorem dX9_tell_178 : decode cX9_tell 178 = .ok (.iconst 4, 1) := by decide +kernel
theorem dX9_tell_179 : decode cX9_tell 179 = .ok (.iadd, 1) := by decide +kernel
theorem dX9_tell_180 : decode cX9_tell 180 = .ok (.iaload, 1) := by decide +kernel
theorem dX9_tell_181 : decode cX9_tell 181 = .ok (.putfield 38, 3) := by decide +kernel
theorem dX9_tell_184 : decode cX9_tell 184 = .ok (.aload_n 0, 1) := by decide +kernel
theorem dX9_tell_185 : decode cX9_tell 185 = .ok (.aload_n 0, 1) := by decide +kernel
theorem dX9_tell_186 : decode cX9_tell 186 = .ok (.getfield 13, 3) := by decide +kernel
theorem dX9_tell_189 : decode cX9_tell 189 = .ok (.iload_n 1, 1) := by decide +kernel
theorem dX9_tell_190 : decode cX9_tell 190 = .ok (.iconst 5, 1) := by decide +kernel
theorem dX9_tell_191 : decode cX9_tell 191 = .ok (.iadd, 1) := by decide +kernel
theorem dX9_tell_192 : decode cX9_tell 192 = .ok (.iaload, 1) := by decide +kernel
theorem dX9_tell_193 : decode cX9_tell 193 = .ok (.putfield 174, 3) := by decide +kernel
theorem dX9_tell_196 : decode cX9_tell 196 = .ok (.return_, 1) := by decide +kernel
theorem dX9_tell_197 : decode cX9_tell 197 = .ok (.aload_n 0, 1) := by decide +kernel
theorem dX9_tell_198 : decode cX9_tell 198 = .ok (.iload_n 2, 1) := by decide +kernel
theorem dX9_tell_199 : decode cX9_tell 199 = .ok (.putfield 41, 3) := by decide +kernel
theorem dX9_tell_202 : decode cX9_tell 202 = .ok (.return_, 1) := by decide +kernel
theorem dX9_tell_203 : decode cX9_tell 203 = .ok (.aload_n 0, 1) := by decide +kernel
theorem dX9_tell_204 : decode cX9_tell 204 = .ok (.iload_n 2, 1) := by decide +kernel
theorem dX9_tell_205 : decode cX9_tell 205 = .ok (.putfield 44, 3) := by decide +kernel
theorem dX9_tell_208 : decode cX9_tell 208 = .ok (.return_, 1) := by decide +kernel
theorem dX9_tell_209 : decode cX9_tell 209 = .ok (.aload_n 0, 1) := by decide +kernel
theorem dX9_tell_210 : decode cX9_tell 210 = .ok (.iload_n 2, 1) := by decide +kernel
theorem dX9_tell_211 : decode cX9_tell 211 = .ok (.putfield 47, 3) := by decide +kernel
theorem dX9_tell_214 : decode cX9_tell 214 = .ok (.return_, 1) := by decide +kernel
theorem dX9_tell_215 : decode cX9_tell 215 = .ok (.aload_n 0, 1) := by decide +kernel
theorem dX9_tell_216 : decode cX9_tell 216 = .ok (.iload_n 2, 1) := by decide +kernel
theorem dX9_tell_217 : decode cX9_tell 217 = .ok (.putfield 177, 3) := by decide +kernel
theorem dX9_tell_220 : decode cX9_tell 220 = .ok (.return_, 1) := by decide +kernel
theorem dX9_tell_221 : decode cX9_tell 221 = .ok (.aload_n 0, 1) := by decide +kernel
theorem dX9_tell_222 : decode cX9_tell 222 = .ok (.iload_n 2, 1) := by decide +kernel
theorem dX9_tell_223 : decode cX9_tell 223 = .ok (.putfield 180, 3) := by decide +kernel
theorem dX9_tell_226 : decode cX9_tell 226 = .ok (.return_, 1) := by decide +kernel
theorem dX9_chin_0 : decode cX9_chin 0 = .ok (.aload_n 0, 1) := by decide +kernel
theorem dX9_chin_1 : decode cX9_chin 1 = .ok (.invokevirtual 183, 3) := by decide +kernel
theorem dX9_chin_4 : decode cX9_chin 4 = .ok (.iconst (-1), 1) := by decide +kernel
theorem dX9_chin_5 : decode cX9_chin 5 = .ok (.if_icmp .eq 6, 3) := by decide +kernel
theorem dX9_chin_8 : decode cX9_chin 8 = .ok (.bipush (-4), 2) := by decide +kernel
theorem dX9_chin_10 : decode cX9_chin 10 = .ok (.ireturn, 1) := by decide +kernel
theorem dX9_chin_11 : decode cX9_chin 11 = .ok (.iconst 0, 1) := by decide +kernel
theorem dX9_chin_12 : decode cX9_chin 12 = .ok (.istore_n 1, 1) := by decide +kernel
theorem dX9_chin_13 : decode cX9_chin 13 = .ok (.iload_n 1, 1) := by decide +kernel
theorem dX9_chin_14 : decode cX9_chin 14 = .ok (.aload_n 0, 1) := by decide +kernel
theorem dX9_chin_15 : decode cX9_chin 15 = .ok (.getfield 138, 3) := by decide +kernel
theorem dX9_chin_18 : decode cX9_chin 18 = .ok (.if_icmp .ge 17, 3) := by decide +kernel
theorem dX9_chin_21 : decode cX9_chin 21 = .ok (.aload_n 0, 1) := by decide +kernel
theorem dX9_chin_22 : decode cX9_chin 22 = .ok (.bipush 6, 2) := by decide +kernel
theorem dX9_chin_24 : decode cX9_chin 24 = .ok (.iload_n 1, 1) := by decide +kernel
theorem dX9_chin_25 : decode cX9_chin 25 = .ok (.imul, 1) := by decide +kernel
theorem dX9_chin_26 : decode cX9_chin 26 = .ok (.invokevirtual 186, 3) := by decide +kernel
theorem dX9_chin_29 : decode cX9_chin 29 = .ok (.iinc 1 1, 3) := by decide +kernel
theorem dX9_chin_32 : decode cX9_chin 32 = .ok (.goto (-19), 3) := by decide +kernel
theorem dX9_chin_35 : decode cX9_chin 35 = .ok (.aload_n 0, 1) := by decide +kernel
theorem dX9_chin_36 : decode cX9_chin 36 = .ok (.iconst 0, 1) := by decide +kernel
theorem dX9_chin_37 : decode cX9_chin 37 = .ok (.putfield 96, 3) := by decide +kernel
theorem dX9_chin_40 : decode cX9_chin 40 = .ok (.aload_n 0, 1) := by decide +kernel
theorem dX9_chin_41 : decode cX9_chin 41 = .ok (.getfield 138, 3) := by decide +kernel
theorem dX9_chin_44 : decode cX9_chin 44 = .ok (.ireturn, 1) := by decide +kernel
theorem dX9_isThing_0 : decode cX9_isThing 0 = .ok (.iload_n 0, 1) := by decide +kernel
theorem dX9_isThing_1 : decode cX9_isThing 1 = .ok (.i2l, 1) := by decide +kernel
theorem dX9_isThing_2 : decode cX9_isThing 2 = .ok (.lconst 0, 1) := by decide +kernel
theorem dX9_isThing_3 : decode cX9_isThing 3 = .ok (.ldc2_w 190, 3) := by decide +kernel
theorem dX9_isThing_6 : decode cX9_isThing 6 = .ok (.invokestatic 92, 3) := by decide +kernel
theorem dX9_isThing_9 : decode cX9_isThing 9 = .ok (.ireturn, 1) := by decide +kernel
theorem dX9_longOf_0 : decode cX9_longOf 0 = .ok (.iconst 0, 1) := by decide +kernel
theorem dX9_longOf_1 : decode cX9_longOf 1 = .ok (.istore_n 2, 1) := by decide +kernel
theorem dX9_longOf_2 : decode cX9_longOf 2 = .ok (.iconst 0, 1) := by decide +kernel
theorem dX9_longOf_3 : decode cX9_longOf 3 = .ok (.istore_n 3, 1) := by decide +kernel
theorem dX9_longOf_4 : decode cX9_longOf 4 = .ok (.iconst 0, 1) := by decide +kernel
theorem dX9_longOf_5 : decode cX9_longOf 5 = .ok (.istore 4, 2) := by decide +kernel
theorem dX9_longOf_7 : decode cX9_longOf 7 = .ok (.iload 4, 2) := by decide +kernel
theorem dX9_longOf_9 : decode cX9_longOf 9 = .ok (.aload_n 0, 1) := by decide +kernel
theorem dX9_longOf_10 : decode cX9_longOf 10 = .ok (.getfield 22, 3) := by decide +kernel
theorem dX9_longOf_13 : decode cX9_longOf 13 = .ok (.iload_n 1, 1) := by decide +kernel
theorem dX9_longOf_14 : decode cX9_longOf 14 = .ok (.iaload, 1) := by decide +kernel
theorem dX9_longOf_15 : decode cX9_longOf 15 = .ok (.if_icmp .ge 62, 3) := by decide +kernel
theorem dX9_longOf_18 : decode cX9_longOf 18 = .ok (.aload_n 0, 1) := by decide +kernel
theorem dX9_longOf_19 : decode cX9_longOf 19 = .ok (.getfield 25, 3) := by decide +kernel
theorem dX9_longOf_22 : decode cX9_longOf 22 = .ok (.bipush 8, 2) := by decide +kernel
theorem dX9_longOf_24 : decode cX9_longOf 24 = .ok (.iload_n 1, 1) := by decide +kernel
theorem dX9_longOf_25 : decode cX9_longOf 25 = .ok (.imul, 1) := by decide +kernel
theorem dX9_longOf_26 : decode cX9_longOf 26 = .ok (.iconst 2, 1) := by decide +kernel
theorem dX9_longOf_27 : decode cX9_longOf 27 = .ok (.iload 4, 2) := by decide +kernel
theorem dX9_longOf_29 : decode cX9_longOf 29 = .ok (.imul, 1) := by decide +kernel
theorem dX9_longOf_30 : decode cX9_longOf 30 = .ok (.iadd, 1) := by decide +kernel
theorem dX9_longOf_31 : decode cX9_longOf 31 = .ok (.iaload, 1) := by decide +kernel
theorem dX9_longOf_32 : decode cX9_longOf 32 = .ok (.istore 5, 2) := by decide +kernel
theorem dX9_longOf_34 : decode cX9_longOf 34 = .ok (.aload_n 0, 1) := by decide +kernel
theorem dX9_longOf_35 : decode cX9_longOf 35 = .ok (.getfield 25, 3) := by decide +kernel
theorem dX9_longOf_38 : decode cX9_longOf 38 = .ok (.bipush 8, 2) := by decide +kernel
theorem dX9_longOf_40 : decode cX9_longOf 40 = .ok (.iload_n 1, 1) := by decide +kernel
theorem dX9_longOf_41 : decode cX9_longOf 41 = .ok (.imul, 1) := by decide +kernel
theorem dX9_longOf_42 : decode cX9_longOf 42 = .ok (.iconst 2, 1) := by decide +kernel
theorem dX9_longOf_43 : decode cX9_longOf 43 = .ok (.iload 4, 2) := by decide +kernel
theorem dX9_longOf_45 : decode cX9_longOf 45 = .ok (.imul, 1) := by decide +kernel
theorem dX9_longOf_46 : decode cX9_longOf 46 = .ok (.iadd, 1) := by decide +kernel
theorem dX9_longOf_47 : decode cX9_longOf 47 = .ok (.iconst 1, 1) := by decide +kernel
theorem dX9_longOf_48 : decode cX9_longOf 48 = .ok (.iadd, 1) := by decide +kernel
theorem dX9_longOf_49 : decode cX9_longOf 49 = .ok (.iaload, 1) := by decide +kernel
theorem dX9_longOf_50 : decode cX9_longOf 50 = .ok (.istore 6, 2) := by decide +kernel
theorem dX9_longOf_52 : decode cX9_longOf 52 = .ok (.iload_n 2, 1) := by decide +kernel
theorem dX9_longOf_53 : decode cX9_longOf 53 = .ok (.iload 5, 2) := by decide +kernel
theorem dX9_longOf_55 : decode cX9_longOf 55 = .ok (.iload 5, 2) := by decide +kernel
theorem dX9_longOf_57 : decode cX9_longOf 57 = .ok (.imul, 1) := by decide +kernel
theorem dX9_longOf_58 : decode cX9_longOf 58 = .ok (.iload 6, 2) := by decide +kernel
theorem dX9_longOf_60 : decode cX9_longOf 60 = .ok (.imul, 1) := by decide +kernel
theorem dX9_longOf_61 : decode cX9_longOf 61 = .ok (.iadd, 1) := by decide +kernel
theorem dX9_longOf_62 : decode cX9_longOf 62 = .ok (.istore_n 2, 1) := by decide +kernel
theorem dX9_longOf_63 : decode cX9_longOf 63 = .ok (.iload_n 3, 1) := by decide +kernel
theorem dX9_longOf_64 : decode cX9_longOf 64 = .ok (.iload 5, 2) := by decide +kernel
theorem dX9_longOf_66 : decode cX9_longOf 66 = .ok (.iload 6, 2) := by decide +kernel
theorem dX9_longOf_68 : decode cX9_longOf 68 = .ok (.imul, 1) := by decide +kernel
theorem dX9_longOf_69 : decode cX9_longOf 69 = .ok (.iadd, 1) := by decide +kernel
theorem dX9_longOf_70 : decode cX9_longOf 70 = .ok (.istore_n 3, 1) := by decide +kernel
theorem dX9_longOf_71 : decode cX9_longOf 71 = .ok (.iinc 4 1, 3) := by decide +kernel
theorem dX9_longOf_74 : decode cX9_longOf 74 = .ok (.goto (-67), 3) := by decide +kernel
theorem dX9_longOf_77 : decode cX9_longOf 77 = .ok (.iload_n 3, 1) := by decide +kernel
theorem dX9_longOf_78 : decode cX9_longOf 78 = .ok (.ifCond .ne 7, 3) := by decide +kernel
theorem dX9_longOf_81 : decode cX9_longOf 81 = .ok (.iconst (-1), 1) := by decide +kernel
theorem dX9_longOf_82 : decode cX9_longOf 82 = .ok (.goto 6, 3) := by decide +kernel
theorem dX9_longOf_85 : decode cX9_longOf 85 = .ok (.iload_n 2, 1) := by decide +kernel
theorem dX9_longOf_86 : decode cX9_longOf 86 = .ok (.iload_n 3, 1) := by decide +kernel
theorem dX9_longOf_87 : decode cX9_longOf 87 = .ok (.idiv, 1) := by decide +kernel
theorem dX9_longOf_88 : decode cX9_longOf 88 = .ok (.ireturn, 1) := by decide +kernel
theorem dX9_greatest_0 : decode cX9_greatest 0 = .ok (.iconst 0, 1) := by decide +kernel
theorem dX9_greatest_1 : decode cX9_greatest 1 = .ok (.istore_n 2, 1) := by decide +kernel
theorem dX9_greatest_2 : decode cX9_greatest 2 = .ok (.iconst 0, 1) := by decide +kernel
theorem dX9_greatest_3 : decode cX9_greatest 3 = .ok (.istore_n 3, 1) := by decide +kernel
theorem dX9_greatest_4 : decode cX9_greatest 4 = .ok (.iload_n 3, 1) := by decide +kernel
theorem dX9_greatest_5 : decode cX9_greatest 5 = .ok (.aload_n 0, 1) := by decide +kernel
theorem dX9_greatest_6 : decode cX9_greatest 6 = .ok (.getfield 22, 3) := by decide +kernel
theorem dX9_greatest_9 : decode cX9_greatest 9 = .ok (.iload_n 1, 1) := by decide +kernel
theorem dX9_greatest_10 : decode cX9_greatest 10 = .ok (.iaload, 1) := by decide +kernel
theorem dX9_greatest_11 : decode cX9_greatest 11 = .ok (.if_icmp .ge 44, 3) := by decide +kernel
theorem dX9_greatest_14 : decode cX9_greatest 14 = .ok (.aload_n 0, 1) := by decide +kernel
theorem dX9_greatest_15 : decode cX9_greatest 15 = .ok (.getfield 25, 3) := by decide +kernel
theorem dX9_greatest_18 : decode cX9_greatest 18 = .ok (.bipush 8, 2) := by decide +kernel
theorem dX9_greatest_20 : decode cX9_greatest 20 = .ok (.iload_n 1, 1) := by decide +kernel
theorem dX9_greatest_21 : decode cX9_greatest 21 = .ok (.imul, 1) := by decide +kernel
theorem dX9_greatest_22 : decode cX9_greatest 22 = .ok (.iconst 2, 1) := by decide +kernel
theorem dX9_greatest_23 : decode cX9_greatest 23 = .ok (.iload_n 3, 1) := by decide +kernel
theorem dX9_greatest_24 : decode cX9_greatest 24 = .ok (.imul, 1) := by decide +kernel
theorem dX9_greatest_25 : decode cX9_greatest 25 = .ok (.iadd, 1) := by decide +kernel
theorem dX9_greatest_26 : decode cX9_greatest 26 = .ok (.iaload, 1) := by decide +kernel
theorem dX9_greatest_27 : decode cX9_greatest 27 = .ok (.iload_n 2, 1) := by decide +kernel
theorem dX9_greatest_28 : decode cX9_greatest 28 = .ok (.if_icmp .le 19, 3) := by decide +kernel
theorem dX9_greatest_31 : decode cX9_greatest 31 = .ok (.aload_n 0, 1) := by decide +kernel
theorem dX9_greatest_32 : decode cX9_greatest 32 = .ok (.getfield 25, 3) := by decide +kernel
theorem dX9_greatest_35 : decode cX9_greatest 35 = .ok (.bipush 8, 2) := by decide +kernel
theorem dX9_greatest_37 : decode cX9_greatest 37 = .ok (.iload_n 1, 1) := by decide +kernel
theorem dX9_greatest_38 : decode cX9_greatest 38 = .ok (.imul, 1) := by decide +kernel
theorem dX9_greatest_39 : decode cX9_greatest 39 = .ok (.iconst 2, 1) := by decide +kernel
theorem dX9_greatest_40 : decode cX9_greatest 40 = .ok (.iload_n 3, 1) := by decide +kernel
theorem dX9_greatest_41 : decode cX9_greatest 41 = .ok (.imul, 1) := by decide +kernel
theorem dX9_greatest_42 : decode cX9_greatest 42 = .ok (.iadd, 1) := by decide +kernel
theorem dX9_greatest_43 : decode cX9_greatest 43 = .ok (.iaload, 1) := by decide +kernel
theorem dX9_greatest_44 : decode cX9_greatest 44 = .ok (.goto 4, 3) := by decide +kernel
theorem dX9_greatest_47 : decode cX9_greatest 47 = .ok (.iload_n 2, 1) := by decide +kernel
theorem dX9_greatest_48 : decode cX9_greatest 48 = .ok (.istore_n 2, 1) := by decide +kernel
theorem dX9_greatest_49 : decode cX9_greatest 49 = .ok (.iinc 3 1, 3) := by decide +kernel
theorem dX9_greatest_52 : decode cX9_greatest 52 = .ok (.goto (-48), 3) := by decide +kernel
theorem dX9_greatest_55 : decode cX9_greatest 55 = .ok (.iload_n 2, 1) := by decide +kernel
theorem dX9_greatest_56 : decode cX9_greatest 56 = .ok (.ireturn, 1) := by decide +kernel
theorem dX9_thing_0 : decode cX9_thing 0 = .ok (.iload_n 1, 1) := by decide +kernel
theorem dX9_thing_1 : decode cX9_thing 1 = .ok (.invokestatic 192, 3) := by decide +kernel
theorem dX9_thing_4 : decode cX9_thing 4 = .ok (.ifCond .ne 6, 3) := by decide +kernel
theorem dX9_thing_7 : decode cX9_thing 7 = .ok (.bipush (-2), 2) := by decide +kernel
theorem dX9_thing_9 : decode cX9_thing 9 = .ok (.ireturn, 1) := by decide +kernel
theorem dX9_thing_10 : decode cX9_thing 10 = .ok (.iload_n 2, 1) := by decide +kernel
theorem dX9_thing_11 : decode cX9_thing 11 = .ok (.tableswitch 66 0 4 #[33, 40, 47, 54, 60], 33) := by decide +kernel
theorem dX9_thing_44 : decode cX9_thing 44 = .ok (.aload_n 0, 1) := by decide +kernel
theorem dX9_thing_45 : decode cX9_thing 45 = .ok (.getfield 16, 3) := by decide +kernel
theorem dX9_thing_48 : decode cX9_thing 48 = .ok (.iload_n 1, 1) := by decide +kernel
theorem dX9_thing_49 : decode cX9_thing 49 = .ok (.iaload, 1) := by decide +kernel
theorem dX9_thing_50 : decode cX9_thing 50 = .ok (.ireturn, 1) := by decide +kernel
theorem dX9_thing_51 : decode cX9_thing 51 = .ok (.aload_n 0, 1) := by decide +kernel
theorem dX9_thing_52 : decode cX9_thing 52 = .ok (.getfield 19, 3) := by decide +kernel
theorem dX9_thing_55 : decode cX9_thing 55 = .ok (.iload_n 1, 1) := by decide +kernel
theorem dX9_thing_56 : decode cX9_thing 56 = .ok (.iaload, 1) := by decide +kernel
theorem dX9_thing_57 : decode cX9_thing 57 = .ok (.ireturn, 1) := by decide +kernel
theorem dX9_thing_58 : decode cX9_thing 58 = .ok (.aload_n 0, 1) := by decide +kernel
theorem dX9_thing_59 : decode cX9_thing 59 = .ok (.getfield 22, 3) := by decide +kernel
theorem dX9_thing_62 : decode cX9_thing 62 = .ok (.iload_n 1, 1) := by decide +kernel
theorem dX9_thing_63 : decode cX9_thing 63 = .ok (.iaload, 1) := by decide +kernel
theorem dX9_thing_64 : decode cX9_thing 64 = .ok (.ireturn, 1) := by decide +kernel
theorem dX9_thing_65 : decode cX9_thing 65 = .ok (.aload_n 0, 1) := by decide +kernel
theorem dX9_thing_66 : decode cX9_thing 66 = .ok (.iload_n 1, 1) := by decide +kernel
theorem dX9_thing_67 : decode cX9_thing 67 = .ok (.invokevirtual 195, 3) := by decide +kernel
theorem dX9_thing_70 : decode cX9_thing 70 = .ok (.ireturn, 1) := by decide +kernel
theorem dX9_thing_71 : decode cX9_thing 71 = .ok (.aload_n 0, 1) := by decide +kernel
theorem dX9_thing_72 : decode cX9_thing 72 = .ok (.iload_n 1, 1) := by decide +kernel
theorem dX9_thing_73 : decode cX9_thing 73 = .ok (.invokevirtual 198, 3) := by decide +kernel
theorem dX9_thing_76 : decode cX9_thing 76 = .ok (.ireturn, 1) := by decide +kernel
theorem dX9_thing_77 : decode cX9_thing 77 = .ok (.bipush (-3), 2) := by decide +kernel
theorem dX9_thing_79 : decode cX9_thing 79 = .ok (.ireturn, 1) := by decide +kernel
theorem dX9_lump_0 : decode cX9_lump 0 = .ok (.iload_n 1, 1) := by decide +kernel
theorem dX9_lump_1 : decode cX9_lump 1 = .ok (.invokestatic 192, 3) := by decide +kernel
theorem dX9_lump_4 : decode cX9_lump 4 = .ok (.ifCond .eq 21, 3) := by decide +kernel
theorem dX9_lump_7 : decode cX9_lump 7 = .ok (.iload_n 2, 1) := by decide +kernel
theorem dX9_lump_8 : decode cX9_lump 8 = .ok (.i2l, 1) := by decide +kernel
theorem dX9_lump_9 : decode cX9_lump 9 = .ok (.lconst 0, 1) := by decide +kernel
theorem dX9_lump_10 : decode cX9_lump 10 = .ok (.aload_n 0, 1) := by decide +kernel
theorem dX9_lump_11 : decode cX9_lump 11 = .ok (.getfield 22, 3) := by decide +kernel
theorem dX9_lump_14 : decode cX9_lump 14 = .ok (.iload_n 1, 1) := by decide +kernel
theorem dX9_lump_15 : decode cX9_lump 15 = .ok (.iaload, 1) := by decide +kernel
theorem dX9_lump_16 : decode cX9_lump 16 = .ok (.iconst 1, 1) := by decide +kernel
theorem dX9_lump_17 : decode cX9_lump 17 = .ok (.isub, 1) := by decide +kernel
theorem dX9_lump_18 : decode cX9_lump 18 = .ok (.i2l, 1) := by decide +kernel
theorem dX9_lump_19 : decode cX9_lump 19 = .ok (.invokestatic 92, 3) := by decide +kernel
theorem dX9_lump_22 : decode cX9_lump 22 = .ok (.ifCond .ne 6, 3) := by decide +kernel
theorem dX9_lump_25 : decode cX9_lump 25 = .ok (.bipush (-2), 2) := by decide +kernel
theorem dX9_lump_27 : decode cX9_lump 27 = .ok (.ireturn, 1) := by decide +kernel
theorem dX9_lump_28 : decode cX9_lump 28 = .ok (.iload_n 3, 1) := by decide +kernel
theorem dX9_lump_29 : decode cX9_lump 29 = .ok (.i2l, 1) := by decide +kernel
theorem dX9_lump_30 : decode cX9_lump 30 = .ok (.lconst 0, 1) := by decide +kernel
theorem dX9_lump_31 : decode cX9_lump 31 = .ok (.lconst 1, 1) := by decide +kernel
theorem dX9_lump_32 : decode cX9_lump 32 = .ok (.invokestatic 92, 3) := by decide +kernel
theorem dX9_lump_35 : decode cX9_lump 35 = .ok (.ifCond .eq 21, 3) := by decide +kernel
theorem dX9_lump_38 : decode cX9_lump 38 = .ok (.aload_n 0, 1) := by decide +kernel
theorem dX9_lump_39 : decode cX9_lump 39 = .ok (.getfield 25, 3) := by decide +kernel
theorem dX9_lump_42 : decode cX9_lump 42 = .ok (.bipush 8, 2) := by decide +kernel
theorem dX9_lump_44 : decode cX9_lump 44 = .ok (.iload_n 1, 1) := by decide +kernel
theorem dX9_lump_45 : decode cX9_lump 45 = .ok (.imul, 1) := by decide +kernel
theorem dX9_lump_46 : decode cX9_lump 46 = .ok (.iconst 2, 1) := by decide +kernel
theorem dX9_lump_47 : decode cX9_lump 47 = .ok (.iload_n 2, 1) := by decide +kernel
theorem dX9_lump_48 : decode cX9_lump 48 = .ok (.imul, 1) := by decide +kernel
theorem dX9_lump_49 : decode cX9_lump 49 = .ok (.iadd, 1) := by decide +kernel
theorem dX9_lump_50 : decode cX9_lump 50 = .ok (.iload_n 3, 1) := by decide +kernel
theorem dX9_lump_51 : decode cX9_lump 51 = .ok (.iadd, 1) := by decide +kernel
theorem dX9_lump_52 : decode cX9_lump 52 = .ok (.iaload, 1) := by decide +kernel
theorem dX9_lump_53 : decode cX9_lump 53 = .ok (.goto 5, 3) := by decide +kernel
theorem dX9_lump_56 : decode cX9_lump 56 = .ok (.bipush (-3), 2) := by decide +kernel
theorem dX9_lump_58 : decode cX9_lump 58 = .ok (.ireturn, 1) := by decide +kernel
theorem dX9_asTold_0 : decode cX9_asTold 0 = .ok (.aload_n 0, 1) := by decide +kernel
theorem dX9_asTold_1 : decode cX9_asTold 1 = .ok (.aload_n 0, 1) := by decide +kernel
theorem dX9_asTold_2 : decode cX9_asTold 2 = .ok (.getfield 28, 3) := by decide +kernel
theorem dX9_asTold_5 : decode cX9_asTold 5 = .ok (.putfield 201, 3) := by decide +kernel
theorem dX9_asTold_8 : decode cX9_asTold 8 = .ok (.aload_n 0, 1) := by decide +kernel
theorem dX9_asTold_9 : decode cX9_asTold 9 = .ok (.aload_n 0, 1) := by decide +kernel
theorem dX9_asTold_10 : decode cX9_asTold 10 = .ok (.getfield 32, 3) := by decide +kernel
theorem dX9_asTold_13 : decode cX9_asTold 13 = .ok (.putfield 204, 3) := by decide +kernel
theorem dX9_asTold_16 : decode cX9_asTold 16 = .ok (.aload_n 0, 1) := by decide +kernel
theorem dX9_asTold_17 : decode cX9_asTold 17 = .ok (.aload_n 0, 1) := by decide +kernel
theorem dX9_asTold_18 : decode cX9_asTold 18 = .ok (.getfield 35, 3) := by decide +kernel
theorem dX9_asTold_21 : decode cX9_asTold 21 = .ok (.putfield 207, 3) := by decide +kernel
theorem dX9_asTold_24 : decode cX9_asTold 24 = .ok (.aload_n 0, 1) := by decide +kernel
theorem dX9_asTold_25 : decode cX9_asTold 25 = .ok (.aload_n 0, 1) := by decide +kernel
theorem dX9_asTold_26 : decode cX9_asTold 26 = .ok (.getfield 180, 3) := by decide +kernel
theorem dX9_asTold_29 : decode cX9_asTold 29 = .ok (.putfield 210, 3) := by decide +kernel
theorem dX9_asTold_32 : decode cX9_asTold 32 = .ok (.aload_n 0, 1) := by decide +kernel
theorem dX9_asTold_33 : decode cX9_asTold 33 = .ok (.iload_n 1, 1) := by decide +kernel
theorem dX9_asTold_34 : decode cX9_asTold 34 = .ok (.invokevirtual 213, 3) := by decide +kernel
theorem dX9_asTold_37 : decode cX9_asTold 37 = .ok (.return_, 1) := by decide +kernel
theorem dX9_look_0 : decode cX9_look 0 = .ok (.aload_n 0, 1) := by decide +kernel
theorem dX9_look_1 : decode cX9_look 1 = .ok (.aload_n 0, 1) := by decide +kernel
theorem dX9_look_2 : decode cX9_look 2 = .ok (.getfield 16, 3) := by decide +kernel
theorem dX9_look_5 : decode cX9_look 5 = .ok (.iload_n 1, 1) := by decide +kernel
theorem dX9_look_6 : decode cX9_look 6 = .ok (.iaload, 1) := by decide +kernel
theorem dX9_look_7 : decode cX9_look 7 = .ok (.putfield 216, 3) := by decide +kernel
theorem dX9_look_10 : decode cX9_look 10 = .ok (.aload_n 0, 1) := by decide +kernel
theorem dX9_look_11 : decode cX9_look 11 = .ok (.aload_n 0, 1) := by decide +kernel
theorem dX9_look_12 : decode cX9_look 12 = .ok (.getfield 19, 3) := by decide +kernel
theorem dX9_look_15 : decode cX9_look 15 = .ok (.iload_n 1, 1) := by decide +kernel
theorem dX9_look_16 : decode cX9_look 16 = .ok (.iaload, 1) := by decide +kernel
theorem dX9_look_17 : decode cX9_look 17 = .ok (.putfield 219, 3) := by decide +kernel
theorem dX9_look_20 : decode cX9_look 20 = .ok (.aload_n 0, 1) := by decide +kernel
theorem dX9_look_21 : decode cX9_look 21 = .ok (.aload_n 0, 1) := by decide +kernel
theorem dX9_look_22 : decode cX9_look 22 = .ok (.iload_n 1, 1) := by decide +kernel
theorem dX9_look_23 : decode cX9_look 23 = .ok (.invokevirtual 195, 3) := by decide +kernel
theorem dX9_look_26 : decode cX9_look 26 = .ok (.putfield 222, 3) := by decide +kernel
theorem dX9_look_29 : decode cX9_look 29 = .ok (.return_, 1) := by decide +kernel
theorem dX9_start_0 : decode cX9_start 0 = .ok (.aload_n 0, 1) := by decide +kernel
theorem dX9_start_1 : decode cX9_start 1 = .ok (.getfield 53, 3) := by decide +kernel
theorem dX9_start_4 : decode cX9_start 4 = .ok (.sipush 402, 3) := by decide +kernel
theorem dX9_start_7 : decode cX9_start 7 = .ok (.iload_n 1, 1) := by decide +kernel
theorem dX9_start_8 : decode cX9_start 8 = .ok (.imul, 1) := by decide +kernel
theorem dX9_start_9 : decode cX9_start 9 = .ok (.iload_n 2, 1) := by decide +kernel
theorem dX9_start_10 : decode cX9_start 10 = .ok (.iastore, 1) := by decide +kernel
theorem dX9_start_11 : decode cX9_start 11 = .ok (.aload_n 0, 1) := by decide +kernel
theorem dX9_start_12 : decode cX9_start 12 = .ok (.getfield 56, 3) := by decide +kernel
theorem dX9_start_15 : decode cX9_start 15 = .ok (.iload_n 1, 1) := by decide +kernel
theorem dX9_start_16 : decode cX9_start 16 = .ok (.iload_n 3, 1) := by decide +kernel
theorem dX9_start_17 : decode cX9_start 17 = .ok (.iastore, 1) := by decide +kernel
theorem dX9_start_18 : decode cX9_start 18 = .ok (.aload_n 0, 1) := by decide +kernel
theorem dX9_start_19 : decode cX9_start 19 = .ok (.getfield 59, 3) := by decide +kernel
theorem dX9_start_22 : decode cX9_start 22 = .ok (.iload_n 1, 1) := by decide +kernel
theorem dX9_start_23 : decode cX9_start 23 = .ok (.iconst 0, 1) := by decide +kernel
theorem dX9_start_24 : decode cX9_start 24 = .ok (.iastore, 1) := by decide +kernel
theorem dX9_start_25 : decode cX9_start 25 = .ok (.aload_n 0, 1) := by decide +kernel
theorem dX9_start_26 : decode cX9_start 26 = .ok (.getfield 62, 3) := by decide +kernel
theorem dX9_start_29 : decode cX9_start 29 = .ok (.iload_n 1, 1) := by decide +kernel
theorem dX9_start_30 : decode cX9_start 30 = .ok (.iconst 0, 1) := by decide +kernel
theorem dX9_start_31 : decode cX9_start 31 = .ok (.iastore, 1) := by decide +kernel
theorem dX9_start_32 : decode cX9_start 32 = .ok (.aload_n 0, 1) := by decide +kernel
theorem dX9_start_33 : decode cX9_start 33 = .ok (.getfield 65, 3) := by decide +kernel
theorem dX9_start_36 : decode cX9_start 36 = .ok (.iload_n 1, 1) := by decide +kernel
theorem dX9_start_37 : decode cX9_start 37 = .ok (.iconst 0, 1) := by decide +kernel
theorem dX9_start_38 : decode cX9_start 38 = .ok (.iastore, 1) := by decide +kernel
theorem dX9_start_39 : decode cX9_start 39 = .ok (.return_, 1) := by decide +kernel
theorem dX9_leansAt_0 : decode cX9_leansAt 0 = .ok (.aload_n 0, 1) := by decide +kernel
theorem dX9_leansAt_1 : decode cX9_leansAt 1 = .ok (.getfield 53, 3) := by decide +kernel
theorem dX9_leansAt_4 : decode cX9_leansAt 4 = .ok (.sipush 402, 3) := by decide +kernel
theorem dX9_leansAt_7 : decode cX9_leansAt 7 = .ok (.iload_n 1, 1) := by decide +kernel
theorem dX9_leansAt_8 : decode cX9_leansAt 8 = .ok (.imul, 1) := by decide +kernel
theorem dX9_leansAt_9 : decode cX9_leansAt 9 = .ok (.aload_n 0, 1) := by decide +kernel
theorem dX9_leansAt_10 : decode cX9_leansAt 10 = .ok (.getfield 62, 3) := by decide +kernel
theorem dX9_leansAt_13 : decode cX9_leansAt 13 = .ok (.iload_n 1, 1) := by decide +kernel
theorem dX9_leansAt_14 : decode cX9_leansAt 14 = .ok (.iaload, 1) := by decide +kernel
theorem dX9_leansAt_15 : decode cX9_leansAt 15 = .ok (.iadd, 1) := by decide +kernel
theorem dX9_leansAt_16 : decode cX9_leansAt 16 = .ok (.iaload, 1) := by decide +kernel
theorem dX9_leansAt_17 : decode cX9_leansAt 17 = .ok (.ireturn, 1) := by decide +kernel
theorem dX9_fell_0 : decode cX9_fell 0 = .ok (.aload_n 0, 1) := by decide +kernel
theorem dX9_fell_1 : decode cX9_fell 1 = .ok (.iload_n 1, 1) := by decide +kernel
theorem dX9_fell_2 : decode cX9_fell 2 = .ok (.invokevirtual 225, 3) := by decide +kernel
theorem dX9_fell_5 : decode cX9_fell 5 = .ok (.istore_n 2, 1) := by decide +kernel
theorem dX9_fell_6 : decode cX9_fell 6 = .ok (.iload_n 2, 1) := by decide +kernel
theorem dX9_fell_7 : decode cX9_fell 7 = .ok (.aload_n 0, 1) := by decide +kernel
theorem dX9_fell_8 : decode cX9_fell 8 = .ok (.getfield 47, 3) := by decide +kernel
theorem dX9_fell_11 : decode cX9_fell 11 = .ok (.if_icmp .gt 12, 3) := by decide +kernel
theorem dX9_fell_14 : decode cX9_fell 14 = .ok (.iload_n 2, 1) := by decide +kernel
theorem dX9_fell_15 : decode cX9_fell 15 = .ok (.aload_n 0, 1) := by decide +kernel
theorem dX9_fell_16 : decode cX9_fell 16 = .ok (.getfield 47, 3) := by decide +kernel
theorem dX9_fell_19 : decode cX9_fell 19 = .ok (.ineg, 1) := by decide +kernel
theorem dX9_fell_20 : decode cX9_fell 20 = .ok (.if_icmp .ge 7, 3) := by decide +kernel
theorem dX9_fell_23 : decode cX9_fell 23 = .ok (.iconst 1, 1) := by decide +kernel
theorem dX9_fell_24 : decode cX9_fell 24 = .ok (.goto 4, 3) := by decide +kernel
theorem dX9_fell_27 : decode cX9_fell 27 = .ok (.iconst 0, 1) := by decide +kernel
theorem dX9_fell_28 : decode cX9_fell 28 = .ok (.ireturn, 1) := by decide +kernel
theorem dX9_minds_0 : decode cX9_minds 0 = .ok (.iload_n 1, 1) := by decide +kernel
theorem dX9_minds_1 : decode cX9_minds 1 = .ok (.aload_n 0, 1) := by decide +kernel
theorem dX9_minds_2 : decode cX9_minds 2 = .ok (.getfield 174, 3) := by decide +kernel
theorem dX9_minds_5 : decode cX9_minds 5 = .ok (.if_icmp .ge 14, 3) := by decide +kernel
theorem dX9_minds_8 : decode cX9_minds 8 = .ok (.iload_n 1, 1) := by decide +kernel
theorem dX9_minds_9 : decode cX9_minds 9 = .ok (.aload_n 0, 1) := by decide +kernel
theorem dX9_minds_10 : decode cX9_minds 10 = .ok (.getfield 174, 3) := by decide +kernel
theorem dX9_minds_13 : decode cX9_minds 13 = .ok (.ineg, 1) := by decide +kernel
theorem dX9_minds_14 : decode cX9_minds 14 = .ok (.if_icmp .le 5, 3) := by decide +kernel
theorem dX9_minds_17 : decode cX9_minds 17 = .ok (.iconst 0, 1) := by decide +kernel
theorem dX9_minds_18 : decode cX9_minds 18 = .ok (.ireturn, 1) := by decide +kernel
theorem dX9_minds_19 : decode cX9_minds 19 = .ok (.aload_n 0, 1) := by decide +kernel
theorem dX9_minds_20 : decode cX9_minds 20 = .ok (.getfield 201, 3) := by decide +kernel
theorem dX9_minds_23 : decode cX9_minds 23 = .ok (.iload_n 1, 1) := by decide +kernel
theorem dX9_minds_24 : decode cX9_minds 24 = .ok (.imul, 1) := by decide +kernel
theorem dX9_minds_25 : decode cX9_minds 25 = .ok (.aload_n 0, 1) := by decide +kernel
theorem dX9_minds_26 : decode cX9_minds 26 = .ok (.getfield 204, 3) := by decide +kernel
theorem dX9_minds_29 : decode cX9_minds 29 = .ok (.iload_n 1, 1) := by decide +kernel
theorem dX9_minds_30 : decode cX9_minds 30 = .ok (.iload_n 2, 1) := by decide +kernel
theorem dX9_minds_31 : decode cX9_minds 31 = .ok (.isub, 1) := by decide +kernel
theorem dX9_minds_32 : decode cX9_minds 32 = .ok (.imul, 1) := by decide +kernel
theorem dX9_minds_33 : decode cX9_minds 33 = .ok (.iadd, 1) := by decide +kernel
theorem dX9_minds_34 : decode cX9_minds 34 = .ok (.bipush 10, 2) := by decide +kernel
theorem dX9_minds_36 : decode cX9_minds 36 = .ok (.idiv, 1) := by decide +kernel
theorem dX9_minds_37 : decode cX9_minds 37 = .ok (.istore_n 3, 1) := by decide +kernel
theorem dX9_minds_38 : decode cX9_minds 38 = .ok (.iload_n 3, 1) := by decide +kernel
theorem dX9_minds_39 : decode cX9_minds 39 = .ok (.aload_n 0, 1) := by decide +kernel
theorem dX9_minds_40 : decode cX9_minds 40 = .ok (.getfield 38, 3) := by decide +kernel
theorem dX9_minds_43 : decode cX9_minds 43 = .ok (.if_icmp .le 10, 3) := by decide +kernel
theorem dX9_minds_46 : decode cX9_minds 46 = .ok (.aload_n 0, 1) := by decide +kernel
theorem dX9_minds_47 : decode cX9_minds 47 = .ok (.getfield 38, 3) := by decide +kernel
theorem dX9_minds_50 : decode cX9_minds 50 = .ok (.goto 21, 3) := by decide +kernel
theorem dX9_minds_53 : decode cX9_minds 53 = .ok (.iload_n 3, 1) := by decide +kernel
theorem dX9_minds_54 : decode cX9_minds 54 = .ok (.aload_n 0, 1) := by decide +kernel
theorem dX9_minds_55 : decode cX9_minds 55 = .ok (.getfield 38, 3) := by decide +kernel
theorem dX9_minds_58 : decode cX9_minds 58 = .ok (.ineg, 1) := by decide +kernel
theorem dX9_minds_59 : decode cX9_minds 59 = .ok (.if_icmp .ge 11, 3) := by decide +kernel
theorem dX9_minds_62 : decode cX9_minds 62 = .ok (.aload_n 0, 1) := by decide +kernel
theorem dX9_minds_63 : decode cX9_minds 63 = .ok (.getfield 38, 3) := by decide +kernel
theorem dX9_minds_66 : decode cX9_minds 66 = .ok (.ineg, 1) := by decide +kernel
theorem dX9_minds_67 : decode cX9_minds 67 = .ok (.goto 4, 3) := by decide +kernel
theorem dX9_minds_70 : decode cX9_minds 70 = .ok (.iload_n 3, 1) := by decide +kernel
theorem dX9_minds_71 : decode cX9_minds 71 = .ok (.ireturn, 1) := by decide +kernel
theorem dX9_moves_0 : decode cX9_moves 0 = .ok (.aload_n 0, 1) := by decide +kernel
theorem dX9_moves_1 : decode cX9_moves 1 = .ok (.getfield 207, 3) := by decide +kernel
theorem dX9_moves_4 : decode cX9_moves 4 = .ok (.aload_n 0, 1) := by decide +kernel
theorem dX9_moves_5 : decode cX9_moves 5 = .ok (.getfield 216, 3) := by decide +kernel
theorem dX9_moves_8 : decode cX9_moves 8 = .ok (.iconst 3, 1) := by decide +kernel
theorem dX9_moves_9 : decode cX9_moves 9 = .ok (.if_icmp .ne 10, 3) := by decide +kernel
theorem dX9_moves_12 : decode cX9_moves 12 = .ok (.aload_n 0, 1) := by decide +kernel
theorem dX9_moves_13 : decode cX9_moves 13 = .ok (.getfield 219, 3) := by decide +kernel
theorem dX9_moves_16 : decode cX9_moves 16 = .ok (.goto 4, 3) := by decide +kernel
theorem dX9_moves_19 : decode cX9_moves 19 = .ok (.iconst 0, 1) := by decide +kernel
theorem dX9_moves_20 : decode cX9_moves 20 = .ok (.iadd, 1) := by decide +kernel
theorem dX9_moves_21 : decode cX9_moves 21 = .ok (.istore_n 2, 1) := by decide +kernel
theorem dX9_moves_22 : decode cX9_moves 22 = .ok (.aload_n 0, 1) := by decide +kernel
theorem dX9_moves_23 : decode cX9_moves 23 = .ok (.getfield 62, 3) := by decide +kernel
theorem dX9_moves_26 : decode cX9_moves 26 = .ok (.iload_n 1, 1) := by decide +kernel
theorem dX9_moves_27 : decode cX9_moves 27 = .ok (.iaload, 1) := by decide +kernel
theorem dX9_moves_28 : decode cX9_moves 28 = .ok (.istore_n 3, 1) := by decide +kernel
theorem dX9_moves_29 : decode cX9_moves 29 = .ok (.aload_n 0, 1) := by decide +kernel
theorem dX9_moves_30 : decode cX9_moves 30 = .ok (.getfield 53, 3) := by decide +kernel
theorem dX9_moves_33 : decode cX9_moves 33 = .ok (.sipush 402, 3) := by decide +kernel
theorem dX9_moves_36 : decode cX9_moves 36 = .ok (.iload_n 1, 1) := by decide +kernel
theorem dX9_moves_37 : decode cX9_moves 37 = .ok (.imul, 1) := by decide +kernel
theorem dX9_moves_38 : decode cX9_moves 38 = .ok (.iload_n 3, 1) := by decide +kernel
theorem dX9_moves_39 : decode cX9_moves 39 = .ok (.iload_n 2, 1) := by decide +kernel
theorem dX9_moves_40 : decode cX9_moves 40 = .ok (.if_icmp .le 9, 3) := by decide +kernel
theorem dX9_moves_43 : decode cX9_moves 43 = .ok (.iload_n 3, 1) := by decide +kernel
theorem dX9_moves_44 : decode cX9_moves 44 = .ok (.iload_n 2, 1) := by decide +kernel
theorem dX9_moves_45 : decode cX9_moves 45 = .ok (.isub, 1) := by decide +kernel
theorem dX9_moves_46 : decode cX9_moves 46 = .ok (.goto 4, 3) := by decide +kernel
theorem dX9_moves_49 : decode cX9_moves 49 = .ok (.iconst 0, 1) := by decide +kernel
theorem dX9_moves_50 : decode cX9_moves 50 = .ok (.iadd, 1) := by decide +kernel
theorem dX9_moves_51 : decode cX9_moves 51 = .ok (.iaload, 1) := by decide +kernel
theorem dX9_moves_52 : decode cX9_moves 52 = .ok (.istore 4, 2) := by decide +kernel
theorem dX9_moves_54 : decode cX9_moves 54 = .ok (.aload_n 0, 1) := by decide +kernel
theorem dX9_moves_55 : decode cX9_moves 55 = .ok (.getfield 53, 3) := by decide +kernel
theorem dX9_moves_58 : decode cX9_moves 58 = .ok (.sipush 402, 3) := by decide +kernel
theorem dX9_moves_61 : decode cX9_moves 61 = .ok (.iload_n 1, 1) := by decide +kernel
theorem dX9_moves_62 : decode cX9_moves 62 = .ok (.imul, 1) := by decide +kernel
theorem dX9_moves_63 : decode cX9_moves 63 = .ok (.iload_n 3, 1) := by decide +kernel
theorem dX9_moves_64 : decode cX9_moves 64 = .ok (.iload_n 2, 1) := by decide +kernel
theorem dX9_moves_65 : decode cX9_moves 65 = .ok (.iconst 1, 1) := by decide +kernel
theorem dX9_moves_66 : decode cX9_moves 66 = .ok (.iadd, 1) := by decide +kernel
theorem dX9_moves_67 : decode cX9_moves 67 = .ok (.if_icmp .le 11, 3) := by decide +kernel
theorem dX9_moves_70 : decode cX9_moves 70 = .ok (.iload_n 3, 1) := by decide +kernel
theorem dX9_moves_71 : decode cX9_moves 71 = .ok (.iload_n 2, 1) := by decide +kernel
theorem dX9_moves_72 : decode cX9_moves 72 = .ok (.isub, 1) := by decide +kernel
theorem dX9_moves_73 : decode cX9_moves 73 = .ok (.iconst 1, 1) := by decide +kernel
theorem dX9_moves_74 : decode cX9_moves 74 = .ok (.isub, 1) := by decide +kernel
theorem dX9_moves_75 : decode cX9_moves 75 = .ok (.goto 4, 3) := by decide +kernel
theorem dX9_moves_78 : decode cX9_moves 78 = .ok (.iconst 0, 1) := by decide +kernel
theorem dX9_moves_79 : decode cX9_moves 79 = .ok (.iadd, 1) := by decide +kernel
theorem dX9_moves_80 : decode cX9_moves 80 = .ok (.iaload, 1) := by decide +kernel
theorem dX9_moves_81 : decode cX9_moves 81 = .ok (.istore 5, 2) := by decide +kernel
theorem dX9_moves_83 : decode cX9_moves 83 = .ok (.aload_n 0, 1) := by decide +kernel
theorem dX9_moves_84 : decode cX9_moves 84 = .ok (.iload 4, 2) := by decide +kernel
theorem dX9_moves_86 : decode cX9_moves 86 = .ok (.iload 5, 2) := by decide +kernel
theorem dX9_moves_88 : decode cX9_moves 88 = .ok (.invokevirtual 228, 3) := by decide +kernel
theorem dX9_moves_91 : decode cX9_moves 91 = .ok (.istore 6, 2) := by decide +kernel
theorem dX9_moves_93 : decode cX9_moves 93 = .ok (.aload_n 0, 1) := by decide +kernel
theorem dX9_moves_94 : decode cX9_moves 94 = .ok (.getfield 59, 3) := by decide +kernel
theorem dX9_moves_97 : decode cX9_moves 97 = .ok (.iload_n 1, 1) := by decide +kernel
theorem dX9_moves_98 : decode cX9_moves 98 = .ok (.iaload, 1) := by decide +kernel
theorem dX9_moves_99 : decode cX9_moves 99 = .ok (.iload 6, 2) := by decide +kernel
theorem dX9_moves_101 : decode cX9_moves 101 = .ok (.iadd, 1) := by decide +kernel
theorem dX9_moves_102 : decode cX9_moves 102 = .ok (.istore 7, 2) := by decide +kernel
theorem dX9_moves_104 : decode cX9_moves 104 = .ok (.iload 7, 2) := by decide +kernel
theorem dX9_moves_106 : decode cX9_moves 106 = .ok (.aload_n 0, 1) := by decide +kernel
theorem dX9_moves_107 : decode cX9_moves 107 = .ok (.getfield 41, 3) := by decide +kernel
theorem dX9_moves_110 : decode cX9_moves 110 = .ok (.if_icmp .le 17, 3) := by decide +kernel
theorem dX9_moves_113 : decode cX9_moves 113 = .ok (.aload_n 0, 1) := by decide +kernel
theorem dX9_moves_114 : decode cX9_moves 114 = .ok (.getfield 41, 3) := by decide +kernel
theorem dX9_moves_117 : decode cX9_moves 117 = .ok (.aload_n 0, 1) := by decide +kernel
theorem dX9_moves_118 : decode cX9_moves 118 = .ok (.getfield 59, 3) := by decide +kernel
theorem dX9_moves_121 : decode cX9_moves 121 = .ok (.iload_n 1, 1) := by decide +kernel
theorem dX9_moves_122 : decode cX9_moves 122 = .ok (.iaload, 1) := by decide +kernel
theorem dX9_moves_123 : decode cX9_moves 123 = .ok (.isub, 1) := by decide +kernel
theorem dX9_moves_124 : decode cX9_moves 124 = .ok (.goto 30, 3) := by decide +kernel
theorem dX9_moves_127 : decode cX9_moves 127 = .ok (.iload 7, 2) := by decide +kernel
theorem dX9_moves_129 : decode cX9_moves 129 = .ok (.aload_n 0, 1) := by decide +kernel
theorem dX9_moves_130 : decode cX9_moves 130 = .ok (.getfield 41, 3) := by decide +kernel
theorem dX9_moves_133 : decode cX9_moves 133 = .ok (.ineg, 1) := by decide +kernel
theorem dX9_moves_134 : decode cX9_moves 134 = .ok (.if_icmp .ge 18, 3) := by decide +kernel
theorem dX9_moves_137 : decode cX9_moves 137 = .ok (.aload_n 0, 1) := by decide +kernel
theorem dX9_moves_138 : decode cX9_moves 138 = .ok (.getfield 41, 3) := by decide +kernel
theorem dX9_moves_141 : decode cX9_moves 141 = .ok (.ineg, 1) := by decide +kernel
theorem dX9_moves_142 : decode cX9_moves 142 = .ok (.aload_n 0, 1) := by decide +kernel
theorem dX9_moves_143 : decode cX9_moves 143 = .ok (.getfield 59, 3) := by decide +kernel
theorem dX9_moves_146 : decode cX9_moves 146 = .ok (.iload_n 1, 1) := by decide +kernel
theorem dX9_moves_147 : decode cX9_moves 147 = .ok (.iaload, 1) := by decide +kernel
theorem dX9_moves_148 : decode cX9_moves 148 = .ok (.isub, 1) := by decide +kernel
theorem dX9_moves_149 : decode cX9_moves 149 = .ok (.goto 5, 3) := by decide +kernel
theorem dX9_moves_152 : decode cX9_moves 152 = .ok (.iload 6, 2) := by decide +kernel
theorem dX9_moves_154 : decode cX9_moves 154 = .ok (.ireturn, 1) := by decide +kernel
theorem dX9_tick_0 : decode cX9_tick 0 = .ok (.aload_n 0, 1) := by decide +kernel
theorem dX9_tick_1 : decode cX9_tick 1 = .ok (.iload_n 1, 1) := by decide +kernel
theorem dX9_tick_2 : decode cX9_tick 2 = .ok (.invokevirtual 225, 3) := by decide +kernel
theorem dX9_tick_5 : decode cX9_tick 5 = .ok (.istore 4, 2) := by decide +kernel
theorem dX9_tick_7 : decode cX9_tick 7 = .ok (.aload_n 0, 1) := by decide +kernel
theorem dX9_tick_8 : decode cX9_tick 8 = .ok (.getfield 56, 3) := by decide +kernel
theorem dX9_tick_11 : decode cX9_tick 11 = .ok (.iload_n 1, 1) := by decide +kernel
theorem dX9_tick_12 : decode cX9_tick 12 = .ok (.iaload, 1) := by decide +kernel
theorem dX9_tick_13 : decode cX9_tick 13 = .ok (.istore 5, 2) := by decide +kernel
theorem dX9_tick_15 : decode cX9_tick 15 = .ok (.iload_n 2, 1) := by decide +kernel
theorem dX9_tick_16 : decode cX9_tick 16 = .ok (.ifCond .eq 11, 3) := by decide +kernel
theorem dX9_tick_19 : decode cX9_tick 19 = .ok (.aload_n 0, 1) := by decide +kernel
theorem dX9_tick_20 : decode cX9_tick 20 = .ok (.iload_n 1, 1) := by decide +kernel
theorem dX9_tick_21 : decode cX9_tick 21 = .ok (.invokevirtual 232, 3) := by decide +kernel
theorem dX9_tick_24 : decode cX9_tick 24 = .ok (.goto 4, 3) := by decide +kernel
theorem dX9_tick_27 : decode cX9_tick 27 = .ok (.iconst 0, 1) := by decide +kernel
theorem dX9_tick_28 : decode cX9_tick 28 = .ok (.istore 6, 2) := by decide +kernel
theorem dX9_tick_30 : decode cX9_tick 30 = .ok (.aload_n 0, 1) := by decide +kernel
theorem dX9_tick_31 : decode cX9_tick 31 = .ok (.getfield 62, 3) := by decide +kernel
theorem dX9_tick_34 : decode cX9_tick 34 = .ok (.iload_n 1, 1) := by decide +kernel
theorem dX9_tick_35 : decode cX9_tick 35 = .ok (.iaload, 1) := by decide +kernel
theorem dX9_tick_36 : decode cX9_tick 36 = .ok (.iconst 2, 1) := by decide +kernel
theorem dX9_tick_37 : decode cX9_tick 37 = .ok (.irem, 1) := by decide +kernel
theorem dX9_tick_38 : decode cX9_tick 38 = .ok (.ifCond .ne 15, 3) := by decide +kernel
theorem dX9_tick_41 : decode cX9_tick 41 = .ok (.aload_n 0, 1) := by decide +kernel
theorem dX9_tick_42 : decode cX9_tick 42 = .ok (.getfield 44, 3) := by decide +kernel
theorem dX9_tick_45 : decode cX9_tick 45 = .ok (.aload_n 0, 1) := by decide +kernel
theorem dX9_tick_46 : decode cX9_tick 46 = .ok (.getfield 210, 3) := by decide +kernel
theorem dX9_tick_49 : decode cX9_tick 49 = .ok (.iadd, 1) := by decide +kernel
theorem dX9_tick_50 : decode cX9_tick 50 = .ok (.goto 12, 3) := by decide +kernel
theorem dX9_tick_53 : decode cX9_tick 53 = .ok (.aload_n 0, 1) := by decide +kernel
theorem dX9_tick_54 : decode cX9_tick 54 = .ok (.getfield 44, 3) := by decide +kernel
theorem dX9_tick_57 : decode cX9_tick 57 = .ok (.aload_n 0, 1) := by decide +kernel
theorem dX9_tick_58 : decode cX9_tick 58 = .ok (.getfield 210, 3) := by decide +kernel
theorem dX9_tick_61 : decode cX9_tick 61 = .ok (.isub, 1) := by decide +kernel
theorem dX9_tick_62 : decode cX9_tick 62 = .ok (.istore 7, 2) := by decide +kernel
theorem dX9_tick_64 : decode cX9_tick 64 = .ok (.iload 4, 2) := by decide +kernel
theorem dX9_tick_66 : decode cX9_tick 66 = .ok (.iload 7, 2) := by decide +kernel
theorem dX9_tick_68 : decode cX9_tick 68 = .ok (.imul, 1) := by decide +kernel
theorem dX9_tick_69 : decode cX9_tick 69 = .ok (.aload_n 0, 1) := by decide +kernel
theorem dX9_tick_70 : decode cX9_tick 70 = .ok (.getfield 222, 3) := by decide +kernel
theorem dX9_tick_73 : decode cX9_tick 73 = .ok (.idiv, 1) := by decide +kernel
theorem dX9_tick_74 : decode cX9_tick 74 = .ok (.istore 8, 2) := by decide +kernel
theorem dX9_tick_76 : decode cX9_tick 76 = .ok (.iload 8, 2) := by decide +kernel
theorem dX9_tick_78 : decode cX9_tick 78 = .ok (.aload_n 0, 1) := by decide +kernel
theorem dX9_tick_79 : decode cX9_tick 79 = .ok (.getfield 216, 3) := by decide +kernel
theorem dX9_tick_82 : decode cX9_tick 82 = .ok (.iconst 1, 1) := by decide +kernel
theorem dX9_tick_83 : decode cX9_tick 83 = .ok (.if_icmp .ne 16, 3) := by decide +kernel
theorem dX9_tick_86 : decode cX9_tick 86 = .ok (.iload 4, 2) := by decide +kernel
theorem dX9_tick_88 : decode cX9_tick 88 = .ok (.aload_n 0, 1) := by decide +kernel
theorem dX9_tick_89 : decode cX9_tick 89 = .ok (.getfield 219, 3) := by decide +kernel
theorem dX9_tick_92 : decode cX9_tick 92 = .ok (.imul, 1) := by decide +kernel
theorem dX9_tick_93 : decode cX9_tick 93 = .ok (.bipush 10, 2) := by decide +kernel
theorem dX9_tick_95 : decode cX9_tick 95 = .ok (.idiv, 1) := by decide +kernel
theorem dX9_tick_96 : decode cX9_tick 96 = .ok (.goto 4, 3) := by decide +kernel
theorem dX9_tick_99 : decode cX9_tick 99 = .ok (.iconst 0, 1) := by decide +kernel
theorem dX9_tick_100 : decode cX9_tick 100 = .ok (.isub, 1) := by decide +kernel
theorem dX9_tick_101 : decode cX9_tick 101 = .ok (.istore 8, 2) := by decide +kernel
theorem dX9_tick_103 : decode cX9_tick 103 = .ok (.iload 8, 2) := by decide +kernel
theorem dX9_tick_105 : decode cX9_tick 105 = .ok (.aload_n 0, 1) := by decide +kernel
theorem dX9_tick_106 : decode cX9_tick 106 = .ok (.getfield 216, 3) := by decide +kernel
theorem dX9_tick_109 : decode cX9_tick 109 = .ok (.iconst 2, 1) := by decide +kernel
theorem dX9_tick_110 : decode cX9_tick 110 = .ok (.if_icmp .ne 16, 3) := by decide +kernel
theorem dX9_tick_113 : decode cX9_tick 113 = .ok (.iload 5, 2) := by decide +kernel
theorem dX9_tick_115 : decode cX9_tick 115 = .ok (.aload_n 0, 1) := by decide +kernel
theorem dX9_tick_116 : decode cX9_tick 116 = .ok (.getfield 219, 3) := by decide +kernel
theorem dX9_tick_119 : decode cX9_tick 119 = .ok (.imul, 1) := by decide +kernel
theorem dX9_tick_120 : decode cX9_tick 120 = .ok (.bipush 20, 2) := by decide +kernel
theorem dX9_tick_122 : decode cX9_tick 122 = .ok (.idiv, 1) := by decide +kernel
theorem dX9_tick_123 : decode cX9_tick 123 = .ok (.goto 4, 3) := by decide +kernel
theorem dX9_tick_126 : decode cX9_tick 126 = .ok (.iconst 0, 1) := by decide +kernel
theorem dX9_tick_127 : decode cX9_tick 127 = .ok (.iadd, 1) := by decide +kernel
theorem dX9_tick_128 : decode cX9_tick 128 = .ok (.istore 8, 2) := by decide +kernel
theorem dX9_tick_130 : decode cX9_tick 130 = .ok (.aload_n 0, 1) := by decide +kernel
theorem dX9_tick_131 : decode cX9_tick 131 = .ok (.getfield 56, 3) := by decide +kernel
theorem dX9_tick_134 : decode cX9_tick 134 = .ok (.iload_n 1, 1) := by decide +kernel
theorem dX9_tick_135 : decode cX9_tick 135 = .ok (.iload 5, 2) := by decide +kernel
theorem dX9_tick_137 : decode cX9_tick 137 = .ok (.iload 8, 2) := by decide +kernel
theorem dX9_tick_139 : decode cX9_tick 139 = .ok (.iadd, 1) := by decide +kernel
theorem dX9_tick_140 : decode cX9_tick 140 = .ok (.iload_n 3, 1) := by decide +kernel
theorem dX9_tick_141 : decode cX9_tick 141 = .ok (.iadd, 1) := by decide +kernel
theorem dX9_tick_142 : decode cX9_tick 142 = .ok (.iastore, 1) := by decide +kernel
theorem dX9_tick_143 : decode cX9_tick 143 = .ok (.aload_n 0, 1) := by decide +kernel
theorem dX9_tick_144 : decode cX9_tick 144 = .ok (.getfield 59, 3) := by decide +kernel
theorem dX9_tick_147 : decode cX9_tick 147 = .ok (.iload_n 1, 1) := by decide +kernel
theorem dX9_tick_148 : decode cX9_tick 148 = .ok (.dup2, 1) := by decide +kernel
theorem dX9_tick_149 : decode cX9_tick 149 = .ok (.iaload, 1) := by decide +kernel
theorem dX9_tick_150 : decode cX9_tick 150 = .ok (.iload 6, 2) := by decide +kernel
theorem dX9_tick_152 : decode cX9_tick 152 = .ok (.iadd, 1) := by decide +kernel
theorem dX9_tick_153 : decode cX9_tick 153 = .ok (.iastore, 1) := by decide +kernel
theorem dX9_tick_154 : decode cX9_tick 154 = .ok (.aload_n 0, 1) := by decide +kernel
theorem dX9_tick_155 : decode cX9_tick 155 = .ok (.getfield 65, 3) := by decide +kernel
theorem dX9_tick_158 : decode cX9_tick 158 = .ok (.iload_n 1, 1) := by decide +kernel
theorem dX9_tick_159 : decode cX9_tick 159 = .ok (.iload 6, 2) := by decide +kernel
theorem dX9_tick_161 : decode cX9_tick 161 = .ok (.iastore, 1) := by decide +kernel
theorem dX9_tick_162 : decode cX9_tick 162 = .ok (.aload_n 0, 1) := by decide +kernel
theorem dX9_tick_163 : decode cX9_tick 163 = .ok (.getfield 62, 3) := by decide +kernel
theorem dX9_tick_166 : decode cX9_tick 166 = .ok (.iload_n 1, 1) := by decide +kernel
theorem dX9_tick_167 : decode cX9_tick 167 = .ok (.dup2, 1) := by decide +kernel
theorem dX9_tick_168 : decode cX9_tick 168 = .ok (.iaload, 1) := by decide +kernel
theorem dX9_tick_169 : decode cX9_tick 169 = .ok (.iconst 1, 1) := by decide +kernel
theorem dX9_tick_170 : decode cX9_tick 170 = .ok (.iadd, 1) := by decide +kernel
theorem dX9_tick_171 : decode cX9_tick 171 = .ok (.iastore, 1) := by decide +kernel
theorem dX9_tick_172 : decode cX9_tick 172 = .ok (.aload_n 0, 1) := by decide +kernel
theorem dX9_tick_173 : decode cX9_tick 173 = .ok (.getfield 53, 3) := by decide +kernel
theorem dX9_tick_176 : decode cX9_tick 176 = .ok (.sipush 402, 3) := by decide +kernel
theorem dX9_tick_179 : decode cX9_tick 179 = .ok (.iload_n 1, 1) := by decide +kernel
theorem dX9_tick_180 : decode cX9_tick 180 = .ok (.imul, 1) := by decide +kernel
theorem dX9_tick_181 : decode cX9_tick 181 = .ok (.aload_n 0, 1) := by decide +kernel
theorem dX9_tick_182 : decode cX9_tick 182 = .ok (.getfield 62, 3) := by decide +kernel
theorem dX9_tick_185 : decode cX9_tick 185 = .ok (.iload_n 1, 1) := by decide +kernel
theorem dX9_tick_186 : decode cX9_tick 186 = .ok (.iaload, 1) := by decide +kernel
theorem dX9_tick_187 : decode cX9_tick 187 = .ok (.iadd, 1) := by decide +kernel
theorem dX9_tick_188 : decode cX9_tick 188 = .ok (.iload 4, 2) := by decide +kernel
theorem dX9_tick_190 : decode cX9_tick 190 = .ok (.aload_n 0, 1) := by decide +kernel
theorem dX9_tick_191 : decode cX9_tick 191 = .ok (.getfield 56, 3) := by decide +kernel
theorem dX9_tick_194 : decode cX9_tick 194 = .ok (.iload_n 1, 1) := by decide +kernel
theorem dX9_tick_195 : decode cX9_tick 195 = .ok (.iaload, 1) := by decide +kernel
theorem dX9_tick_196 : decode cX9_tick 196 = .ok (.iadd, 1) := by decide +kernel
theorem dX9_tick_197 : decode cX9_tick 197 = .ok (.iload 6, 2) := by decide +kernel
theorem dX9_tick_199 : decode cX9_tick 199 = .ok (.isub, 1) := by decide +kernel
theorem dX9_tick_200 : decode cX9_tick 200 = .ok (.iastore, 1) := by decide +kernel
theorem dX9_tick_201 : decode cX9_tick 201 = .ok (.return_, 1) := by decide +kernel
theorem dX9_isX_0 : decode cX9_isX 0 = .ok (.iload_n 0, 1) := by decide +kernel
theorem dX9_isX_1 : decode cX9_isX 1 = .ok (.i2l, 1) := by decide +kernel
theorem dX9_isX_2 : decode cX9_isX 2 = .ok (.ldc2_w 235, 3) := by decide +kernel
theorem dX9_isX_5 : decode cX9_isX 5 = .ok (.ldc2_w 237, 3) := by decide +kernel
theorem dX9_isX_8 : decode cX9_isX 8 = .ok (.invokestatic 92, 3) := by decide +kernel
theorem dX9_isX_11 : decode cX9_isX 11 = .ok (.ireturn, 1) := by decide +kernel
theorem dX9_isV_0 : decode cX9_isV 0 = .ok (.iload_n 0, 1) := by decide +kernel
theorem dX9_isV_1 : decode cX9_isV 1 = .ok (.i2l, 1) := by decide +kernel
theorem dX9_isV_2 : decode cX9_isV 2 = .ok (.ldc2_w 239, 3) := by decide +kernel
theorem dX9_isV_5 : decode cX9_isV 5 = .ok (.ldc2_w 241, 3) := by decide +kernel
theorem dX9_isV_8 : decode cX9_isV 8 = .ok (.invokestatic 92, 3) := by decide +kernel
theorem dX9_isV_11 : decode cX9_isV 11 = .ok (.ireturn, 1) := by decide +kernel
theorem dX9_begin_0 : decode cX9_begin 0 = .ok (.iload_n 1, 1) := by decide +kernel
theorem dX9_begin_1 : decode cX9_begin 1 = .ok (.invokestatic 192, 3) := by decide +kernel
theorem dX9_begin_4 : decode cX9_begin 4 = .ok (.ifCond .ne 6, 3) := by decide +kernel
theorem dX9_begin_7 : decode cX9_begin 7 = .ok (.bipush (-2), 2) := by decide +kernel
theorem dX9_begin_9 : decode cX9_begin 9 = .ok (.ireturn, 1) := by decide +kernel
theorem dX9_begin_10 : decode cX9_begin 10 = .ok (.iload_n 2, 1) := by decide +kernel
theorem dX9_begin_11 : decode cX9_begin 11 = .ok (.invokestatic 243, 3) := by decide +kernel
theorem dX9_begin_14 : decode cX9_begin 14 = .ok (.ifCond .eq 10, 3) := by decide +kernel
theorem dX9_begin_17 : decode cX9_begin 17 = .ok (.iload_n 3, 1) := by decide +kernel
theorem dX9_begin_18 : decode cX9_begin 18 = .ok (.invokestatic 246, 3) := by decide +kernel
theorem dX9_begin_21 : decode cX9_begin 21 = .ok (.ifCond .ne 6, 3) := by decide +kernel
theorem dX9_begin_24 : decode cX9_begin 24 = .ok (.bipush (-3), 2) := by decide +kernel
theorem dX9_begin_26 : decode cX9_begin 26 = .ok (.ireturn, 1) := by decide +kernel
theorem dX9_begin_27 : decode cX9_begin 27 = .ok (.aload_n 0, 1) := by decide +kernel
theorem dX9_begin_28 : decode cX9_begin 28 = .ok (.getfield 22, 3) := by decide +kernel
theorem dX9_begin_31 : decode cX9_begin 31 = .ok (.iload_n 1, 1) := by decide +kernel
theorem dX9_begin_32 : decode cX9_begin 32 = .ok (.iaload, 1) := by decide +kernel
theorem dX9_begin_33 : decode cX9_begin 33 = .ok (.ifCond .ne 6, 3) := by decide +kernel
theorem dX9_begin_36 : decode cX9_begin 36 = .ok (.bipush (-4), 2) := by decide +kernel
theorem dX9_begin_38 : decode cX9_begin 38 = .ok (.ireturn, 1) := by decide +kernel
theorem dX9_begin_39 : decode cX9_begin 39 = .ok (.aload_n 0, 1) := by decide +kernel
theorem dX9_begin_40 : decode cX9_begin 40 = .ok (.getfield 68, 3) := by decide +kernel
theorem dX9_begin_43 : decode cX9_begin 43 = .ok (.iconst 2, 1) := by decide +kernel
theorem dX9_begin_44 : decode cX9_begin 44 = .ok (.iload_n 1, 1) := by decide +kernel
theorem dX9_begin_45 : decode cX9_begin 45 = .ok (.iastore, 1) := by decide +kernel
theorem dX9_begin_46 : decode cX9_begin 46 = .ok (.aload_n 0, 1) := by decide +kernel
theorem dX9_begin_47 : decode cX9_begin 47 = .ok (.iconst 2, 1) := by decide +kernel
theorem dX9_begin_48 : decode cX9_begin 48 = .ok (.iload_n 2, 1) := by decide +kernel
theorem dX9_begin_49 : decode cX9_begin 49 = .ok (.iload_n 3, 1) := by decide +kernel
theorem dX9_begin_50 : decode cX9_begin 50 = .ok (.invokevirtual 249, 3) := by decide +kernel
theorem dX9_begin_53 : decode cX9_begin 53 = .ok (.iconst 1, 1) := by decide +kernel
theorem dX9_begin_54 : decode cX9_begin 54 = .ok (.ireturn, 1) := by decide +kernel
theorem dX9_ticks_0 : decode cX9_ticks 0 = .ok (.iload_n 1, 1) := by decide +kernel
theorem dX9_ticks_1 : decode cX9_ticks 1 = .ok (.i2l, 1) := by decide +kernel
theorem dX9_ticks_2 : decode cX9_ticks 2 = .ok (.lconst 1, 1) := by decide +kernel
theorem dX9_ticks_3 : decode cX9_ticks 3 = .ok (.ldc2_w 253, 3) := by decide +kernel
theorem dX9_ticks_6 : decode cX9_ticks 6 = .ok (.invokestatic 92, 3) := by decide +kernel
theorem dX9_ticks_9 : decode cX9_ticks 9 = .ok (.ifCond .ne 6, 3) := by decide +kernel
theorem dX9_ticks_12 : decode cX9_ticks 12 = .ok (.bipush (-3), 2) := by decide +kernel
theorem dX9_ticks_14 : decode cX9_ticks 14 = .ok (.ireturn, 1) := by decide +kernel
theorem dX9_ticks_15 : decode cX9_ticks 15 = .ok (.aload_n 0, 1) := by decide +kernel
theorem dX9_ticks_16 : decode cX9_ticks 16 = .ok (.getfield 68, 3) := by decide +kernel
theorem dX9_ticks_19 : decode cX9_ticks 19 = .ok (.iconst 2, 1) := by decide +kernel
theorem dX9_ticks_20 : decode cX9_ticks 20 = .ok (.iaload, 1) := by decide +kernel
theorem dX9_ticks_21 : decode cX9_ticks 21 = .ok (.istore_n 2, 1) := by decide +kernel
theorem dX9_ticks_22 : decode cX9_ticks 22 = .ok (.iload_n 2, 1) := by decide +kernel
theorem dX9_ticks_23 : decode cX9_ticks 23 = .ok (.iconst (-1), 1) := by decide +kernel
theorem dX9_ticks_24 : decode cX9_ticks 24 = .ok (.if_icmp .eq 20, 3) := by decide +kernel
theorem dX9_ticks_27 : decode cX9_ticks 27 = .ok (.aload_n 0, 1) := by decide +kernel
theorem dX9_ticks_28 : decode cX9_ticks 28 = .ok (.iconst 2, 1) := by decide +kernel
theorem dX9_ticks_29 : decode cX9_ticks 29 = .ok (.invokevirtual 255, 3) := by decide +kernel
theorem dX9_ticks_32 : decode cX9_ticks 32 = .ok (.ifCond .ne 12, 3) := by decide +kernel
theorem dX9_ticks_35 : decode cX9_ticks 35 = .ok (.aload_n 0, 1) := by decide +kernel
theorem dX9_ticks_36 : decode cX9_ticks 36 = .ok (.getfield 22, 3) := by decide +kernel
theorem dX9_ticks_39 : decode cX9_ticks 39 = .ok (.iload_n 2, 1) := by decide +kernel
theorem dX9_ticks_40 : decode cX9_ticks 40 = .ok (.iaload, 1) := by decide +kernel
theorem dX9_ticks_41 : decode cX9_ticks 41 = .ok (.ifCond .ne 6, 3) := by decide +kernel
theorem dX9_ticks_44 : decode cX9_ticks 44 = .ok (.bipush (-4), 2) := by decide +kernel
theorem dX9_ticks_46 : decode cX9_ticks 46 = .ok (.ireturn, 1) := by decide +kernel
theorem dX9_ticks_47 : decode cX9_ticks 47 = .ok (.aload_n 0, 1) := by decide +kernel
theorem dX9_ticks_48 : decode cX9_ticks 48 = .ok (.iload_n 2, 1) := by decide +kernel
theorem dX9_ticks_49 : decode cX9_ticks 49 = .ok (.invokevirtual 258, 3) := by decide +kernel
theorem dX9_ticks_52 : decode cX9_ticks 52 = .ok (.iconst 0, 1) := by decide +kernel
theorem dX9_ticks_53 : decode cX9_ticks 53 = .ok (.istore_n 3, 1) := by decide +kernel
theorem dX9_ticks_54 : decode cX9_ticks 54 = .ok (.iload_n 3, 1) := by decide +kernel
theorem dX9_ticks_55 : decode cX9_ticks 55 = .ok (.iload_n 1, 1) := by decide +kernel
theorem dX9_ticks_56 : decode cX9_ticks 56 = .ok (.if_icmp .ge 39, 3) := by decide +kernel
theorem dX9_ticks_59 : decode cX9_ticks 59 = .ok (.aload_n 0, 1) := by decide +kernel
theorem dX9_ticks_60 : decode cX9_ticks 60 = .ok (.getfield 62, 3) := by decide +kernel
theorem dX9_ticks_63 : decode cX9_ticks 63 = .ok (.iconst 2, 1) := by decide +kernel
theorem dX9_ticks_64 : decode cX9_ticks 64 = .ok (.iaload, 1) := by decide +kernel
theorem dX9_ticks_65 : decode cX9_ticks 65 = .ok (.sipush 400, 3) := by decide +kernel
theorem dX9_ticks_68 : decode cX9_ticks 68 = .ok (.if_icmp .ge 27, 3) := by decide +kernel
theorem dX9_ticks_71 : decode cX9_ticks 71 = .ok (.aload_n 0, 1) := by decide +kernel
theorem dX9_ticks_72 : decode cX9_ticks 72 = .ok (.iconst 2, 1) := by decide +kernel
theorem dX9_ticks_73 : decode cX9_ticks 73 = .ok (.invokevirtual 255, 3) := by decide +kernel
theorem dX9_ticks_76 : decode cX9_ticks 76 = .ok (.ifCond .ne 19, 3) := by decide +kernel
theorem dX9_ticks_79 : decode cX9_ticks 79 = .ok (.aload_n 0, 1) := by decide +kernel
theorem dX9_ticks_80 : decode cX9_ticks 80 = .ok (.iconst 2, 1) := by decide +kernel
theorem dX9_ticks_81 : decode cX9_ticks 81 = .ok (.iconst 1, 1) := by decide +kernel
theorem dX9_ticks_82 : decode cX9_ticks 82 = .ok (.aload_n 0, 1) := by decide +kernel
theorem dX9_ticks_83 : decode cX9_ticks 83 = .ok (.getfield 177, 3) := by decide +kernel
theorem dX9_ticks_86 : decode cX9_ticks 86 = .ok (.invokevirtual 261, 3) := by decide +kernel
theorem dX9_ticks_89 : decode cX9_ticks 89 = .ok (.iinc 3 1, 3) := by decide +kernel
theorem dX9_ticks_92 : decode cX9_ticks 92 = .ok (.goto (-38), 3) := by decide +kernel
theorem dX9_ticks_95 : decode cX9_ticks 95 = .ok (.iload_n 3, 1) := by decide +kernel
theorem dX9_ticks_96 : decode cX9_ticks 96 = .ok (.ireturn, 1) := by decide +kernel
theorem dX9_now_0 : decode cX9_now 0 = .ok (.iload_n 1, 1) := by decide +kernel
theorem dX9_now_1 : decode cX9_now 1 = .ok (.i2l, 1) := by decide +kernel
theorem dX9_now_2 : decode cX9_now 2 = .ok (.lconst 0, 1) := by decide +kernel
theorem dX9_now_3 : decode cX9_now 3 = .ok (.ldc2_w 265, 3) := by decide +kernel
theorem dX9_now_6 : decode cX9_now 6 = .ok (.invokestatic 92, 3) := by decide +kernel
theorem dX9_now_9 : decode cX9_now 9 = .ok (.ifCond .ne 6, 3) := by decide +kernel
theorem dX9_now_12 : decode cX9_now 12 = .ok (.bipush (-3), 2) := by decide +kernel
theorem dX9_now_14 : decode cX9_now 14 = .ok (.ireturn, 1) := by decide +kernel
theorem dX9_now_15 : decode cX9_now 15 = .ok (.aload_n 0, 1) := by decide +kernel
theorem dX9_now_16 : decode cX9_now 16 = .ok (.getfield 68, 3) := by decide +kernel
theorem dX9_now_19 : decode cX9_now 19 = .ok (.iconst 2, 1) := by decide +kernel
theorem dX9_now_20 : decode cX9_now 20 = .ok (.iaload, 1) := by decide +kernel
theorem dX9_now_21 : decode cX9_now 21 = .ok (.iconst (-1), 1) := by decide +kernel
theorem dX9_now_22 : decode cX9_now 22 = .ok (.if_icmp .ne 6, 3) := by decide +kernel
theorem dX9_now_25 : decode cX9_now 25 = .ok (.bipush (-4), 2) := by decide +kernel
theorem dX9_now_27 : decode cX9_now 27 = .ok (.ireturn, 1) := by decide +kernel
theorem dX9_now_28 : decode cX9_now 28 = .ok (.iload_n 1, 1) := by decide +kernel
theorem dX9_now_29 : decode cX9_now 29 = .ok (.tableswitch 103 0 5 #[39, 49, 60, 71, 78, 89], 39) := by decide +kernel
theorem dX9_now_68 : decode cX9_now 68 = .ok (.aload_n 0, 1) := by decide +kernel
theorem dX9_now_69 : decode cX9_now 69 = .ok (.iconst 2, 1) := by decide +kernel
theorem dX9_now_70 : decode cX9_now 70 = .ok (.invokevirtual 225, 3) := by decide +kernel
theorem dX9_now_73 : decode cX9_now 73 = .ok (.ldc_w 267, 3) := by decide +kernel
theorem dX9_now_76 : decode cX9_now 76 = .ok (.iadd, 1) := by decide +kernel
theorem dX9_now_77 : decode cX9_now 77 = .ok (.ireturn, 1) := by decide +kernel
theorem dX9_now_78 : decode cX9_now 78 = .ok (.aload_n 0, 1) := by decide +kernel
theorem dX9_now_79 : decode cX9_now 79 = .ok (.getfield 56, 3) := by decide +kernel
theorem dX9_now_82 : decode cX9_now 82 = .ok (.iconst 2, 1) := by decide +kernel
theorem dX9_now_83 : decode cX9_now 83 = .ok (.iaload, 1) := by decide +kernel
theorem dX9_now_84 : decode cX9_now 84 = .ok (.ldc_w 267, 3) := by decide +kernel
theorem dX9_now_87 : decode cX9_now 87 = .ok (.iadd, 1) := by decide +kernel
theorem dX9_now_88 : decode cX9_now 88 = .ok (.ireturn, 1) := by decide +kernel
theorem dX9_now_89 : decode cX9_now 89 = .ok (.aload_n 0, 1) := by decide +kernel
theorem dX9_now_90 : decode cX9_now 90 = .ok (.getfield 59, 3) := by decide +kernel
theorem dX9_now_93 : decode cX9_now 93 = .ok (.iconst 2, 1) := by decide +kernel
theorem dX9_now_94 : decode cX9_now 94 = .ok (.iaload, 1) := by decide +kernel
theorem dX9_now_95 : decode cX9_now 95 = .ok (.sipush 1000, 3) := by decide +kernel
theorem dX9_now_98 : decode cX9_now 98 = .ok (.iadd, 1) := by decide +kernel
theorem dX9_now_99 : decode cX9_now 99 = .ok (.ireturn, 1) := by decide +kernel
theorem dX9_now_100 : decode cX9_now 100 = .ok (.aload_n 0, 1) := by decide +kernel
theorem dX9_now_101 : decode cX9_now 101 = .ok (.getfield 62, 3) := by decide +kernel
theorem dX9_now_104 : decode cX9_now 104 = .ok (.iconst 2, 1) := by decide +kernel
theorem dX9_now_105 : decode cX9_now 105 = .ok (.iaload, 1) := by decide +kernel
theorem dX9_now_106 : decode cX9_now 106 = .ok (.ireturn, 1) := by decide +kernel
theorem dX9_now_107 : decode cX9_now 107 = .ok (.aload_n 0, 1) := by decide +kernel
theorem dX9_now_108 : decode cX9_now 108 = .ok (.getfield 65, 3) := by decide +kernel
theorem dX9_now_111 : decode cX9_now 111 = .ok (.iconst 2, 1) := by decide +kernel
theorem dX9_now_112 : decode cX9_now 112 = .ok (.iaload, 1) := by decide +kernel
theorem dX9_now_113 : decode cX9_now 113 = .ok (.sipush 1000, 3) := by decide +kernel
theorem dX9_now_116 : decode cX9_now 116 = .ok (.iadd, 1) := by decide +kernel
theorem dX9_now_117 : decode cX9_now 117 = .ok (.ireturn, 1) := by decide +kernel
theorem dX9_now_118 : decode cX9_now 118 = .ok (.aload_n 0, 1) := by decide +kernel
theorem dX9_now_119 : decode cX9_now 119 = .ok (.iconst 2, 1) := by decide +kernel
theorem dX9_now_120 : decode cX9_now 120 = .ok (.invokevirtual 255, 3) := by decide +kernel
theorem dX9_now_123 : decode cX9_now 123 = .ok (.ifCond .eq 7, 3) := by decide +kernel
theorem dX9_now_126 : decode cX9_now 126 = .ok (.iconst 1, 1) := by decide +kernel
theorem dX9_now_127 : decode cX9_now 127 = .ok (.goto 4, 3) := by decide +kernel
theorem dX9_now_130 : decode cX9_now 130 = .ok (.iconst 0, 1) := by decide +kernel
theorem dX9_now_131 : decode cX9_now 131 = .ok (.ireturn, 1) := by decide +kernel
theorem dX9_now_132 : decode cX9_now 132 = .ok (.aload_n 0, 1) := by decide +kernel
theorem dX9_now_133 : decode cX9_now 133 = .ok (.getfield 68, 3) := by decide +kernel
theorem dX9_now_136 : decode cX9_now 136 = .ok (.iconst 2, 1) := by decide +kernel
theorem dX9_now_137 : decode cX9_now 137 = .ok (.iaload, 1) := by decide +kernel
theorem dX9_now_138 : decode cX9_now 138 = .ok (.ireturn, 1) := by decide +kernel
theorem dX9_copy_0 : decode cX9_copy 0 = .ok (.iconst 0, 1) := by decide +kernel
theorem dX9_copy_1 : decode cX9_copy 1 = .ok (.istore_n 3, 1) := by decide +kernel
theorem dX9_copy_2 : decode cX9_copy 2 = .ok (.iload_n 3, 1) := by decide +kernel
theorem dX9_copy_3 : decode cX9_copy 3 = .ok (.sipush 402, 3) := by decide +kernel
theorem dX9_copy_6 : decode cX9_copy 6 = .ok (.if_icmp .ge 33, 3) := by decide +kernel
theorem dX9_copy_9 : decode cX9_copy 9 = .ok (.aload_n 0, 1) := by decide +kernel
theorem dX9_copy_10 : decode cX9_copy 10 = .ok (.getfield 53, 3) := by decide +kernel
theorem dX9_copy_13 : decode cX9_copy 13 = .ok (.sipush 402, 3) := by decide +kernel
theorem dX9_copy_16 : decode cX9_copy 16 = .ok (.iload_n 2, 1) := by decide +kernel
theorem dX9_copy_17 : decode cX9_copy 17 = .ok (.imul, 1) := by decide +kernel
theorem dX9_copy_18 : decode cX9_copy 18 = .ok (.iload_n 3, 1) := by decide +kernel
theorem dX9_copy_19 : decode cX9_copy 19 = .ok (.iadd, 1) := by decide +kernel
theorem dX9_copy_20 : decode cX9_copy 20 = .ok (.aload_n 0, 1) := by decide +kernel
theorem dX9_copy_21 : decode cX9_copy 21 = .ok (.getfield 53, 3) := by decide +kernel
theorem dX9_copy_24 : decode cX9_copy 24 = .ok (.sipush 402, 3) := by decide +kernel
theorem dX9_copy_27 : decode cX9_copy 27 = .ok (.iload_n 1, 1) := by decide +kernel
theorem dX9_copy_28 : decode cX9_copy 28 = .ok (.imul, 1) := by decide +kernel
theorem dX9_copy_29 : decode cX9_copy 29 = .ok (.iload_n 3, 1) := by decide +kernel
theorem dX9_copy_30 : decode cX9_copy 30 = .ok (.iadd, 1) := by decide +kernel
theorem dX9_copy_31 : decode cX9_copy 31 = .ok (.iaload, 1) := by decide +kernel
theorem dX9_copy_32 : decode cX9_copy 32 = .ok (.iastore, 1) := by decide +kernel
theorem dX9_copy_33 : decode cX9_copy 33 = .ok (.iinc 3 1, 3) := by decide +kernel
theorem dX9_copy_36 : decode cX9_copy 36 = .ok (.goto (-34), 3) := by decide +kernel
theorem dX9_copy_39 : decode cX9_copy 39 = .ok (.aload_n 0, 1) := by decide +kernel
theorem dX9_copy_40 : decode cX9_copy 40 = .ok (.getfield 56, 3) := by decide +kernel
theorem dX9_copy_43 : decode cX9_copy 43 = .ok (.iload_n 2, 1) := by decide +kernel
theorem dX9_copy_44 : decode cX9_copy 44 = .ok (.aload_n 0, 1) := by decide +kernel
theorem dX9_copy_45 : decode cX9_copy 45 = .ok (.getfield 56, 3) := by decide +kernel
theorem dX9_copy_48 : decode cX9_copy 48 = .ok (.iload_n 1, 1) := by decide +kernel
theorem dX9_copy_49 : decode cX9_copy 49 = .ok (.iaload, 1) := by decide +kernel
theorem dX9_copy_50 : decode cX9_copy 50 = .ok (.iastore, 1) := by decide +kernel
theorem dX9_copy_51 : decode cX9_copy 51 = .ok (.aload_n 0, 1) := by decide +kernel
theorem dX9_copy_52 : decode cX9_copy 52 = .ok (.getfield 59, 3) := by decide +kernel
theorem dX9_copy_55 : decode cX9_copy 55 = .ok (.iload_n 2, 1) := by decide +kernel
theorem dX9_copy_56 : decode cX9_copy 56 = .ok (.aload_n 0, 1) := by decide +kernel
theorem dX9_copy_57 : decode cX9_copy 57 = .ok (.getfield 59, 3) := by decide +kernel
theorem dX9_copy_60 : decode cX9_copy 60 = .ok (.iload_n 1, 1) := by decide +kernel
theorem dX9_copy_61 : decode cX9_copy 61 = .ok (.iaload, 1) := by decide +kernel
theorem dX9_copy_62 : decode cX9_copy 62 = .ok (.iastore, 1) := by decide +kernel
theorem dX9_copy_63 : decode cX9_copy 63 = .ok (.aload_n 0, 1) := by decide +kernel
theorem dX9_copy_64 : decode cX9_copy 64 = .ok (.getfield 62, 3) := by decide +kernel
theorem dX9_copy_67 : decode cX9_copy 67 = .ok (.iload_n 2, 1) := by decide +kernel
theorem dX9_copy_68 : decode cX9_copy 68 = .ok (.aload_n 0, 1) := by decide +kernel
theorem dX9_copy_69 : decode cX9_copy 69 = .ok (.getfield 62, 3) := by decide +kernel
theorem dX9_copy_72 : decode cX9_copy 72 = .ok (.iload_n 1, 1) := by decide +kernel
theorem dX9_copy_73 : decode cX9_copy 73 = .ok (.iaload, 1) := by decide +kernel
theorem dX9_copy_74 : decode cX9_copy 74 = .ok (.iastore, 1) := by decide +kernel
theorem dX9_copy_75 : decode cX9_copy 75 = .ok (.aload_n 0, 1) := by decide +kernel
theorem dX9_copy_76 : decode cX9_copy 76 = .ok (.getfield 65, 3) := by decide +kernel
theorem dX9_copy_79 : decode cX9_copy 79 = .ok (.iload_n 2, 1) := by decide +kernel
theorem dX9_copy_80 : decode cX9_copy 80 = .ok (.aload_n 0, 1) := by decide +kernel
theorem dX9_copy_81 : decode cX9_copy 81 = .ok (.getfield 65, 3) := by decide +kernel
theorem dX9_copy_84 : decode cX9_copy 84 = .ok (.iload_n 1, 1) := by decide +kernel
theorem dX9_copy_85 : decode cX9_copy 85 = .ok (.iaload, 1) := by decide +kernel
theorem dX9_copy_86 : decode cX9_copy 86 = .ok (.iastore, 1) := by decide +kernel
theorem dX9_copy_87 : decode cX9_copy 87 = .ok (.aload_n 0, 1) := by decide +kernel
theorem dX9_copy_88 : decode cX9_copy 88 = .ok (.getfield 68, 3) := by decide +kernel
theorem dX9_copy_91 : decode cX9_copy 91 = .ok (.iload_n 2, 1) := by decide +kernel
theorem dX9_copy_92 : decode cX9_copy 92 = .ok (.aload_n 0, 1) := by decide +kernel
theorem dX9_copy_93 : decode cX9_copy 93 = .ok (.getfield 68, 3) := by decide +kernel
theorem dX9_copy_96 : decode cX9_copy 96 = .ok (.iload_n 1, 1) := by decide +kernel
theorem dX9_copy_97 : decode cX9_copy 97 = .ok (.iaload, 1) := by decide +kernel
theorem dX9_copy_98 : decode cX9_copy 98 = .ok (.iastore, 1) := by decide +kernel
theorem dX9_copy_99 : decode cX9_copy 99 = .ok (.return_, 1) := by decide +kernel
theorem dX9_keep_0 : decode cX9_keep 0 = .ok (.iload_n 1, 1) := by decide +kernel
theorem dX9_keep_1 : decode cX9_keep 1 = .ok (.i2l, 1) := by decide +kernel
theorem dX9_keep_2 : decode cX9_keep 2 = .ok (.lconst 0, 1) := by decide +kernel
theorem dX9_keep_3 : decode cX9_keep 3 = .ok (.lconst 1, 1) := by decide +kernel
theorem dX9_keep_4 : decode cX9_keep 4 = .ok (.invokestatic 92, 3) := by decide +kernel
theorem dX9_keep_7 : decode cX9_keep 7 = .ok (.ifCond .ne 6, 3) := by decide +kernel
theorem dX9_keep_10 : decode cX9_keep 10 = .ok (.bipush (-2), 2) := by decide +kernel
theorem dX9_keep_12 : decode cX9_keep 12 = .ok (.ireturn, 1) := by decide +kernel
theorem dX9_keep_13 : decode cX9_keep 13 = .ok (.aload_n 0, 1) := by decide +kernel
theorem dX9_keep_14 : decode cX9_keep 14 = .ok (.getfield 68, 3) := by decide +kernel
theorem dX9_keep_17 : decode cX9_keep 17 = .ok (.iconst 2, 1) := by decide +kernel
theorem dX9_keep_18 : decode cX9_keep 18 = .ok (.iaload, 1) := by decide +kernel
theorem dX9_keep_19 : decode cX9_keep 19 = .ok (.iconst (-1), 1) := by decide +kernel
theorem dX9_keep_20 : decode cX9_keep 20 = .ok (.if_icmp .ne 6, 3) := by decide +kernel
theorem dX9_keep_23 : decode cX9_keep 23 = .ok (.bipush (-4), 2) := by decide +kernel
theorem dX9_keep_25 : decode cX9_keep 25 = .ok (.ireturn, 1) := by decide +kernel
theorem dX9_keep_26 : decode cX9_keep 26 = .ok (.aload_n 0, 1) := by decide +kernel
theorem dX9_keep_27 : decode cX9_keep 27 = .ok (.iconst 2, 1) := by decide +kernel
theorem dX9_keep_28 : decode cX9_keep 28 = .ok (.iconst 3, 1) := by decide +kernel
theorem dX9_keep_29 : decode cX9_keep 29 = .ok (.iload_n 1, 1) := by decide +kernel
theorem dX9_keep_30 : decode cX9_keep 30 = .ok (.iadd, 1) := by decide +kernel
theorem dX9_keep_31 : decode cX9_keep 31 = .ok (.invokevirtual 268, 3) := by decide +kernel
theorem dX9_keep_34 : decode cX9_keep 34 = .ok (.iconst 1, 1) := by decide +kernel
theorem dX9_keep_35 : decode cX9_keep 35 = .ok (.ireturn, 1) := by decide +kernel
theorem dX9_back_0 : decode cX9_back 0 = .ok (.iload_n 1, 1) := by decide +kernel
theorem dX9_back_1 : decode cX9_back 1 = .ok (.i2l, 1) := by decide +kernel
theorem dX9_back_2 : decode cX9_back 2 = .ok (.lconst 0, 1) := by decide +kernel
theorem dX9_back_3 : decode cX9_back 3 = .ok (.lconst 1, 1) := by decide +kernel
theorem dX9_back_4 : decode cX9_back 4 = .ok (.invokestatic 92, 3) := by decide +kernel
theorem dX9_back_7 : decode cX9_back 7 = .ok (.ifCond .ne 6, 3) := by decide +kernel
theorem dX9_back_10 : decode cX9_back 10 = .ok (.bipush (-2), 2) := by decide +kernel
theorem dX9_back_12 : decode cX9_back 12 = .ok (.ireturn, 1) := by decide +kernel
theorem dX9_back_13 : decode cX9_back 13 = .ok (.aload_n 0, 1) := by decide +kernel
theorem dX9_back_14 : decode cX9_back 14 = .ok (.getfield 68, 3) := by decide +kernel
theorem dX9_back_17 : decode cX9_back 17 = .ok (.iconst 3, 1) := by decide +kernel
theorem dX9_back_18 : decode cX9_back 18 = .ok (.iload_n 1, 1) := by decide +kernel
theorem dX9_back_19 : decode cX9_back 19 = .ok (.iadd, 1) := by decide +kernel
theorem dX9_back_20 : decode cX9_back 20 = .ok (.iaload, 1) := by decide +kernel
theorem dX9_back_21 : decode cX9_back 21 = .ok (.iconst (-1), 1) := by decide +kernel
theorem dX9_back_22 : decode cX9_back 22 = .ok (.if_icmp .ne 6, 3) := by decide +kernel
theorem dX9_back_25 : decode cX9_back 25 = .ok (.bipush (-4), 2) := by decide +kernel
theorem dX9_back_27 : decode cX9_back 27 = .ok (.ireturn, 1) := by decide +kernel
theorem dX9_back_28 : decode cX9_back 28 = .ok (.aload_n 0, 1) := by decide +kernel
theorem dX9_back_29 : decode cX9_back 29 = .ok (.iconst 3, 1) := by decide +kernel
theorem dX9_back_30 : decode cX9_back 30 = .ok (.iload_n 1, 1) := by decide +kernel
theorem dX9_back_31 : decode cX9_back 31 = .ok (.iadd, 1) := by decide +kernel
theorem dX9_back_32 : decode cX9_back 32 = .ok (.iconst 2, 1) := by decide +kernel
theorem dX9_back_33 : decode cX9_back 33 = .ok (.invokevirtual 268, 3) := by decide +kernel
theorem dX9_back_36 : decode cX9_back 36 = .ok (.aload_n 0, 1) := by decide +kernel
theorem dX9_back_37 : decode cX9_back 37 = .ok (.getfield 62, 3) := by decide +kernel
theorem dX9_back_40 : decode cX9_back 40 = .ok (.iconst 2, 1) := by decide +kernel
theorem dX9_back_41 : decode cX9_back 41 = .ok (.iaload, 1) := by decide +kernel
theorem dX9_back_42 : decode cX9_back 42 = .ok (.ireturn, 1) := by decide +kernel
theorem dX9_lasts_0 : decode cX9_lasts 0 = .ok (.aload_n 0, 1) := by decide +kernel
theorem dX9_lasts_1 : decode cX9_lasts 1 = .ok (.iconst 0, 1) := by decide +kernel
theorem dX9_lasts_2 : decode cX9_lasts 2 = .ok (.iload_n 1, 1) := by decide +kernel
theorem dX9_lasts_3 : decode cX9_lasts 3 = .ok (.iload_n 2, 1) := by decide +kernel
theorem dX9_lasts_4 : decode cX9_lasts 4 = .ok (.invokevirtual 249, 3) := by decide +kernel
theorem dX9_lasts_7 : decode cX9_lasts 7 = .ok (.aload_n 0, 1) := by decide +kernel
theorem dX9_lasts_8 : decode cX9_lasts 8 = .ok (.getfield 62, 3) := by decide +kernel
theorem dX9_lasts_11 : decode cX9_lasts 11 = .ok (.iconst 0, 1) := by decide +kernel
theorem dX9_lasts_12 : decode cX9_lasts 12 = .ok (.iaload, 1) := by decide +kernel
theorem dX9_lasts_13 : decode cX9_lasts 13 = .ok (.sipush 400, 3) := by decide +kernel
theorem dX9_lasts_16 : decode cX9_lasts 16 = .ok (.if_icmp .ge 24, 3) := by decide +kernel
theorem dX9_lasts_19 : decode cX9_lasts 19 = .ok (.aload_n 0, 1) := by decide +kernel
theorem dX9_lasts_20 : decode cX9_lasts 20 = .ok (.iconst 0, 1) := by decide +kernel
theorem dX9_lasts_21 : decode cX9_lasts 21 = .ok (.invokevirtual 255, 3) := by decide +kernel
theorem dX9_lasts_24 : decode cX9_lasts 24 = .ok (.ifCond .ne 16, 3) := by decide +kernel
theorem dX9_lasts_27 : decode cX9_lasts 27 = .ok (.aload_n 0, 1) := by decide +kernel
theorem dX9_lasts_28 : decode cX9_lasts 28 = .ok (.iconst 0, 1) := by decide +kernel
theorem dX9_lasts_29 : decode cX9_lasts 29 = .ok (.iload_n 3, 1) := by decide +kernel
theorem dX9_lasts_30 : decode cX9_lasts 30 = .ok (.aload_n 0, 1) := by decide +kernel
theorem dX9_lasts_31 : decode cX9_lasts 31 = .ok (.getfield 177, 3) := by decide +kernel
theorem dX9_lasts_34 : decode cX9_lasts 34 = .ok (.invokevirtual 261, 3) := by decide +kernel
theorem dX9_lasts_37 : decode cX9_lasts 37 = .ok (.goto (-30), 3) := by decide +kernel
theorem dX9_lasts_40 : decode cX9_lasts 40 = .ok (.aload_n 0, 1) := by decide +kernel
theorem dX9_lasts_41 : decode cX9_lasts 41 = .ok (.getfield 62, 3) := by decide +kernel
theorem dX9_lasts_44 : decode cX9_lasts 44 = .ok (.iconst 0, 1) := by decide +kernel
theorem dX9_lasts_45 : decode cX9_lasts 45 = .ok (.iaload, 1) := by decide +kernel
theorem dX9_lasts_46 : decode cX9_lasts 46 = .ok (.ireturn, 1) := by decide +kernel
theorem dX9_kept_0 : decode cX9_kept 0 = .ok (.iload_n 1, 1) := by decide +kernel
theorem dX9_kept_1 : decode cX9_kept 1 = .ok (.invokestatic 192, 3) := by decide +kernel
theorem dX9_kept_4 : decode cX9_kept 4 = .ok (.ifCond .ne 6, 3) := by decide +kernel
theorem dX9_kept_7 : decode cX9_kept 7 = .ok (.bipush (-2), 2) := by decide +kernel
theorem dX9_kept_9 : decode cX9_kept 9 = .ok (.ireturn, 1) := by decide +kernel
theorem dX9_kept_10 : decode cX9_kept 10 = .ok (.iload_n 2, 1) := by decide +kernel
theorem dX9_kept_11 : decode cX9_kept 11 = .ok (.invokestatic 243, 3) := by decide +kernel
theorem dX9_kept_14 : decode cX9_kept 14 = .ok (.ifCond .eq 10, 3) := by decide +kernel
theorem dX9_kept_17 : decode cX9_kept 17 = .ok (.iload_n 3, 1) := by decide +kernel
theorem dX9_kept_18 : decode cX9_kept 18 = .ok (.invokestatic 246, 3) := by decide +kernel
theorem dX9_kept_21 : decode cX9_kept 21 = .ok (.ifCond .ne 6, 3) := by decide +kernel
theorem dX9_kept_24 : decode cX9_kept 24 = .ok (.bipush (-3), 2) := by decide +kernel
theorem dX9_kept_26 : decode cX9_kept 26 = .ok (.ireturn, 1) := by decide +kernel
theorem dX9_kept_27 : decode cX9_kept 27 = .ok (.aload_n 0, 1) := by decide +kernel
theorem dX9_kept_28 : decode cX9_kept 28 = .ok (.getfield 22, 3) := by decide +kernel
theorem dX9_kept_31 : decode cX9_kept 31 = .ok (.iload_n 1, 1) := by decide +kernel
theorem dX9_kept_32 : decode cX9_kept 32 = .ok (.iaload, 1) := by decide +kernel
theorem dX9_kept_33 : decode cX9_kept 33 = .ok (.ifCond .ne 6, 3) := by decide +kernel
theorem dX9_kept_36 : decode cX9_kept 36 = .ok (.bipush (-4), 2) := by decide +kernel
theorem dX9_kept_38 : decode cX9_kept 38 = .ok (.ireturn, 1) := by decide +kernel
theorem dX9_kept_39 : decode cX9_kept 39 = .ok (.aload_n 0, 1) := by decide +kernel
theorem dX9_kept_40 : decode cX9_kept 40 = .ok (.iload_n 1, 1) := by decide +kernel
theorem dX9_kept_41 : decode cX9_kept 41 = .ok (.invokevirtual 258, 3) := by decide +kernel
theorem dX9_kept_44 : decode cX9_kept 44 = .ok (.aload_n 0, 1) := by decide +kernel
theorem dX9_kept_45 : decode cX9_kept 45 = .ok (.iload_n 2, 1) := by decide +kernel
theorem dX9_kept_46 : decode cX9_kept 46 = .ok (.iload_n 3, 1) := by decide +kernel
theorem dX9_kept_47 : decode cX9_kept 47 = .ok (.iconst 1, 1) := by decide +kernel
theorem dX9_kept_48 : decode cX9_kept 48 = .ok (.invokevirtual 272, 3) := by decide +kernel
theorem dX9_kept_51 : decode cX9_kept 51 = .ok (.ireturn, 1) := by decide +kernel
theorem dX9_least_0 : decode cX9_least 0 = .ok (.sipush 400, 3) := by decide +kernel
theorem dX9_least_3 : decode cX9_least 3 = .ok (.istore_n 2, 1) := by decide +kernel
theorem dX9_least_4 : decode cX9_least 4 = .ok (.iload_n 1, 1) := by decide +kernel
theorem dX9_least_5 : decode cX9_least 5 = .ok (.ineg, 1) := by decide +kernel
theorem dX9_least_6 : decode cX9_least 6 = .ok (.istore_n 3, 1) := by decide +kernel
theorem dX9_least_7 : decode cX9_least 7 = .ok (.iload_n 3, 1) := by decide +kernel
theorem dX9_least_8 : decode cX9_least 8 = .ok (.iload_n 1, 1) := by decide +kernel
theorem dX9_least_9 : decode cX9_least 9 = .ok (.if_icmp .gt 35, 3) := by decide +kernel
theorem dX9_least_12 : decode cX9_least 12 = .ok (.iload_n 2, 1) := by decide +kernel
theorem dX9_least_13 : decode cX9_least 13 = .ok (.ifCond .le 31, 3) := by decide +kernel
theorem dX9_least_16 : decode cX9_least 16 = .ok (.aload_n 0, 1) := by decide +kernel
theorem dX9_least_17 : decode cX9_least 17 = .ok (.iload_n 3, 1) := by decide +kernel
theorem dX9_least_18 : decode cX9_least 18 = .ok (.iconst 0, 1) := by decide +kernel
theorem dX9_least_19 : decode cX9_least 19 = .ok (.iconst 1, 1) := by decide +kernel
theorem dX9_least_20 : decode cX9_least 20 = .ok (.invokevirtual 272, 3) := by decide +kernel
theorem dX9_least_23 : decode cX9_least 23 = .ok (.istore 4, 2) := by decide +kernel
theorem dX9_least_25 : decode cX9_least 25 = .ok (.iload 4, 2) := by decide +kernel
theorem dX9_least_27 : decode cX9_least 27 = .ok (.iload_n 2, 1) := by decide +kernel
theorem dX9_least_28 : decode cX9_least 28 = .ok (.if_icmp .ge 8, 3) := by decide +kernel
theorem dX9_least_31 : decode cX9_least 31 = .ok (.iload 4, 2) := by decide +kernel
theorem dX9_least_33 : decode cX9_least 33 = .ok (.goto 4, 3) := by decide +kernel
theorem dX9_least_36 : decode cX9_least 36 = .ok (.iload_n 2, 1) := by decide +kernel
theorem dX9_least_37 : decode cX9_least 37 = .ok (.istore_n 2, 1) := by decide +kernel
theorem dX9_least_38 : decode cX9_least 38 = .ok (.iinc 3 1, 3) := by decide +kernel
theorem dX9_least_41 : decode cX9_least 41 = .ok (.goto (-34), 3) := by decide +kernel
theorem dX9_least_44 : decode cX9_least 44 = .ok (.iload_n 2, 1) := by decide +kernel
theorem dX9_least_45 : decode cX9_least 45 = .ok (.ireturn, 1) := by decide +kernel
theorem dX9_isK_0 : decode cX9_isK 0 = .ok (.iload_n 0, 1) := by decide +kernel
theorem dX9_isK_1 : decode cX9_isK 1 = .ok (.i2l, 1) := by decide +kernel
theorem dX9_isK_2 : decode cX9_isK 2 = .ok (.lconst 0, 1) := by decide +kernel
theorem dX9_isK_3 : decode cX9_isK 3 = .ok (.ldc2_w 276, 3) := by decide +kernel
theorem dX9_isK_6 : decode cX9_isK 6 = .ok (.invokestatic 92, 3) := by decide +kernel
theorem dX9_isK_9 : decode cX9_isK 9 = .ok (.ireturn, 1) := by decide +kernel
theorem dX9_steady_0 : decode cX9_steady 0 = .ok (.iload_n 1, 1) := by decide +kernel
theorem dX9_steady_1 : decode cX9_steady 1 = .ok (.invokestatic 192, 3) := by decide +kernel
theorem dX9_steady_4 : decode cX9_steady 4 = .ok (.ifCond .ne 6, 3) := by decide +kernel
theorem dX9_steady_7 : decode cX9_steady 7 = .ok (.bipush (-2), 2) := by decide +kernel
theorem dX9_steady_9 : decode cX9_steady 9 = .ok (.ireturn, 1) := by decide +kernel
theorem dX9_steady_10 : decode cX9_steady 10 = .ok (.iload_n 2, 1) := by decide +kernel
theorem dX9_steady_11 : decode cX9_steady 11 = .ok (.invokestatic 278, 3) := by decide +kernel
theorem dX9_steady_14 : decode cX9_steady 14 = .ok (.ifCond .ne 6, 3) := by decide +kernel
theorem dX9_steady_17 : decode cX9_steady 17 = .ok (.bipush (-3), 2) := by decide +kernel
theorem dX9_steady_19 : decode cX9_steady 19 = .ok (.ireturn, 1) := by decide +kernel
theorem dX9_steady_20 : decode cX9_steady 20 = .ok (.aload_n 0, 1) := by decide +kernel
theorem dX9_steady_21 : decode cX9_steady 21 = .ok (.getfield 22, 3) := by decide +kernel
theorem dX9_steady_24 : decode cX9_steady 24 = .ok (.iload_n 1, 1) := by decide +kernel
theorem dX9_steady_25 : decode cX9_steady 25 = .ok (.iaload, 1) := by decide +kernel
theorem dX9_steady_26 : decode cX9_steady 26 = .ok (.ifCond .ne 6, 3) := by decide +kernel
theorem dX9_steady_29 : decode cX9_steady 29 = .ok (.bipush (-4), 2) := by decide +kernel
theorem dX9_steady_31 : decode cX9_steady 31 = .ok (.ireturn, 1) := by decide +kernel
theorem dX9_steady_32 : decode cX9_steady 32 = .ok (.aload_n 0, 1) := by decide +kernel
theorem dX9_steady_33 : decode cX9_steady 33 = .ok (.iload_n 1, 1) := by decide +kernel
theorem dX9_steady_34 : decode cX9_steady 34 = .ok (.invokevirtual 258, 3) := by decide +kernel
theorem dX9_steady_37 : decode cX9_steady 37 = .ok (.aload_n 0, 1) := by decide +kernel
theorem dX9_steady_38 : decode cX9_steady 38 = .ok (.iload_n 2, 1) := by decide +kernel
theorem dX9_steady_39 : decode cX9_steady 39 = .ok (.invokevirtual 281, 3) := by decide +kernel
theorem dX9_steady_42 : decode cX9_steady 42 = .ok (.ireturn, 1) := by decide +kernel
theorem dX9_stays_0 : decode cX9_stays 0 = .ok (.iconst 1, 1) := by decide +kernel
theorem dX9_stays_1 : decode cX9_stays 1 = .ok (.istore_n 2, 1) := by decide +kernel
theorem dX9_stays_2 : decode cX9_stays 2 = .ok (.iload_n 1, 1) := by decide +kernel
theorem dX9_stays_3 : decode cX9_stays 3 = .ok (.ineg, 1) := by decide +kernel
theorem dX9_stays_4 : decode cX9_stays 4 = .ok (.istore_n 3, 1) := by decide +kernel
theorem dX9_stays_5 : decode cX9_stays 5 = .ok (.iload_n 3, 1) := by decide +kernel
theorem dX9_stays_6 : decode cX9_stays 6 = .ok (.iload_n 1, 1) := by decide +kernel
theorem dX9_stays_7 : decode cX9_stays 7 = .ok (.if_icmp .gt 32, 3) := by decide +kernel
theorem dX9_stays_10 : decode cX9_stays 10 = .ok (.iload_n 2, 1) := by decide +kernel
theorem dX9_stays_11 : decode cX9_stays 11 = .ok (.ifCond .eq 28, 3) := by decide +kernel
theorem dX9_stays_14 : decode cX9_stays 14 = .ok (.aload_n 0, 1) := by decide +kernel
theorem dX9_stays_15 : decode cX9_stays 15 = .ok (.iload_n 3, 1) := by decide +kernel
theorem dX9_stays_16 : decode cX9_stays 16 = .ok (.iconst 0, 1) := by decide +kernel
theorem dX9_stays_17 : decode cX9_stays 17 = .ok (.iconst 1, 1) := by decide +kernel
theorem dX9_stays_18 : decode cX9_stays 18 = .ok (.invokevirtual 272, 3) := by decide +kernel
theorem dX9_stays_21 : decode cX9_stays 21 = .ok (.sipush 400, 3) := by decide +kernel
theorem dX9_stays_24 : decode cX9_stays 24 = .ok (.if_icmp .ne 7, 3) := by decide +kernel
theorem dX9_stays_27 : decode cX9_stays 27 = .ok (.iconst 1, 1) := by decide +kernel
theorem dX9_stays_28 : decode cX9_stays 28 = .ok (.goto 4, 3) := by decide +kernel
theorem dX9_stays_31 : decode cX9_stays 31 = .ok (.iconst 0, 1) := by decide +kernel
theorem dX9_stays_32 : decode cX9_stays 32 = .ok (.istore_n 2, 1) := by decide +kernel
theorem dX9_stays_33 : decode cX9_stays 33 = .ok (.iinc 3 1, 3) := by decide +kernel
theorem dX9_stays_36 : decode cX9_stays 36 = .ok (.goto (-31), 3) := by decide +kernel
theorem dX9_stays_39 : decode cX9_stays 39 = .ok (.iload_n 2, 1) := by decide +kernel
theorem dX9_stays_40 : decode cX9_stays 40 = .ok (.ireturn, 1) := by decide +kernel
theorem dX9_line_0 : decode cX9_line 0 = .ok (.iload_n 1, 1) := by decide +kernel
theorem dX9_line_1 : decode cX9_line 1 = .ok (.invokestatic 278, 3) := by decide +kernel
theorem dX9_line_4 : decode cX9_line 4 = .ok (.ifCond .ne 6, 3) := by decide +kernel
theorem dX9_line_7 : decode cX9_line 7 = .ok (.bipush (-3), 2) := by decide +kernel
theorem dX9_line_9 : decode cX9_line 9 = .ok (.ireturn, 1) := by decide +kernel
theorem dX9_line_10 : decode cX9_line 10 = .ok (.aload_n 0, 1) := by decide +kernel
theorem dX9_line_11 : decode cX9_line 11 = .ok (.iconst 0, 1) := by decide +kernel
theorem dX9_line_12 : decode cX9_line 12 = .ok (.invokevirtual 258, 3) := by decide +kernel
theorem dX9_line_15 : decode cX9_line 15 = .ok (.aload_n 0, 1) := by decide +kernel
theorem dX9_line_16 : decode cX9_line 16 = .ok (.iconst 0, 1) := by decide +kernel
theorem dX9_line_17 : decode cX9_line 17 = .ok (.putfield 216, 3) := by decide +kernel
theorem dX9_line_20 : decode cX9_line 20 = .ok (.aload_n 0, 1) := by decide +kernel
theorem dX9_line_21 : decode cX9_line 21 = .ok (.iconst 0, 1) := by decide +kernel
theorem dX9_line_22 : decode cX9_line 22 = .ok (.putfield 219, 3) := by decide +kernel
theorem dX9_line_25 : decode cX9_line 25 = .ok (.iconst (-1), 1) := by decide +kernel
theorem dX9_line_26 : decode cX9_line 26 = .ok (.istore_n 2, 1) := by decide +kernel
theorem dX9_line_27 : decode cX9_line 27 = .ok (.iconst 1, 1) := by decide +kernel
theorem dX9_line_28 : decode cX9_line 28 = .ok (.istore_n 3, 1) := by decide +kernel
theorem dX9_line_29 : decode cX9_line 29 = .ok (.sipush 300, 3) := by decide +kernel
theorem dX9_line_32 : decode cX9_line 32 = .ok (.istore 4, 2) := by decide +kernel
theorem dX9_line_34 : decode cX9_line 34 = .ok (.iload 4, 2) := by decide +kernel
theorem dX9_line_36 : decode cX9_line 36 = .ok (.ifCond .le 36, 3) := by decide +kernel
theorem dX9_line_39 : decode cX9_line 39 = .ok (.iload_n 3, 1) := by decide +kernel
theorem dX9_line_40 : decode cX9_line 40 = .ok (.ifCond .eq 32, 3) := by decide +kernel
theorem dX9_line_43 : decode cX9_line 43 = .ok (.aload_n 0, 1) := by decide +kernel
theorem dX9_line_44 : decode cX9_line 44 = .ok (.iload 4, 2) := by decide +kernel
theorem dX9_line_46 : decode cX9_line 46 = .ok (.putfield 222, 3) := by decide +kernel
theorem dX9_line_49 : decode cX9_line 49 = .ok (.aload_n 0, 1) := by decide +kernel
theorem dX9_line_50 : decode cX9_line 50 = .ok (.iload_n 1, 1) := by decide +kernel
theorem dX9_line_51 : decode cX9_line 51 = .ok (.invokevirtual 284, 3) := by decide +kernel
theorem dX9_line_54 : decode cX9_line 54 = .ok (.istore_n 3, 1) := by decide +kernel
theorem dX9_line_55 : decode cX9_line 55 = .ok (.iload_n 3, 1) := by decide +kernel
theorem dX9_line_56 : decode cX9_line 56 = .ok (.ifCond .eq 8, 3) := by decide +kernel
theorem dX9_line_59 : decode cX9_line 59 = .ok (.iload 4, 2) := by decide +kernel
theorem dX9_line_61 : decode cX9_line 61 = .ok (.goto 4, 3) := by decide +kernel
theorem dX9_line_64 : decode cX9_line 64 = .ok (.iload_n 2, 1) := by decide +kernel
theorem dX9_line_65 : decode cX9_line 65 = .ok (.istore_n 2, 1) := by decide +kernel
theorem dX9_line_66 : decode cX9_line 66 = .ok (.iinc 4 (-1), 3) := by decide +kernel
theorem dX9_line_69 : decode cX9_line 69 = .ok (.goto (-35), 3) := by decide +kernel
theorem dX9_line_72 : decode cX9_line 72 = .ok (.iload_n 2, 1) := by decide +kernel
theorem dX9_line_73 : decode cX9_line 73 = .ok (.ireturn, 1) := by decide +kernel
theorem dX9_best_0 : decode cX9_best 0 = .ok (.iload_n 1, 1) := by decide +kernel
theorem dX9_best_1 : decode cX9_best 1 = .ok (.invokestatic 192, 3) := by decide +kernel
theorem dX9_best_4 : decode cX9_best 4 = .ok (.ifCond .ne 6, 3) := by decide +kernel
theorem dX9_best_7 : decode cX9_best 7 = .ok (.bipush (-2), 2) := by decide +kernel
theorem dX9_best_9 : decode cX9_best 9 = .ok (.ireturn, 1) := by decide +kernel
theorem dX9_best_10 : decode cX9_best 10 = .ok (.iload_n 2, 1) := by decide +kernel
theorem dX9_best_11 : decode cX9_best 11 = .ok (.i2l, 1) := by decide +kernel
theorem dX9_best_12 : decode cX9_best 12 = .ok (.lconst 0, 1) := by decide +kernel
theorem dX9_best_13 : decode cX9_best 13 = .ok (.ldc2_w 287, 3) := by decide +kernel
theorem dX9_best_16 : decode cX9_best 16 = .ok (.invokestatic 92, 3) := by decide +kernel
theorem dX9_best_19 : decode cX9_best 19 = .ok (.ifCond .eq 15, 3) := by decide +kernel
theorem dX9_best_22 : decode cX9_best 22 = .ok (.iload_n 3, 1) := by decide +kernel
theorem dX9_best_23 : decode cX9_best 23 = .ok (.i2l, 1) := by decide +kernel
theorem dX9_best_24 : decode cX9_best 24 = .ok (.lconst 0, 1) := by decide +kernel
theorem dX9_best_25 : decode cX9_best 25 = .ok (.ldc2_w 289, 3) := by decide +kernel
theorem dX9_best_28 : decode cX9_best 28 = .ok (.invokestatic 92, 3) := by decide +kernel
theorem dX9_best_31 : decode cX9_best 31 = .ok (.ifCond .ne 6, 3) := by decide +kernel
theorem dX9_best_34 : decode cX9_best 34 = .ok (.bipush (-3), 2) := by decide +kernel
theorem dX9_best_36 : decode cX9_best 36 = .ok (.ireturn, 1) := by decide +kernel
theorem dX9_best_37 : decode cX9_best 37 = .ok (.aload_n 0, 1) := by decide +kernel
theorem dX9_best_38 : decode cX9_best 38 = .ok (.getfield 22, 3) := by decide +kernel
theorem dX9_best_41 : decode cX9_best 41 = .ok (.iload_n 1, 1) := by decide +kernel
theorem dX9_best_42 : decode cX9_best 42 = .ok (.iaload, 1) := by decide +kernel
theorem dX9_best_43 : decode cX9_best 43 = .ok (.ifCond .ne 6, 3) := by decide +kernel
theorem dX9_best_46 : decode cX9_best 46 = .ok (.bipush (-4), 2) := by decide +kernel
theorem dX9_best_48 : decode cX9_best 48 = .ok (.ireturn, 1) := by decide +kernel
theorem dX9_best_49 : decode cX9_best 49 = .ok (.aload_n 0, 1) := by decide +kernel
theorem dX9_best_50 : decode cX9_best 50 = .ok (.iload_n 1, 1) := by decide +kernel
theorem dX9_best_51 : decode cX9_best 51 = .ok (.invokevirtual 258, 3) := by decide +kernel
theorem dX9_best_54 : decode cX9_best 54 = .ok (.iconst (-1), 1) := by decide +kernel
theorem dX9_best_55 : decode cX9_best 55 = .ok (.istore 4, 2) := by decide +kernel
theorem dX9_best_57 : decode cX9_best 57 = .ok (.iconst 0, 1) := by decide +kernel
theorem dX9_best_58 : decode cX9_best 58 = .ok (.istore 5, 2) := by decide +kernel
theorem dX9_best_60 : decode cX9_best 60 = .ok (.iconst 0, 1) := by decide +kernel
theorem dX9_best_61 : decode cX9_best 61 = .ok (.istore 6, 2) := by decide +kernel
theorem dX9_best_63 : decode cX9_best 63 = .ok (.iload 6, 2) := by decide +kernel
theorem dX9_best_65 : decode cX9_best 65 = .ok (.sipush 441, 3) := by decide +kernel
theorem dX9_best_68 : decode cX9_best 68 = .ok (.if_icmp .ge 91, 3) := by decide +kernel
theorem dX9_best_71 : decode cX9_best 71 = .ok (.aload_n 0, 1) := by decide +kernel
theorem dX9_best_72 : decode cX9_best 72 = .ok (.iload 6, 2) := by decide +kernel
theorem dX9_best_74 : decode cX9_best 74 = .ok (.bipush 21, 2) := by decide +kernel
theorem dX9_best_76 : decode cX9_best 76 = .ok (.idiv, 1) := by decide +kernel
theorem dX9_best_77 : decode cX9_best 77 = .ok (.putfield 201, 3) := by decide +kernel
theorem dX9_best_80 : decode cX9_best 80 = .ok (.aload_n 0, 1) := by decide +kernel
theorem dX9_best_81 : decode cX9_best 81 = .ok (.iload 6, 2) := by decide +kernel
theorem dX9_best_83 : decode cX9_best 83 = .ok (.bipush 21, 2) := by decide +kernel
theorem dX9_best_85 : decode cX9_best 85 = .ok (.irem, 1) := by decide +kernel
theorem dX9_best_86 : decode cX9_best 86 = .ok (.putfield 204, 3) := by decide +kernel
theorem dX9_best_89 : decode cX9_best 89 = .ok (.iconst 0, 1) := by decide +kernel
theorem dX9_best_90 : decode cX9_best 90 = .ok (.istore 7, 2) := by decide +kernel
theorem dX9_best_92 : decode cX9_best 92 = .ok (.iload_n 2, 1) := by decide +kernel
theorem dX9_best_93 : decode cX9_best 93 = .ok (.ineg, 1) := by decide +kernel
theorem dX9_best_94 : decode cX9_best 94 = .ok (.istore 8, 2) := by decide +kernel
theorem dX9_best_96 : decode cX9_best 96 = .ok (.iload 8, 2) := by decide +kernel
theorem dX9_best_98 : decode cX9_best 98 = .ok (.iload_n 2, 1) := by decide +kernel
theorem dX9_best_99 : decode cX9_best 99 = .ok (.if_icmp .gt 22, 3) := by decide +kernel
theorem dX9_best_102 : decode cX9_best 102 = .ok (.iload 7, 2) := by decide +kernel
theorem dX9_best_104 : decode cX9_best 104 = .ok (.aload_n 0, 1) := by decide +kernel
theorem dX9_best_105 : decode cX9_best 105 = .ok (.iload 8, 2) := by decide +kernel
theorem dX9_best_107 : decode cX9_best 107 = .ok (.iconst 0, 1) := by decide +kernel
theorem dX9_best_108 : decode cX9_best 108 = .ok (.iconst 1, 1) := by decide +kernel
theorem dX9_best_109 : decode cX9_best 109 = .ok (.invokevirtual 272, 3) := by decide +kernel
theorem dX9_best_112 : decode cX9_best 112 = .ok (.iadd, 1) := by decide +kernel
theorem dX9_best_113 : decode cX9_best 113 = .ok (.istore 7, 2) := by decide +kernel
theorem dX9_best_115 : decode cX9_best 115 = .ok (.iinc 8 1, 3) := by decide +kernel
theorem dX9_best_118 : decode cX9_best 118 = .ok (.goto (-22), 3) := by decide +kernel
theorem dX9_best_121 : decode cX9_best 121 = .ok (.iload 7, 2) := by decide +kernel
theorem dX9_best_123 : decode cX9_best 123 = .ok (.iload 4, 2) := by decide +kernel
theorem dX9_best_125 : decode cX9_best 125 = .ok (.if_icmp .le 8, 3) := by decide +kernel
theorem dX9_best_128 : decode cX9_best 128 = .ok (.iload 6, 2) := by decide +kernel
theorem dX9_best_130 : decode cX9_best 130 = .ok (.goto 5, 3) := by decide +kernel
theorem dX9_best_133 : decode cX9_best 133 = .ok (.iload 5, 2) := by decide +kernel
theorem dX9_best_135 : decode cX9_best 135 = .ok (.istore 5, 2) := by decide +kernel
theorem dX9_best_137 : decode cX9_best 137 = .ok (.iload 7, 2) := by decide +kernel
theorem dX9_best_139 : decode cX9_best 139 = .ok (.iload 4, 2) := by decide +kernel
theorem dX9_best_141 : decode cX9_best 141 = .ok (.if_icmp .le 8, 3) := by decide +kernel
theorem dX9_best_144 : decode cX9_best 144 = .ok (.iload 7, 2) := by decide +kernel
theorem dX9_best_146 : decode cX9_best 146 = .ok (.goto 5, 3) := by decide +kernel
theorem dX9_best_149 : decode cX9_best 149 = .ok (.iload 4, 2) := by decide +kernel
theorem dX9_best_151 : decode cX9_best 151 = .ok (.istore 4, 2) := by decide +kernel
theorem dX9_best_153 : decode cX9_best 153 = .ok (.iinc 6 1, 3) := by decide +kernel
theorem dX9_best_156 : decode cX9_best 156 = .ok (.goto (-93), 3) := by decide +kernel
theorem dX9_best_159 : decode cX9_best 159 = .ok (.iload_n 3, 1) := by decide +kernel
theorem dX9_best_160 : decode cX9_best 160 = .ok (.ifCond .ne 8, 3) := by decide +kernel
theorem dX9_best_163 : decode cX9_best 163 = .ok (.iload 4, 2) := by decide +kernel
theorem dX9_best_165 : decode cX9_best 165 = .ok (.goto 21, 3) := by decide +kernel
theorem dX9_best_168 : decode cX9_best 168 = .ok (.iload_n 3, 1) := by decide +kernel
theorem dX9_best_169 : decode cX9_best 169 = .ok (.iconst 1, 1) := by decide +kernel
theorem dX9_best_170 : decode cX9_best 170 = .ok (.if_icmp .ne 11, 3) := by decide +kernel
theorem dX9_best_173 : decode cX9_best 173 = .ok (.iload 5, 2) := by decide +kernel
theorem dX9_best_175 : decode cX9_best 175 = .ok (.bipush 21, 2) := by decide +kernel
theorem dX9_best_177 : decode cX9_best 177 = .ok (.idiv, 1) := by decide +kernel
theorem dX9_best_178 : decode cX9_best 178 = .ok (.goto 8, 3) := by decide +kernel
theorem dX9_best_181 : decode cX9_best 181 = .ok (.iload 5, 2) := by decide +kernel
theorem dX9_best_183 : decode cX9_best 183 = .ok (.bipush 21, 2) := by decide +kernel
theorem dX9_best_185 : decode cX9_best 185 = .ok (.irem, 1) := by decide +kernel
theorem dX9_best_186 : decode cX9_best 186 = .ok (.ireturn, 1) := by decide +kernel
theorem dX9_divisor_0 : decode cX9_divisor 0 = .ok (.iload_n 0, 1) := by decide +kernel
theorem dX9_divisor_1 : decode cX9_divisor 1 = .ok (.istore_n 2, 1) := by decide +kernel
theorem dX9_divisor_2 : decode cX9_divisor 2 = .ok (.iload_n 1, 1) := by decide +kernel
theorem dX9_divisor_3 : decode cX9_divisor 3 = .ok (.istore_n 3, 1) := by decide +kernel
theorem dX9_divisor_4 : decode cX9_divisor 4 = .ok (.iload_n 3, 1) := by decide +kernel
theorem dX9_divisor_5 : decode cX9_divisor 5 = .ok (.ifCond .eq 16, 3) := by decide +kernel
theorem dX9_divisor_8 : decode cX9_divisor 8 = .ok (.iload_n 2, 1) := by decide +kernel
theorem dX9_divisor_9 : decode cX9_divisor 9 = .ok (.iload_n 3, 1) := by decide +kernel
theorem dX9_divisor_10 : decode cX9_divisor 10 = .ok (.irem, 1) := by decide +kernel
theorem dX9_divisor_11 : decode cX9_divisor 11 = .ok (.istore 4, 2) := by decide +kernel
theorem dX9_divisor_13 : decode cX9_divisor 13 = .ok (.iload_n 3, 1) := by decide +kernel
theorem dX9_divisor_14 : decode cX9_divisor 14 = .ok (.istore_n 2, 1) := by decide +kernel
theorem dX9_divisor_15 : decode cX9_divisor 15 = .ok (.iload 4, 2) := by decide +kernel
theorem dX9_divisor_17 : decode cX9_divisor 17 = .ok (.istore_n 3, 1) := by decide +kernel
theorem dX9_divisor_18 : decode cX9_divisor 18 = .ok (.goto (-14), 3) := by decide +kernel
theorem dX9_divisor_21 : decode cX9_divisor 21 = .ok (.iload_n 2, 1) := by decide +kernel
theorem dX9_divisor_22 : decode cX9_divisor 22 = .ok (.ireturn, 1) := by decide +kernel
theorem dX9_weightOf_0 : decode cX9_weightOf 0 = .ok (.aload_n 0, 1) := by decide +kernel
theorem dX9_weightOf_1 : decode cX9_weightOf 1 = .ok (.iconst 0, 1) := by decide +kernel
theorem dX9_weightOf_2 : decode cX9_weightOf 2 = .ok (.iload_n 2, 1) := by decide +kernel
theorem dX9_weightOf_3 : decode cX9_weightOf 3 = .ok (.iconst 0, 1) := by decide +kernel
theorem dX9_weightOf_4 : decode cX9_weightOf 4 = .ok (.invokevirtual 249, 3) := by decide +kernel
theorem dX9_weightOf_7 : decode cX9_weightOf 7 = .ok (.iload_n 1, 1) := by decide +kernel
theorem dX9_weightOf_8 : decode cX9_weightOf 8 = .ok (.istore 6, 2) := by decide +kernel
theorem dX9_weightOf_10 : decode cX9_weightOf 10 = .ok (.iconst 1, 1) := by decide +kernel
theorem dX9_weightOf_11 : decode cX9_weightOf 11 = .ok (.istore 7, 2) := by decide +kernel
theorem dX9_weightOf_13 : decode cX9_weightOf 13 = .ok (.iconst 0, 1) := by decide +kernel
theorem dX9_weightOf_14 : decode cX9_weightOf 14 = .ok (.istore 8, 2) := by decide +kernel
theorem dX9_weightOf_16 : decode cX9_weightOf 16 = .ok (.iload 8, 2) := by decide +kernel
theorem dX9_weightOf_18 : decode cX9_weightOf 18 = .ok (.iload_n 3, 1) := by decide +kernel
theorem dX9_weightOf_19 : decode cX9_weightOf 19 = .ok (.if_icmp .ge 86, 3) := by decide +kernel
theorem dX9_weightOf_22 : decode cX9_weightOf 22 = .ok (.aload_n 0, 1) := by decide +kernel
theorem dX9_weightOf_23 : decode cX9_weightOf 23 = .ok (.iconst 0, 1) := by decide +kernel
theorem dX9_weightOf_24 : decode cX9_weightOf 24 = .ok (.invokevirtual 255, 3) := by decide +kernel
theorem dX9_weightOf_27 : decode cX9_weightOf 27 = .ok (.ifCond .ne 78, 3) := by decide +kernel
theorem dX9_weightOf_30 : decode cX9_weightOf 30 = .ok (.iload 6, 2) := by decide +kernel
theorem dX9_weightOf_32 : decode cX9_weightOf 32 = .ok (.iconst 3, 1) := by decide +kernel
theorem dX9_weightOf_33 : decode cX9_weightOf 33 = .ok (.irem, 1) := by decide +kernel
theorem dX9_weightOf_34 : decode cX9_weightOf 34 = .ok (.istore 9, 2) := by decide +kernel
theorem dX9_weightOf_36 : decode cX9_weightOf 36 = .ok (.iload 6, 2) := by decide +kernel
theorem dX9_weightOf_38 : decode cX9_weightOf 38 = .ok (.iconst 3, 1) := by decide +kernel
theorem dX9_weightOf_39 : decode cX9_weightOf 39 = .ok (.idiv, 1) := by decide +kernel
theorem dX9_weightOf_40 : decode cX9_weightOf 40 = .ok (.istore 6, 2) := by decide +kernel
theorem dX9_weightOf_42 : decode cX9_weightOf 42 = .ok (.iload 7, 2) := by decide +kernel
theorem dX9_weightOf_44 : decode cX9_weightOf 44 = .ok (.iload 9, 2) := by decide +kernel
theorem dX9_weightOf_46 : decode cX9_weightOf 46 = .ok (.ifCond .ne 13, 3) := by decide +kernel
theorem dX9_weightOf_49 : decode cX9_weightOf 49 = .ok (.bipush 10, 2) := by decide +kernel
theorem dX9_weightOf_51 : decode cX9_weightOf 51 = .ok (.iconst 2, 1) := by decide +kernel
theorem dX9_weightOf_52 : decode cX9_weightOf 52 = .ok (.iload 5, 2) := by decide +kernel
theorem dX9_weightOf_54 : decode cX9_weightOf 54 = .ok (.imul, 1) := by decide +kernel
theorem dX9_weightOf_55 : decode cX9_weightOf 55 = .ok (.isub, 1) := by decide +kernel
theorem dX9_weightOf_56 : decode cX9_weightOf 56 = .ok (.goto 5, 3) := by decide +kernel
theorem dX9_weightOf_59 : decode cX9_weightOf 59 = .ok (.iload 5, 2) := by decide +kernel
theorem dX9_weightOf_61 : decode cX9_weightOf 61 = .ok (.imul, 1) := by decide +kernel
theorem dX9_weightOf_62 : decode cX9_weightOf 62 = .ok (.istore 7, 2) := by decide +kernel
theorem dX9_weightOf_64 : decode cX9_weightOf 64 = .ok (.aload_n 0, 1) := by decide +kernel
theorem dX9_weightOf_65 : decode cX9_weightOf 65 = .ok (.iconst 0, 1) := by decide +kernel
theorem dX9_weightOf_66 : decode cX9_weightOf 66 = .ok (.iconst 1, 1) := by decide +kernel
theorem dX9_weightOf_67 : decode cX9_weightOf 67 = .ok (.aload_n 0, 1) := by decide +kernel
theorem dX9_weightOf_68 : decode cX9_weightOf 68 = .ok (.getfield 177, 3) := by decide +kernel
theorem dX9_weightOf_71 : decode cX9_weightOf 71 = .ok (.iload 9, 2) := by decide +kernel
theorem dX9_weightOf_73 : decode cX9_weightOf 73 = .ok (.iconst 1, 1) := by decide +kernel
theorem dX9_weightOf_74 : decode cX9_weightOf 74 = .ok (.if_icmp .ne 8, 3) := by decide +kernel
theorem dX9_weightOf_77 : decode cX9_weightOf 77 = .ok (.iload 4, 2) := by decide +kernel
theorem dX9_weightOf_79 : decode cX9_weightOf 79 = .ok (.goto 16, 3) := by decide +kernel
theorem dX9_weightOf_82 : decode cX9_weightOf 82 = .ok (.iload 9, 2) := by decide +kernel
theorem dX9_weightOf_84 : decode cX9_weightOf 84 = .ok (.iconst 2, 1) := by decide +kernel
theorem dX9_weightOf_85 : decode cX9_weightOf 85 = .ok (.if_icmp .ne 9, 3) := by decide +kernel
theorem dX9_weightOf_88 : decode cX9_weightOf 88 = .ok (.iload 4, 2) := by decide +kernel
theorem dX9_weightOf_90 : decode cX9_weightOf 90 = .ok (.ineg, 1) := by decide +kernel
theorem dX9_weightOf_91 : decode cX9_weightOf 91 = .ok (.goto 4, 3) := by decide +kernel
theorem dX9_weightOf_94 : decode cX9_weightOf 94 = .ok (.iconst 0, 1) := by decide +kernel
theorem dX9_weightOf_95 : decode cX9_weightOf 95 = .ok (.iadd, 1) := by decide +kernel
theorem dX9_weightOf_96 : decode cX9_weightOf 96 = .ok (.invokevirtual 261, 3) := by decide +kernel
theorem dX9_weightOf_99 : decode cX9_weightOf 99 = .ok (.iinc 8 1, 3) := by decide +kernel
theorem dX9_weightOf_102 : decode cX9_weightOf 102 = .ok (.goto (-86), 3) := by decide +kernel
theorem dX9_weightOf_105 : decode cX9_weightOf 105 = .ok (.aload_n 0, 1) := by decide +kernel
theorem dX9_weightOf_106 : decode cX9_weightOf 106 = .ok (.iconst 0, 1) := by decide +kernel
theorem dX9_weightOf_107 : decode cX9_weightOf 107 = .ok (.invokevirtual 255, 3) := by decide +kernel
theorem dX9_weightOf_110 : decode cX9_weightOf 110 = .ok (.ifCond .eq 7, 3) := by decide +kernel
theorem dX9_weightOf_113 : decode cX9_weightOf 113 = .ok (.iconst 0, 1) := by decide +kernel
theorem dX9_weightOf_114 : decode cX9_weightOf 114 = .ok (.goto 5, 3) := by decide +kernel
theorem dX9_weightOf_117 : decode cX9_weightOf 117 = .ok (.iload 7, 2) := by decide +kernel
theorem dX9_weightOf_119 : decode cX9_weightOf 119 = .ok (.ireturn, 1) := by decide +kernel
theorem dX9_odds_0 : decode cX9_odds 0 = .ok (.iload_n 1, 1) := by decide +kernel
theorem dX9_odds_1 : decode cX9_odds 1 = .ok (.invokestatic 192, 3) := by decide +kernel
theorem dX9_odds_4 : decode cX9_odds 4 = .ok (.ifCond .ne 6, 3) := by decide +kernel
theorem dX9_odds_7 : decode cX9_odds 7 = .ok (.bipush (-2), 2) := by decide +kernel
theorem dX9_odds_9 : decode cX9_odds 9 = .ok (.ireturn, 1) := by decide +kernel
theorem dX9_odds_10 : decode cX9_odds 10 = .ok (.iload_n 2, 1) := by decide +kernel
theorem dX9_odds_11 : decode cX9_odds 11 = .ok (.invokestatic 243, 3) := by decide +kernel
theorem dX9_odds_14 : decode cX9_odds 14 = .ok (.ifCond .eq 52, 3) := by decide +kernel
theorem dX9_odds_17 : decode cX9_odds 17 = .ok (.iload_n 3, 1) := by decide +kernel
theorem dX9_odds_18 : decode cX9_odds 18 = .ok (.i2l, 1) := by decide +kernel
theorem dX9_odds_19 : decode cX9_odds 19 = .ok (.lconst 0, 1) := by decide +kernel
theorem dX9_odds_20 : decode cX9_odds 20 = .ok (.ldc2_w 265, 3) := by decide +kernel
theorem dX9_odds_23 : decode cX9_odds 23 = .ok (.invokestatic 92, 3) := by decide +kernel
theorem dX9_odds_26 : decode cX9_odds 26 = .ok (.ifCond .eq 40, 3) := by decide +kernel
theorem dX9_odds_29 : decode cX9_odds 29 = .ok (.iload 4, 2) := by decide +kernel
theorem dX9_odds_31 : decode cX9_odds 31 = .ok (.i2l, 1) := by decide +kernel
theorem dX9_odds_32 : decode cX9_odds 32 = .ok (.lconst 0, 1) := by decide +kernel
theorem dX9_odds_33 : decode cX9_odds 33 = .ok (.ldc2_w 241, 3) := by decide +kernel
theorem dX9_odds_36 : decode cX9_odds 36 = .ok (.invokestatic 92, 3) := by decide +kernel
theorem dX9_odds_39 : decode cX9_odds 39 = .ok (.ifCond .eq 27, 3) := by decide +kernel
theorem dX9_odds_42 : decode cX9_odds 42 = .ok (.iload 5, 2) := by decide +kernel
theorem dX9_odds_44 : decode cX9_odds 44 = .ok (.i2l, 1) := by decide +kernel
theorem dX9_odds_45 : decode cX9_odds 45 = .ok (.lconst 0, 1) := by decide +kernel
theorem dX9_odds_46 : decode cX9_odds 46 = .ok (.ldc2_w 291, 3) := by decide +kernel
theorem dX9_odds_49 : decode cX9_odds 49 = .ok (.invokestatic 92, 3) := by decide +kernel
theorem dX9_odds_52 : decode cX9_odds 52 = .ok (.ifCond .eq 14, 3) := by decide +kernel
theorem dX9_odds_55 : decode cX9_odds 55 = .ok (.iload 6, 2) := by decide +kernel
theorem dX9_odds_57 : decode cX9_odds 57 = .ok (.i2l, 1) := by decide +kernel
theorem dX9_odds_58 : decode cX9_odds 58 = .ok (.lconst 0, 1) := by decide +kernel
theorem dX9_odds_59 : decode cX9_odds 59 = .ok (.lconst 1, 1) := by decide +kernel
theorem dX9_odds_60 : decode cX9_odds 60 = .ok (.invokestatic 92, 3) := by decide +kernel
theorem dX9_odds_63 : decode cX9_odds 63 = .ok (.ifCond .ne 6, 3) := by decide +kernel
theorem dX9_odds_66 : decode cX9_odds 66 = .ok (.bipush (-3), 2) := by decide +kernel
theorem dX9_odds_68 : decode cX9_odds 68 = .ok (.ireturn, 1) := by decide +kernel
theorem dX9_odds_69 : decode cX9_odds 69 = .ok (.aload_n 0, 1) := by decide +kernel
theorem dX9_odds_70 : decode cX9_odds 70 = .ok (.getfield 22, 3) := by decide +kernel
theorem dX9_odds_73 : decode cX9_odds 73 = .ok (.iload_n 1, 1) := by decide +kernel
theorem dX9_odds_74 : decode cX9_odds 74 = .ok (.iaload, 1) := by decide +kernel
theorem dX9_odds_75 : decode cX9_odds 75 = .ok (.ifCond .ne 6, 3) := by decide +kernel
theorem dX9_odds_78 : decode cX9_odds 78 = .ok (.bipush (-4), 2) := by decide +kernel
theorem dX9_odds_80 : decode cX9_odds 80 = .ok (.ireturn, 1) := by decide +kernel
theorem dX9_odds_81 : decode cX9_odds 81 = .ok (.aload_n 0, 1) := by decide +kernel
theorem dX9_odds_82 : decode cX9_odds 82 = .ok (.iload_n 1, 1) := by decide +kernel
theorem dX9_odds_83 : decode cX9_odds 83 = .ok (.invokevirtual 258, 3) := by decide +kernel
theorem dX9_odds_86 : decode cX9_odds 86 = .ok (.iconst 1, 1) := by decide +kernel
theorem dX9_odds_87 : decode cX9_odds 87 = .ok (.istore 7, 2) := by decide +kernel
theorem dX9_odds_89 : decode cX9_odds 89 = .ok (.iconst 1, 1) := by decide +kernel
theorem dX9_odds_90 : decode cX9_odds 90 = .ok (.istore 8, 2) := by decide +kernel
theorem dX9_odds_92 : decode cX9_odds 92 = .ok (.iconst 0, 1) := by decide +kernel
theorem dX9_odds_93 : decode cX9_odds 93 = .ok (.istore 9, 2) := by decide +kernel
theorem dX9_odds_95 : decode cX9_odds 95 = .ok (.iload 9, 2) := by decide +kernel
theorem dX9_odds_97 : decode cX9_odds 97 = .ok (.iload_n 3, 1) := by decide +kernel
theorem dX9_odds_98 : decode cX9_odds 98 = .ok (.if_icmp .ge 22, 3) := by decide +kernel
theorem dX9_odds_101 : decode cX9_odds 101 = .ok (.iload 7, 2) := by decide +kernel
theorem dX9_odds_103 : decode cX9_odds 103 = .ok (.iconst 3, 1) := by decide +kernel
theorem dX9_odds_104 : decode cX9_odds 104 = .ok (.imul, 1) := by decide +kernel
theorem dX9_odds_105 : decode cX9_odds 105 = .ok (.istore 7, 2) := by decide +kernel
theorem dX9_odds_107 : decode cX9_odds 107 = .ok (.iload 8, 2) := by decide +kernel
theorem dX9_odds_109 : decode cX9_odds 109 = .ok (.bipush 10, 2) := by decide +kernel
theorem dX9_odds_111 : decode cX9_odds 111 = .ok (.imul, 1) := by decide +kernel
theorem dX9_odds_112 : decode cX9_odds 112 = .ok (.istore 8, 2) := by decide +kernel
theorem dX9_odds_114 : decode cX9_odds 114 = .ok (.iinc 9 1, 3) := by decide +kernel
theorem dX9_odds_117 : decode cX9_odds 117 = .ok (.goto (-22), 3) := by decide +kernel
theorem dX9_odds_120 : decode cX9_odds 120 = .ok (.iconst 0, 1) := by decide +kernel
theorem dX9_odds_121 : decode cX9_odds 121 = .ok (.istore 9, 2) := by decide +kernel
theorem dX9_odds_123 : decode cX9_odds 123 = .ok (.iconst 0, 1) := by decide +kernel
theorem dX9_odds_124 : decode cX9_odds 124 = .ok (.istore 10, 2) := by decide +kernel
theorem dX9_odds_126 : decode cX9_odds 126 = .ok (.iload 10, 2) := by decide +kernel
theorem dX9_odds_128 : decode cX9_odds 128 = .ok (.iload 7, 2) := by decide +kernel
theorem dX9_odds_130 : decode cX9_odds 130 = .ok (.if_icmp .ge 26, 3) := by decide +kernel
theorem dX9_odds_133 : decode cX9_odds 133 = .ok (.iload 9, 2) := by decide +kernel
theorem dX9_odds_135 : decode cX9_odds 135 = .ok (.aload_n 0, 1) := by decide +kernel
theorem dX9_odds_136 : decode cX9_odds 136 = .ok (.iload 10, 2) := by decide +kernel
theorem dX9_odds_138 : decode cX9_odds 138 = .ok (.iload_n 2, 1) := by decide +kernel
theorem dX9_odds_139 : decode cX9_odds 139 = .ok (.iload_n 3, 1) := by decide +kernel
theorem dX9_odds_140 : decode cX9_odds 140 = .ok (.iload 4, 2) := by decide +kernel
theorem dX9_odds_142 : decode cX9_odds 142 = .ok (.iload 5, 2) := by decide +kernel
theorem dX9_odds_144 : decode cX9_odds 144 = .ok (.invokevirtual 293, 3) := by decide +kernel
theorem dX9_odds_147 : decode cX9_odds 147 = .ok (.iadd, 1) := by decide +kernel
theorem dX9_odds_148 : decode cX9_odds 148 = .ok (.istore 9, 2) := by decide +kernel
theorem dX9_odds_150 : decode cX9_odds 150 = .ok (.iinc 10 1, 3) := by decide +kernel
theorem dX9_odds_153 : decode cX9_odds 153 = .ok (.goto (-27), 3) := by decide +kernel
theorem dX9_odds_156 : decode cX9_odds 156 = .ok (.iload 9, 2) := by decide +kernel
theorem dX9_odds_158 : decode cX9_odds 158 = .ok (.iload 8, 2) := by decide +kernel
theorem dX9_odds_160 : decode cX9_odds 160 = .ok (.invokestatic 297, 3) := by decide +kernel
theorem dX9_odds_163 : decode cX9_odds 163 = .ok (.istore 10, 2) := by decide +kernel
theorem dX9_odds_165 : decode cX9_odds 165 = .ok (.iload 6, 2) := by decide +kernel
theorem dX9_odds_167 : decode cX9_odds 167 = .ok (.ifCond .ne 11, 3) := by decide +kernel
theorem dX9_odds_170 : decode cX9_odds 170 = .ok (.iload 9, 2) := by decide +kernel
theorem dX9_odds_172 : decode cX9_odds 172 = .ok (.iload 10, 2) := by decide +kernel
theorem dX9_odds_174 : decode cX9_odds 174 = .ok (.idiv, 1) := by decide +kernel
theorem dX9_odds_175 : decode cX9_odds 175 = .ok (.goto 8, 3) := by decide +kernel
theorem dX9_odds_178 : decode cX9_odds 178 = .ok (.iload 8, 2) := by decide +kernel
theorem dX9_odds_180 : decode cX9_odds 180 = .ok (.iload 10, 2) := by decide +kernel
theorem dX9_odds_182 : decode cX9_odds 182 = .ok (.idiv, 1) := by decide +kernel
theorem dX9_odds_183 : decode cX9_odds 183 = .ok (.ireturn, 1) := by decide +kernel
theorem dX9_stands_0 : decode cX9_stands 0 = .ok (.iload_n 1, 1) := by decide +kernel
theorem dX9_stands_1 : decode cX9_stands 1 = .ok (.invokestatic 192, 3) := by decide +kernel
theorem dX9_stands_4 : decode cX9_stands 4 = .ok (.ifCond .ne 6, 3) := by decide +kernel
theorem dX9_stands_7 : decode cX9_stands 7 = .ok (.bipush (-2), 2) := by decide +kernel
theorem dX9_stands_9 : decode cX9_stands 9 = .ok (.ireturn, 1) := by decide +kernel
theorem dX9_stands_10 : decode cX9_stands 10 = .ok (.iload_n 2, 1) := by decide +kernel
theorem dX9_stands_11 : decode cX9_stands 11 = .ok (.invokestatic 243, 3) := by decide +kernel
theorem dX9_stands_14 : decode cX9_stands 14 = .ok (.ifCond .ne 6, 3) := by decide +kernel
theorem dX9_stands_17 : decode cX9_stands 17 = .ok (.bipush (-3), 2) := by decide +kernel
theorem dX9_stands_19 : decode cX9_stands 19 = .ok (.ireturn, 1) := by decide +kernel
theorem dX9_stands_20 : decode cX9_stands 20 = .ok (.aload_n 0, 1) := by decide +kernel
theorem dX9_stands_21 : decode cX9_stands 21 = .ok (.getfield 22, 3) := by decide +kernel
theorem dX9_stands_24 : decode cX9_stands 24 = .ok (.iload_n 1, 1) := by decide +kernel
theorem dX9_stands_25 : decode cX9_stands 25 = .ok (.iaload, 1) := by decide +kernel
theorem dX9_stands_26 : decode cX9_stands 26 = .ok (.ifCond .ne 6, 3) := by decide +kernel
theorem dX9_stands_29 : decode cX9_stands 29 = .ok (.bipush (-4), 2) := by decide +kernel
theorem dX9_stands_31 : decode cX9_stands 31 = .ok (.ireturn, 1) := by decide +kernel
theorem dX9_stands_32 : decode cX9_stands 32 = .ok (.aload_n 0, 1) := by decide +kernel
theorem dX9_stands_33 : decode cX9_stands 33 = .ok (.iload_n 1, 1) := by decide +kernel
theorem dX9_stands_34 : decode cX9_stands 34 = .ok (.invokevirtual 258, 3) := by decide +kernel
theorem dX9_stands_37 : decode cX9_stands 37 = .ok (.iconst 0, 1) := by decide +kernel
theorem dX9_stands_38 : decode cX9_stands 38 = .ok (.istore_n 3, 1) := by decide +kernel
theorem dX9_stands_39 : decode cX9_stands 39 = .ok (.iload_n 3, 1) := by decide +kernel
theorem dX9_stands_40 : decode cX9_stands 40 = .ok (.bipush 100, 2) := by decide +kernel
theorem dX9_stands_42 : decode cX9_stands 42 = .ok (.if_icmp .ge 29, 3) := by decide +kernel
theorem dX9_stands_45 : decode cX9_stands 45 = .ok (.aload_n 0, 1) := by decide +kernel
theorem dX9_stands_46 : decode cX9_stands 46 = .ok (.iload_n 3, 1) := by decide +kernel
theorem dX9_stands_47 : decode cX9_stands 47 = .ok (.putfield 210, 3) := by decide +kernel
theorem dX9_stands_50 : decode cX9_stands 50 = .ok (.aload_n 0, 1) := by decide +kernel
theorem dX9_stands_51 : decode cX9_stands 51 = .ok (.iload_n 2, 1) := by decide +kernel
theorem dX9_stands_52 : decode cX9_stands 52 = .ok (.iconst 0, 1) := by decide +kernel
theorem dX9_stands_53 : decode cX9_stands 53 = .ok (.iconst 0, 1) := by decide +kernel
theorem dX9_stands_54 : decode cX9_stands 54 = .ok (.invokevirtual 272, 3) := by decide +kernel
theorem dX9_stands_57 : decode cX9_stands 57 = .ok (.sipush 400, 3) := by decide +kernel
theorem dX9_stands_60 : decode cX9_stands 60 = .ok (.if_icmp .ne 5, 3) := by decide +kernel
theorem dX9_stands_63 : decode cX9_stands 63 = .ok (.iload_n 3, 1) := by decide +kernel
theorem dX9_stands_64 : decode cX9_stands 64 = .ok (.ireturn, 1) := by decide +kernel
theorem dX9_stands_65 : decode cX9_stands 65 = .ok (.iinc 3 1, 3) := by decide +kernel
theorem dX9_stands_68 : decode cX9_stands 68 = .ok (.goto (-29), 3) := by decide +kernel
theorem dX9_stands_71 : decode cX9_stands 71 = .ok (.iconst (-1), 1) := by decide +kernel
theorem dX9_stands_72 : decode cX9_stands 72 = .ok (.ireturn, 1) := by decide +kernel
theorem dX9_two_0 : decode cX9_two 0 = .ok (.iload_n 1, 1) := by decide +kernel
theorem dX9_two_1 : decode cX9_two 1 = .ok (.invokestatic 192, 3) := by decide +kernel
theorem dX9_two_4 : decode cX9_two 4 = .ok (.ifCond .eq 10, 3) := by decide +kernel
theorem dX9_two_7 : decode cX9_two 7 = .ok (.iload_n 3, 1) := by decide +kernel
theorem dX9_two_8 : decode cX9_two 8 = .ok (.invokestatic 192, 3) := by decide +kernel
theorem dX9_two_11 : decode cX9_two 11 = .ok (.ifCond .ne 6, 3) := by decide +kernel
theorem dX9_two_14 : decode cX9_two 14 = .ok (.bipush (-2), 2) := by decide +kernel
theorem dX9_two_16 : decode cX9_two 16 = .ok (.ireturn, 1) := by decide +kernel
theorem dX9_two_17 : decode cX9_two 17 = .ok (.iload_n 2, 1) := by decide +kernel
theorem dX9_two_18 : decode cX9_two 18 = .ok (.invokestatic 243, 3) := by decide +kernel
theorem dX9_two_21 : decode cX9_two 21 = .ok (.ifCond .eq 37, 3) := by decide +kernel
theorem dX9_two_24 : decode cX9_two 24 = .ok (.iload 4, 2) := by decide +kernel
theorem dX9_two_26 : decode cX9_two 26 = .ok (.invokestatic 243, 3) := by decide +kernel
theorem dX9_two_29 : decode cX9_two 29 = .ok (.ifCond .eq 29, 3) := by decide +kernel
theorem dX9_two_32 : decode cX9_two 32 = .ok (.iload 5, 2) := by decide +kernel
theorem dX9_two_34 : decode cX9_two 34 = .ok (.i2l, 1) := by decide +kernel
theorem dX9_two_35 : decode cX9_two 35 = .ok (.lconst 1, 1) := by decide +kernel
theorem dX9_two_36 : decode cX9_two 36 = .ok (.ldc2_w 300, 3) := by decide +kernel
theorem dX9_two_39 : decode cX9_two 39 = .ok (.invokestatic 92, 3) := by decide +kernel
theorem dX9_two_42 : decode cX9_two 42 = .ok (.ifCond .eq 16, 3) := by decide +kernel
theorem dX9_two_45 : decode cX9_two 45 = .ok (.iload 6, 2) := by decide +kernel
theorem dX9_two_47 : decode cX9_two 47 = .ok (.i2l, 1) := by decide +kernel
theorem dX9_two_48 : decode cX9_two 48 = .ok (.lconst 1, 1) := by decide +kernel
theorem dX9_two_49 : decode cX9_two 49 = .ok (.ldc2_w 300, 3) := by decide +kernel
theorem dX9_two_52 : decode cX9_two 52 = .ok (.invokestatic 92, 3) := by decide +kernel
theorem dX9_two_55 : decode cX9_two 55 = .ok (.ifCond .ne 6, 3) := by decide +kernel
theorem dX9_two_58 : decode cX9_two 58 = .ok (.bipush (-3), 2) := by decide +kernel
theorem dX9_two_60 : decode cX9_two 60 = .ok (.ireturn, 1) := by decide +kernel
theorem dX9_two_61 : decode cX9_two 61 = .ok (.aload_n 0, 1) := by decide +kernel
theorem dX9_two_62 : decode cX9_two 62 = .ok (.getfield 22, 3) := by decide +kernel
theorem dX9_two_65 : decode cX9_two 65 = .ok (.iload_n 1, 1) := by decide +kernel
theorem dX9_two_66 : decode cX9_two 66 = .ok (.iaload, 1) := by decide +kernel
theorem dX9_two_67 : decode cX9_two 67 = .ok (.ifCond .eq 12, 3) := by decide +kernel
theorem dX9_two_70 : decode cX9_two 70 = .ok (.aload_n 0, 1) := by decide +kernel
theorem dX9_two_71 : decode cX9_two 71 = .ok (.getfield 22, 3) := by decide +kernel
theorem dX9_two_74 : decode cX9_two 74 = .ok (.iload_n 3, 1) := by decide +kernel
theorem dX9_two_75 : decode cX9_two 75 = .ok (.iaload, 1) := by decide +kernel
theorem dX9_two_76 : decode cX9_two 76 = .ok (.ifCond .ne 6, 3) := by decide +kernel
theorem dX9_two_79 : decode cX9_two 79 = .ok (.bipush (-4), 2) := by decide +kernel
theorem dX9_two_81 : decode cX9_two 81 = .ok (.ireturn, 1) := by decide +kernel
theorem dX9_two_82 : decode cX9_two 82 = .ok (.aload_n 0, 1) := by decide +kernel
theorem dX9_two_83 : decode cX9_two 83 = .ok (.iload_n 1, 1) := by decide +kernel
theorem dX9_two_84 : decode cX9_two 84 = .ok (.invokevirtual 258, 3) := by decide +kernel
theorem dX9_two_87 : decode cX9_two 87 = .ok (.aload_n 0, 1) := by decide +kernel
theorem dX9_two_88 : decode cX9_two 88 = .ok (.iconst 0, 1) := by decide +kernel
theorem dX9_two_89 : decode cX9_two 89 = .ok (.iload_n 2, 1) := by decide +kernel
theorem dX9_two_90 : decode cX9_two 90 = .ok (.iconst 0, 1) := by decide +kernel
theorem dX9_two_91 : decode cX9_two 91 = .ok (.invokevirtual 249, 3) := by decide +kernel
theorem dX9_two_94 : decode cX9_two 94 = .ok (.aload_n 0, 1) := by decide +kernel
theorem dX9_two_95 : decode cX9_two 95 = .ok (.iconst 1, 1) := by decide +kernel
theorem dX9_two_96 : decode cX9_two 96 = .ok (.iload 4, 2) := by decide +kernel
theorem dX9_two_98 : decode cX9_two 98 = .ok (.iconst 0, 1) := by decide +kernel
theorem dX9_two_99 : decode cX9_two 99 = .ok (.invokevirtual 249, 3) := by decide +kernel
theorem dX9_two_102 : decode cX9_two 102 = .ok (.iconst 0, 1) := by decide +kernel
theorem dX9_two_103 : decode cX9_two 103 = .ok (.istore 7, 2) := by decide +kernel
theorem dX9_two_105 : decode cX9_two 105 = .ok (.iload 7, 2) := by decide +kernel
theorem dX9_two_107 : decode cX9_two 107 = .ok (.sipush 400, 3) := by decide +kernel
theorem dX9_two_110 : decode cX9_two 110 = .ok (.if_icmp .ge 85, 3) := by decide +kernel
theorem dX9_two_113 : decode cX9_two 113 = .ok (.aload_n 0, 1) := by decide +kernel
theorem dX9_two_114 : decode cX9_two 114 = .ok (.iconst 0, 1) := by decide +kernel
theorem dX9_two_115 : decode cX9_two 115 = .ok (.invokevirtual 255, 3) := by decide +kernel
theorem dX9_two_118 : decode cX9_two 118 = .ok (.ifCond .ne 77, 3) := by decide +kernel
theorem dX9_two_121 : decode cX9_two 121 = .ok (.aload_n 0, 1) := by decide +kernel
theorem dX9_two_122 : decode cX9_two 122 = .ok (.iconst 1, 1) := by decide +kernel
theorem dX9_two_123 : decode cX9_two 123 = .ok (.invokevirtual 255, 3) := by decide +kernel
theorem dX9_two_126 : decode cX9_two 126 = .ok (.ifCond .ne 69, 3) := by decide +kernel
theorem dX9_two_129 : decode cX9_two 129 = .ok (.iload 7, 2) := by decide +kernel
theorem dX9_two_131 : decode cX9_two 131 = .ok (.iload 5, 2) := by decide +kernel
theorem dX9_two_133 : decode cX9_two 133 = .ok (.iload 6, 2) := by decide +kernel
theorem dX9_two_135 : decode cX9_two 135 = .ok (.iadd, 1) := by decide +kernel
theorem dX9_two_136 : decode cX9_two 136 = .ok (.irem, 1) := by decide +kernel
theorem dX9_two_137 : decode cX9_two 137 = .ok (.iload 5, 2) := by decide +kernel
theorem dX9_two_139 : decode cX9_two 139 = .ok (.if_icmp .ge 7, 3) := by decide +kernel
theorem dX9_two_142 : decode cX9_two 142 = .ok (.iconst 1, 1) := by decide +kernel
theorem dX9_two_143 : decode cX9_two 143 = .ok (.goto 4, 3) := by decide +kernel
theorem dX9_two_146 : decode cX9_two 146 = .ok (.iconst 0, 1) := by decide +kernel
theorem dX9_two_147 : decode cX9_two 147 = .ok (.istore 8, 2) := by decide +kernel
theorem dX9_two_149 : decode cX9_two 149 = .ok (.aload_n 0, 1) := by decide +kernel
theorem dX9_two_150 : decode cX9_two 150 = .ok (.iload_n 1, 1) := by decide +kernel
theorem dX9_two_151 : decode cX9_two 151 = .ok (.invokevirtual 213, 3) := by decide +kernel
theorem dX9_two_154 : decode cX9_two 154 = .ok (.aload_n 0, 1) := by decide +kernel
theorem dX9_two_155 : decode cX9_two 155 = .ok (.iconst 0, 1) := by decide +kernel
theorem dX9_two_156 : decode cX9_two 156 = .ok (.iload 8, 2) := by decide +kernel
theorem dX9_two_158 : decode cX9_two 158 = .ok (.aload_n 0, 1) := by decide +kernel
theorem dX9_two_159 : decode cX9_two 159 = .ok (.getfield 177, 3) := by decide +kernel
theorem dX9_two_162 : decode cX9_two 162 = .ok (.invokevirtual 261, 3) := by decide +kernel
theorem dX9_two_165 : decode cX9_two 165 = .ok (.aload_n 0, 1) := by decide +kernel
theorem dX9_two_166 : decode cX9_two 166 = .ok (.iload_n 3, 1) := by decide +kernel
theorem dX9_two_167 : decode cX9_two 167 = .ok (.invokevirtual 213, 3) := by decide +kernel
theorem dX9_two_170 : decode cX9_two 170 = .ok (.aload_n 0, 1) := by decide +kernel
theorem dX9_two_171 : decode cX9_two 171 = .ok (.iconst 1, 1) := by decide +kernel
theorem dX9_two_172 : decode cX9_two 172 = .ok (.iload 8, 2) := by decide +kernel
theorem dX9_two_174 : decode cX9_two 174 = .ok (.ifCond .ne 7, 3) := by decide +kernel
theorem dX9_two_177 : decode cX9_two 177 = .ok (.iconst 1, 1) := by decide +kernel
theorem dX9_two_178 : decode cX9_two 178 = .ok (.goto 4, 3) := by decide +kernel
theorem dX9_two_181 : decode cX9_two 181 = .ok (.iconst 0, 1) := by decide +kernel
theorem dX9_two_182 : decode cX9_two 182 = .ok (.aload_n 0, 1) := by decide +kernel
theorem dX9_two_183 : decode cX9_two 183 = .ok (.getfield 177, 3) := by decide +kernel
theorem dX9_two_186 : decode cX9_two 186 = .ok (.invokevirtual 261, 3) := by decide +kernel
theorem dX9_two_189 : decode cX9_two 189 = .ok (.iinc 7 1, 3) := by decide +kernel
theorem dX9_two_192 : decode cX9_two 192 = .ok (.goto (-87), 3) := by decide +kernel
theorem dX9_two_195 : decode cX9_two 195 = .ok (.iload 7, 2) := by decide +kernel
theorem dX9_two_197 : decode cX9_two 197 = .ok (.ireturn, 1) := by decide +kernel
theorem dX9_film_0 : decode cX9_film 0 = .ok (.iload_n 1, 1) := by decide +kernel
theorem dX9_film_1 : decode cX9_film 1 = .ok (.invokestatic 243, 3) := by decide +kernel
theorem dX9_film_4 : decode cX9_film 4 = .ok (.ifCond .eq 10, 3) := by decide +kernel
theorem dX9_film_7 : decode cX9_film 7 = .ok (.iload_n 2, 1) := by decide +kernel
theorem dX9_film_8 : decode cX9_film 8 = .ok (.invokestatic 246, 3) := by decide +kernel
theorem dX9_film_11 : decode cX9_film 11 = .ok (.ifCond .ne 6, 3) := by decide +kernel
theorem dX9_film_14 : decode cX9_film 14 = .ok (.bipush (-3), 2) := by decide +kernel
theorem dX9_film_16 : decode cX9_film 16 = .ok (.ireturn, 1) := by decide +kernel
theorem dX9_film_17 : decode cX9_film 17 = .ok (.aload_n 0, 1) := by decide +kernel
theorem dX9_film_18 : decode cX9_film 18 = .ok (.getfield 302, 3) := by decide +kernel
theorem dX9_film_21 : decode cX9_film 21 = .ok (.bipush 24, 2) := by decide +kernel
theorem dX9_film_23 : decode cX9_film 23 = .ok (.if_icmp .ne 6, 3) := by decide +kernel
theorem dX9_film_26 : decode cX9_film 26 = .ok (.bipush (-5), 2) := by decide +kernel
theorem dX9_film_28 : decode cX9_film 28 = .ok (.ireturn, 1) := by decide +kernel
theorem dX9_film_29 : decode cX9_film 29 = .ok (.aload_n 0, 1) := by decide +kernel
theorem dX9_film_30 : decode cX9_film 30 = .ok (.getfield 71, 3) := by decide +kernel
theorem dX9_film_33 : decode cX9_film 33 = .ok (.aload_n 0, 1) := by decide +kernel
theorem dX9_film_34 : decode cX9_film 34 = .ok (.getfield 302, 3) := by decide +kernel
theorem dX9_film_37 : decode cX9_film 37 = .ok (.iload_n 1, 1) := by decide +kernel
theorem dX9_film_38 : decode cX9_film 38 = .ok (.iastore, 1) := by decide +kernel
theorem dX9_film_39 : decode cX9_film 39 = .ok (.aload_n 0, 1) := by decide +kernel
theorem dX9_film_40 : decode cX9_film 40 = .ok (.getfield 74, 3) := by decide +kernel
theorem dX9_film_43 : decode cX9_film 43 = .ok (.aload_n 0, 1) := by decide +kernel
theorem dX9_film_44 : decode cX9_film 44 = .ok (.getfield 302, 3) := by decide +kernel
theorem dX9_film_47 : decode cX9_film 47 = .ok (.iload_n 2, 1) := by decide +kernel
theorem dX9_film_48 : decode cX9_film 48 = .ok (.iastore, 1) := by decide +kernel
theorem dX9_film_49 : decode cX9_film 49 = .ok (.aload_n 0, 1) := by decide +kernel
theorem dX9_film_50 : decode cX9_film 50 = .ok (.dup, 1) := by decide +kernel
theorem dX9_film_51 : decode cX9_film 51 = .ok (.getfield 302, 3) := by decide +kernel
theorem dX9_film_54 : decode cX9_film 54 = .ok (.iconst 1, 1) := by decide +kernel
theorem dX9_film_55 : decode cX9_film 55 = .ok (.iadd, 1) := by decide +kernel
theorem dX9_film_56 : decode cX9_film 56 = .ok (.putfield 302, 3) := by decide +kernel
theorem dX9_film_59 : decode cX9_film 59 = .ok (.aload_n 0, 1) := by decide +kernel
theorem dX9_film_60 : decode cX9_film 60 = .ok (.getfield 302, 3) := by decide +kernel
theorem dX9_film_63 : decode cX9_film 63 = .ok (.ireturn, 1) := by decide +kernel
theorem dX9_wind_0 : decode cX9_wind 0 = .ok (.aload_n 0, 1) := by decide +kernel
theorem dX9_wind_1 : decode cX9_wind 1 = .ok (.getfield 302, 3) := by decide +kernel
theorem dX9_wind_4 : decode cX9_wind 4 = .ok (.istore_n 1, 1) := by decide +kernel
theorem dX9_wind_5 : decode cX9_wind 5 = .ok (.aload_n 0, 1) := by decide +kernel
theorem dX9_wind_6 : decode cX9_wind 6 = .ok (.iconst 0, 1) := by decide +kernel
theorem dX9_wind_7 : decode cX9_wind 7 = .ok (.putfield 302, 3) := by decide +kernel
theorem dX9_wind_10 : decode cX9_wind 10 = .ok (.iload_n 1, 1) := by decide +kernel
theorem dX9_wind_11 : decode cX9_wind 11 = .ok (.ireturn, 1) := by decide +kernel
theorem dX9_mindsAt_0 : decode cX9_mindsAt 0 = .ok (.iload_n 1, 1) := by decide +kernel
theorem dX9_mindsAt_1 : decode cX9_mindsAt 1 = .ok (.aload_n 0, 1) := by decide +kernel
theorem dX9_mindsAt_2 : decode cX9_mindsAt 2 = .ok (.getfield 207, 3) := by decide +kernel
theorem dX9_mindsAt_5 : decode cX9_mindsAt 5 = .ok (.isub, 1) := by decide +kernel
theorem dX9_mindsAt_6 : decode cX9_mindsAt 6 = .ok (.istore_n 2, 1) := by decide +kernel
theorem dX9_mindsAt_7 : decode cX9_mindsAt 7 = .ok (.iload_n 2, 1) := by decide +kernel
theorem dX9_mindsAt_8 : decode cX9_mindsAt 8 = .ok (.iconst 1, 1) := by decide +kernel
theorem dX9_mindsAt_9 : decode cX9_mindsAt 9 = .ok (.isub, 1) := by decide +kernel
theorem dX9_mindsAt_10 : decode cX9_mindsAt 10 = .ok (.istore_n 3, 1) := by decide +kernel
theorem dX9_mindsAt_11 : decode cX9_mindsAt 11 = .ok (.aload_n 0, 1) := by decide +kernel
theorem dX9_mindsAt_12 : decode cX9_mindsAt 12 = .ok (.aload_n 0, 1) := by decide +kernel
theorem dX9_mindsAt_13 : decode cX9_mindsAt 13 = .ok (.getfield 71, 3) := by decide +kernel
theorem dX9_mindsAt_16 : decode cX9_mindsAt 16 = .ok (.iload_n 2, 1) := by decide +kernel
theorem dX9_mindsAt_17 : decode cX9_mindsAt 17 = .ok (.ifCond .le 7, 3) := by decide +kernel
theorem dX9_mindsAt_20 : decode cX9_mindsAt 20 = .ok (.iload_n 2, 1) := by decide +kernel
theorem dX9_mindsAt_21 : decode cX9_mindsAt 21 = .ok (.goto 4, 3) := by decide +kernel
theorem dX9_mindsAt_24 : decode cX9_mindsAt 24 = .ok (.iconst 0, 1) := by decide +kernel
theorem dX9_mindsAt_25 : decode cX9_mindsAt 25 = .ok (.iaload, 1) := by decide +kernel
theorem dX9_mindsAt_26 : decode cX9_mindsAt 26 = .ok (.aload_n 0, 1) := by decide +kernel
theorem dX9_mindsAt_27 : decode cX9_mindsAt 27 = .ok (.getfield 71, 3) := by decide +kernel
theorem dX9_mindsAt_30 : decode cX9_mindsAt 30 = .ok (.iload_n 3, 1) := by decide +kernel
theorem dX9_mindsAt_31 : decode cX9_mindsAt 31 = .ok (.ifCond .le 7, 3) := by decide +kernel
theorem dX9_mindsAt_34 : decode cX9_mindsAt 34 = .ok (.iload_n 3, 1) := by decide +kernel
theorem dX9_mindsAt_35 : decode cX9_mindsAt 35 = .ok (.goto 4, 3) := by decide +kernel
theorem dX9_mindsAt_38 : decode cX9_mindsAt 38 = .ok (.iconst 0, 1) := by decide +kernel
theorem dX9_mindsAt_39 : decode cX9_mindsAt 39 = .ok (.iaload, 1) := by decide +kernel
theorem dX9_mindsAt_40 : decode cX9_mindsAt 40 = .ok (.invokevirtual 228, 3) := by decide +kernel
theorem dX9_mindsAt_43 : decode cX9_mindsAt 43 = .ok (.ireturn, 1) := by decide +kernel
theorem dX9_fitsBy_0 : decode cX9_fitsBy 0 = .ok (.aload_n 0, 1) := by decide +kernel
theorem dX9_fitsBy_1 : decode cX9_fitsBy 1 = .ok (.iload_n 1, 1) := by decide +kernel
theorem dX9_fitsBy_2 : decode cX9_fitsBy 2 = .ok (.sipush 441, 3) := by decide +kernel
theorem dX9_fitsBy_5 : decode cX9_fitsBy 5 = .ok (.idiv, 1) := by decide +kernel
theorem dX9_fitsBy_6 : decode cX9_fitsBy 6 = .ok (.putfield 207, 3) := by decide +kernel
theorem dX9_fitsBy_9 : decode cX9_fitsBy 9 = .ok (.aload_n 0, 1) := by decide +kernel
theorem dX9_fitsBy_10 : decode cX9_fitsBy 10 = .ok (.iload_n 1, 1) := by decide +kernel
theorem dX9_fitsBy_11 : decode cX9_fitsBy 11 = .ok (.bipush 21, 2) := by decide +kernel
theorem dX9_fitsBy_13 : decode cX9_fitsBy 13 = .ok (.idiv, 1) := by decide +kernel
theorem dX9_fitsBy_14 : decode cX9_fitsBy 14 = .ok (.bipush 21, 2) := by decide +kernel
theorem dX9_fitsBy_16 : decode cX9_fitsBy 16 = .ok (.irem, 1) := by decide +kernel
theorem dX9_fitsBy_17 : decode cX9_fitsBy 17 = .ok (.putfield 201, 3) := by decide +kernel
theorem dX9_fitsBy_20 : decode cX9_fitsBy 20 = .ok (.aload_n 0, 1) := by decide +kernel
theorem dX9_fitsBy_21 : decode cX9_fitsBy 21 = .ok (.iload_n 1, 1) := by decide +kernel
theorem dX9_fitsBy_22 : decode cX9_fitsBy 22 = .ok (.bipush 21, 2) := by decide +kernel
theorem dX9_fitsBy_24 : decode cX9_fitsBy 24 = .ok (.irem, 1) := by decide +kernel
theorem dX9_fitsBy_25 : decode cX9_fitsBy 25 = .ok (.putfield 204, 3) := by decide +kernel
theorem dX9_fitsBy_28 : decode cX9_fitsBy 28 = .ok (.iconst 1, 1) := by decide +kernel
theorem dX9_fitsBy_29 : decode cX9_fitsBy 29 = .ok (.istore_n 2, 1) := by decide +kernel
theorem dX9_fitsBy_30 : decode cX9_fitsBy 30 = .ok (.iconst 0, 1) := by decide +kernel
theorem dX9_fitsBy_31 : decode cX9_fitsBy 31 = .ok (.istore_n 3, 1) := by decide +kernel
theorem dX9_fitsBy_32 : decode cX9_fitsBy 32 = .ok (.iload_n 3, 1) := by decide +kernel
theorem dX9_fitsBy_33 : decode cX9_fitsBy 33 = .ok (.aload_n 0, 1) := by decide +kernel
theorem dX9_fitsBy_34 : decode cX9_fitsBy 34 = .ok (.getfield 302, 3) := by decide +kernel
theorem dX9_fitsBy_37 : decode cX9_fitsBy 37 = .ok (.if_icmp .ge 33, 3) := by decide +kernel
theorem dX9_fitsBy_40 : decode cX9_fitsBy 40 = .ok (.iload_n 2, 1) := by decide +kernel
theorem dX9_fitsBy_41 : decode cX9_fitsBy 41 = .ok (.ifCond .eq 29, 3) := by decide +kernel
theorem dX9_fitsBy_44 : decode cX9_fitsBy 44 = .ok (.aload_n 0, 1) := by decide +kernel
theorem dX9_fitsBy_45 : decode cX9_fitsBy 45 = .ok (.iload_n 3, 1) := by decide +kernel
theorem dX9_fitsBy_46 : decode cX9_fitsBy 46 = .ok (.invokevirtual 305, 3) := by decide +kernel
theorem dX9_fitsBy_49 : decode cX9_fitsBy 49 = .ok (.aload_n 0, 1) := by decide +kernel
theorem dX9_fitsBy_50 : decode cX9_fitsBy 50 = .ok (.getfield 74, 3) := by decide +kernel
theorem dX9_fitsBy_53 : decode cX9_fitsBy 53 = .ok (.iload_n 3, 1) := by decide +kernel
theorem dX9_fitsBy_54 : decode cX9_fitsBy 54 = .ok (.iaload, 1) := by decide +kernel
theorem dX9_fitsBy_55 : decode cX9_fitsBy 55 = .ok (.if_icmp .ne 7, 3) := by decide +kernel
theorem dX9_fitsBy_58 : decode cX9_fitsBy 58 = .ok (.iconst 1, 1) := by decide +kernel
theorem dX9_fitsBy_59 : decode cX9_fitsBy 59 = .ok (.goto 4, 3) := by decide +kernel
theorem dX9_fitsBy_62 : decode cX9_fitsBy 62 = .ok (.iconst 0, 1) := by decide +kernel
theorem dX9_fitsBy_63 : decode cX9_fitsBy 63 = .ok (.istore_n 2, 1) := by decide +kernel
theorem dX9_fitsBy_64 : decode cX9_fitsBy 64 = .ok (.iinc 3 1, 3) := by decide +kernel
theorem dX9_fitsBy_67 : decode cX9_fitsBy 67 = .ok (.goto (-35), 3) := by decide +kernel
theorem dX9_fitsBy_70 : decode cX9_fitsBy 70 = .ok (.iload_n 2, 1) := by decide +kernel
theorem dX9_fitsBy_71 : decode cX9_fitsBy 71 = .ok (.ireturn, 1) := by decide +kernel
theorem dX9_fits_0 : decode cX9_fits 0 = .ok (.iload_n 1, 1) := by decide +kernel
theorem dX9_fits_1 : decode cX9_fits 1 = .ok (.i2l, 1) := by decide +kernel
theorem dX9_fits_2 : decode cX9_fits 2 = .ok (.lconst 0, 1) := by decide +kernel
theorem dX9_fits_3 : decode cX9_fits 3 = .ok (.ldc2_w 190, 3) := by decide +kernel
theorem dX9_fits_6 : decode cX9_fits 6 = .ok (.invokestatic 92, 3) := by decide +kernel
theorem dX9_fits_9 : decode cX9_fits 9 = .ok (.ifCond .ne 6, 3) := by decide +kernel
theorem dX9_fits_12 : decode cX9_fits 12 = .ok (.bipush (-3), 2) := by decide +kernel
theorem dX9_fits_14 : decode cX9_fits 14 = .ok (.ireturn, 1) := by decide +kernel
theorem dX9_fits_15 : decode cX9_fits 15 = .ok (.iconst 0, 1) := by decide +kernel
theorem dX9_fits_16 : decode cX9_fits 16 = .ok (.istore_n 2, 1) := by decide +kernel
theorem dX9_fits_17 : decode cX9_fits 17 = .ok (.iconst (-1), 1) := by decide +kernel
theorem dX9_fits_18 : decode cX9_fits 18 = .ok (.istore_n 3, 1) := by decide +kernel
theorem dX9_fits_19 : decode cX9_fits 19 = .ok (.iconst 0, 1) := by decide +kernel
theorem dX9_fits_20 : decode cX9_fits 20 = .ok (.istore 4, 2) := by decide +kernel
theorem dX9_fits_22 : decode cX9_fits 22 = .ok (.iload 4, 2) := by decide +kernel
theorem dX9_fits_24 : decode cX9_fits 24 = .ok (.sipush 3087, 3) := by decide +kernel
theorem dX9_fits_27 : decode cX9_fits 27 = .ok (.if_icmp .ge 32, 3) := by decide +kernel
theorem dX9_fits_30 : decode cX9_fits 30 = .ok (.aload_n 0, 1) := by decide +kernel
theorem dX9_fits_31 : decode cX9_fits 31 = .ok (.iload 4, 2) := by decide +kernel
theorem dX9_fits_33 : decode cX9_fits 33 = .ok (.invokevirtual 308, 3) := by decide +kernel
theorem dX9_fits_36 : decode cX9_fits 36 = .ok (.ifCond .eq 17, 3) := by decide +kernel
theorem dX9_fits_39 : decode cX9_fits 39 = .ok (.iload_n 2, 1) := by decide +kernel
theorem dX9_fits_40 : decode cX9_fits 40 = .ok (.ifCond .ne 8, 3) := by decide +kernel
theorem dX9_fits_43 : decode cX9_fits 43 = .ok (.iload 4, 2) := by decide +kernel
theorem dX9_fits_45 : decode cX9_fits 45 = .ok (.goto 4, 3) := by decide +kernel
theorem dX9_fits_48 : decode cX9_fits 48 = .ok (.iload_n 3, 1) := by decide +kernel
theorem dX9_fits_49 : decode cX9_fits 49 = .ok (.istore_n 3, 1) := by decide +kernel
theorem dX9_fits_50 : decode cX9_fits 50 = .ok (.iinc 2 1, 3) := by decide +kernel
theorem dX9_fits_53 : decode cX9_fits 53 = .ok (.iinc 4 1, 3) := by decide +kernel
theorem dX9_fits_56 : decode cX9_fits 56 = .ok (.goto (-34), 3) := by decide +kernel
theorem dX9_fits_59 : decode cX9_fits 59 = .ok (.iload_n 1, 1) := by decide +kernel
theorem dX9_fits_60 : decode cX9_fits 60 = .ok (.ifCond .ne 7, 3) := by decide +kernel
theorem dX9_fits_63 : decode cX9_fits 63 = .ok (.iload_n 2, 1) := by decide +kernel
theorem dX9_fits_64 : decode cX9_fits 64 = .ok (.goto 44, 3) := by decide +kernel
theorem dX9_fits_67 : decode cX9_fits 67 = .ok (.iload_n 3, 1) := by decide +kernel
theorem dX9_fits_68 : decode cX9_fits 68 = .ok (.iconst (-1), 1) := by decide +kernel
theorem dX9_fits_69 : decode cX9_fits 69 = .ok (.if_icmp .ne 7, 3) := by decide +kernel
theorem dX9_fits_72 : decode cX9_fits 72 = .ok (.iconst (-1), 1) := by decide +kernel
theorem dX9_fits_73 : decode cX9_fits 73 = .ok (.goto 35, 3) := by decide +kernel
theorem dX9_fits_76 : decode cX9_fits 76 = .ok (.iload_n 1, 1) := by decide +kernel
theorem dX9_fits_77 : decode cX9_fits 77 = .ok (.iconst 1, 1) := by decide +kernel
theorem dX9_fits_78 : decode cX9_fits 78 = .ok (.if_icmp .ne 11, 3) := by decide +kernel
theorem dX9_fits_81 : decode cX9_fits 81 = .ok (.iload_n 3, 1) := by decide +kernel
theorem dX9_fits_82 : decode cX9_fits 82 = .ok (.sipush 441, 3) := by decide +kernel
theorem dX9_fits_85 : decode cX9_fits 85 = .ok (.idiv, 1) := by decide +kernel
theorem dX9_fits_86 : decode cX9_fits 86 = .ok (.goto 22, 3) := by decide +kernel
theorem dX9_fits_89 : decode cX9_fits 89 = .ok (.iload_n 1, 1) := by decide +kernel
theorem dX9_fits_90 : decode cX9_fits 90 = .ok (.iconst 2, 1) := by decide +kernel
theorem dX9_fits_91 : decode cX9_fits 91 = .ok (.if_icmp .ne 13, 3) := by decide +kernel
theorem dX9_fits_94 : decode cX9_fits 94 = .ok (.iload_n 3, 1) := by decide +kernel
theorem dX9_fits_95 : decode cX9_fits 95 = .ok (.bipush 21, 2) := by decide +kernel
theorem dX9_fits_97 : decode cX9_fits 97 = .ok (.idiv, 1) := by decide +kernel
theorem dX9_fits_98 : decode cX9_fits 98 = .ok (.bipush 21, 2) := by decide +kernel
theorem dX9_fits_100 : decode cX9_fits 100 = .ok (.irem, 1) := by decide +kernel
theorem dX9_fits_101 : decode cX9_fits 101 = .ok (.goto 7, 3) := by decide +kernel
theorem dX9_fits_104 : decode cX9_fits 104 = .ok (.iload_n 3, 1) := by decide +kernel
theorem dX9_fits_105 : decode cX9_fits 105 = .ok (.bipush 21, 2) := by decide +kernel
theorem dX9_fits_107 : decode cX9_fits 107 = .ok (.irem, 1) := by decide +kernel
theorem dX9_fits_108 : decode cX9_fits 108 = .ok (.ireturn, 1) := by decide +kernel
theorem dX9_next_0 : decode cX9_next 0 = .ok (.iload_n 1, 1) := by decide +kernel
theorem dX9_next_1 : decode cX9_next 1 = .ok (.invokestatic 243, 3) := by decide +kernel
theorem dX9_next_4 : decode cX9_next 4 = .ok (.ifCond .eq 13, 3) := by decide +kernel
theorem dX9_next_7 : decode cX9_next 7 = .ok (.iload_n 2, 1) := by decide +kernel
theorem dX9_next_8 : decode cX9_next 8 = .ok (.i2l, 1) := by decide +kernel
theorem dX9_next_9 : decode cX9_next 9 = .ok (.lconst 0, 1) := by decide +kernel
theorem dX9_next_10 : decode cX9_next 10 = .ok (.lconst 1, 1) := by decide +kernel
theorem dX9_next_11 : decode cX9_next 11 = .ok (.invokestatic 92, 3) := by decide +kernel
theorem dX9_next_14 : decode cX9_next 14 = .ok (.ifCond .ne 6, 3) := by decide +kernel
theorem dX9_next_17 : decode cX9_next 17 = .ok (.bipush (-3), 2) := by decide +kernel
theorem dX9_next_19 : decode cX9_next 19 = .ok (.ireturn, 1) := by decide +kernel
theorem dX9_next_20 : decode cX9_next 20 = .ok (.aload_n 0, 1) := by decide +kernel
theorem dX9_next_21 : decode cX9_next 21 = .ok (.getfield 71, 3) := by decide +kernel
theorem dX9_next_24 : decode cX9_next 24 = .ok (.aload_n 0, 1) := by decide +kernel
theorem dX9_next_25 : decode cX9_next 25 = .ok (.getfield 302, 3) := by decide +kernel
theorem dX9_next_28 : decode cX9_next 28 = .ok (.iload_n 1, 1) := by decide +kernel
theorem dX9_next_29 : decode cX9_next 29 = .ok (.iastore, 1) := by decide +kernel
theorem dX9_next_30 : decode cX9_next 30 = .ok (.ldc_w 311, 3) := by decide +kernel
theorem dX9_next_33 : decode cX9_next 33 = .ok (.istore_n 3, 1) := by decide +kernel
theorem dX9_next_34 : decode cX9_next 34 = .ok (.ldc_w 312, 3) := by decide +kernel
theorem dX9_next_37 : decode cX9_next 37 = .ok (.istore 4, 2) := by decide +kernel
theorem dX9_next_39 : decode cX9_next 39 = .ok (.iconst 0, 1) := by decide +kernel
theorem dX9_next_40 : decode cX9_next 40 = .ok (.istore 5, 2) := by decide +kernel
theorem dX9_next_42 : decode cX9_next 42 = .ok (.iload 5, 2) := by decide +kernel
theorem dX9_next_44 : decode cX9_next 44 = .ok (.sipush 3087, 3) := by decide +kernel
theorem dX9_next_47 : decode cX9_next 47 = .ok (.if_icmp .ge 57, 3) := by decide +kernel
theorem dX9_next_50 : decode cX9_next 50 = .ok (.aload_n 0, 1) := by decide +kernel
theorem dX9_next_51 : decode cX9_next 51 = .ok (.iload 5, 2) := by decide +kernel
theorem dX9_next_53 : decode cX9_next 53 = .ok (.invokevirtual 308, 3) := by decide +kernel
theorem dX9_next_56 : decode cX9_next 56 = .ok (.ifCond .eq 42, 3) := by decide +kernel
theorem dX9_next_59 : decode cX9_next 59 = .ok (.aload_n 0, 1) := by decide +kernel
theorem dX9_next_60 : decode cX9_next 60 = .ok (.aload_n 0, 1) := by decide +kernel
theorem dX9_next_61 : decode cX9_next 61 = .ok (.getfield 302, 3) := by decide +kernel
theorem dX9_next_64 : decode cX9_next 64 = .ok (.invokevirtual 305, 3) := by decide +kernel
theorem dX9_next_67 : decode cX9_next 67 = .ok (.istore 6, 2) := by decide +kernel
theorem dX9_next_69 : decode cX9_next 69 = .ok (.iload 6, 2) := by decide +kernel
theorem dX9_next_71 : decode cX9_next 71 = .ok (.iload_n 3, 1) := by decide +kernel
theorem dX9_next_72 : decode cX9_next 72 = .ok (.if_icmp .ge 8, 3) := by decide +kernel
theorem dX9_next_75 : decode cX9_next 75 = .ok (.iload 6, 2) := by decide +kernel
theorem dX9_next_77 : decode cX9_next 77 = .ok (.goto 4, 3) := by decide +kernel
theorem dX9_next_80 : decode cX9_next 80 = .ok (.iload_n 3, 1) := by decide +kernel
theorem dX9_next_81 : decode cX9_next 81 = .ok (.istore_n 3, 1) := by decide +kernel
theorem dX9_next_82 : decode cX9_next 82 = .ok (.iload 6, 2) := by decide +kernel
theorem dX9_next_84 : decode cX9_next 84 = .ok (.iload 4, 2) := by decide +kernel
theorem dX9_next_86 : decode cX9_next 86 = .ok (.if_icmp .le 8, 3) := by decide +kernel
theorem dX9_next_89 : decode cX9_next 89 = .ok (.iload 6, 2) := by decide +kernel
theorem dX9_next_91 : decode cX9_next 91 = .ok (.goto 5, 3) := by decide +kernel
theorem dX9_next_94 : decode cX9_next 94 = .ok (.iload 4, 2) := by decide +kernel
theorem dX9_next_96 : decode cX9_next 96 = .ok (.istore 4, 2) := by decide +kernel
theorem dX9_next_98 : decode cX9_next 98 = .ok (.iinc 5 1, 3) := by decide +kernel
theorem dX9_next_101 : decode cX9_next 101 = .ok (.goto (-59), 3) := by decide +kernel
theorem dX9_next_104 : decode cX9_next 104 = .ok (.iload_n 3, 1) := by decide +kernel
theorem dX9_next_105 : decode cX9_next 105 = .ok (.ldc_w 311, 3) := by decide +kernel
theorem dX9_next_108 : decode cX9_next 108 = .ok (.if_icmp .ne 7, 3) := by decide +kernel
theorem dX9_next_111 : decode cX9_next 111 = .ok (.iconst (-1), 1) := by decide +kernel
theorem dX9_next_112 : decode cX9_next 112 = .ok (.goto 17, 3) := by decide +kernel
theorem dX9_next_115 : decode cX9_next 115 = .ok (.sipush 1000, 3) := by decide +kernel
theorem dX9_next_118 : decode cX9_next 118 = .ok (.iload_n 2, 1) := by decide +kernel
theorem dX9_next_119 : decode cX9_next 119 = .ok (.ifCond .ne 7, 3) := by decide +kernel
theorem dX9_next_122 : decode cX9_next 122 = .ok (.iload_n 3, 1) := by decide +kernel
theorem dX9_next_123 : decode cX9_next 123 = .ok (.goto 5, 3) := by decide +kernel
theorem dX9_next_126 : decode cX9_next 126 = .ok (.iload 4, 2) := by decide +kernel
theorem dX9_next_128 : decode cX9_next 128 = .ok (.iadd, 1) := by decide +kernel
theorem dX9_next_129 : decode cX9_next 129 = .ok (.ireturn, 1) := by decide +kernel
theorem dX9_layHolds_0 : decode cX9_layHolds 0 = .ok (.iconst 0, 1) := by decide +kernel
theorem dX9_layHolds_1 : decode cX9_layHolds 1 = .ok (.istore_n 1, 1) := by decide +kernel
theorem dX9_layHolds_2 : decode cX9_layHolds 2 = .ok (.iload_n 1, 1) := by decide +kernel
theorem dX9_layHolds_3 : decode cX9_layHolds 3 = .ok (.bipush 28, 2) := by decide +kernel
theorem dX9_layHolds_5 : decode cX9_layHolds 5 = .ok (.if_icmp .ge 60, 3) := by decide +kernel
theorem dX9_layHolds_8 : decode cX9_layHolds 8 = .ok (.iload_n 1, 1) := by decide +kernel
theorem dX9_layHolds_9 : decode cX9_layHolds 9 = .ok (.bipush 7, 2) := by decide +kernel
theorem dX9_layHolds_11 : decode cX9_layHolds 11 = .ok (.idiv, 1) := by decide +kernel
theorem dX9_layHolds_12 : decode cX9_layHolds 12 = .ok (.istore_n 2, 1) := by decide +kernel
theorem dX9_layHolds_13 : decode cX9_layHolds 13 = .ok (.aload_n 0, 1) := by decide +kernel
theorem dX9_layHolds_14 : decode cX9_layHolds 14 = .ok (.getfield 22, 3) := by decide +kernel
theorem dX9_layHolds_17 : decode cX9_layHolds 17 = .ok (.iload_n 2, 1) := by decide +kernel
theorem dX9_layHolds_18 : decode cX9_layHolds 18 = .ok (.iaload, 1) := by decide +kernel
theorem dX9_layHolds_19 : decode cX9_layHolds 19 = .ok (.ifCond .le 40, 3) := by decide +kernel
theorem dX9_layHolds_22 : decode cX9_layHolds 22 = .ok (.aload_n 0, 1) := by decide +kernel
theorem dX9_layHolds_23 : decode cX9_layHolds 23 = .ok (.iload_n 2, 1) := by decide +kernel
theorem dX9_layHolds_24 : decode cX9_layHolds 24 = .ok (.invokevirtual 258, 3) := by decide +kernel
theorem dX9_layHolds_27 : decode cX9_layHolds 27 = .ok (.aload_n 0, 1) := by decide +kernel
theorem dX9_layHolds_28 : decode cX9_layHolds 28 = .ok (.iload_n 1, 1) := by decide +kernel
theorem dX9_layHolds_29 : decode cX9_layHolds 29 = .ok (.bipush 7, 2) := by decide +kernel
theorem dX9_layHolds_31 : decode cX9_layHolds 31 = .ok (.irem, 1) := by decide +kernel
theorem dX9_layHolds_32 : decode cX9_layHolds 32 = .ok (.putfield 207, 3) := by decide +kernel
theorem dX9_layHolds_35 : decode cX9_layHolds 35 = .ok (.aload_n 0, 1) := by decide +kernel
theorem dX9_layHolds_36 : decode cX9_layHolds 36 = .ok (.getfield 77, 3) := by decide +kernel
theorem dX9_layHolds_39 : decode cX9_layHolds 39 = .ok (.iload_n 1, 1) := by decide +kernel
theorem dX9_layHolds_40 : decode cX9_layHolds 40 = .ok (.aload_n 0, 1) := by decide +kernel
theorem dX9_layHolds_41 : decode cX9_layHolds 41 = .ok (.bipush 10, 2) := by decide +kernel
theorem dX9_layHolds_43 : decode cX9_layHolds 43 = .ok (.iconst 0, 1) := by decide +kernel
theorem dX9_layHolds_44 : decode cX9_layHolds 44 = .ok (.iconst 1, 1) := by decide +kernel
theorem dX9_layHolds_45 : decode cX9_layHolds 45 = .ok (.invokevirtual 272, 3) := by decide +kernel
theorem dX9_layHolds_48 : decode cX9_layHolds 48 = .ok (.bipush 39, 2) := by decide +kernel
theorem dX9_layHolds_50 : decode cX9_layHolds 50 = .ok (.if_icmp .le 7, 3) := by decide +kernel
theorem dX9_layHolds_53 : decode cX9_layHolds 53 = .ok (.iconst 1, 1) := by decide +kernel
theorem dX9_layHolds_54 : decode cX9_layHolds 54 = .ok (.goto 4, 3) := by decide +kernel
theorem dX9_layHolds_57 : decode cX9_layHolds 57 = .ok (.iconst 0, 1) := by decide +kernel
theorem dX9_layHolds_58 : decode cX9_layHolds 58 = .ok (.bastore, 1) := by decide +kernel
theorem dX9_layHolds_59 : decode cX9_layHolds 59 = .ok (.iinc 1 1, 3) := by decide +kernel
theorem dX9_layHolds_62 : decode cX9_layHolds 62 = .ok (.goto (-60), 3) := by decide +kernel
theorem dX9_layHolds_65 : decode cX9_layHolds 65 = .ok (.return_, 1) := by decide +kernel
theorem dX9_tenthsBy_0 : decode cX9_tenthsBy 0 = .ok (.bipush 10, 2) := by decide +kernel
theorem dX9_tenthsBy_2 : decode cX9_tenthsBy 2 = .ok (.aload_n 0, 1) := by decide +kernel
theorem dX9_tenthsBy_3 : decode cX9_tenthsBy 3 = .ok (.getfield 35, 3) := by decide +kernel
theorem dX9_tenthsBy_6 : decode cX9_tenthsBy 6 = .ok (.imul, 1) := by decide +kernel
theorem dX9_tenthsBy_7 : decode cX9_tenthsBy 7 = .ok (.istore_n 3, 1) := by decide +kernel
theorem dX9_tenthsBy_8 : decode cX9_tenthsBy 8 = .ok (.iconst 1, 1) := by decide +kernel
theorem dX9_tenthsBy_9 : decode cX9_tenthsBy 9 = .ok (.istore 4, 2) := by decide +kernel
theorem dX9_tenthsBy_11 : decode cX9_tenthsBy 11 = .ok (.iconst 1, 1) := by decide +kernel
theorem dX9_tenthsBy_12 : decode cX9_tenthsBy 12 = .ok (.istore 5, 2) := by decide +kernel
theorem dX9_tenthsBy_14 : decode cX9_tenthsBy 14 = .ok (.iload 5, 2) := by decide +kernel
theorem dX9_tenthsBy_16 : decode cX9_tenthsBy 16 = .ok (.iload_n 2, 1) := by decide +kernel
theorem dX9_tenthsBy_17 : decode cX9_tenthsBy 17 = .ok (.if_icmp .ge 15, 3) := by decide +kernel
theorem dX9_tenthsBy_20 : decode cX9_tenthsBy 20 = .ok (.iload 4, 2) := by decide +kernel
theorem dX9_tenthsBy_22 : decode cX9_tenthsBy 22 = .ok (.iconst 4, 1) := by decide +kernel
theorem dX9_tenthsBy_23 : decode cX9_tenthsBy 23 = .ok (.imul, 1) := by decide +kernel
theorem dX9_tenthsBy_24 : decode cX9_tenthsBy 24 = .ok (.istore 4, 2) := by decide +kernel
theorem dX9_tenthsBy_26 : decode cX9_tenthsBy 26 = .ok (.iinc 5 1, 3) := by decide +kernel
theorem dX9_tenthsBy_29 : decode cX9_tenthsBy 29 = .ok (.goto (-15), 3) := by decide +kernel
theorem dX9_tenthsBy_32 : decode cX9_tenthsBy 32 = .ok (.iconst 0, 1) := by decide +kernel
theorem dX9_tenthsBy_33 : decode cX9_tenthsBy 33 = .ok (.istore 5, 2) := by decide +kernel
theorem dX9_tenthsBy_35 : decode cX9_tenthsBy 35 = .ok (.iload 5, 2) := by decide +kernel
theorem dX9_tenthsBy_37 : decode cX9_tenthsBy 37 = .ok (.iload_n 2, 1) := by decide +kernel
theorem dX9_tenthsBy_38 : decode cX9_tenthsBy 38 = .ok (.if_icmp .ge 108, 3) := by decide +kernel
theorem dX9_tenthsBy_41 : decode cX9_tenthsBy 41 = .ok (.iload_n 1, 1) := by decide +kernel
theorem dX9_tenthsBy_42 : decode cX9_tenthsBy 42 = .ok (.iload 4, 2) := by decide +kernel
theorem dX9_tenthsBy_44 : decode cX9_tenthsBy 44 = .ok (.idiv, 1) := by decide +kernel
theorem dX9_tenthsBy_45 : decode cX9_tenthsBy 45 = .ok (.iconst 4, 1) := by decide +kernel
theorem dX9_tenthsBy_46 : decode cX9_tenthsBy 46 = .ok (.irem, 1) := by decide +kernel
theorem dX9_tenthsBy_47 : decode cX9_tenthsBy 47 = .ok (.istore 6, 2) := by decide +kernel
theorem dX9_tenthsBy_49 : decode cX9_tenthsBy 49 = .ok (.iload 4, 2) := by decide +kernel
theorem dX9_tenthsBy_51 : decode cX9_tenthsBy 51 = .ok (.iconst 4, 1) := by decide +kernel
theorem dX9_tenthsBy_52 : decode cX9_tenthsBy 52 = .ok (.idiv, 1) := by decide +kernel
theorem dX9_tenthsBy_53 : decode cX9_tenthsBy 53 = .ok (.istore 4, 2) := by decide +kernel
theorem dX9_tenthsBy_55 : decode cX9_tenthsBy 55 = .ok (.aload_n 0, 1) := by decide +kernel
theorem dX9_tenthsBy_56 : decode cX9_tenthsBy 56 = .ok (.getfield 22, 3) := by decide +kernel
theorem dX9_tenthsBy_59 : decode cX9_tenthsBy 59 = .ok (.iload 6, 2) := by decide +kernel
theorem dX9_tenthsBy_61 : decode cX9_tenthsBy 61 = .ok (.iaload, 1) := by decide +kernel
theorem dX9_tenthsBy_62 : decode cX9_tenthsBy 62 = .ok (.ifCond .ne 7, 3) := by decide +kernel
theorem dX9_tenthsBy_65 : decode cX9_tenthsBy 65 = .ok (.ldc_w 311, 3) := by decide +kernel
theorem dX9_tenthsBy_68 : decode cX9_tenthsBy 68 = .ok (.ireturn, 1) := by decide +kernel
theorem dX9_tenthsBy_69 : decode cX9_tenthsBy 69 = .ok (.sipush 200, 3) := by decide +kernel
theorem dX9_tenthsBy_72 : decode cX9_tenthsBy 72 = .ok (.aload_n 0, 1) := by decide +kernel
theorem dX9_tenthsBy_73 : decode cX9_tenthsBy 73 = .ok (.iload 6, 2) := by decide +kernel
theorem dX9_tenthsBy_75 : decode cX9_tenthsBy 75 = .ok (.invokevirtual 195, 3) := by decide +kernel
theorem dX9_tenthsBy_78 : decode cX9_tenthsBy 78 = .ok (.bipush 20, 2) := by decide +kernel
theorem dX9_tenthsBy_80 : decode cX9_tenthsBy 80 = .ok (.iadd, 1) := by decide +kernel
theorem dX9_tenthsBy_81 : decode cX9_tenthsBy 81 = .ok (.idiv, 1) := by decide +kernel
theorem dX9_tenthsBy_82 : decode cX9_tenthsBy 82 = .ok (.istore 7, 2) := by decide +kernel
theorem dX9_tenthsBy_84 : decode cX9_tenthsBy 84 = .ok (.aload_n 0, 1) := by decide +kernel
theorem dX9_tenthsBy_85 : decode cX9_tenthsBy 85 = .ok (.getfield 77, 3) := by decide +kernel
theorem dX9_tenthsBy_88 : decode cX9_tenthsBy 88 = .ok (.bipush 7, 2) := by decide +kernel
theorem dX9_tenthsBy_90 : decode cX9_tenthsBy 90 = .ok (.iload 6, 2) := by decide +kernel
theorem dX9_tenthsBy_92 : decode cX9_tenthsBy 92 = .ok (.imul, 1) := by decide +kernel
theorem dX9_tenthsBy_93 : decode cX9_tenthsBy 93 = .ok (.iload_n 3, 1) := by decide +kernel
theorem dX9_tenthsBy_94 : decode cX9_tenthsBy 94 = .ok (.bipush 10, 2) := by decide +kernel
theorem dX9_tenthsBy_96 : decode cX9_tenthsBy 96 = .ok (.idiv, 1) := by decide +kernel
theorem dX9_tenthsBy_97 : decode cX9_tenthsBy 97 = .ok (.iadd, 1) := by decide +kernel
theorem dX9_tenthsBy_98 : decode cX9_tenthsBy 98 = .ok (.baload, 1) := by decide +kernel
theorem dX9_tenthsBy_99 : decode cX9_tenthsBy 99 = .ok (.ifCond .eq 28, 3) := by decide +kernel
theorem dX9_tenthsBy_102 : decode cX9_tenthsBy 102 = .ok (.iload_n 3, 1) := by decide +kernel
theorem dX9_tenthsBy_103 : decode cX9_tenthsBy 103 = .ok (.iload 7, 2) := by decide +kernel
theorem dX9_tenthsBy_105 : decode cX9_tenthsBy 105 = .ok (.iconst 1, 1) := by decide +kernel
theorem dX9_tenthsBy_106 : decode cX9_tenthsBy 106 = .ok (.if_icmp .le 8, 3) := by decide +kernel
theorem dX9_tenthsBy_109 : decode cX9_tenthsBy 109 = .ok (.iload 7, 2) := by decide +kernel
theorem dX9_tenthsBy_111 : decode cX9_tenthsBy 111 = .ok (.goto 4, 3) := by decide +kernel
theorem dX9_tenthsBy_114 : decode cX9_tenthsBy 114 = .ok (.iconst 1, 1) := by decide +kernel
theorem dX9_tenthsBy_115 : decode cX9_tenthsBy 115 = .ok (.isub, 1) := by decide +kernel
theorem dX9_tenthsBy_116 : decode cX9_tenthsBy 116 = .ok (.istore_n 3, 1) := by decide +kernel
theorem dX9_tenthsBy_117 : decode cX9_tenthsBy 117 = .ok (.iload_n 3, 1) := by decide +kernel
theorem dX9_tenthsBy_118 : decode cX9_tenthsBy 118 = .ok (.ifCond .le 7, 3) := by decide +kernel
theorem dX9_tenthsBy_121 : decode cX9_tenthsBy 121 = .ok (.iload_n 3, 1) := by decide +kernel
theorem dX9_tenthsBy_122 : decode cX9_tenthsBy 122 = .ok (.goto 4, 3) := by decide +kernel
theorem dX9_tenthsBy_125 : decode cX9_tenthsBy 125 = .ok (.iconst 0, 1) := by decide +kernel
theorem dX9_tenthsBy_126 : decode cX9_tenthsBy 126 = .ok (.istore_n 3, 1) := by decide +kernel
theorem dX9_tenthsBy_127 : decode cX9_tenthsBy 127 = .ok (.iload 4, 2) := by decide +kernel
theorem dX9_tenthsBy_129 : decode cX9_tenthsBy 129 = .ok (.ifCond .ne 7, 3) := by decide +kernel
theorem dX9_tenthsBy_132 : decode cX9_tenthsBy 132 = .ok (.iconst 1, 1) := by decide +kernel
theorem dX9_tenthsBy_133 : decode cX9_tenthsBy 133 = .ok (.goto 5, 3) := by decide +kernel
theorem dX9_tenthsBy_136 : decode cX9_tenthsBy 136 = .ok (.iload 4, 2) := by decide +kernel
theorem dX9_tenthsBy_138 : decode cX9_tenthsBy 138 = .ok (.istore 4, 2) := by decide +kernel
theorem dX9_tenthsBy_140 : decode cX9_tenthsBy 140 = .ok (.iinc 5 1, 3) := by decide +kernel
theorem dX9_tenthsBy_143 : decode cX9_tenthsBy 143 = .ok (.goto (-108), 3) := by decide +kernel
theorem dX9_tenthsBy_146 : decode cX9_tenthsBy 146 = .ok (.iload_n 3, 1) := by decide +kernel
theorem dX9_tenthsBy_147 : decode cX9_tenthsBy 147 = .ok (.ireturn, 1) := by decide +kernel
theorem dX9_plan_0 : decode cX9_plan 0 = .ok (.iload_n 1, 1) := by decide +kernel
theorem dX9_plan_1 : decode cX9_plan 1 = .ok (.i2l, 1) := by decide +kernel
theorem dX9_plan_2 : decode cX9_plan 2 = .ok (.lconst 1, 1) := by decide +kernel
theorem dX9_plan_3 : decode cX9_plan 3 = .ok (.ldc2_w 291, 3) := by decide +kernel
theorem dX9_plan_6 : decode cX9_plan 6 = .ok (.invokestatic 92, 3) := by decide +kernel
theorem dX9_plan_9 : decode cX9_plan 9 = .ok (.ifCond .eq 18, 3) := by decide +kernel
theorem dX9_plan_12 : decode cX9_plan 12 = .ok (.iload_n 2, 1) := by decide +kernel
theorem dX9_plan_13 : decode cX9_plan 13 = .ok (.i2l, 1) := by decide +kernel
theorem dX9_plan_14 : decode cX9_plan 14 = .ok (.ldc2_w 313, 3) := by decide +kernel
theorem dX9_plan_17 : decode cX9_plan 17 = .ok (.iload_n 1, 1) := by decide +kernel
theorem dX9_plan_18 : decode cX9_plan 18 = .ok (.iconst 1, 1) := by decide +kernel
theorem dX9_plan_19 : decode cX9_plan 19 = .ok (.isub, 1) := by decide +kernel
theorem dX9_plan_20 : decode cX9_plan 20 = .ok (.i2l, 1) := by decide +kernel
theorem dX9_plan_21 : decode cX9_plan 21 = .ok (.invokestatic 92, 3) := by decide +kernel
theorem dX9_plan_24 : decode cX9_plan 24 = .ok (.ifCond .ne 6, 3) := by decide +kernel
theorem dX9_plan_27 : decode cX9_plan 27 = .ok (.bipush (-3), 2) := by decide +kernel
theorem dX9_plan_29 : decode cX9_plan 29 = .ok (.ireturn, 1) := by decide +kernel
theorem dX9_plan_30 : decode cX9_plan 30 = .ok (.aload_n 0, 1) := by decide +kernel
theorem dX9_plan_31 : decode cX9_plan 31 = .ok (.invokevirtual 315, 3) := by decide +kernel
theorem dX9_plan_34 : decode cX9_plan 34 = .ok (.iconst 1, 1) := by decide +kernel
theorem dX9_plan_35 : decode cX9_plan 35 = .ok (.istore_n 3, 1) := by decide +kernel
theorem dX9_plan_36 : decode cX9_plan 36 = .ok (.iconst 0, 1) := by decide +kernel
theorem dX9_plan_37 : decode cX9_plan 37 = .ok (.istore 4, 2) := by decide +kernel
theorem dX9_plan_39 : decode cX9_plan 39 = .ok (.iload 4, 2) := by decide +kernel
theorem dX9_plan_41 : decode cX9_plan 41 = .ok (.iload_n 1, 1) := by decide +kernel
theorem dX9_plan_42 : decode cX9_plan 42 = .ok (.if_icmp .ge 13, 3) := by decide +kernel
theorem dX9_plan_45 : decode cX9_plan 45 = .ok (.iload_n 3, 1) := by decide +kernel
theorem dX9_plan_46 : decode cX9_plan 46 = .ok (.iconst 4, 1) := by decide +kernel
theorem dX9_plan_47 : decode cX9_plan 47 = .ok (.imul, 1) := by decide +kernel
theorem dX9_plan_48 : decode cX9_plan 48 = .ok (.istore_n 3, 1) := by decide +kernel
theorem dX9_plan_49 : decode cX9_plan 49 = .ok (.iinc 4 1, 3) := by decide +kernel
theorem dX9_plan_52 : decode cX9_plan 52 = .ok (.goto (-13), 3) := by decide +kernel
theorem dX9_plan_55 : decode cX9_plan 55 = .ok (.iconst (-1), 1) := by decide +kernel
theorem dX9_plan_56 : decode cX9_plan 56 = .ok (.istore 4, 2) := by decide +kernel
theorem dX9_plan_58 : decode cX9_plan 58 = .ok (.ldc_w 311, 3) := by decide +kernel
theorem dX9_plan_61 : decode cX9_plan 61 = .ok (.istore 5, 2) := by decide +kernel
theorem dX9_plan_63 : decode cX9_plan 63 = .ok (.iconst 0, 1) := by decide +kernel
theorem dX9_plan_64 : decode cX9_plan 64 = .ok (.istore 6, 2) := by decide +kernel
theorem dX9_plan_66 : decode cX9_plan 66 = .ok (.iload 6, 2) := by decide +kernel
theorem dX9_plan_68 : decode cX9_plan 68 = .ok (.iload_n 3, 1) := by decide +kernel
theorem dX9_plan_69 : decode cX9_plan 69 = .ok (.if_icmp .ge 50, 3) := by decide +kernel
theorem dX9_plan_72 : decode cX9_plan 72 = .ok (.aload_n 0, 1) := by decide +kernel
theorem dX9_plan_73 : decode cX9_plan 73 = .ok (.iload 6, 2) := by decide +kernel
theorem dX9_plan_75 : decode cX9_plan 75 = .ok (.iload_n 1, 1) := by decide +kernel
theorem dX9_plan_76 : decode cX9_plan 76 = .ok (.invokevirtual 318, 3) := by decide +kernel
theorem dX9_plan_79 : decode cX9_plan 79 = .ok (.istore 7, 2) := by decide +kernel
theorem dX9_plan_81 : decode cX9_plan 81 = .ok (.iload 7, 2) := by decide +kernel
theorem dX9_plan_83 : decode cX9_plan 83 = .ok (.iload 5, 2) := by decide +kernel
theorem dX9_plan_85 : decode cX9_plan 85 = .ok (.if_icmp .ge 8, 3) := by decide +kernel
theorem dX9_plan_88 : decode cX9_plan 88 = .ok (.iload 6, 2) := by decide +kernel
theorem dX9_plan_90 : decode cX9_plan 90 = .ok (.goto 5, 3) := by decide +kernel
theorem dX9_plan_93 : decode cX9_plan 93 = .ok (.iload 4, 2) := by decide +kernel
theorem dX9_plan_95 : decode cX9_plan 95 = .ok (.istore 4, 2) := by decide +kernel
theorem dX9_plan_97 : decode cX9_plan 97 = .ok (.iload 7, 2) := by decide +kernel
theorem dX9_plan_99 : decode cX9_plan 99 = .ok (.iload 5, 2) := by decide +kernel
theorem dX9_plan_101 : decode cX9_plan 101 = .ok (.if_icmp .ge 8, 3) := by decide +kernel
theorem dX9_plan_104 : decode cX9_plan 104 = .ok (.iload 7, 2) := by decide +kernel
theorem dX9_plan_106 : decode cX9_plan 106 = .ok (.goto 5, 3) := by decide +kernel
theorem dX9_plan_109 : decode cX9_plan 109 = .ok (.iload 5, 2) := by decide +kernel
theorem dX9_plan_111 : decode cX9_plan 111 = .ok (.istore 5, 2) := by decide +kernel
theorem dX9_plan_113 : decode cX9_plan 113 = .ok (.iinc 6 1, 3) := by decide +kernel
theorem dX9_plan_116 : decode cX9_plan 116 = .ok (.goto (-50), 3) := by decide +kernel
theorem dX9_plan_119 : decode cX9_plan 119 = .ok (.iload 4, 2) := by decide +kernel
theorem dX9_plan_121 : decode cX9_plan 121 = .ok (.iconst (-1), 1) := by decide +kernel
theorem dX9_plan_122 : decode cX9_plan 122 = .ok (.if_icmp .ne 5, 3) := by decide +kernel
theorem dX9_plan_125 : decode cX9_plan 125 = .ok (.iconst (-1), 1) := by decide +kernel
theorem dX9_plan_126 : decode cX9_plan 126 = .ok (.ireturn, 1) := by decide +kernel
theorem dX9_plan_127 : decode cX9_plan 127 = .ok (.iload 4, 2) := by decide +kernel
theorem dX9_plan_129 : decode cX9_plan 129 = .ok (.istore 6, 2) := by decide +kernel
theorem dX9_plan_131 : decode cX9_plan 131 = .ok (.iload_n 1, 1) := by decide +kernel
theorem dX9_plan_132 : decode cX9_plan 132 = .ok (.iconst 1, 1) := by decide +kernel
theorem dX9_plan_133 : decode cX9_plan 133 = .ok (.isub, 1) := by decide +kernel
theorem dX9_plan_134 : decode cX9_plan 134 = .ok (.istore 7, 2) := by decide +kernel
theorem dX9_plan_136 : decode cX9_plan 136 = .ok (.iload 7, 2) := by decide +kernel
theorem dX9_plan_138 : decode cX9_plan 138 = .ok (.iload_n 2, 1) := by decide +kernel
theorem dX9_plan_139 : decode cX9_plan 139 = .ok (.if_icmp .le 20, 3) := by decide +kernel
theorem dX9_plan_142 : decode cX9_plan 142 = .ok (.iload_n 2, 1) := by decide +kernel
theorem dX9_plan_143 : decode cX9_plan 143 = .ok (.iconst (-1), 1) := by decide +kernel
theorem dX9_plan_144 : decode cX9_plan 144 = .ok (.if_icmp .eq 15, 3) := by decide +kernel
theorem dX9_plan_147 : decode cX9_plan 147 = .ok (.iload 6, 2) := by decide +kernel
theorem dX9_plan_149 : decode cX9_plan 149 = .ok (.iconst 4, 1) := by decide +kernel
theorem dX9_plan_150 : decode cX9_plan 150 = .ok (.idiv, 1) := by decide +kernel
theorem dX9_plan_151 : decode cX9_plan 151 = .ok (.istore 6, 2) := by decide +kernel
theorem dX9_plan_153 : decode cX9_plan 153 = .ok (.iinc 7 (-1), 3) := by decide +kernel
theorem dX9_plan_156 : decode cX9_plan 156 = .ok (.goto (-20), 3) := by decide +kernel
theorem dX9_plan_159 : decode cX9_plan 159 = .ok (.iload_n 2, 1) := by decide +kernel
theorem dX9_plan_160 : decode cX9_plan 160 = .ok (.iconst (-1), 1) := by decide +kernel
theorem dX9_plan_161 : decode cX9_plan 161 = .ok (.if_icmp .ne 8, 3) := by decide +kernel
theorem dX9_plan_164 : decode cX9_plan 164 = .ok (.iload 5, 2) := by decide +kernel
theorem dX9_plan_166 : decode cX9_plan 166 = .ok (.goto 7, 3) := by decide +kernel
theorem dX9_plan_169 : decode cX9_plan 169 = .ok (.iload 6, 2) := by decide +kernel
theorem dX9_plan_171 : decode cX9_plan 171 = .ok (.iconst 4, 1) := by decide +kernel
theorem dX9_plan_172 : decode cX9_plan 172 = .ok (.irem, 1) := by decide +kernel
theorem dX9_plan_173 : decode cX9_plan 173 = .ok (.ireturn, 1) := by decide +kernel
theorem dX9_isCell_0 : decode cX9_isCell 0 = .ok (.iload_n 0, 1) := by decide +kernel
theorem dX9_isCell_1 : decode cX9_isCell 1 = .ok (.i2l, 1) := by decide +kernel
theorem dX9_isCell_2 : decode cX9_isCell 2 = .ok (.lconst 0, 1) := by decide +kernel
theorem dX9_isCell_3 : decode cX9_isCell 3 = .ok (.ldc2_w 321, 3) := by decide +kernel
theorem dX9_isCell_6 : decode cX9_isCell 6 = .ok (.invokestatic 92, 3) := by decide +kernel
theorem dX9_isCell_9 : decode cX9_isCell 9 = .ok (.ireturn, 1) := by decide +kernel
theorem dX9_room_0 : decode cX9_room 0 = .ok (.iload_n 1, 1) := by decide +kernel
theorem dX9_room_1 : decode cX9_room 1 = .ok (.invokestatic 323, 3) := by decide +kernel
theorem dX9_room_4 : decode cX9_room 4 = .ok (.ifCond .ne 6, 3) := by decide +kernel
theorem dX9_room_7 : decode cX9_room 7 = .ok (.bipush (-2), 2) := by decide +kernel
theorem dX9_room_9 : decode cX9_room 9 = .ok (.ireturn, 1) := by decide +kernel
theorem dX9_room_10 : decode cX9_room 10 = .ok (.iload_n 2, 1) := by decide +kernel
theorem dX9_room_11 : decode cX9_room 11 = .ok (.i2l, 1) := by decide +kernel
theorem dX9_room_12 : decode cX9_room 12 = .ok (.lconst 0, 1) := by decide +kernel
theorem dX9_room_13 : decode cX9_room 13 = .ok (.ldc2_w 241, 3) := by decide +kernel
theorem dX9_room_16 : decode cX9_room 16 = .ok (.invokestatic 92, 3) := by decide +kernel
theorem dX9_room_19 : decode cX9_room 19 = .ok (.ifCond .eq 15, 3) := by decide +kernel
theorem dX9_room_22 : decode cX9_room 22 = .ok (.iload_n 3, 1) := by decide +kernel
theorem dX9_room_23 : decode cX9_room 23 = .ok (.i2l, 1) := by decide +kernel
theorem dX9_room_24 : decode cX9_room 24 = .ok (.lconst 0, 1) := by decide +kernel
theorem dX9_room_25 : decode cX9_room 25 = .ok (.ldc2_w 326, 3) := by decide +kernel
theorem dX9_room_28 : decode cX9_room 28 = .ok (.invokestatic 92, 3) := by decide +kernel
theorem dX9_room_31 : decode cX9_room 31 = .ok (.ifCond .ne 6, 3) := by decide +kernel
theorem dX9_room_34 : decode cX9_room 34 = .ok (.bipush (-3), 2) := by decide +kernel
theorem dX9_room_36 : decode cX9_room 36 = .ok (.ireturn, 1) := by decide +kernel
theorem dX9_room_37 : decode cX9_room 37 = .ok (.aload_n 0, 1) := by decide +kernel
theorem dX9_room_38 : decode cX9_room 38 = .ok (.getfield 81, 3) := by decide +kernel
theorem dX9_room_41 : decode cX9_room 41 = .ok (.iload_n 1, 1) := by decide +kernel
theorem dX9_room_42 : decode cX9_room 42 = .ok (.iaload, 1) := by decide +kernel
theorem dX9_room_43 : decode cX9_room 43 = .ok (.istore 4, 2) := by decide +kernel
theorem dX9_room_45 : decode cX9_room 45 = .ok (.aload_n 0, 1) := by decide +kernel
theorem dX9_room_46 : decode cX9_room 46 = .ok (.getfield 81, 3) := by decide +kernel
theorem dX9_room_49 : decode cX9_room 49 = .ok (.iload_n 1, 1) := by decide +kernel
theorem dX9_room_50 : decode cX9_room 50 = .ok (.iload_n 2, 1) := by decide +kernel
theorem dX9_room_51 : decode cX9_room 51 = .ok (.iastore, 1) := by decide +kernel
theorem dX9_room_52 : decode cX9_room 52 = .ok (.aload_n 0, 1) := by decide +kernel
theorem dX9_room_53 : decode cX9_room 53 = .ok (.getfield 84, 3) := by decide +kernel
theorem dX9_room_56 : decode cX9_room 56 = .ok (.iload_n 1, 1) := by decide +kernel
theorem dX9_room_57 : decode cX9_room 57 = .ok (.iload_n 3, 1) := by decide +kernel
theorem dX9_room_58 : decode cX9_room 58 = .ok (.iastore, 1) := by decide +kernel
theorem dX9_room_59 : decode cX9_room 59 = .ok (.iload 4, 2) := by decide +kernel
theorem dX9_room_61 : decode cX9_room 61 = .ok (.ireturn, 1) := by decide +kernel
theorem dX9_areBeside_0 : decode cX9_areBeside 0 = .ok (.iload_n 0, 1) := by decide +kernel
theorem dX9_areBeside_1 : decode cX9_areBeside 1 = .ok (.bipush 6, 2) := by decide +kernel
theorem dX9_areBeside_3 : decode cX9_areBeside 3 = .ok (.irem, 1) := by decide +kernel
theorem dX9_areBeside_4 : decode cX9_areBeside 4 = .ok (.iload_n 1, 1) := by decide +kernel
theorem dX9_areBeside_5 : decode cX9_areBeside 5 = .ok (.bipush 6, 2) := by decide +kernel
theorem dX9_areBeside_7 : decode cX9_areBeside 7 = .ok (.irem, 1) := by decide +kernel
theorem dX9_areBeside_8 : decode cX9_areBeside 8 = .ok (.isub, 1) := by decide +kernel
theorem dX9_areBeside_9 : decode cX9_areBeside 9 = .ok (.istore_n 2, 1) := by decide +kernel
theorem dX9_areBeside_10 : decode cX9_areBeside 10 = .ok (.iload_n 0, 1) := by decide +kernel
theorem dX9_areBeside_11 : decode cX9_areBeside 11 = .ok (.bipush 6, 2) := by decide +kernel
theorem dX9_areBeside_13 : decode cX9_areBeside 13 = .ok (.idiv, 1) := by decide +kernel
theorem dX9_areBeside_14 : decode cX9_areBeside 14 = .ok (.iload_n 1, 1) := by decide +kernel
theorem dX9_areBeside_15 : decode cX9_areBeside 15 = .ok (.bipush 6, 2) := by decide +kernel
theorem dX9_areBeside_17 : decode cX9_areBeside 17 = .ok (.idiv, 1) := by decide +kernel
theorem dX9_areBeside_18 : decode cX9_areBeside 18 = .ok (.isub, 1) := by decide +kernel
theorem dX9_areBeside_19 : decode cX9_areBeside 19 = .ok (.istore_n 3, 1) := by decide +kernel
theorem dX9_areBeside_20 : decode cX9_areBeside 20 = .ok (.iload_n 2, 1) := by decide +kernel
theorem dX9_areBeside_21 : decode cX9_areBeside 21 = .ok (.iload_n 2, 1) := by decide +kernel
theorem dX9_areBeside_22 : decode cX9_areBeside 22 = .ok (.imul, 1) := by decide +kernel
theorem dX9_areBeside_23 : decode cX9_areBeside 23 = .ok (.iload_n 3, 1) := by decide +kernel
theorem dX9_areBeside_24 : decode cX9_areBeside 24 = .ok (.iload_n 3, 1) := by decide +kernel
theorem dX9_areBeside_25 : decode cX9_areBeside 25 = .ok (.imul, 1) := by decide +kernel
theorem dX9_areBeside_26 : decode cX9_areBeside 26 = .ok (.iadd, 1) := by decide +kernel
theorem dX9_areBeside_27 : decode cX9_areBeside 27 = .ok (.iconst 1, 1) := by decide +kernel
theorem dX9_areBeside_28 : decode cX9_areBeside 28 = .ok (.if_icmp .ne 7, 3) := by decide +kernel
theorem dX9_areBeside_31 : decode cX9_areBeside 31 = .ok (.iconst 1, 1) := by decide +kernel
theorem dX9_areBeside_32 : decode cX9_areBeside 32 = .ok (.goto 4, 3) := by decide +kernel
theorem dX9_areBeside_35 : decode cX9_areBeside 35 = .ok (.iconst 0, 1) := by decide +kernel
theorem dX9_areBeside_36 : decode cX9_areBeside 36 = .ok (.ireturn, 1) := by decide +kernel
theorem dX9_way_0 : decode cX9_way 0 = .ok (.iload_n 1, 1) := by decide +kernel
theorem dX9_way_1 : decode cX9_way 1 = .ok (.invokestatic 192, 3) := by decide +kernel
theorem dX9_way_4 : decode cX9_way 4 = .ok (.ifCond .eq 17, 3) := by decide +kernel
theorem dX9_way_7 : decode cX9_way 7 = .ok (.iload_n 2, 1) := by decide +kernel
theorem dX9_way_8 : decode cX9_way 8 = .ok (.invokestatic 323, 3) := by decide +kernel
theorem dX9_way_11 : decode cX9_way 11 = .ok (.ifCond .eq 10, 3) := by decide +kernel
theorem dX9_way_14 : decode cX9_way 14 = .ok (.iload_n 3, 1) := by decide +kernel
theorem dX9_way_15 : decode cX9_way 15 = .ok (.invokestatic 323, 3) := by decide +kernel
theorem dX9_way_18 : decode cX9_way 18 = .ok (.ifCond .ne 6, 3) := by decide +kernel
theorem dX9_way_21 : decode cX9_way 21 = .ok (.bipush (-2), 2) := by decide +kernel
theorem dX9_way_23 : decode cX9_way 23 = .ok (.ireturn, 1) := by decide +kernel
theorem dX9_way_24 : decode cX9_way 24 = .ok (.iload 4, 2) := by decide +kernel
theorem dX9_way_26 : decode cX9_way 26 = .ok (.i2l, 1) := by decide +kernel
theorem dX9_way_27 : decode cX9_way 27 = .ok (.lconst 0, 1) := by decide +kernel
theorem dX9_way_28 : decode cX9_way 28 = .ok (.ldc2_w 241, 3) := by decide +kernel
theorem dX9_way_31 : decode cX9_way 31 = .ok (.invokestatic 92, 3) := by decide +kernel
theorem dX9_way_34 : decode cX9_way 34 = .ok (.ifCond .eq 14, 3) := by decide +kernel
theorem dX9_way_37 : decode cX9_way 37 = .ok (.iload 5, 2) := by decide +kernel
theorem dX9_way_39 : decode cX9_way 39 = .ok (.i2l, 1) := by decide +kernel
theorem dX9_way_40 : decode cX9_way 40 = .ok (.lconst 0, 1) := by decide +kernel
theorem dX9_way_41 : decode cX9_way 41 = .ok (.lconst 1, 1) := by decide +kernel
theorem dX9_way_42 : decode cX9_way 42 = .ok (.invokestatic 92, 3) := by decide +kernel
theorem dX9_way_45 : decode cX9_way 45 = .ok (.ifCond .ne 6, 3) := by decide +kernel
theorem dX9_way_48 : decode cX9_way 48 = .ok (.bipush (-3), 2) := by decide +kernel
theorem dX9_way_50 : decode cX9_way 50 = .ok (.ireturn, 1) := by decide +kernel
theorem dX9_way_51 : decode cX9_way 51 = .ok (.aload_n 0, 1) := by decide +kernel
theorem dX9_way_52 : decode cX9_way 52 = .ok (.getfield 22, 3) := by decide +kernel
theorem dX9_way_55 : decode cX9_way 55 = .ok (.iload_n 1, 1) := by decide +kernel
theorem dX9_way_56 : decode cX9_way 56 = .ok (.iaload, 1) := by decide +kernel
theorem dX9_way_57 : decode cX9_way 57 = .ok (.ifCond .ne 6, 3) := by decide +kernel
theorem dX9_way_60 : decode cX9_way 60 = .ok (.bipush (-4), 2) := by decide +kernel
theorem dX9_way_62 : decode cX9_way 62 = .ok (.ireturn, 1) := by decide +kernel
theorem dX9_way_63 : decode cX9_way 63 = .ok (.aload_n 0, 1) := by decide +kernel
theorem dX9_way_64 : decode cX9_way 64 = .ok (.iload_n 1, 1) := by decide +kernel
theorem dX9_way_65 : decode cX9_way 65 = .ok (.invokevirtual 198, 3) := by decide +kernel
theorem dX9_way_68 : decode cX9_way 68 = .ok (.istore 6, 2) := by decide +kernel
theorem dX9_way_70 : decode cX9_way 70 = .ok (.iconst 0, 1) := by decide +kernel
theorem dX9_way_71 : decode cX9_way 71 = .ok (.istore 7, 2) := by decide +kernel
theorem dX9_way_73 : decode cX9_way 73 = .ok (.iload 7, 2) := by decide +kernel
theorem dX9_way_75 : decode cX9_way 75 = .ok (.bipush 36, 2) := by decide +kernel
theorem dX9_way_77 : decode cX9_way 77 = .ok (.if_icmp .ge 19, 3) := by decide +kernel
theorem dX9_way_80 : decode cX9_way 80 = .ok (.aload_n 0, 1) := by decide +kernel
theorem dX9_way_81 : decode cX9_way 81 = .ok (.getfield 87, 3) := by decide +kernel
theorem dX9_way_84 : decode cX9_way 84 = .ok (.iload 7, 2) := by decide +kernel
theorem dX9_way_86 : decode cX9_way 86 = .ok (.ldc_w 311, 3) := by decide +kernel
theorem dX9_way_89 : decode cX9_way 89 = .ok (.iastore, 1) := by decide +kernel
theorem dX9_way_90 : decode cX9_way 90 = .ok (.iinc 7 1, 3) := by decide +kernel
theorem dX9_way_93 : decode cX9_way 93 = .ok (.goto (-20), 3) := by decide +kernel
theorem dX9_way_96 : decode cX9_way 96 = .ok (.aload_n 0, 1) := by decide +kernel
theorem dX9_way_97 : decode cX9_way 97 = .ok (.getfield 81, 3) := by decide +kernel
theorem dX9_way_100 : decode cX9_way 100 = .ok (.iload_n 2, 1) := by decide +kernel
theorem dX9_way_101 : decode cX9_way 101 = .ok (.iaload, 1) := by decide +kernel
theorem dX9_way_102 : decode cX9_way 102 = .ok (.iload 4, 2) := by decide +kernel
theorem dX9_way_104 : decode cX9_way 104 = .ok (.if_icmp .gt 27, 3) := by decide +kernel
theorem dX9_way_107 : decode cX9_way 107 = .ok (.aload_n 0, 1) := by decide +kernel
theorem dX9_way_108 : decode cX9_way 108 = .ok (.getfield 84, 3) := by decide +kernel
theorem dX9_way_111 : decode cX9_way 111 = .ok (.iload_n 2, 1) := by decide +kernel
theorem dX9_way_112 : decode cX9_way 112 = .ok (.iaload, 1) := by decide +kernel
theorem dX9_way_113 : decode cX9_way 113 = .ok (.ifCond .eq 14, 3) := by decide +kernel
theorem dX9_way_116 : decode cX9_way 116 = .ok (.aload_n 0, 1) := by decide +kernel
theorem dX9_way_117 : decode cX9_way 117 = .ok (.getfield 84, 3) := by decide +kernel
theorem dX9_way_120 : decode cX9_way 120 = .ok (.iload_n 2, 1) := by decide +kernel
theorem dX9_way_121 : decode cX9_way 121 = .ok (.iaload, 1) := by decide +kernel
theorem dX9_way_122 : decode cX9_way 122 = .ok (.iload 6, 2) := by decide +kernel
theorem dX9_way_124 : decode cX9_way 124 = .ok (.if_icmp .le 7, 3) := by decide +kernel
theorem dX9_way_127 : decode cX9_way 127 = .ok (.iconst 1, 1) := by decide +kernel
theorem dX9_way_128 : decode cX9_way 128 = .ok (.goto 4, 3) := by decide +kernel
theorem dX9_way_131 : decode cX9_way 131 = .ok (.iconst 0, 1) := by decide +kernel
theorem dX9_way_132 : decode cX9_way 132 = .ok (.istore 7, 2) := by decide +kernel
theorem dX9_way_134 : decode cX9_way 134 = .ok (.aload_n 0, 1) := by decide +kernel
theorem dX9_way_135 : decode cX9_way 135 = .ok (.getfield 87, 3) := by decide +kernel
theorem dX9_way_138 : decode cX9_way 138 = .ok (.iload_n 2, 1) := by decide +kernel
theorem dX9_way_139 : decode cX9_way 139 = .ok (.iload 7, 2) := by decide +kernel
theorem dX9_way_141 : decode cX9_way 141 = .ok (.ifCond .eq 12, 3) := by decide +kernel
theorem dX9_way_144 : decode cX9_way 144 = .ok (.aload_n 0, 1) := by decide +kernel
theorem dX9_way_145 : decode cX9_way 145 = .ok (.getfield 81, 3) := by decide +kernel
theorem dX9_way_148 : decode cX9_way 148 = .ok (.iload_n 2, 1) := by decide +kernel
theorem dX9_way_149 : decode cX9_way 149 = .ok (.iaload, 1) := by decide +kernel
theorem dX9_way_150 : decode cX9_way 150 = .ok (.goto 6, 3) := by decide +kernel
theorem dX9_way_153 : decode cX9_way 153 = .ok (.ldc_w 311, 3) := by decide +kernel
theorem dX9_way_156 : decode cX9_way 156 = .ok (.iastore, 1) := by decide +kernel
theorem dX9_way_157 : decode cX9_way 157 = .ok (.iload 7, 2) := by decide +kernel
theorem dX9_way_159 : decode cX9_way 159 = .ok (.istore 8, 2) := by decide +kernel
theorem dX9_way_161 : decode cX9_way 161 = .ok (.iload 8, 2) := by decide +kernel
theorem dX9_way_163 : decode cX9_way 163 = .ok (.ifCond .eq 167, 3) := by decide +kernel
theorem dX9_way_166 : decode cX9_way 166 = .ok (.iconst 0, 1) := by decide +kernel
theorem dX9_way_167 : decode cX9_way 167 = .ok (.istore 8, 2) := by decide +kernel
theorem dX9_way_169 : decode cX9_way 169 = .ok (.iconst 0, 1) := by decide +kernel
theorem dX9_way_170 : decode cX9_way 170 = .ok (.istore 9, 2) := by decide +kernel
theorem dX9_way_172 : decode cX9_way 172 = .ok (.iload 9, 2) := by decide +kernel
theorem dX9_way_174 : decode cX9_way 174 = .ok (.sipush 1296, 3) := by decide +kernel
theorem dX9_way_177 : decode cX9_way 177 = .ok (.if_icmp .ge 150, 3) := by decide +kernel
theorem dX9_way_180 : decode cX9_way 180 = .ok (.iload 9, 2) := by decide +kernel
theorem dX9_way_182 : decode cX9_way 182 = .ok (.bipush 36, 2) := by decide +kernel
theorem dX9_way_184 : decode cX9_way 184 = .ok (.idiv, 1) := by decide +kernel
theorem dX9_way_185 : decode cX9_way 185 = .ok (.istore 10, 2) := by decide +kernel
theorem dX9_way_187 : decode cX9_way 187 = .ok (.iload 9, 2) := by decide +kernel
theorem dX9_way_189 : decode cX9_way 189 = .ok (.bipush 36, 2) := by decide +kernel
theorem dX9_way_191 : decode cX9_way 191 = .ok (.irem, 1) := by decide +kernel
theorem dX9_way_192 : decode cX9_way 192 = .ok (.istore 11, 2) := by decide +kernel
theorem dX9_way_194 : decode cX9_way 194 = .ok (.aload_n 0, 1) := by decide +kernel
theorem dX9_way_195 : decode cX9_way 195 = .ok (.getfield 87, 3) := by decide +kernel
theorem dX9_way_198 : decode cX9_way 198 = .ok (.iload 10, 2) := by decide +kernel
theorem dX9_way_200 : decode cX9_way 200 = .ok (.iaload, 1) := by decide +kernel
theorem dX9_way_201 : decode cX9_way 201 = .ok (.ldc_w 311, 3) := by decide +kernel
theorem dX9_way_204 : decode cX9_way 204 = .ok (.if_icmp .ge 51, 3) := by decide +kernel
theorem dX9_way_207 : decode cX9_way 207 = .ok (.iload 10, 2) := by decide +kernel
theorem dX9_way_209 : decode cX9_way 209 = .ok (.iload 11, 2) := by decide +kernel
theorem dX9_way_211 : decode cX9_way 211 = .ok (.invokestatic 328, 3) := by decide +kernel
theorem dX9_way_214 : decode cX9_way 214 = .ok (.ifCond .eq 41, 3) := by decide +kernel
theorem dX9_way_217 : decode cX9_way 217 = .ok (.aload_n 0, 1) := by decide +kernel
theorem dX9_way_218 : decode cX9_way 218 = .ok (.getfield 81, 3) := by decide +kernel
theorem dX9_way_221 : decode cX9_way 221 = .ok (.iload 11, 2) := by decide +kernel
theorem dX9_way_223 : decode cX9_way 223 = .ok (.iaload, 1) := by decide +kernel
theorem dX9_way_224 : decode cX9_way 224 = .ok (.iload 4, 2) := by decide +kernel
theorem dX9_way_226 : decode cX9_way 226 = .ok (.if_icmp .gt 29, 3) := by decide +kernel
theorem dX9_way_229 : decode cX9_way 229 = .ok (.aload_n 0, 1) := by decide +kernel
theorem dX9_way_230 : decode cX9_way 230 = .ok (.getfield 84, 3) := by decide +kernel
theorem dX9_way_233 : decode cX9_way 233 = .ok (.iload 11, 2) := by decide +kernel
theorem dX9_way_235 : decode cX9_way 235 = .ok (.iaload, 1) := by decide +kernel
theorem dX9_way_236 : decode cX9_way 236 = .ok (.ifCond .eq 15, 3) := by decide +kernel
theorem dX9_way_239 : decode cX9_way 239 = .ok (.aload_n 0, 1) := by decide +kernel
theorem dX9_way_240 : decode cX9_way 240 = .ok (.getfield 84, 3) := by decide +kernel
theorem dX9_way_243 : decode cX9_way 243 = .ok (.iload 11, 2) := by decide +kernel
theorem dX9_way_245 : decode cX9_way 245 = .ok (.iaload, 1) := by decide +kernel
theorem dX9_way_246 : decode cX9_way 246 = .ok (.iload 6, 2) := by decide +kernel
theorem dX9_way_248 : decode cX9_way 248 = .ok (.if_icmp .le 7, 3) := by decide +kernel
theorem dX9_way_251 : decode cX9_way 251 = .ok (.iconst 1, 1) := by decide +kernel
theorem dX9_way_252 : decode cX9_way 252 = .ok (.goto 4, 3) := by decide +kernel
theorem dX9_way_255 : decode cX9_way 255 = .ok (.iconst 0, 1) := by decide +kernel
theorem dX9_way_256 : decode cX9_way 256 = .ok (.istore 12, 2) := by decide +kernel
theorem dX9_way_258 : decode cX9_way 258 = .ok (.iload 12, 2) := by decide +kernel
theorem dX9_way_260 : decode cX9_way 260 = .ok (.ifCond .eq 61, 3) := by decide +kernel
theorem dX9_way_263 : decode cX9_way 263 = .ok (.aload_n 0, 1) := by decide +kernel
theorem dX9_way_264 : decode cX9_way 264 = .ok (.getfield 87, 3) := by decide +kernel
theorem dX9_way_267 : decode cX9_way 267 = .ok (.iload 10, 2) := by decide +kernel
theorem dX9_way_269 : decode cX9_way 269 = .ok (.iaload, 1) := by decide +kernel
theorem dX9_way_270 : decode cX9_way 270 = .ok (.sipush 10000, 3) := by decide +kernel
theorem dX9_way_273 : decode cX9_way 273 = .ok (.iadd, 1) := by decide +kernel
theorem dX9_way_274 : decode cX9_way 274 = .ok (.aload_n 0, 1) := by decide +kernel
theorem dX9_way_275 : decode cX9_way 275 = .ok (.getfield 81, 3) := by decide +kernel
theorem dX9_way_278 : decode cX9_way 278 = .ok (.iload 11, 2) := by decide +kernel
theorem dX9_way_280 : decode cX9_way 280 = .ok (.iaload, 1) := by decide +kernel
theorem dX9_way_281 : decode cX9_way 281 = .ok (.iadd, 1) := by decide +kernel
theorem dX9_way_282 : decode cX9_way 282 = .ok (.aload_n 0, 1) := by decide +kernel
theorem dX9_way_283 : decode cX9_way 283 = .ok (.getfield 87, 3) := by decide +kernel
theorem dX9_way_286 : decode cX9_way 286 = .ok (.iload 11, 2) := by decide +kernel
theorem dX9_way_288 : decode cX9_way 288 = .ok (.iaload, 1) := by decide +kernel
theorem dX9_way_289 : decode cX9_way 289 = .ok (.if_icmp .ge 32, 3) := by decide +kernel
theorem dX9_way_292 : decode cX9_way 292 = .ok (.aload_n 0, 1) := by decide +kernel
theorem dX9_way_293 : decode cX9_way 293 = .ok (.getfield 87, 3) := by decide +kernel
theorem dX9_way_296 : decode cX9_way 296 = .ok (.iload 11, 2) := by decide +kernel
theorem dX9_way_298 : decode cX9_way 298 = .ok (.aload_n 0, 1) := by decide +kernel
theorem dX9_way_299 : decode cX9_way 299 = .ok (.getfield 87, 3) := by decide +kernel
theorem dX9_way_302 : decode cX9_way 302 = .ok (.iload 10, 2) := by decide +kernel
theorem dX9_way_304 : decode cX9_way 304 = .ok (.iaload, 1) := by decide +kernel
theorem dX9_way_305 : decode cX9_way 305 = .ok (.sipush 10000, 3) := by decide +kernel
theorem dX9_way_308 : decode cX9_way 308 = .ok (.iadd, 1) := by decide +kernel
theorem dX9_way_309 : decode cX9_way 309 = .ok (.aload_n 0, 1) := by decide +kernel
theorem dX9_way_310 : decode cX9_way 310 = .ok (.getfield 81, 3) := by decide +kernel
theorem dX9_way_313 : decode cX9_way 313 = .ok (.iload 11, 2) := by decide +kernel
theorem dX9_way_315 : decode cX9_way 315 = .ok (.iaload, 1) := by decide +kernel
theorem dX9_way_316 : decode cX9_way 316 = .ok (.iadd, 1) := by decide +kernel
theorem dX9_way_317 : decode cX9_way 317 = .ok (.iastore, 1) := by decide +kernel
theorem dX9_way_318 : decode cX9_way 318 = .ok (.iconst 1, 1) := by decide +kernel
theorem dX9_way_319 : decode cX9_way 319 = .ok (.istore 8, 2) := by decide +kernel
theorem dX9_way_321 : decode cX9_way 321 = .ok (.iinc 9 1, 3) := by decide +kernel
theorem dX9_way_324 : decode cX9_way 324 = .ok (.goto (-152), 3) := by decide +kernel
theorem dX9_way_327 : decode cX9_way 327 = .ok (.goto (-166), 3) := by decide +kernel
theorem dX9_way_330 : decode cX9_way 330 = .ok (.aload_n 0, 1) := by decide +kernel
theorem dX9_way_331 : decode cX9_way 331 = .ok (.getfield 87, 3) := by decide +kernel
theorem dX9_way_334 : decode cX9_way 334 = .ok (.iload_n 3, 1) := by decide +kernel
theorem dX9_way_335 : decode cX9_way 335 = .ok (.iaload, 1) := by decide +kernel
theorem dX9_way_336 : decode cX9_way 336 = .ok (.ldc_w 311, 3) := by decide +kernel
theorem dX9_way_339 : decode cX9_way 339 = .ok (.if_icmp .ne 7, 3) := by decide +kernel
theorem dX9_way_342 : decode cX9_way 342 = .ok (.iconst (-1), 1) := by decide +kernel
theorem dX9_way_343 : decode cX9_way 343 = .ok (.goto 31, 3) := by decide +kernel
theorem dX9_way_346 : decode cX9_way 346 = .ok (.iload 5, 2) := by decide +kernel
theorem dX9_way_348 : decode cX9_way 348 = .ok (.ifCond .ne 16, 3) := by decide +kernel
theorem dX9_way_351 : decode cX9_way 351 = .ok (.aload_n 0, 1) := by decide +kernel
theorem dX9_way_352 : decode cX9_way 352 = .ok (.getfield 87, 3) := by decide +kernel
theorem dX9_way_355 : decode cX9_way 355 = .ok (.iload_n 3, 1) := by decide +kernel
theorem dX9_way_356 : decode cX9_way 356 = .ok (.iaload, 1) := by decide +kernel
theorem dX9_way_357 : decode cX9_way 357 = .ok (.sipush 10000, 3) := by decide +kernel
theorem dX9_way_360 : decode cX9_way 360 = .ok (.idiv, 1) := by decide +kernel
theorem dX9_way_361 : decode cX9_way 361 = .ok (.goto 13, 3) := by decide +kernel
theorem dX9_way_364 : decode cX9_way 364 = .ok (.aload_n 0, 1) := by decide +kernel
theorem dX9_way_365 : decode cX9_way 365 = .ok (.getfield 87, 3) := by decide +kernel
theorem dX9_way_368 : decode cX9_way 368 = .ok (.iload_n 3, 1) := by decide +kernel
theorem dX9_way_369 : decode cX9_way 369 = .ok (.iaload, 1) := by decide +kernel
theorem dX9_way_370 : decode cX9_way 370 = .ok (.sipush 10000, 3) := by decide +kernel
theorem dX9_way_373 : decode cX9_way 373 = .ok (.irem, 1) := by decide +kernel
theorem dX9_way_374 : decode cX9_way 374 = .ok (.ireturn, 1) := by decide +kernel
theorem dX9_count_0 : decode cX9_count 0 = .ok (.iload_n 1, 1) := by decide +kernel
theorem dX9_count_1 : decode cX9_count 1 = .ok (.tableswitch 123 0 11 #[63, 68, 73, 78, 83, 88, 93, 98, 103, 108, 113, 118], 63) := by decide +kernel
theorem dX9_count_64 : decode cX9_count 64 = .ok (.aload_n 0, 1) := by decide +kernel
theorem dX9_count_65 : decode cX9_count 65 = .ok (.getfield 28, 3) := by decide +kernel
theorem dX9_count_68 : decode cX9_count 68 = .ok (.ireturn, 1) := by decide +kernel
theorem dX9_count_69 : decode cX9_count 69 = .ok (.aload_n 0, 1) := by decide +kernel
theorem dX9_count_70 : decode cX9_count 70 = .ok (.getfield 32, 3) := by decide +kernel
theorem dX9_count_73 : decode cX9_count 73 = .ok (.ireturn, 1) := by decide +kernel
theorem dX9_count_74 : decode cX9_count 74 = .ok (.aload_n 0, 1) := by decide +kernel
theorem dX9_count_75 : decode cX9_count 75 = .ok (.getfield 35, 3) := by decide +kernel
theorem dX9_count_78 : decode cX9_count 78 = .ok (.ireturn, 1) := by decide +kernel
theorem dX9_count_79 : decode cX9_count 79 = .ok (.aload_n 0, 1) := by decide +kernel
theorem dX9_count_80 : decode cX9_count 80 = .ok (.getfield 38, 3) := by decide +kernel
theorem dX9_count_83 : decode cX9_count 83 = .ok (.ireturn, 1) := by decide +kernel
theorem dX9_count_84 : decode cX9_count 84 = .ok (.aload_n 0, 1) := by decide +kernel
theorem dX9_count_85 : decode cX9_count 85 = .ok (.getfield 174, 3) := by decide +kernel
theorem dX9_count_88 : decode cX9_count 88 = .ok (.ireturn, 1) := by decide +kernel
theorem dX9_count_89 : decode cX9_count 89 = .ok (.aload_n 0, 1) := by decide +kernel
theorem dX9_count_90 : decode cX9_count 90 = .ok (.getfield 41, 3) := by decide +kernel
theorem dX9_count_93 : decode cX9_count 93 = .ok (.ireturn, 1) := by decide +kernel
theorem dX9_count_94 : decode cX9_count 94 = .ok (.aload_n 0, 1) := by decide +kernel
theorem dX9_count_95 : decode cX9_count 95 = .ok (.getfield 44, 3) := by decide +kernel
theorem dX9_count_98 : decode cX9_count 98 = .ok (.ireturn, 1) := by decide +kernel
theorem dX9_count_99 : decode cX9_count 99 = .ok (.aload_n 0, 1) := by decide +kernel
theorem dX9_count_100 : decode cX9_count 100 = .ok (.getfield 47, 3) := by decide +kernel
theorem dX9_count_103 : decode cX9_count 103 = .ok (.ireturn, 1) := by decide +kernel
theorem dX9_count_104 : decode cX9_count 104 = .ok (.aload_n 0, 1) := by decide +kernel
theorem dX9_count_105 : decode cX9_count 105 = .ok (.getfield 177, 3) := by decide +kernel
theorem dX9_count_108 : decode cX9_count 108 = .ok (.ireturn, 1) := by decide +kernel
theorem dX9_count_109 : decode cX9_count 109 = .ok (.aload_n 0, 1) := by decide +kernel
theorem dX9_count_110 : decode cX9_count 110 = .ok (.getfield 180, 3) := by decide +kernel
theorem dX9_count_113 : decode cX9_count 113 = .ok (.ireturn, 1) := by decide +kernel
theorem dX9_count_114 : decode cX9_count 114 = .ok (.aload_n 0, 1) := by decide +kernel
theorem dX9_count_115 : decode cX9_count 115 = .ok (.getfield 302, 3) := by decide +kernel
theorem dX9_count_118 : decode cX9_count 118 = .ok (.ireturn, 1) := by decide +kernel
theorem dX9_count_119 : decode cX9_count 119 = .ok (.aload_n 0, 1) := by decide +kernel
theorem dX9_count_120 : decode cX9_count 120 = .ok (.getfield 96, 3) := by decide +kernel
theorem dX9_count_123 : decode cX9_count 123 = .ok (.ireturn, 1) := by decide +kernel
theorem dX9_count_124 : decode cX9_count 124 = .ok (.bipush (-3), 2) := by decide +kernel
theorem dX9_count_126 : decode cX9_count 126 = .ok (.ireturn, 1) := by decide +kernel
