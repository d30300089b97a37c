theorem dX10_tries_182 : decode cX10_tries 182 = .ok (.getfield 13, 3) := by decide +kernel
theorem dX10_tries_185 : decode cX10_tries 185 = .ok (.iload_n 3, 1) := by decide +kernel
theorem dX10_tries_186 : decode cX10_tries 186 = .ok (.aload_n 0, 1) := by decide +kernel
theorem dX10_tries_187 : decode cX10_tries 187 = .ok (.getfield 53, 3) := by decide +kernel
theorem dX10_tries_190 : decode cX10_tries 190 = .ok (.iload_n 3, 1) := by decide +kernel
theorem dX10_tries_191 : decode cX10_tries 191 = .ok (.iaload, 1) := by decide +kernel
theorem dX10_tries_192 : decode cX10_tries 192 = .ok (.iastore, 1) := by decide +kernel
theorem dX10_tries_193 : decode cX10_tries 193 = .ok (.aload_n 0, 1) := by decide +kernel
theorem dX10_tries_194 : decode cX10_tries 194 = .ok (.getfield 17, 3) := by decide +kernel
theorem dX10_tries_197 : decode cX10_tries 197 = .ok (.iload_n 3, 1) := by decide +kernel
theorem dX10_tries_198 : decode cX10_tries 198 = .ok (.aload_n 0, 1) := by decide +kernel
theorem dX10_tries_199 : decode cX10_tries 199 = .ok (.getfield 53, 3) := by decide +kernel
theorem dX10_tries_202 : decode cX10_tries 202 = .ok (.iconst 5, 1) := by decide +kernel
theorem dX10_tries_203 : decode cX10_tries 203 = .ok (.iload_n 3, 1) := by decide +kernel
theorem dX10_tries_204 : decode cX10_tries 204 = .ok (.iadd, 1) := by decide +kernel
theorem dX10_tries_205 : decode cX10_tries 205 = .ok (.iaload, 1) := by decide +kernel
theorem dX10_tries_206 : decode cX10_tries 206 = .ok (.iastore, 1) := by decide +kernel
theorem dX10_tries_207 : decode cX10_tries 207 = .ok (.aload_n 0, 1) := by decide +kernel
theorem dX10_tries_208 : decode cX10_tries 208 = .ok (.getfield 20, 3) := by decide +kernel
theorem dX10_tries_211 : decode cX10_tries 211 = .ok (.iload_n 3, 1) := by decide +kernel
theorem dX10_tries_212 : decode cX10_tries 212 = .ok (.aload_n 0, 1) := by decide +kernel
theorem dX10_tries_213 : decode cX10_tries 213 = .ok (.getfield 53, 3) := by decide +kernel
theorem dX10_tries_216 : decode cX10_tries 216 = .ok (.bipush 10, 2) := by decide +kernel
theorem dX10_tries_218 : decode cX10_tries 218 = .ok (.iload_n 3, 1) := by decide +kernel
theorem dX10_tries_219 : decode cX10_tries 219 = .ok (.iadd, 1) := by decide +kernel
theorem dX10_tries_220 : decode cX10_tries 220 = .ok (.iaload, 1) := by decide +kernel
theorem dX10_tries_221 : decode cX10_tries 221 = .ok (.iastore, 1) := by decide +kernel
theorem dX10_tries_222 : decode cX10_tries 222 = .ok (.iinc 3 1, 3) := by decide +kernel
theorem dX10_tries_225 : decode cX10_tries 225 = .ok (.goto (-81), 3) := by decide +kernel
theorem dX10_tries_228 : decode cX10_tries 228 = .ok (.iload_n 2, 1) := by decide +kernel
theorem dX10_tries_229 : decode cX10_tries 229 = .ok (.ireturn, 1) := by decide +kernel
theorem dX10_would_0 : decode cX10_would 0 = .ok (.aload_n 0, 1) := by decide +kernel
theorem dX10_would_1 : decode cX10_would 1 = .ok (.iload_n 1, 1) := by decide +kernel
theorem dX10_would_2 : decode cX10_would 2 = .ok (.invokevirtual 98, 3) := by decide +kernel
theorem dX10_would_5 : decode cX10_would 5 = .ok (.ifCond .eq 15, 3) := by decide +kernel
theorem dX10_would_8 : decode cX10_would 8 = .ok (.iload_n 2, 1) := by decide +kernel
theorem dX10_would_9 : decode cX10_would 9 = .ok (.i2l, 1) := by decide +kernel
theorem dX10_would_10 : decode cX10_would 10 = .ok (.lconst 0, 1) := by decide +kernel
theorem dX10_would_11 : decode cX10_would 11 = .ok (.ldc2_w 83, 3) := by decide +kernel
theorem dX10_would_14 : decode cX10_would 14 = .ok (.invokestatic 59, 3) := by decide +kernel
theorem dX10_would_17 : decode cX10_would 17 = .ok (.ifCond .ne 8, 3) := by decide +kernel
theorem dX10_would_20 : decode cX10_would 20 = .ok (.aload_n 0, 1) := by decide +kernel
theorem dX10_would_21 : decode cX10_would 21 = .ok (.invokevirtual 87, 3) := by decide +kernel
theorem dX10_would_24 : decode cX10_would 24 = .ok (.ireturn, 1) := by decide +kernel
theorem dX10_would_25 : decode cX10_would 25 = .ok (.aload_n 0, 1) := by decide +kernel
theorem dX10_would_26 : decode cX10_would 26 = .ok (.iload_n 1, 1) := by decide +kernel
theorem dX10_would_27 : decode cX10_would 27 = .ok (.invokevirtual 162, 3) := by decide +kernel
theorem dX10_would_30 : decode cX10_would 30 = .ok (.istore_n 3, 1) := by decide +kernel
theorem dX10_would_31 : decode cX10_would 31 = .ok (.iload_n 2, 1) := by decide +kernel
theorem dX10_would_32 : decode cX10_would 32 = .ok (.ifCond .ne 7, 3) := by decide +kernel
theorem dX10_would_35 : decode cX10_would 35 = .ok (.iload_n 3, 1) := by decide +kernel
theorem dX10_would_36 : decode cX10_would 36 = .ok (.goto 19, 3) := by decide +kernel
theorem dX10_would_39 : decode cX10_would 39 = .ok (.iload_n 2, 1) := by decide +kernel
theorem dX10_would_40 : decode cX10_would 40 = .ok (.iconst 1, 1) := by decide +kernel
theorem dX10_would_41 : decode cX10_would 41 = .ok (.if_icmp .ne 10, 3) := by decide +kernel
theorem dX10_would_44 : decode cX10_would 44 = .ok (.aload_n 0, 1) := by decide +kernel
theorem dX10_would_45 : decode cX10_would 45 = .ok (.getfield 156, 3) := by decide +kernel
theorem dX10_would_48 : decode cX10_would 48 = .ok (.goto 7, 3) := by decide +kernel
theorem dX10_would_51 : decode cX10_would 51 = .ok (.aload_n 0, 1) := by decide +kernel
theorem dX10_would_52 : decode cX10_would 52 = .ok (.getfield 159, 3) := by decide +kernel
theorem dX10_would_55 : decode cX10_would 55 = .ok (.ireturn, 1) := by decide +kernel
theorem dX10_worst_0 : decode cX10_worst 0 = .ok (.iload_n 1, 1) := by decide +kernel
theorem dX10_worst_1 : decode cX10_worst 1 = .ok (.i2l, 1) := by decide +kernel
theorem dX10_worst_2 : decode cX10_worst 2 = .ok (.lconst 0, 1) := by decide +kernel
theorem dX10_worst_3 : decode cX10_worst 3 = .ok (.lconst 1, 1) := by decide +kernel
theorem dX10_worst_4 : decode cX10_worst 4 = .ok (.invokestatic 59, 3) := by decide +kernel
theorem dX10_worst_7 : decode cX10_worst 7 = .ok (.ifCond .ne 8, 3) := by decide +kernel
theorem dX10_worst_10 : decode cX10_worst 10 = .ok (.aload_n 0, 1) := by decide +kernel
theorem dX10_worst_11 : decode cX10_worst 11 = .ok (.invokevirtual 87, 3) := by decide +kernel
theorem dX10_worst_14 : decode cX10_worst 14 = .ok (.ireturn, 1) := by decide +kernel
theorem dX10_worst_15 : decode cX10_worst 15 = .ok (.iconst 0, 1) := by decide +kernel
theorem dX10_worst_16 : decode cX10_worst 16 = .ok (.istore_n 2, 1) := by decide +kernel
theorem dX10_worst_17 : decode cX10_worst 17 = .ok (.aload_n 0, 1) := by decide +kernel
theorem dX10_worst_18 : decode cX10_worst 18 = .ok (.iconst 0, 1) := by decide +kernel
theorem dX10_worst_19 : decode cX10_worst 19 = .ok (.invokevirtual 162, 3) := by decide +kernel
theorem dX10_worst_22 : decode cX10_worst 22 = .ok (.istore_n 3, 1) := by decide +kernel
theorem dX10_worst_23 : decode cX10_worst 23 = .ok (.iconst 1, 1) := by decide +kernel
theorem dX10_worst_24 : decode cX10_worst 24 = .ok (.istore 4, 2) := by decide +kernel
theorem dX10_worst_26 : decode cX10_worst 26 = .ok (.iload 4, 2) := by decide +kernel
theorem dX10_worst_28 : decode cX10_worst 28 = .ok (.aload_n 0, 1) := by decide +kernel
theorem dX10_worst_29 : decode cX10_worst 29 = .ok (.getfield 7, 3) := by decide +kernel
theorem dX10_worst_32 : decode cX10_worst 32 = .ok (.if_icmp .ge 43, 3) := by decide +kernel
theorem dX10_worst_35 : decode cX10_worst 35 = .ok (.aload_n 0, 1) := by decide +kernel
theorem dX10_worst_36 : decode cX10_worst 36 = .ok (.iload 4, 2) := by decide +kernel
theorem dX10_worst_38 : decode cX10_worst 38 = .ok (.invokevirtual 162, 3) := by decide +kernel
theorem dX10_worst_41 : decode cX10_worst 41 = .ok (.istore 5, 2) := by decide +kernel
theorem dX10_worst_43 : decode cX10_worst 43 = .ok (.iload 5, 2) := by decide +kernel
theorem dX10_worst_45 : decode cX10_worst 45 = .ok (.iload_n 3, 1) := by decide +kernel
theorem dX10_worst_46 : decode cX10_worst 46 = .ok (.if_icmp .le 8, 3) := by decide +kernel
theorem dX10_worst_49 : decode cX10_worst 49 = .ok (.iload 4, 2) := by decide +kernel
theorem dX10_worst_51 : decode cX10_worst 51 = .ok (.goto 4, 3) := by decide +kernel
theorem dX10_worst_54 : decode cX10_worst 54 = .ok (.iload_n 2, 1) := by decide +kernel
theorem dX10_worst_55 : decode cX10_worst 55 = .ok (.istore_n 2, 1) := by decide +kernel
theorem dX10_worst_56 : decode cX10_worst 56 = .ok (.iload 5, 2) := by decide +kernel
theorem dX10_worst_58 : decode cX10_worst 58 = .ok (.iload_n 3, 1) := by decide +kernel
theorem dX10_worst_59 : decode cX10_worst 59 = .ok (.if_icmp .le 8, 3) := by decide +kernel
theorem dX10_worst_62 : decode cX10_worst 62 = .ok (.iload 5, 2) := by decide +kernel
theorem dX10_worst_64 : decode cX10_worst 64 = .ok (.goto 4, 3) := by decide +kernel
theorem dX10_worst_67 : decode cX10_worst 67 = .ok (.iload_n 3, 1) := by decide +kernel
theorem dX10_worst_68 : decode cX10_worst 68 = .ok (.istore_n 3, 1) := by decide +kernel
theorem dX10_worst_69 : decode cX10_worst 69 = .ok (.iinc 4 1, 3) := by decide +kernel
theorem dX10_worst_72 : decode cX10_worst 72 = .ok (.goto (-46), 3) := by decide +kernel
theorem dX10_worst_75 : decode cX10_worst 75 = .ok (.iload_n 1, 1) := by decide +kernel
theorem dX10_worst_76 : decode cX10_worst 76 = .ok (.ifCond .ne 7, 3) := by decide +kernel
theorem dX10_worst_79 : decode cX10_worst 79 = .ok (.iload_n 2, 1) := by decide +kernel
theorem dX10_worst_80 : decode cX10_worst 80 = .ok (.goto 4, 3) := by decide +kernel
theorem dX10_worst_83 : decode cX10_worst 83 = .ok (.iload_n 3, 1) := by decide +kernel
theorem dX10_worst_84 : decode cX10_worst 84 = .ok (.ireturn, 1) := by decide +kernel
theorem dX10_draw_0 : decode cX10_draw 0 = .ok (.iload_n 1, 1) := by decide +kernel
theorem dX10_draw_1 : decode cX10_draw 1 = .ok (.i2l, 1) := by decide +kernel
theorem dX10_draw_2 : decode cX10_draw 2 = .ok (.lconst 0, 1) := by decide +kernel
theorem dX10_draw_3 : decode cX10_draw 3 = .ok (.ldc2_w 165, 3) := by decide +kernel
theorem dX10_draw_6 : decode cX10_draw 6 = .ok (.invokestatic 59, 3) := by decide +kernel
theorem dX10_draw_9 : decode cX10_draw 9 = .ok (.ifCond .eq 15, 3) := by decide +kernel
theorem dX10_draw_12 : decode cX10_draw 12 = .ok (.iload_n 2, 1) := by decide +kernel
theorem dX10_draw_13 : decode cX10_draw 13 = .ok (.i2l, 1) := by decide +kernel
theorem dX10_draw_14 : decode cX10_draw 14 = .ok (.lconst 1, 1) := by decide +kernel
theorem dX10_draw_15 : decode cX10_draw 15 = .ok (.ldc2_w 167, 3) := by decide +kernel
theorem dX10_draw_18 : decode cX10_draw 18 = .ok (.invokestatic 59, 3) := by decide +kernel
theorem dX10_draw_21 : decode cX10_draw 21 = .ok (.ifCond .ne 8, 3) := by decide +kernel
theorem dX10_draw_24 : decode cX10_draw 24 = .ok (.aload_n 0, 1) := by decide +kernel
theorem dX10_draw_25 : decode cX10_draw 25 = .ok (.invokevirtual 87, 3) := by decide +kernel
theorem dX10_draw_28 : decode cX10_draw 28 = .ok (.ireturn, 1) := by decide +kernel
theorem dX10_draw_29 : decode cX10_draw 29 = .ok (.iload_n 1, 1) := by decide +kernel
theorem dX10_draw_30 : decode cX10_draw 30 = .ok (.i2l, 1) := by decide +kernel
theorem dX10_draw_31 : decode cX10_draw 31 = .ok (.lstore_n 3, 1) := by decide +kernel
theorem dX10_draw_32 : decode cX10_draw 32 = .ok (.iconst 0, 1) := by decide +kernel
theorem dX10_draw_33 : decode cX10_draw 33 = .ok (.istore 5, 2) := by decide +kernel
theorem dX10_draw_35 : decode cX10_draw 35 = .ok (.aload_n 0, 1) := by decide +kernel
theorem dX10_draw_36 : decode cX10_draw 36 = .ok (.invokevirtual 91, 3) := by decide +kernel
theorem dX10_draw_39 : decode cX10_draw 39 = .ok (.iconst 0, 1) := by decide +kernel
theorem dX10_draw_40 : decode cX10_draw 40 = .ok (.istore 6, 2) := by decide +kernel
theorem dX10_draw_42 : decode cX10_draw 42 = .ok (.iload 6, 2) := by decide +kernel
theorem dX10_draw_44 : decode cX10_draw 44 = .ok (.iload_n 2, 1) := by decide +kernel
theorem dX10_draw_45 : decode cX10_draw 45 = .ok (.if_icmp .ge 72, 3) := by decide +kernel
theorem dX10_draw_48 : decode cX10_draw 48 = .ok (.lload_n 3, 1) := by decide +kernel
theorem dX10_draw_49 : decode cX10_draw 49 = .ok (.ldc2_w 169, 3) := by decide +kernel
theorem dX10_draw_52 : decode cX10_draw 52 = .ok (.lmul, 1) := by decide +kernel
theorem dX10_draw_53 : decode cX10_draw 53 = .ok (.ldc2_w 171, 3) := by decide +kernel
theorem dX10_draw_56 : decode cX10_draw 56 = .ok (.ladd, 1) := by decide +kernel
theorem dX10_draw_57 : decode cX10_draw 57 = .ok (.ldc2_w 173, 3) := by decide +kernel
theorem dX10_draw_60 : decode cX10_draw 60 = .ok (.lrem, 1) := by decide +kernel
theorem dX10_draw_61 : decode cX10_draw 61 = .ok (.lstore_n 3, 1) := by decide +kernel
theorem dX10_draw_62 : decode cX10_draw 62 = .ok (.iload 5, 2) := by decide +kernel
theorem dX10_draw_64 : decode cX10_draw 64 = .ok (.aload_n 0, 1) := by decide +kernel
theorem dX10_draw_65 : decode cX10_draw 65 = .ok (.lload_n 3, 1) := by decide +kernel
theorem dX10_draw_66 : decode cX10_draw 66 = .ok (.ldc2_w 175, 3) := by decide +kernel
theorem dX10_draw_69 : decode cX10_draw 69 = .ok (.ldiv, 1) := by decide +kernel
theorem dX10_draw_70 : decode cX10_draw 70 = .ok (.aload_n 0, 1) := by decide +kernel
theorem dX10_draw_71 : decode cX10_draw 71 = .ok (.getfield 7, 3) := by decide +kernel
theorem dX10_draw_74 : decode cX10_draw 74 = .ok (.i2l, 1) := by decide +kernel
theorem dX10_draw_75 : decode cX10_draw 75 = .ok (.lrem, 1) := by decide +kernel
theorem dX10_draw_76 : decode cX10_draw 76 = .ok (.l2i, 1) := by decide +kernel
theorem dX10_draw_77 : decode cX10_draw 77 = .ok (.lload_n 3, 1) := by decide +kernel
theorem dX10_draw_78 : decode cX10_draw 78 = .ok (.ldc2_w 177, 3) := by decide +kernel
theorem dX10_draw_81 : decode cX10_draw 81 = .ok (.ldiv, 1) := by decide +kernel
theorem dX10_draw_82 : decode cX10_draw 82 = .ok (.ldc2_w 179, 3) := by decide +kernel
theorem dX10_draw_85 : decode cX10_draw 85 = .ok (.lrem, 1) := by decide +kernel
theorem dX10_draw_86 : decode cX10_draw 86 = .ok (.l2i, 1) := by decide +kernel
theorem dX10_draw_87 : decode cX10_draw 87 = .ok (.lload_n 3, 1) := by decide +kernel
theorem dX10_draw_88 : decode cX10_draw 88 = .ok (.ldc2_w 181, 3) := by decide +kernel
theorem dX10_draw_91 : decode cX10_draw 91 = .ok (.ldiv, 1) := by decide +kernel
theorem dX10_draw_92 : decode cX10_draw 92 = .ok (.ldc2_w 183, 3) := by decide +kernel
theorem dX10_draw_95 : decode cX10_draw 95 = .ok (.lrem, 1) := by decide +kernel
theorem dX10_draw_96 : decode cX10_draw 96 = .ok (.l2i, 1) := by decide +kernel
theorem dX10_draw_97 : decode cX10_draw 97 = .ok (.invokevirtual 185, 3) := by decide +kernel
theorem dX10_draw_100 : decode cX10_draw 100 = .ok (.ifCond .eq 7, 3) := by decide +kernel
theorem dX10_draw_103 : decode cX10_draw 103 = .ok (.iconst 1, 1) := by decide +kernel
theorem dX10_draw_104 : decode cX10_draw 104 = .ok (.goto 4, 3) := by decide +kernel
theorem dX10_draw_107 : decode cX10_draw 107 = .ok (.iconst 0, 1) := by decide +kernel
theorem dX10_draw_108 : decode cX10_draw 108 = .ok (.iadd, 1) := by decide +kernel
theorem dX10_draw_109 : decode cX10_draw 109 = .ok (.istore 5, 2) := by decide +kernel
theorem dX10_draw_111 : decode cX10_draw 111 = .ok (.iinc 6 1, 3) := by decide +kernel
theorem dX10_draw_114 : decode cX10_draw 114 = .ok (.goto (-72), 3) := by decide +kernel
theorem dX10_draw_117 : decode cX10_draw 117 = .ok (.iload 5, 2) := by decide +kernel
theorem dX10_draw_119 : decode cX10_draw 119 = .ok (.ireturn, 1) := by decide +kernel
theorem dX10_draws_0 : decode cX10_draws 0 = .ok (.iload_n 2, 1) := by decide +kernel
theorem dX10_draws_1 : decode cX10_draws 1 = .ok (.iconst 3, 1) := by decide +kernel
theorem dX10_draws_2 : decode cX10_draws 2 = .ok (.if_icmp .ge 20, 3) := by decide +kernel
theorem dX10_draws_5 : decode cX10_draws 5 = .ok (.aload_n 0, 1) := by decide +kernel
theorem dX10_draws_6 : decode cX10_draws 6 = .ok (.iload_n 1, 1) := by decide +kernel
theorem dX10_draws_7 : decode cX10_draws 7 = .ok (.iload_n 3, 1) := by decide +kernel
theorem dX10_draws_8 : decode cX10_draws 8 = .ok (.invokevirtual 104, 3) := by decide +kernel
theorem dX10_draws_11 : decode cX10_draws 11 = .ok (.bipush (-4), 2) := by decide +kernel
theorem dX10_draws_13 : decode cX10_draws 13 = .ok (.if_icmp .eq 7, 3) := by decide +kernel
theorem dX10_draws_16 : decode cX10_draws 16 = .ok (.iconst 1, 1) := by decide +kernel
theorem dX10_draws_17 : decode cX10_draws 17 = .ok (.goto 4, 3) := by decide +kernel
theorem dX10_draws_20 : decode cX10_draws 20 = .ok (.iconst 0, 1) := by decide +kernel
theorem dX10_draws_21 : decode cX10_draws 21 = .ok (.ireturn, 1) := by decide +kernel
theorem dX10_draws_22 : decode cX10_draws 22 = .ok (.iload_n 2, 1) := by decide +kernel
theorem dX10_draws_23 : decode cX10_draws 23 = .ok (.iconst 5, 1) := by decide +kernel
theorem dX10_draws_24 : decode cX10_draws 24 = .ok (.if_icmp .ge 27, 3) := by decide +kernel
theorem dX10_draws_27 : decode cX10_draws 27 = .ok (.aload_n 0, 1) := by decide +kernel
theorem dX10_draws_28 : decode cX10_draws 28 = .ok (.iload_n 1, 1) := by decide +kernel
theorem dX10_draws_29 : decode cX10_draws 29 = .ok (.iload_n 1, 1) := by decide +kernel
theorem dX10_draws_30 : decode cX10_draws 30 = .ok (.iconst 1, 1) := by decide +kernel
theorem dX10_draws_31 : decode cX10_draws 31 = .ok (.iadd, 1) := by decide +kernel
theorem dX10_draws_32 : decode cX10_draws 32 = .ok (.aload_n 0, 1) := by decide +kernel
theorem dX10_draws_33 : decode cX10_draws 33 = .ok (.getfield 7, 3) := by decide +kernel
theorem dX10_draws_36 : decode cX10_draws 36 = .ok (.irem, 1) := by decide +kernel
theorem dX10_draws_37 : decode cX10_draws 37 = .ok (.invokevirtual 111, 3) := by decide +kernel
theorem dX10_draws_40 : decode cX10_draws 40 = .ok (.bipush (-4), 2) := by decide +kernel
theorem dX10_draws_42 : decode cX10_draws 42 = .ok (.if_icmp .eq 7, 3) := by decide +kernel
theorem dX10_draws_45 : decode cX10_draws 45 = .ok (.iconst 1, 1) := by decide +kernel
theorem dX10_draws_46 : decode cX10_draws 46 = .ok (.goto 4, 3) := by decide +kernel
theorem dX10_draws_49 : decode cX10_draws 49 = .ok (.iconst 0, 1) := by decide +kernel
theorem dX10_draws_50 : decode cX10_draws 50 = .ok (.ireturn, 1) := by decide +kernel
theorem dX10_draws_51 : decode cX10_draws 51 = .ok (.iload_n 2, 1) := by decide +kernel
theorem dX10_draws_52 : decode cX10_draws 52 = .ok (.bipush 7, 2) := by decide +kernel
theorem dX10_draws_54 : decode cX10_draws 54 = .ok (.if_icmp .ge 19, 3) := by decide +kernel
theorem dX10_draws_57 : decode cX10_draws 57 = .ok (.aload_n 0, 1) := by decide +kernel
theorem dX10_draws_58 : decode cX10_draws 58 = .ok (.iload_n 1, 1) := by decide +kernel
theorem dX10_draws_59 : decode cX10_draws 59 = .ok (.iconst 0, 1) := by decide +kernel
theorem dX10_draws_60 : decode cX10_draws 60 = .ok (.invokevirtual 128, 3) := by decide +kernel
theorem dX10_draws_63 : decode cX10_draws 63 = .ok (.iconst (-1), 1) := by decide +kernel
theorem dX10_draws_64 : decode cX10_draws 64 = .ok (.if_icmp .lt 7, 3) := by decide +kernel
theorem dX10_draws_67 : decode cX10_draws 67 = .ok (.iconst 1, 1) := by decide +kernel
theorem dX10_draws_68 : decode cX10_draws 68 = .ok (.goto 4, 3) := by decide +kernel
theorem dX10_draws_71 : decode cX10_draws 71 = .ok (.iconst 0, 1) := by decide +kernel
theorem dX10_draws_72 : decode cX10_draws 72 = .ok (.ireturn, 1) := by decide +kernel
theorem dX10_draws_73 : decode cX10_draws 73 = .ok (.iload_n 2, 1) := by decide +kernel
theorem dX10_draws_74 : decode cX10_draws 74 = .ok (.bipush 7, 2) := by decide +kernel
theorem dX10_draws_76 : decode cX10_draws 76 = .ok (.if_icmp .ne 18, 3) := by decide +kernel
theorem dX10_draws_79 : decode cX10_draws 79 = .ok (.aload_n 0, 1) := by decide +kernel
theorem dX10_draws_80 : decode cX10_draws 80 = .ok (.iload_n 1, 1) := by decide +kernel
theorem dX10_draws_81 : decode cX10_draws 81 = .ok (.iconst 2, 1) := by decide +kernel
theorem dX10_draws_82 : decode cX10_draws 82 = .ok (.invokevirtual 133, 3) := by decide +kernel
theorem dX10_draws_85 : decode cX10_draws 85 = .ok (.ifCond .lt 7, 3) := by decide +kernel
theorem dX10_draws_88 : decode cX10_draws 88 = .ok (.iconst 1, 1) := by decide +kernel
theorem dX10_draws_89 : decode cX10_draws 89 = .ok (.goto 4, 3) := by decide +kernel
theorem dX10_draws_92 : decode cX10_draws 92 = .ok (.iconst 0, 1) := by decide +kernel
theorem dX10_draws_93 : decode cX10_draws 93 = .ok (.ireturn, 1) := by decide +kernel
theorem dX10_draws_94 : decode cX10_draws 94 = .ok (.aload_n 0, 1) := by decide +kernel
theorem dX10_draws_95 : decode cX10_draws 95 = .ok (.iload_n 1, 1) := by decide +kernel
theorem dX10_draws_96 : decode cX10_draws 96 = .ok (.invokevirtual 188, 3) := by decide +kernel
theorem dX10_draws_99 : decode cX10_draws 99 = .ok (.bipush (-4), 2) := by decide +kernel
theorem dX10_draws_101 : decode cX10_draws 101 = .ok (.if_icmp .eq 7, 3) := by decide +kernel
theorem dX10_draws_104 : decode cX10_draws 104 = .ok (.iconst 1, 1) := by decide +kernel
theorem dX10_draws_105 : decode cX10_draws 105 = .ok (.goto 4, 3) := by decide +kernel
theorem dX10_draws_108 : decode cX10_draws 108 = .ok (.iconst 0, 1) := by decide +kernel
theorem dX10_draws_109 : decode cX10_draws 109 = .ok (.ireturn, 1) := by decide +kernel
theorem dX10_isFirm_0 : decode cX10_isFirm 0 = .ok (.iconst 1, 1) := by decide +kernel
theorem dX10_isFirm_1 : decode cX10_isFirm 1 = .ok (.istore_n 3, 1) := by decide +kernel
theorem dX10_isFirm_2 : decode cX10_isFirm 2 = .ok (.iconst 0, 1) := by decide +kernel
theorem dX10_isFirm_3 : decode cX10_isFirm 3 = .ok (.istore 4, 2) := by decide +kernel
theorem dX10_isFirm_5 : decode cX10_isFirm 5 = .ok (.iload 4, 2) := by decide +kernel
theorem dX10_isFirm_7 : decode cX10_isFirm 7 = .ok (.aload_n 0, 1) := by decide +kernel
theorem dX10_isFirm_8 : decode cX10_isFirm 8 = .ok (.getfield 7, 3) := by decide +kernel
theorem dX10_isFirm_11 : decode cX10_isFirm 11 = .ok (.if_icmp .ge 41, 3) := by decide +kernel
theorem dX10_isFirm_14 : decode cX10_isFirm 14 = .ok (.iload_n 3, 1) := by decide +kernel
theorem dX10_isFirm_15 : decode cX10_isFirm 15 = .ok (.ifCond .eq 29, 3) := by decide +kernel
theorem dX10_isFirm_18 : decode cX10_isFirm 18 = .ok (.aload_n 0, 1) := by decide +kernel
theorem dX10_isFirm_19 : decode cX10_isFirm 19 = .ok (.getfield 38, 3) := by decide +kernel
theorem dX10_isFirm_22 : decode cX10_isFirm 22 = .ok (.iload_n 1, 1) := by decide +kernel
theorem dX10_isFirm_23 : decode cX10_isFirm 23 = .ok (.iload_n 2, 1) := by decide +kernel
theorem dX10_isFirm_24 : decode cX10_isFirm 24 = .ok (.iload 4, 2) := by decide +kernel
theorem dX10_isFirm_26 : decode cX10_isFirm 26 = .ok (.invokestatic 67, 3) := by decide +kernel
theorem dX10_isFirm_29 : decode cX10_isFirm 29 = .ok (.iaload, 1) := by decide +kernel
theorem dX10_isFirm_30 : decode cX10_isFirm 30 = .ok (.aload_n 0, 1) := by decide +kernel
theorem dX10_isFirm_31 : decode cX10_isFirm 31 = .ok (.getfield 20, 3) := by decide +kernel
theorem dX10_isFirm_34 : decode cX10_isFirm 34 = .ok (.iload 4, 2) := by decide +kernel
theorem dX10_isFirm_36 : decode cX10_isFirm 36 = .ok (.iaload, 1) := by decide +kernel
theorem dX10_isFirm_37 : decode cX10_isFirm 37 = .ok (.if_icmp .gt 7, 3) := by decide +kernel
theorem dX10_isFirm_40 : decode cX10_isFirm 40 = .ok (.iconst 1, 1) := by decide +kernel
theorem dX10_isFirm_41 : decode cX10_isFirm 41 = .ok (.goto 4, 3) := by decide +kernel
theorem dX10_isFirm_44 : decode cX10_isFirm 44 = .ok (.iconst 0, 1) := by decide +kernel
theorem dX10_isFirm_45 : decode cX10_isFirm 45 = .ok (.istore_n 3, 1) := by decide +kernel
theorem dX10_isFirm_46 : decode cX10_isFirm 46 = .ok (.iinc 4 1, 3) := by decide +kernel
theorem dX10_isFirm_49 : decode cX10_isFirm 49 = .ok (.goto (-44), 3) := by decide +kernel
theorem dX10_isFirm_52 : decode cX10_isFirm 52 = .ok (.iload_n 3, 1) := by decide +kernel
theorem dX10_isFirm_53 : decode cX10_isFirm 53 = .ok (.ireturn, 1) := by decide +kernel
theorem dX10_firmOf_0 : decode cX10_firmOf 0 = .ok (.aload_n 0, 1) := by decide +kernel
theorem dX10_firmOf_1 : decode cX10_firmOf 1 = .ok (.getfield 17, 3) := by decide +kernel
theorem dX10_firmOf_4 : decode cX10_firmOf 4 = .ok (.iload_n 1, 1) := by decide +kernel
theorem dX10_firmOf_5 : decode cX10_firmOf 5 = .ok (.iaload, 1) := by decide +kernel
theorem dX10_firmOf_6 : decode cX10_firmOf 6 = .ok (.istore_n 2, 1) := by decide +kernel
theorem dX10_firmOf_7 : decode cX10_firmOf 7 = .ok (.aload_n 0, 1) := by decide +kernel
theorem dX10_firmOf_8 : decode cX10_firmOf 8 = .ok (.iload_n 1, 1) := by decide +kernel
theorem dX10_firmOf_9 : decode cX10_firmOf 9 = .ok (.iload_n 2, 1) := by decide +kernel
theorem dX10_firmOf_10 : decode cX10_firmOf 10 = .ok (.invokevirtual 191, 3) := by decide +kernel
theorem dX10_firmOf_13 : decode cX10_firmOf 13 = .ok (.ifCond .ne 9, 3) := by decide +kernel
theorem dX10_firmOf_16 : decode cX10_firmOf 16 = .ok (.iinc 2 (-1), 3) := by decide +kernel
theorem dX10_firmOf_19 : decode cX10_firmOf 19 = .ok (.goto (-12), 3) := by decide +kernel
theorem dX10_firmOf_22 : decode cX10_firmOf 22 = .ok (.iload_n 2, 1) := by decide +kernel
theorem dX10_firmOf_23 : decode cX10_firmOf 23 = .ok (.ireturn, 1) := by decide +kernel
theorem dX10_lettersTo_0 : decode cX10_lettersTo 0 = .ok (.iconst 0, 1) := by decide +kernel
theorem dX10_lettersTo_1 : decode cX10_lettersTo 1 = .ok (.istore_n 2, 1) := by decide +kernel
theorem dX10_lettersTo_2 : decode cX10_lettersTo 2 = .ok (.iconst 0, 1) := by decide +kernel
theorem dX10_lettersTo_3 : decode cX10_lettersTo 3 = .ok (.istore_n 3, 1) := by decide +kernel
theorem dX10_lettersTo_4 : decode cX10_lettersTo 4 = .ok (.iload_n 3, 1) := by decide +kernel
theorem dX10_lettersTo_5 : decode cX10_lettersTo 5 = .ok (.aload_n 0, 1) := by decide +kernel
theorem dX10_lettersTo_6 : decode cX10_lettersTo 6 = .ok (.getfield 71, 3) := by decide +kernel
theorem dX10_lettersTo_9 : decode cX10_lettersTo 9 = .ok (.if_icmp .ge 30, 3) := by decide +kernel
theorem dX10_lettersTo_12 : decode cX10_lettersTo 12 = .ok (.iload_n 2, 1) := by decide +kernel
theorem dX10_lettersTo_13 : decode cX10_lettersTo 13 = .ok (.aload_n 0, 1) := by decide +kernel
theorem dX10_lettersTo_14 : decode cX10_lettersTo 14 = .ok (.getfield 41, 3) := by decide +kernel
theorem dX10_lettersTo_17 : decode cX10_lettersTo 17 = .ok (.bipush 13, 2) := by decide +kernel
theorem dX10_lettersTo_19 : decode cX10_lettersTo 19 = .ok (.iload_n 3, 1) := by decide +kernel
theorem dX10_lettersTo_20 : decode cX10_lettersTo 20 = .ok (.imul, 1) := by decide +kernel
theorem dX10_lettersTo_21 : decode cX10_lettersTo 21 = .ok (.iaload, 1) := by decide +kernel
theorem dX10_lettersTo_22 : decode cX10_lettersTo 22 = .ok (.iload_n 1, 1) := by decide +kernel
theorem dX10_lettersTo_23 : decode cX10_lettersTo 23 = .ok (.if_icmp .ne 7, 3) := by decide +kernel
theorem dX10_lettersTo_26 : decode cX10_lettersTo 26 = .ok (.iconst 1, 1) := by decide +kernel
theorem dX10_lettersTo_27 : decode cX10_lettersTo 27 = .ok (.goto 4, 3) := by decide +kernel
theorem dX10_lettersTo_30 : decode cX10_lettersTo 30 = .ok (.iconst 0, 1) := by decide +kernel
theorem dX10_lettersTo_31 : decode cX10_lettersTo 31 = .ok (.iadd, 1) := by decide +kernel
theorem dX10_lettersTo_32 : decode cX10_lettersTo 32 = .ok (.istore_n 2, 1) := by decide +kernel
theorem dX10_lettersTo_33 : decode cX10_lettersTo 33 = .ok (.iinc 3 1, 3) := by decide +kernel
theorem dX10_lettersTo_36 : decode cX10_lettersTo 36 = .ok (.goto (-32), 3) := by decide +kernel
theorem dX10_lettersTo_39 : decode cX10_lettersTo 39 = .ok (.iload_n 2, 1) := by decide +kernel
theorem dX10_lettersTo_40 : decode cX10_lettersTo 40 = .ok (.ireturn, 1) := by decide +kernel
theorem dX10_heldOf_0 : decode cX10_heldOf 0 = .ok (.iconst 0, 1) := by decide +kernel
theorem dX10_heldOf_1 : decode cX10_heldOf 1 = .ok (.istore_n 2, 1) := by decide +kernel
theorem dX10_heldOf_2 : decode cX10_heldOf 2 = .ok (.iconst 0, 1) := by decide +kernel
theorem dX10_heldOf_3 : decode cX10_heldOf 3 = .ok (.istore_n 3, 1) := by decide +kernel
theorem dX10_heldOf_4 : decode cX10_heldOf 4 = .ok (.iload_n 3, 1) := by decide +kernel
theorem dX10_heldOf_5 : decode cX10_heldOf 5 = .ok (.aload_n 0, 1) := by decide +kernel
theorem dX10_heldOf_6 : decode cX10_heldOf 6 = .ok (.getfield 74, 3) := by decide +kernel
theorem dX10_heldOf_9 : decode cX10_heldOf 9 = .ok (.if_icmp .ge 47, 3) := by decide +kernel
theorem dX10_heldOf_12 : decode cX10_heldOf 12 = .ok (.iload_n 2, 1) := by decide +kernel
theorem dX10_heldOf_13 : decode cX10_heldOf 13 = .ok (.iload_n 1, 1) := by decide +kernel
theorem dX10_heldOf_14 : decode cX10_heldOf 14 = .ok (.iconst (-1), 1) := by decide +kernel
theorem dX10_heldOf_15 : decode cX10_heldOf 15 = .ok (.if_icmp .eq 15, 3) := by decide +kernel
theorem dX10_heldOf_18 : decode cX10_heldOf 18 = .ok (.aload_n 0, 1) := by decide +kernel
theorem dX10_heldOf_19 : decode cX10_heldOf 19 = .ok (.getfield 44, 3) := by decide +kernel
theorem dX10_heldOf_22 : decode cX10_heldOf 22 = .ok (.iconst 3, 1) := by decide +kernel
theorem dX10_heldOf_23 : decode cX10_heldOf 23 = .ok (.iload_n 3, 1) := by decide +kernel
theorem dX10_heldOf_24 : decode cX10_heldOf 24 = .ok (.imul, 1) := by decide +kernel
theorem dX10_heldOf_25 : decode cX10_heldOf 25 = .ok (.iaload, 1) := by decide +kernel
theorem dX10_heldOf_26 : decode cX10_heldOf 26 = .ok (.iload_n 1, 1) := by decide +kernel
theorem dX10_heldOf_27 : decode cX10_heldOf 27 = .ok (.if_icmp .ne 20, 3) := by decide +kernel
theorem dX10_heldOf_30 : decode cX10_heldOf 30 = .ok (.aload_n 0, 1) := by decide +kernel
theorem dX10_heldOf_31 : decode cX10_heldOf 31 = .ok (.getfield 44, 3) := by decide +kernel
theorem dX10_heldOf_34 : decode cX10_heldOf 34 = .ok (.iconst 3, 1) := by decide +kernel
theorem dX10_heldOf_35 : decode cX10_heldOf 35 = .ok (.iload_n 3, 1) := by decide +kernel
theorem dX10_heldOf_36 : decode cX10_heldOf 36 = .ok (.imul, 1) := by decide +kernel
theorem dX10_heldOf_37 : decode cX10_heldOf 37 = .ok (.iconst 2, 1) := by decide +kernel
theorem dX10_heldOf_38 : decode cX10_heldOf 38 = .ok (.iadd, 1) := by decide +kernel
theorem dX10_heldOf_39 : decode cX10_heldOf 39 = .ok (.iaload, 1) := by decide +kernel
theorem dX10_heldOf_40 : decode cX10_heldOf 40 = .ok (.ifCond .ne 7, 3) := by decide +kernel
theorem dX10_heldOf_43 : decode cX10_heldOf 43 = .ok (.iconst 1, 1) := by decide +kernel
theorem dX10_heldOf_44 : decode cX10_heldOf 44 = .ok (.goto 4, 3) := by decide +kernel
theorem dX10_heldOf_47 : decode cX10_heldOf 47 = .ok (.iconst 0, 1) := by decide +kernel
theorem dX10_heldOf_48 : decode cX10_heldOf 48 = .ok (.iadd, 1) := by decide +kernel
theorem dX10_heldOf_49 : decode cX10_heldOf 49 = .ok (.istore_n 2, 1) := by decide +kernel
theorem dX10_heldOf_50 : decode cX10_heldOf 50 = .ok (.iinc 3 1, 3) := by decide +kernel
theorem dX10_heldOf_53 : decode cX10_heldOf 53 = .ok (.goto (-49), 3) := by decide +kernel
theorem dX10_heldOf_56 : decode cX10_heldOf 56 = .ok (.iload_n 2, 1) := by decide +kernel
theorem dX10_heldOf_57 : decode cX10_heldOf 57 = .ok (.ireturn, 1) := by decide +kernel
theorem dX10_clerkOf_0 : decode cX10_clerkOf 0 = .ok (.iload_n 2, 1) := by decide +kernel
theorem dX10_clerkOf_1 : decode cX10_clerkOf 1 = .ok (.tableswitch 99 0 6 #[43, 50, 57, 64, 70, 77, 93], 43) := by decide +kernel
theorem dX10_clerkOf_44 : decode cX10_clerkOf 44 = .ok (.aload_n 0, 1) := by decide +kernel
theorem dX10_clerkOf_45 : decode cX10_clerkOf 45 = .ok (.getfield 13, 3) := by decide +kernel
theorem dX10_clerkOf_48 : decode cX10_clerkOf 48 = .ok (.iload_n 1, 1) := by decide +kernel
theorem dX10_clerkOf_49 : decode cX10_clerkOf 49 = .ok (.iaload, 1) := by decide +kernel
theorem dX10_clerkOf_50 : decode cX10_clerkOf 50 = .ok (.ireturn, 1) := by decide +kernel
theorem dX10_clerkOf_51 : decode cX10_clerkOf 51 = .ok (.aload_n 0, 1) := by decide +kernel
theorem dX10_clerkOf_52 : decode cX10_clerkOf 52 = .ok (.getfield 17, 3) := by decide +kernel
theorem dX10_clerkOf_55 : decode cX10_clerkOf 55 = .ok (.iload_n 1, 1) := by decide +kernel
theorem dX10_clerkOf_56 : decode cX10_clerkOf 56 = .ok (.iaload, 1) := by decide +kernel
theorem dX10_clerkOf_57 : decode cX10_clerkOf 57 = .ok (.ireturn, 1) := by decide +kernel
theorem dX10_clerkOf_58 : decode cX10_clerkOf 58 = .ok (.aload_n 0, 1) := by decide +kernel
theorem dX10_clerkOf_59 : decode cX10_clerkOf 59 = .ok (.getfield 20, 3) := by decide +kernel
theorem dX10_clerkOf_62 : decode cX10_clerkOf 62 = .ok (.iload_n 1, 1) := by decide +kernel
theorem dX10_clerkOf_63 : decode cX10_clerkOf 63 = .ok (.iaload, 1) := by decide +kernel
theorem dX10_clerkOf_64 : decode cX10_clerkOf 64 = .ok (.ireturn, 1) := by decide +kernel
theorem dX10_clerkOf_65 : decode cX10_clerkOf 65 = .ok (.aload_n 0, 1) := by decide +kernel
theorem dX10_clerkOf_66 : decode cX10_clerkOf 66 = .ok (.iload_n 1, 1) := by decide +kernel
theorem dX10_clerkOf_67 : decode cX10_clerkOf 67 = .ok (.invokevirtual 194, 3) := by decide +kernel
theorem dX10_clerkOf_70 : decode cX10_clerkOf 70 = .ok (.ireturn, 1) := by decide +kernel
theorem dX10_clerkOf_71 : decode cX10_clerkOf 71 = .ok (.aload_n 0, 1) := by decide +kernel
theorem dX10_clerkOf_72 : decode cX10_clerkOf 72 = .ok (.getfield 23, 3) := by decide +kernel
theorem dX10_clerkOf_75 : decode cX10_clerkOf 75 = .ok (.iload_n 1, 1) := by decide +kernel
theorem dX10_clerkOf_76 : decode cX10_clerkOf 76 = .ok (.iaload, 1) := by decide +kernel
theorem dX10_clerkOf_77 : decode cX10_clerkOf 77 = .ok (.ireturn, 1) := by decide +kernel
theorem dX10_clerkOf_78 : decode cX10_clerkOf 78 = .ok (.aload_n 0, 1) := by decide +kernel
theorem dX10_clerkOf_79 : decode cX10_clerkOf 79 = .ok (.getfield 32, 3) := by decide +kernel
theorem dX10_clerkOf_82 : decode cX10_clerkOf 82 = .ok (.iload_n 1, 1) := by decide +kernel
theorem dX10_clerkOf_83 : decode cX10_clerkOf 83 = .ok (.aload_n 0, 1) := by decide +kernel
theorem dX10_clerkOf_84 : decode cX10_clerkOf 84 = .ok (.getfield 17, 3) := by decide +kernel
theorem dX10_clerkOf_87 : decode cX10_clerkOf 87 = .ok (.iload_n 1, 1) := by decide +kernel
theorem dX10_clerkOf_88 : decode cX10_clerkOf 88 = .ok (.iaload, 1) := by decide +kernel
theorem dX10_clerkOf_89 : decode cX10_clerkOf 89 = .ok (.invokestatic 63, 3) := by decide +kernel
theorem dX10_clerkOf_92 : decode cX10_clerkOf 92 = .ok (.iaload, 1) := by decide +kernel
theorem dX10_clerkOf_93 : decode cX10_clerkOf 93 = .ok (.ireturn, 1) := by decide +kernel
theorem dX10_clerkOf_94 : decode cX10_clerkOf 94 = .ok (.aload_n 0, 1) := by decide +kernel
theorem dX10_clerkOf_95 : decode cX10_clerkOf 95 = .ok (.iload_n 1, 1) := by decide +kernel
theorem dX10_clerkOf_96 : decode cX10_clerkOf 96 = .ok (.invokevirtual 197, 3) := by decide +kernel
theorem dX10_clerkOf_99 : decode cX10_clerkOf 99 = .ok (.ireturn, 1) := by decide +kernel
theorem dX10_clerkOf_100 : decode cX10_clerkOf 100 = .ok (.aload_n 0, 1) := by decide +kernel
theorem dX10_clerkOf_101 : decode cX10_clerkOf 101 = .ok (.iload_n 1, 1) := by decide +kernel
theorem dX10_clerkOf_102 : decode cX10_clerkOf 102 = .ok (.invokevirtual 200, 3) := by decide +kernel
theorem dX10_clerkOf_105 : decode cX10_clerkOf 105 = .ok (.ireturn, 1) := by decide +kernel
theorem dX10_of_0 : decode cX10_of 0 = .ok (.aload_n 0, 1) := by decide +kernel
theorem dX10_of_1 : decode cX10_of 1 = .ok (.iload_n 1, 1) := by decide +kernel
theorem dX10_of_2 : decode cX10_of 2 = .ok (.invokevirtual 98, 3) := by decide +kernel
theorem dX10_of_5 : decode cX10_of 5 = .ok (.ifCond .eq 24, 3) := by decide +kernel
theorem dX10_of_8 : decode cX10_of 8 = .ok (.iload_n 2, 1) := by decide +kernel
theorem dX10_of_9 : decode cX10_of 9 = .ok (.i2l, 1) := by decide +kernel
theorem dX10_of_10 : decode cX10_of 10 = .ok (.lconst 0, 1) := by decide +kernel
theorem dX10_of_11 : decode cX10_of 11 = .ok (.ldc2_w 203, 3) := by decide +kernel
theorem dX10_of_14 : decode cX10_of 14 = .ok (.invokestatic 59, 3) := by decide +kernel
theorem dX10_of_17 : decode cX10_of 17 = .ok (.ifCond .eq 12, 3) := by decide +kernel
theorem dX10_of_20 : decode cX10_of 20 = .ok (.aload_n 0, 1) := by decide +kernel
theorem dX10_of_21 : decode cX10_of 21 = .ok (.iload_n 1, 1) := by decide +kernel
theorem dX10_of_22 : decode cX10_of 22 = .ok (.iload_n 2, 1) := by decide +kernel
theorem dX10_of_23 : decode cX10_of 23 = .ok (.invokevirtual 205, 3) := by decide +kernel
theorem dX10_of_26 : decode cX10_of 26 = .ok (.goto 7, 3) := by decide +kernel
theorem dX10_of_29 : decode cX10_of 29 = .ok (.aload_n 0, 1) := by decide +kernel
theorem dX10_of_30 : decode cX10_of 30 = .ok (.invokevirtual 87, 3) := by decide +kernel
theorem dX10_of_33 : decode cX10_of 33 = .ok (.ireturn, 1) := by decide +kernel
theorem dX10_page_0 : decode cX10_page 0 = .ok (.aload_n 0, 1) := by decide +kernel
theorem dX10_page_1 : decode cX10_page 1 = .ok (.iload_n 1, 1) := by decide +kernel
theorem dX10_page_2 : decode cX10_page 2 = .ok (.invokevirtual 98, 3) := by decide +kernel
theorem dX10_page_5 : decode cX10_page 5 = .ok (.ifCond .eq 28, 3) := by decide +kernel
theorem dX10_page_8 : decode cX10_page 8 = .ok (.iload_n 2, 1) := by decide +kernel
theorem dX10_page_9 : decode cX10_page 9 = .ok (.ifCond .lt 24, 3) := by decide +kernel
theorem dX10_page_12 : decode cX10_page 12 = .ok (.aload_n 0, 1) := by decide +kernel
theorem dX10_page_13 : decode cX10_page 13 = .ok (.iload_n 3, 1) := by decide +kernel
theorem dX10_page_14 : decode cX10_page 14 = .ok (.invokevirtual 98, 3) := by decide +kernel
theorem dX10_page_17 : decode cX10_page 17 = .ok (.ifCond .eq 16, 3) := by decide +kernel
theorem dX10_page_20 : decode cX10_page 20 = .ok (.iload 4, 2) := by decide +kernel
theorem dX10_page_22 : decode cX10_page 22 = .ok (.i2l, 1) := by decide +kernel
theorem dX10_page_23 : decode cX10_page 23 = .ok (.lconst 0, 1) := by decide +kernel
theorem dX10_page_24 : decode cX10_page 24 = .ok (.ldc2_w 94, 3) := by decide +kernel
theorem dX10_page_27 : decode cX10_page 27 = .ok (.invokestatic 59, 3) := by decide +kernel
theorem dX10_page_30 : decode cX10_page 30 = .ok (.ifCond .ne 8, 3) := by decide +kernel
theorem dX10_page_33 : decode cX10_page 33 = .ok (.aload_n 0, 1) := by decide +kernel
theorem dX10_page_34 : decode cX10_page 34 = .ok (.invokevirtual 87, 3) := by decide +kernel
theorem dX10_page_37 : decode cX10_page 37 = .ok (.ireturn, 1) := by decide +kernel
theorem dX10_page_38 : decode cX10_page 38 = .ok (.iload_n 2, 1) := by decide +kernel
theorem dX10_page_39 : decode cX10_page 39 = .ok (.i2l, 1) := by decide +kernel
theorem dX10_page_40 : decode cX10_page 40 = .ok (.aload_n 0, 1) := by decide +kernel
theorem dX10_page_41 : decode cX10_page 41 = .ok (.getfield 23, 3) := by decide +kernel
theorem dX10_page_44 : decode cX10_page 44 = .ok (.iload_n 1, 1) := by decide +kernel
theorem dX10_page_45 : decode cX10_page 45 = .ok (.iaload, 1) := by decide +kernel
theorem dX10_page_46 : decode cX10_page 46 = .ok (.i2l, 1) := by decide +kernel
theorem dX10_page_47 : decode cX10_page 47 = .ok (.aload_n 0, 1) := by decide +kernel
theorem dX10_page_48 : decode cX10_page 48 = .ok (.getfield 17, 3) := by decide +kernel
theorem dX10_page_51 : decode cX10_page 51 = .ok (.iload_n 1, 1) := by decide +kernel
theorem dX10_page_52 : decode cX10_page 52 = .ok (.iaload, 1) := by decide +kernel
theorem dX10_page_53 : decode cX10_page 53 = .ok (.i2l, 1) := by decide +kernel
theorem dX10_page_54 : decode cX10_page 54 = .ok (.invokestatic 59, 3) := by decide +kernel
theorem dX10_page_57 : decode cX10_page 57 = .ok (.ifCond .ne 8, 3) := by decide +kernel
theorem dX10_page_60 : decode cX10_page 60 = .ok (.aload_n 0, 1) := by decide +kernel
theorem dX10_page_61 : decode cX10_page 61 = .ok (.invokevirtual 208, 3) := by decide +kernel
theorem dX10_page_64 : decode cX10_page 64 = .ok (.ireturn, 1) := by decide +kernel
theorem dX10_page_65 : decode cX10_page 65 = .ok (.iload 4, 2) := by decide +kernel
theorem dX10_page_67 : decode cX10_page 67 = .ok (.ifCond .ne 16, 3) := by decide +kernel
theorem dX10_page_70 : decode cX10_page 70 = .ok (.aload_n 0, 1) := by decide +kernel
theorem dX10_page_71 : decode cX10_page 71 = .ok (.getfield 29, 3) := by decide +kernel
theorem dX10_page_74 : decode cX10_page 74 = .ok (.iload_n 1, 1) := by decide +kernel
theorem dX10_page_75 : decode cX10_page 75 = .ok (.iload_n 2, 1) := by decide +kernel
theorem dX10_page_76 : decode cX10_page 76 = .ok (.invokestatic 63, 3) := by decide +kernel
theorem dX10_page_79 : decode cX10_page 79 = .ok (.iaload, 1) := by decide +kernel
theorem dX10_page_80 : decode cX10_page 80 = .ok (.goto 53, 3) := by decide +kernel
theorem dX10_page_83 : decode cX10_page 83 = .ok (.iload 4, 2) := by decide +kernel
theorem dX10_page_85 : decode cX10_page 85 = .ok (.iconst 1, 1) := by decide +kernel
theorem dX10_page_86 : decode cX10_page 86 = .ok (.if_icmp .ne 16, 3) := by decide +kernel
theorem dX10_page_89 : decode cX10_page 89 = .ok (.aload_n 0, 1) := by decide +kernel
theorem dX10_page_90 : decode cX10_page 90 = .ok (.getfield 32, 3) := by decide +kernel
theorem dX10_page_93 : decode cX10_page 93 = .ok (.iload_n 1, 1) := by decide +kernel
theorem dX10_page_94 : decode cX10_page 94 = .ok (.iload_n 2, 1) := by decide +kernel
theorem dX10_page_95 : decode cX10_page 95 = .ok (.invokestatic 63, 3) := by decide +kernel
theorem dX10_page_98 : decode cX10_page 98 = .ok (.iaload, 1) := by decide +kernel
theorem dX10_page_99 : decode cX10_page 99 = .ok (.goto 34, 3) := by decide +kernel
theorem dX10_page_102 : decode cX10_page 102 = .ok (.iload 4, 2) := by decide +kernel
theorem dX10_page_104 : decode cX10_page 104 = .ok (.iconst 2, 1) := by decide +kernel
theorem dX10_page_105 : decode cX10_page 105 = .ok (.if_icmp .ne 17, 3) := by decide +kernel
theorem dX10_page_108 : decode cX10_page 108 = .ok (.aload_n 0, 1) := by decide +kernel
theorem dX10_page_109 : decode cX10_page 109 = .ok (.getfield 35, 3) := by decide +kernel
theorem dX10_page_112 : decode cX10_page 112 = .ok (.iload_n 1, 1) := by decide +kernel
theorem dX10_page_113 : decode cX10_page 113 = .ok (.iload_n 2, 1) := by decide +kernel
theorem dX10_page_114 : decode cX10_page 114 = .ok (.iload_n 3, 1) := by decide +kernel
theorem dX10_page_115 : decode cX10_page 115 = .ok (.invokestatic 67, 3) := by decide +kernel
theorem dX10_page_118 : decode cX10_page 118 = .ok (.iaload, 1) := by decide +kernel
theorem dX10_page_119 : decode cX10_page 119 = .ok (.goto 14, 3) := by decide +kernel
theorem dX10_page_122 : decode cX10_page 122 = .ok (.aload_n 0, 1) := by decide +kernel
theorem dX10_page_123 : decode cX10_page 123 = .ok (.getfield 38, 3) := by decide +kernel
theorem dX10_page_126 : decode cX10_page 126 = .ok (.iload_n 1, 1) := by decide +kernel
theorem dX10_page_127 : decode cX10_page 127 = .ok (.iload_n 2, 1) := by decide +kernel
theorem dX10_page_128 : decode cX10_page 128 = .ok (.iload_n 3, 1) := by decide +kernel
theorem dX10_page_129 : decode cX10_page 129 = .ok (.invokestatic 67, 3) := by decide +kernel
theorem dX10_page_132 : decode cX10_page 132 = .ok (.iaload, 1) := by decide +kernel
theorem dX10_page_133 : decode cX10_page 133 = .ok (.ireturn, 1) := by decide +kernel
theorem dX10_dead_0 : decode cX10_dead 0 = .ok (.aload_n 0, 1) := by decide +kernel
theorem dX10_dead_1 : decode cX10_dead 1 = .ok (.iload_n 1, 1) := by decide +kernel
theorem dX10_dead_2 : decode cX10_dead 2 = .ok (.invokevirtual 98, 3) := by decide +kernel
theorem dX10_dead_5 : decode cX10_dead 5 = .ok (.ifCond .eq 27, 3) := by decide +kernel
theorem dX10_dead_8 : decode cX10_dead 8 = .ok (.iload_n 2, 1) := by decide +kernel
theorem dX10_dead_9 : decode cX10_dead 9 = .ok (.i2l, 1) := by decide +kernel
theorem dX10_dead_10 : decode cX10_dead 10 = .ok (.lconst 0, 1) := by decide +kernel
theorem dX10_dead_11 : decode cX10_dead 11 = .ok (.ldc2_w 211, 3) := by decide +kernel
theorem dX10_dead_14 : decode cX10_dead 14 = .ok (.invokestatic 59, 3) := by decide +kernel
theorem dX10_dead_17 : decode cX10_dead 17 = .ok (.ifCond .eq 15, 3) := by decide +kernel
theorem dX10_dead_20 : decode cX10_dead 20 = .ok (.iload_n 3, 1) := by decide +kernel
theorem dX10_dead_21 : decode cX10_dead 21 = .ok (.i2l, 1) := by decide +kernel
theorem dX10_dead_22 : decode cX10_dead 22 = .ok (.lconst 0, 1) := by decide +kernel
theorem dX10_dead_23 : decode cX10_dead 23 = .ok (.ldc2_w 211, 3) := by decide +kernel
theorem dX10_dead_26 : decode cX10_dead 26 = .ok (.invokestatic 59, 3) := by decide +kernel
theorem dX10_dead_29 : decode cX10_dead 29 = .ok (.ifCond .ne 8, 3) := by decide +kernel
theorem dX10_dead_32 : decode cX10_dead 32 = .ok (.aload_n 0, 1) := by decide +kernel
theorem dX10_dead_33 : decode cX10_dead 33 = .ok (.invokevirtual 87, 3) := by decide +kernel
theorem dX10_dead_36 : decode cX10_dead 36 = .ok (.ireturn, 1) := by decide +kernel
theorem dX10_dead_37 : decode cX10_dead 37 = .ok (.aload_n 0, 1) := by decide +kernel
theorem dX10_dead_38 : decode cX10_dead 38 = .ok (.iload_n 1, 1) := by decide +kernel
theorem dX10_dead_39 : decode cX10_dead 39 = .ok (.iload_n 2, 1) := by decide +kernel
theorem dX10_dead_40 : decode cX10_dead 40 = .ok (.iload_n 3, 1) := by decide +kernel
theorem dX10_dead_41 : decode cX10_dead 41 = .ok (.invokevirtual 114, 3) := by decide +kernel
theorem dX10_dead_44 : decode cX10_dead 44 = .ok (.ifCond .eq 7, 3) := by decide +kernel
theorem dX10_dead_47 : decode cX10_dead 47 = .ok (.iconst 1, 1) := by decide +kernel
theorem dX10_dead_48 : decode cX10_dead 48 = .ok (.goto 4, 3) := by decide +kernel
theorem dX10_dead_51 : decode cX10_dead 51 = .ok (.iconst 0, 1) := by decide +kernel
theorem dX10_dead_52 : decode cX10_dead 52 = .ok (.ireturn, 1) := by decide +kernel
theorem dX10_end_0 : decode cX10_end 0 = .ok (.aload_n 0, 1) := by decide +kernel
theorem dX10_end_1 : decode cX10_end 1 = .ok (.iload_n 1, 1) := by decide +kernel
theorem dX10_end_2 : decode cX10_end 2 = .ok (.invokevirtual 98, 3) := by decide +kernel
theorem dX10_end_5 : decode cX10_end 5 = .ok (.ifCond .eq 15, 3) := by decide +kernel
theorem dX10_end_8 : decode cX10_end 8 = .ok (.iload_n 2, 1) := by decide +kernel
theorem dX10_end_9 : decode cX10_end 9 = .ok (.i2l, 1) := by decide +kernel
theorem dX10_end_10 : decode cX10_end 10 = .ok (.lconst 0, 1) := by decide +kernel
theorem dX10_end_11 : decode cX10_end 11 = .ok (.ldc2_w 211, 3) := by decide +kernel
theorem dX10_end_14 : decode cX10_end 14 = .ok (.invokestatic 59, 3) := by decide +kernel
theorem dX10_end_17 : decode cX10_end 17 = .ok (.ifCond .ne 8, 3) := by decide +kernel
theorem dX10_end_20 : decode cX10_end 20 = .ok (.aload_n 0, 1) := by decide +kernel
theorem dX10_end_21 : decode cX10_end 21 = .ok (.invokevirtual 87, 3) := by decide +kernel
theorem dX10_end_24 : decode cX10_end 24 = .ok (.ireturn, 1) := by decide +kernel
theorem dX10_end_25 : decode cX10_end 25 = .ok (.iload_n 2, 1) := by decide +kernel
theorem dX10_end_26 : decode cX10_end 26 = .ok (.aload_n 0, 1) := by decide +kernel
theorem dX10_end_27 : decode cX10_end 27 = .ok (.getfield 13, 3) := by decide +kernel
theorem dX10_end_30 : decode cX10_end 30 = .ok (.iload_n 1, 1) := by decide +kernel
theorem dX10_end_31 : decode cX10_end 31 = .ok (.iaload, 1) := by decide +kernel
theorem dX10_end_32 : decode cX10_end 32 = .ok (.if_icmp .ge 18, 3) := by decide +kernel
theorem dX10_end_35 : decode cX10_end 35 = .ok (.aload_n 0, 1) := by decide +kernel
theorem dX10_end_36 : decode cX10_end 36 = .ok (.getfield 26, 3) := by decide +kernel
theorem dX10_end_39 : decode cX10_end 39 = .ok (.sipush 128, 3) := by decide +kernel
theorem dX10_end_42 : decode cX10_end 42 = .ok (.iload_n 1, 1) := by decide +kernel
theorem dX10_end_43 : decode cX10_end 43 = .ok (.imul, 1) := by decide +kernel
theorem dX10_end_44 : decode cX10_end 44 = .ok (.iload_n 2, 1) := by decide +kernel
theorem dX10_end_45 : decode cX10_end 45 = .ok (.iadd, 1) := by decide +kernel
theorem dX10_end_46 : decode cX10_end 46 = .ok (.iaload, 1) := by decide +kernel
theorem dX10_end_47 : decode cX10_end 47 = .ok (.goto 4, 3) := by decide +kernel
theorem dX10_end_50 : decode cX10_end 50 = .ok (.iconst (-1), 1) := by decide +kernel
theorem dX10_end_51 : decode cX10_end 51 = .ok (.ireturn, 1) := by decide +kernel
theorem dX10_letter_0 : decode cX10_letter 0 = .ok (.aload_n 0, 1) := by decide +kernel
theorem dX10_letter_1 : decode cX10_letter 1 = .ok (.iload_n 1, 1) := by decide +kernel
theorem dX10_letter_2 : decode cX10_letter 2 = .ok (.invokevirtual 98, 3) := by decide +kernel
theorem dX10_letter_5 : decode cX10_letter 5 = .ok (.ifCond .eq 19, 3) := by decide +kernel
theorem dX10_letter_8 : decode cX10_letter 8 = .ok (.iload_n 2, 1) := by decide +kernel
theorem dX10_letter_9 : decode cX10_letter 9 = .ok (.ifCond .lt 15, 3) := by decide +kernel
theorem dX10_letter_12 : decode cX10_letter 12 = .ok (.iload_n 3, 1) := by decide +kernel
theorem dX10_letter_13 : decode cX10_letter 13 = .ok (.i2l, 1) := by decide +kernel
theorem dX10_letter_14 : decode cX10_letter 14 = .ok (.lconst 0, 1) := by decide +kernel
theorem dX10_letter_15 : decode cX10_letter 15 = .ok (.ldc2_w 94, 3) := by decide +kernel
theorem dX10_letter_18 : decode cX10_letter 18 = .ok (.invokestatic 59, 3) := by decide +kernel
theorem dX10_letter_21 : decode cX10_letter 21 = .ok (.ifCond .ne 8, 3) := by decide +kernel
theorem dX10_letter_24 : decode cX10_letter 24 = .ok (.aload_n 0, 1) := by decide +kernel
theorem dX10_letter_25 : decode cX10_letter 25 = .ok (.invokevirtual 87, 3) := by decide +kernel
theorem dX10_letter_28 : decode cX10_letter 28 = .ok (.ireturn, 1) := by decide +kernel
theorem dX10_letter_29 : decode cX10_letter 29 = .ok (.aload_n 0, 1) := by decide +kernel
theorem dX10_letter_30 : decode cX10_letter 30 = .ok (.iload_n 1, 1) := by decide +kernel
theorem dX10_letter_31 : decode cX10_letter 31 = .ok (.iload_n 2, 1) := by decide +kernel
theorem dX10_letter_32 : decode cX10_letter 32 = .ok (.invokevirtual 118, 3) := by decide +kernel
theorem dX10_letter_35 : decode cX10_letter 35 = .ok (.istore 4, 2) := by decide +kernel
theorem dX10_letter_37 : decode cX10_letter 37 = .ok (.iload 4, 2) := by decide +kernel
theorem dX10_letter_39 : decode cX10_letter 39 = .ok (.iconst (-1), 1) := by decide +kernel
theorem dX10_letter_40 : decode cX10_letter 40 = .ok (.if_icmp .ne 5, 3) := by decide +kernel
theorem dX10_letter_43 : decode cX10_letter 43 = .ok (.iconst (-1), 1) := by decide +kernel
theorem dX10_letter_44 : decode cX10_letter 44 = .ok (.ireturn, 1) := by decide +kernel
theorem dX10_letter_45 : decode cX10_letter 45 = .ok (.aload_n 0, 1) := by decide +kernel
theorem dX10_letter_46 : decode cX10_letter 46 = .ok (.getfield 41, 3) := by decide +kernel
theorem dX10_letter_49 : decode cX10_letter 49 = .ok (.bipush 13, 2) := by decide +kernel
theorem dX10_letter_51 : decode cX10_letter 51 = .ok (.iload 4, 2) := by decide +kernel
theorem dX10_letter_53 : decode cX10_letter 53 = .ok (.imul, 1) := by decide +kernel
theorem dX10_letter_54 : decode cX10_letter 54 = .ok (.iconst 1, 1) := by decide +kernel
theorem dX10_letter_55 : decode cX10_letter 55 = .ok (.iadd, 1) := by decide +kernel
theorem dX10_letter_56 : decode cX10_letter 56 = .ok (.iaload, 1) := by decide +kernel
theorem dX10_letter_57 : decode cX10_letter 57 = .ok (.istore 5, 2) := by decide +kernel
theorem dX10_letter_59 : decode cX10_letter 59 = .ok (.iload_n 3, 1) := by decide +kernel
theorem dX10_letter_60 : decode cX10_letter 60 = .ok (.ifCond .ne 8, 3) := by decide +kernel
theorem dX10_letter_63 : decode cX10_letter 63 = .ok (.iload 5, 2) := by decide +kernel
theorem dX10_letter_65 : decode cX10_letter 65 = .ok (.goto 61, 3) := by decide +kernel
theorem dX10_letter_68 : decode cX10_letter 68 = .ok (.iload_n 3, 1) := by decide +kernel
theorem dX10_letter_69 : decode cX10_letter 69 = .ok (.iconst 1, 1) := by decide +kernel
theorem dX10_letter_70 : decode cX10_letter 70 = .ok (.if_icmp .ne 18, 3) := by decide +kernel
theorem dX10_letter_73 : decode cX10_letter 73 = .ok (.aload_n 0, 1) := by decide +kernel
theorem dX10_letter_74 : decode cX10_letter 74 = .ok (.getfield 41, 3) := by decide +kernel
theorem dX10_letter_77 : decode cX10_letter 77 = .ok (.bipush 13, 2) := by decide +kernel
theorem dX10_letter_79 : decode cX10_letter 79 = .ok (.iload 4, 2) := by decide +kernel
theorem dX10_letter_81 : decode cX10_letter 81 = .ok (.imul, 1) := by decide +kernel
theorem dX10_letter_82 : decode cX10_letter 82 = .ok (.iconst 2, 1) := by decide +kernel
theorem dX10_letter_83 : decode cX10_letter 83 = .ok (.iadd, 1) := by decide +kernel
theorem dX10_letter_84 : decode cX10_letter 84 = .ok (.iaload, 1) := by decide +kernel
theorem dX10_letter_85 : decode cX10_letter 85 = .ok (.goto 41, 3) := by decide +kernel
theorem dX10_letter_88 : decode cX10_letter 88 = .ok (.iload_n 3, 1) := by decide +kernel
theorem dX10_letter_89 : decode cX10_letter 89 = .ok (.iconst 3, 1) := by decide +kernel
theorem dX10_letter_90 : decode cX10_letter 90 = .ok (.if_icmp .ne 22, 3) := by decide +kernel
theorem dX10_letter_93 : decode cX10_letter 93 = .ok (.aload_n 0, 1) := by decide +kernel
theorem dX10_letter_94 : decode cX10_letter 94 = .ok (.getfield 41, 3) := by decide +kernel
theorem dX10_letter_97 : decode cX10_letter 97 = .ok (.bipush 13, 2) := by decide +kernel
theorem dX10_letter_99 : decode cX10_letter 99 = .ok (.iload 4, 2) := by decide +kernel
theorem dX10_letter_101 : decode cX10_letter 101 = .ok (.imul, 1) := by decide +kernel
theorem dX10_letter_102 : decode cX10_letter 102 = .ok (.bipush 8, 2) := by decide +kernel
theorem dX10_letter_104 : decode cX10_letter 104 = .ok (.iadd, 1) := by decide +kernel
theorem dX10_letter_105 : decode cX10_letter 105 = .ok (.iload 5, 2) := by decide +kernel
theorem dX10_letter_107 : decode cX10_letter 107 = .ok (.iadd, 1) := by decide +kernel
theorem dX10_letter_108 : decode cX10_letter 108 = .ok (.iaload, 1) := by decide +kernel
theorem dX10_letter_109 : decode cX10_letter 109 = .ok (.goto 17, 3) := by decide +kernel
theorem dX10_letter_112 : decode cX10_letter 112 = .ok (.aload_n 0, 1) := by decide +kernel
theorem dX10_letter_113 : decode cX10_letter 113 = .ok (.iload 4, 2) := by decide +kernel
theorem dX10_letter_115 : decode cX10_letter 115 = .ok (.invokevirtual 121, 3) := by decide +kernel
theorem dX10_letter_118 : decode cX10_letter 118 = .ok (.ifCond .eq 7, 3) := by decide +kernel
theorem dX10_letter_121 : decode cX10_letter 121 = .ok (.iconst 1, 1) := by decide +kernel
theorem dX10_letter_122 : decode cX10_letter 122 = .ok (.goto 4, 3) := by decide +kernel
theorem dX10_letter_125 : decode cX10_letter 125 = .ok (.iconst 0, 1) := by decide +kernel
theorem dX10_letter_126 : decode cX10_letter 126 = .ok (.ireturn, 1) := by decide +kernel
theorem dX10_sweeps_0 : decode cX10_sweeps 0 = .ok (.iconst 0, 1) := by decide +kernel
theorem dX10_sweeps_1 : decode cX10_sweeps 1 = .ok (.istore_n 1, 1) := by decide +kernel
theorem dX10_sweeps_2 : decode cX10_sweeps 2 = .ok (.aload_n 0, 1) := by decide +kernel
theorem dX10_sweeps_3 : decode cX10_sweeps 3 = .ok (.getfield 71, 3) := by decide +kernel
theorem dX10_sweeps_6 : decode cX10_sweeps 6 = .ok (.iconst 1, 1) := by decide +kernel
theorem dX10_sweeps_7 : decode cX10_sweeps 7 = .ok (.isub, 1) := by decide +kernel
theorem dX10_sweeps_8 : decode cX10_sweeps 8 = .ok (.istore_n 2, 1) := by decide +kernel
theorem dX10_sweeps_9 : decode cX10_sweeps 9 = .ok (.iload_n 2, 1) := by decide +kernel
theorem dX10_sweeps_10 : decode cX10_sweeps 10 = .ok (.ifCond .lt 25, 3) := by decide +kernel
theorem dX10_sweeps_13 : decode cX10_sweeps 13 = .ok (.aload_n 0, 1) := by decide +kernel
theorem dX10_sweeps_14 : decode cX10_sweeps 14 = .ok (.iload_n 2, 1) := by decide +kernel
theorem dX10_sweeps_15 : decode cX10_sweeps 15 = .ok (.invokevirtual 121, 3) := by decide +kernel
theorem dX10_sweeps_18 : decode cX10_sweeps 18 = .ok (.ifCond .eq 11, 3) := by decide +kernel
theorem dX10_sweeps_21 : decode cX10_sweeps 21 = .ok (.aload_n 0, 1) := by decide +kernel
theorem dX10_sweeps_22 : decode cX10_sweeps 22 = .ok (.iload_n 2, 1) := by decide +kernel
theorem dX10_sweeps_23 : decode cX10_sweeps 23 = .ok (.invokevirtual 124, 3) := by decide +kernel
theorem dX10_sweeps_26 : decode cX10_sweeps 26 = .ok (.iinc 1 1, 3) := by decide +kernel
theorem dX10_sweeps_29 : decode cX10_sweeps 29 = .ok (.iinc 2 (-1), 3) := by decide +kernel
theorem dX10_sweeps_32 : decode cX10_sweeps 32 = .ok (.goto (-23), 3) := by decide +kernel
theorem dX10_sweeps_35 : decode cX10_sweeps 35 = .ok (.iload_n 1, 1) := by decide +kernel
theorem dX10_sweeps_36 : decode cX10_sweeps 36 = .ok (.ireturn, 1) := by decide +kernel
theorem dX10_saysNow_0 : decode cX10_saysNow 0 = .ok (.aload_n 0, 1) := by decide +kernel
theorem dX10_saysNow_1 : decode cX10_saysNow 1 = .ok (.getfield 74, 3) := by decide +kernel
theorem dX10_saysNow_4 : decode cX10_saysNow 4 = .ok (.bipush 30, 2) := by decide +kernel
theorem dX10_saysNow_6 : decode cX10_saysNow 6 = .ok (.if_icmp .ne 6, 3) := by decide +kernel
theorem dX10_saysNow_9 : decode cX10_saysNow 9 = .ok (.bipush (-4), 2) := by decide +kernel
theorem dX10_saysNow_11 : decode cX10_saysNow 11 = .ok (.ireturn, 1) := by decide +kernel
theorem dX10_saysNow_12 : decode cX10_saysNow 12 = .ok (.aload_n 0, 1) := by decide +kernel
theorem dX10_saysNow_13 : decode cX10_saysNow 13 = .ok (.getfield 44, 3) := by decide +kernel
theorem dX10_saysNow_16 : decode cX10_saysNow 16 = .ok (.iconst 3, 1) := by decide +kernel
theorem dX10_saysNow_17 : decode cX10_saysNow 17 = .ok (.aload_n 0, 1) := by decide +kernel
theorem dX10_saysNow_18 : decode cX10_saysNow 18 = .ok (.getfield 74, 3) := by decide +kernel
theorem dX10_saysNow_21 : decode cX10_saysNow 21 = .ok (.imul, 1) := by decide +kernel
theorem dX10_saysNow_22 : decode cX10_saysNow 22 = .ok (.iload_n 1, 1) := by decide +kernel
theorem dX10_saysNow_23 : decode cX10_saysNow 23 = .ok (.iastore, 1) := by decide +kernel
theorem dX10_saysNow_24 : decode cX10_saysNow 24 = .ok (.aload_n 0, 1) := by decide +kernel
theorem dX10_saysNow_25 : decode cX10_saysNow 25 = .ok (.getfield 44, 3) := by decide +kernel
theorem dX10_saysNow_28 : decode cX10_saysNow 28 = .ok (.iconst 3, 1) := by decide +kernel
theorem dX10_saysNow_29 : decode cX10_saysNow 29 = .ok (.aload_n 0, 1) := by decide +kernel
theorem dX10_saysNow_30 : decode cX10_saysNow 30 = .ok (.getfield 74, 3) := by decide +kernel
theorem dX10_saysNow_33 : decode cX10_saysNow 33 = .ok (.imul, 1) := by decide +kernel
theorem dX10_saysNow_34 : decode cX10_saysNow 34 = .ok (.iconst 1, 1) := by decide +kernel
theorem dX10_saysNow_35 : decode cX10_saysNow 35 = .ok (.iadd, 1) := by decide +kernel
theorem dX10_saysNow_36 : decode cX10_saysNow 36 = .ok (.aload_n 0, 1) := by decide +kernel
theorem dX10_saysNow_37 : decode cX10_saysNow 37 = .ok (.getfield 17, 3) := by decide +kernel
theorem dX10_saysNow_40 : decode cX10_saysNow 40 = .ok (.iload_n 1, 1) := by decide +kernel
theorem dX10_saysNow_41 : decode cX10_saysNow 41 = .ok (.iaload, 1) := by decide +kernel
theorem dX10_saysNow_42 : decode cX10_saysNow 42 = .ok (.iastore, 1) := by decide +kernel
theorem dX10_saysNow_43 : decode cX10_saysNow 43 = .ok (.aload_n 0, 1) := by decide +kernel
theorem dX10_saysNow_44 : decode cX10_saysNow 44 = .ok (.getfield 44, 3) := by decide +kernel
theorem dX10_saysNow_47 : decode cX10_saysNow 47 = .ok (.iconst 3, 1) := by decide +kernel
theorem dX10_saysNow_48 : decode cX10_saysNow 48 = .ok (.aload_n 0, 1) := by decide +kernel
theorem dX10_saysNow_49 : decode cX10_saysNow 49 = .ok (.getfield 74, 3) := by decide +kernel
theorem dX10_saysNow_52 : decode cX10_saysNow 52 = .ok (.imul, 1) := by decide +kernel
theorem dX10_saysNow_53 : decode cX10_saysNow 53 = .ok (.iconst 2, 1) := by decide +kernel
theorem dX10_saysNow_54 : decode cX10_saysNow 54 = .ok (.iadd, 1) := by decide +kernel
theorem dX10_saysNow_55 : decode cX10_saysNow 55 = .ok (.iconst 0, 1) := by decide +kernel
theorem dX10_saysNow_56 : decode cX10_saysNow 56 = .ok (.iastore, 1) := by decide +kernel
theorem dX10_saysNow_57 : decode cX10_saysNow 57 = .ok (.aload_n 0, 1) := by decide +kernel
theorem dX10_saysNow_58 : decode cX10_saysNow 58 = .ok (.dup, 1) := by decide +kernel
theorem dX10_saysNow_59 : decode cX10_saysNow 59 = .ok (.getfield 74, 3) := by decide +kernel
theorem dX10_saysNow_62 : decode cX10_saysNow 62 = .ok (.iconst 1, 1) := by decide +kernel
theorem dX10_saysNow_63 : decode cX10_saysNow 63 = .ok (.iadd, 1) := by decide +kernel
theorem dX10_saysNow_64 : decode cX10_saysNow 64 = .ok (.putfield 74, 3) := by decide +kernel
theorem dX10_saysNow_67 : decode cX10_saysNow 67 = .ok (.aload_n 0, 1) := by decide +kernel
theorem dX10_saysNow_68 : decode cX10_saysNow 68 = .ok (.iconst (-1), 1) := by decide +kernel
theorem dX10_saysNow_69 : decode cX10_saysNow 69 = .ok (.invokevirtual 200, 3) := by decide +kernel
theorem dX10_saysNow_72 : decode cX10_saysNow 72 = .ok (.ireturn, 1) := by decide +kernel
theorem dX10_says_0 : decode cX10_says 0 = .ok (.aload_n 0, 1) := by decide +kernel
theorem dX10_says_1 : decode cX10_says 1 = .ok (.iload_n 1, 1) := by decide +kernel
theorem dX10_says_2 : decode cX10_says 2 = .ok (.invokevirtual 98, 3) := by decide +kernel
theorem dX10_says_5 : decode cX10_says 5 = .ok (.ifCond .eq 15, 3) := by decide +kernel
theorem dX10_says_8 : decode cX10_says 8 = .ok (.aload_n 0, 1) := by decide +kernel
theorem dX10_says_9 : decode cX10_says 9 = .ok (.aload_n 0, 1) := by decide +kernel
theorem dX10_says_10 : decode cX10_says 10 = .ok (.iload_n 1, 1) := by decide +kernel
theorem dX10_says_11 : decode cX10_says 11 = .ok (.invokevirtual 188, 3) := by decide +kernel
theorem dX10_says_14 : decode cX10_says 14 = .ok (.invokevirtual 107, 3) := by decide +kernel
theorem dX10_says_17 : decode cX10_says 17 = .ok (.goto 7, 3) := by decide +kernel
theorem dX10_says_20 : decode cX10_says 20 = .ok (.aload_n 0, 1) := by decide +kernel
theorem dX10_says_21 : decode cX10_says 21 = .ok (.invokevirtual 87, 3) := by decide +kernel
theorem dX10_says_24 : decode cX10_says 24 = .ok (.ireturn, 1) := by decide +kernel
theorem dX10_isSafe_0 : decode cX10_isSafe 0 = .ok (.aload_n 0, 1) := by decide +kernel
theorem dX10_isSafe_1 : decode cX10_isSafe 1 = .ok (.getfield 44, 3) := by decide +kernel
theorem dX10_isSafe_4 : decode cX10_isSafe 4 = .ok (.iconst 3, 1) := by decide +kernel
theorem dX10_isSafe_5 : decode cX10_isSafe 5 = .ok (.iload_n 1, 1) := by decide +kernel
theorem dX10_isSafe_6 : decode cX10_isSafe 6 = .ok (.imul, 1) := by decide +kernel
theorem dX10_isSafe_7 : decode cX10_isSafe 7 = .ok (.iconst 2, 1) := by decide +kernel
theorem dX10_isSafe_8 : decode cX10_isSafe 8 = .ok (.iadd, 1) := by decide +kernel
theorem dX10_isSafe_9 : decode cX10_isSafe 9 = .ok (.iaload, 1) := by decide +kernel
theorem dX10_isSafe_10 : decode cX10_isSafe 10 = .ok (.ifCond .ne 32, 3) := by decide +kernel
theorem dX10_isSafe_13 : decode cX10_isSafe 13 = .ok (.aload_n 0, 1) := by decide +kernel
theorem dX10_isSafe_14 : decode cX10_isSafe 14 = .ok (.aload_n 0, 1) := by decide +kernel
theorem dX10_isSafe_15 : decode cX10_isSafe 15 = .ok (.getfield 44, 3) := by decide +kernel
theorem dX10_isSafe_18 : decode cX10_isSafe 18 = .ok (.iconst 3, 1) := by decide +kernel
theorem dX10_isSafe_19 : decode cX10_isSafe 19 = .ok (.iload_n 1, 1) := by decide +kernel
theorem dX10_isSafe_20 : decode cX10_isSafe 20 = .ok (.imul, 1) := by decide +kernel
theorem dX10_isSafe_21 : decode cX10_isSafe 21 = .ok (.iaload, 1) := by decide +kernel
theorem dX10_isSafe_22 : decode cX10_isSafe 22 = .ok (.aload_n 0, 1) := by decide +kernel
theorem dX10_isSafe_23 : decode cX10_isSafe 23 = .ok (.getfield 44, 3) := by decide +kernel
theorem dX10_isSafe_26 : decode cX10_isSafe 26 = .ok (.iconst 3, 1) := by decide +kernel
theorem dX10_isSafe_27 : decode cX10_isSafe 27 = .ok (.iload_n 1, 1) := by decide +kernel
theorem dX10_isSafe_28 : decode cX10_isSafe 28 = .ok (.imul, 1) := by decide +kernel
theorem dX10_isSafe_29 : decode cX10_isSafe 29 = .ok (.iconst 1, 1) := by decide +kernel
theorem dX10_isSafe_30 : decode cX10_isSafe 30 = .ok (.iadd, 1) := by decide +kernel
theorem dX10_isSafe_31 : decode cX10_isSafe 31 = .ok (.iaload, 1) := by decide +kernel
theorem dX10_isSafe_32 : decode cX10_isSafe 32 = .ok (.invokevirtual 191, 3) := by decide +kernel
theorem dX10_isSafe_35 : decode cX10_isSafe 35 = .ok (.ifCond .eq 7, 3) := by decide +kernel
theorem dX10_isSafe_38 : decode cX10_isSafe 38 = .ok (.iconst 1, 1) := by decide +kernel
theorem dX10_isSafe_39 : decode cX10_isSafe 39 = .ok (.goto 4, 3) := by decide +kernel
theorem dX10_isSafe_42 : decode cX10_isSafe 42 = .ok (.iconst 0, 1) := by decide +kernel
theorem dX10_isSafe_43 : decode cX10_isSafe 43 = .ok (.ireturn, 1) := by decide +kernel
theorem dX10_firstSafe_0 : decode cX10_firstSafe 0 = .ok (.iconst (-1), 1) := by decide +kernel
theorem dX10_firstSafe_1 : decode cX10_firstSafe 1 = .ok (.istore_n 1, 1) := by decide +kernel
theorem dX10_firstSafe_2 : decode cX10_firstSafe 2 = .ok (.iconst 0, 1) := by decide +kernel
theorem dX10_firstSafe_3 : decode cX10_firstSafe 3 = .ok (.istore_n 2, 1) := by decide +kernel
theorem dX10_firstSafe_4 : decode cX10_firstSafe 4 = .ok (.iconst 0, 1) := by decide +kernel
theorem dX10_firstSafe_5 : decode cX10_firstSafe 5 = .ok (.istore_n 3, 1) := by decide +kernel
theorem dX10_firstSafe_6 : decode cX10_firstSafe 6 = .ok (.iload_n 3, 1) := by decide +kernel
theorem dX10_firstSafe_7 : decode cX10_firstSafe 7 = .ok (.aload_n 0, 1) := by decide +kernel
theorem dX10_firstSafe_8 : decode cX10_firstSafe 8 = .ok (.getfield 74, 3) := by decide +kernel
theorem dX10_firstSafe_11 : decode cX10_firstSafe 11 = .ok (.if_icmp .ge 56, 3) := by decide +kernel
theorem dX10_firstSafe_14 : decode cX10_firstSafe 14 = .ok (.iconst 5, 1) := by decide +kernel
theorem dX10_firstSafe_15 : decode cX10_firstSafe 15 = .ok (.aload_n 0, 1) := by decide +kernel
theorem dX10_firstSafe_16 : decode cX10_firstSafe 16 = .ok (.getfield 44, 3) := by decide +kernel
theorem dX10_firstSafe_19 : decode cX10_firstSafe 19 = .ok (.iconst 3, 1) := by decide +kernel
theorem dX10_firstSafe_20 : decode cX10_firstSafe 20 = .ok (.iload_n 3, 1) := by decide +kernel
theorem dX10_firstSafe_21 : decode cX10_firstSafe 21 = .ok (.imul, 1) := by decide +kernel
theorem dX10_firstSafe_22 : decode cX10_firstSafe 22 = .ok (.iconst 1, 1) := by decide +kernel
theorem dX10_firstSafe_23 : decode cX10_firstSafe 23 = .ok (.iadd, 1) := by decide +kernel
theorem dX10_firstSafe_24 : decode cX10_firstSafe 24 = .ok (.iaload, 1) := by decide +kernel
theorem dX10_firstSafe_25 : decode cX10_firstSafe 25 = .ok (.imul, 1) := by decide +kernel
theorem dX10_firstSafe_26 : decode cX10_firstSafe 26 = .ok (.aload_n 0, 1) := by decide +kernel
theorem dX10_firstSafe_27 : decode cX10_firstSafe 27 = .ok (.getfield 44, 3) := by decide +kernel
theorem dX10_firstSafe_30 : decode cX10_firstSafe 30 = .ok (.iconst 3, 1) := by decide +kernel
theorem dX10_firstSafe_31 : decode cX10_firstSafe 31 = .ok (.iload_n 3, 1) := by decide +kernel
theorem dX10_firstSafe_32 : decode cX10_firstSafe 32 = .ok (.imul, 1) := by decide +kernel
theorem dX10_firstSafe_33 : decode cX10_firstSafe 33 = .ok (.iaload, 1) := by decide +kernel
theorem dX10_firstSafe_34 : decode cX10_firstSafe 34 = .ok (.iadd, 1) := by decide +kernel
theorem dX10_firstSafe_35 : decode cX10_firstSafe 35 = .ok (.istore 4, 2) := by decide +kernel
theorem dX10_firstSafe_37 : decode cX10_firstSafe 37 = .ok (.aload_n 0, 1) := by decide +kernel
theorem dX10_firstSafe_38 : decode cX10_firstSafe 38 = .ok (.iload_n 3, 1) := by decide +kernel
theorem dX10_firstSafe_39 : decode cX10_firstSafe 39 = .ok (.invokevirtual 213, 3) := by decide +kernel
theorem dX10_firstSafe_42 : decode cX10_firstSafe 42 = .ok (.ifCond .eq 19, 3) := by decide +kernel
theorem dX10_firstSafe_45 : decode cX10_firstSafe 45 = .ok (.iload_n 1, 1) := by decide +kernel
theorem dX10_firstSafe_46 : decode cX10_firstSafe 46 = .ok (.iconst (-1), 1) := by decide +kernel
theorem dX10_firstSafe_47 : decode cX10_firstSafe 47 = .ok (.if_icmp .eq 9, 3) := by decide +kernel
theorem dX10_firstSafe_50 : decode cX10_firstSafe 50 = .ok (.iload 4, 2) := by decide +kernel
theorem dX10_firstSafe_52 : decode cX10_firstSafe 52 = .ok (.iload_n 2, 1) := by decide +kernel
theorem dX10_firstSafe_53 : decode cX10_firstSafe 53 = .ok (.if_icmp .ge 8, 3) := by decide +kernel
theorem dX10_firstSafe_56 : decode cX10_firstSafe 56 = .ok (.iload_n 3, 1) := by decide +kernel
theorem dX10_firstSafe_57 : decode cX10_firstSafe 57 = .ok (.istore_n 1, 1) := by decide +kernel
theorem dX10_firstSafe_58 : decode cX10_firstSafe 58 = .ok (.iload 4, 2) := by decide +kernel
theorem dX10_firstSafe_60 : decode cX10_firstSafe 60 = .ok (.istore_n 2, 1) := by decide +kernel
theorem dX10_firstSafe_61 : decode cX10_firstSafe 61 = .ok (.iinc 3 1, 3) := by decide +kernel
theorem dX10_firstSafe_64 : decode cX10_firstSafe 64 = .ok (.goto (-58), 3) := by decide +kernel
theorem dX10_firstSafe_67 : decode cX10_firstSafe 67 = .ok (.iload_n 1, 1) := by decide +kernel
theorem dX10_firstSafe_68 : decode cX10_firstSafe 68 = .ok (.ireturn, 1) := by decide +kernel
theorem dX10_releases_0 : decode cX10_releases 0 = .ok (.iconst 0, 1) := by decide +kernel
theorem dX10_releases_1 : decode cX10_releases 1 = .ok (.istore_n 1, 1) := by decide +kernel
theorem dX10_releases_2 : decode cX10_releases 2 = .ok (.aload_n 0, 1) := by decide +kernel
theorem dX10_releases_3 : decode cX10_releases 3 = .ok (.invokevirtual 216, 3) := by decide +kernel
theorem dX10_releases_6 : decode cX10_releases 6 = .ok (.istore_n 2, 1) := by decide +kernel
theorem dX10_releases_7 : decode cX10_releases 7 = .ok (.iload_n 2, 1) := by decide +kernel
theorem dX10_releases_8 : decode cX10_releases 8 = .ok (.iconst (-1), 1) := by decide +kernel
theorem dX10_releases_9 : decode cX10_releases 9 = .ok (.if_icmp .eq 45, 3) := by decide +kernel
theorem dX10_releases_12 : decode cX10_releases 12 = .ok (.aload_n 0, 1) := by decide +kernel
theorem dX10_releases_13 : decode cX10_releases 13 = .ok (.getfield 44, 3) := by decide +kernel
theorem dX10_releases_16 : decode cX10_releases 16 = .ok (.iconst 3, 1) := by decide +kernel
theorem dX10_releases_17 : decode cX10_releases 17 = .ok (.iload_n 2, 1) := by decide +kernel
theorem dX10_releases_18 : decode cX10_releases 18 = .ok (.imul, 1) := by decide +kernel
theorem dX10_releases_19 : decode cX10_releases 19 = .ok (.iconst 2, 1) := by decide +kernel
theorem dX10_releases_20 : decode cX10_releases 20 = .ok (.iadd, 1) := by decide +kernel
theorem dX10_releases_21 : decode cX10_releases 21 = .ok (.iconst 1, 1) := by decide +kernel
theorem dX10_releases_22 : decode cX10_releases 22 = .ok (.iastore, 1) := by decide +kernel
theorem dX10_releases_23 : decode cX10_releases 23 = .ok (.aload_n 0, 1) := by decide +kernel
theorem dX10_releases_24 : decode cX10_releases 24 = .ok (.getfield 47, 3) := by decide +kernel
theorem dX10_releases_27 : decode cX10_releases 27 = .ok (.aload_n 0, 1) := by decide +kernel
theorem dX10_releases_28 : decode cX10_releases 28 = .ok (.getfield 77, 3) := by decide +kernel
theorem dX10_releases_31 : decode cX10_releases 31 = .ok (.iload_n 2, 1) := by decide +kernel
theorem dX10_releases_32 : decode cX10_releases 32 = .ok (.iastore, 1) := by decide +kernel
theorem dX10_releases_33 : decode cX10_releases 33 = .ok (.aload_n 0, 1) := by decide +kernel
theorem dX10_releases_34 : decode cX10_releases 34 = .ok (.dup, 1) := by decide +kernel
theorem dX10_releases_35 : decode cX10_releases 35 = .ok (.getfield 77, 3) := by decide +kernel
theorem dX10_releases_38 : decode cX10_releases 38 = .ok (.iconst 1, 1) := by decide +kernel
theorem dX10_releases_39 : decode cX10_releases 39 = .ok (.iadd, 1) := by decide +kernel
theorem dX10_releases_40 : decode cX10_releases 40 = .ok (.putfield 77, 3) := by decide +kernel
theorem dX10_releases_43 : decode cX10_releases 43 = .ok (.iinc 1 1, 3) := by decide +kernel
theorem dX10_releases_46 : decode cX10_releases 46 = .ok (.aload_n 0, 1) := by decide +kernel
theorem dX10_releases_47 : decode cX10_releases 47 = .ok (.invokevirtual 216, 3) := by decide +kernel
theorem dX10_releases_50 : decode cX10_releases 50 = .ok (.istore_n 2, 1) := by decide +kernel
theorem dX10_releases_51 : decode cX10_releases 51 = .ok (.goto (-44), 3) := by decide +kernel
theorem dX10_releases_54 : decode cX10_releases 54 = .ok (.iload_n 1, 1) := by decide +kernel
theorem dX10_releases_55 : decode cX10_releases 55 = .ok (.ireturn, 1) := by decide +kernel
theorem dX10_release_0 : decode cX10_release 0 = .ok (.aload_n 0, 1) := by decide +kernel
theorem dX10_release_1 : decode cX10_release 1 = .ok (.invokevirtual 219, 3) := by decide +kernel
theorem dX10_release_4 : decode cX10_release 4 = .ok (.ireturn, 1) := by decide +kernel
theorem dX10_sayingOf_0 : decode cX10_sayingOf 0 = .ok (.iload_n 2, 1) := by decide +kernel
theorem dX10_sayingOf_1 : decode cX10_sayingOf 1 = .ok (.iconst 3, 1) := by decide +kernel
theorem dX10_sayingOf_2 : decode cX10_sayingOf 2 = .ok (.if_icmp .ge 16, 3) := by decide +kernel
theorem dX10_sayingOf_5 : decode cX10_sayingOf 5 = .ok (.aload_n 0, 1) := by decide +kernel
theorem dX10_sayingOf_6 : decode cX10_sayingOf 6 = .ok (.getfield 44, 3) := by decide +kernel
theorem dX10_sayingOf_9 : decode cX10_sayingOf 9 = .ok (.iconst 3, 1) := by decide +kernel
theorem dX10_sayingOf_10 : decode cX10_sayingOf 10 = .ok (.iload_n 1, 1) := by decide +kernel
theorem dX10_sayingOf_11 : decode cX10_sayingOf 11 = .ok (.imul, 1) := by decide +kernel
theorem dX10_sayingOf_12 : decode cX10_sayingOf 12 = .ok (.iload_n 2, 1) := by decide +kernel
theorem dX10_sayingOf_13 : decode cX10_sayingOf 13 = .ok (.iadd, 1) := by decide +kernel
theorem dX10_sayingOf_14 : decode cX10_sayingOf 14 = .ok (.iaload, 1) := by decide +kernel
theorem dX10_sayingOf_15 : decode cX10_sayingOf 15 = .ok (.goto 16, 3) := by decide +kernel
theorem dX10_sayingOf_18 : decode cX10_sayingOf 18 = .ok (.aload_n 0, 1) := by decide +kernel
theorem dX10_sayingOf_19 : decode cX10_sayingOf 19 = .ok (.iload_n 1, 1) := by decide +kernel
theorem dX10_sayingOf_20 : decode cX10_sayingOf 20 = .ok (.invokevirtual 213, 3) := by decide +kernel
theorem dX10_sayingOf_23 : decode cX10_sayingOf 23 = .ok (.ifCond .eq 7, 3) := by decide +kernel
theorem dX10_sayingOf_26 : decode cX10_sayingOf 26 = .ok (.iconst 1, 1) := by decide +kernel
theorem dX10_sayingOf_27 : decode cX10_sayingOf 27 = .ok (.goto 4, 3) := by decide +kernel
theorem dX10_sayingOf_30 : decode cX10_sayingOf 30 = .ok (.iconst 0, 1) := by decide +kernel
theorem dX10_sayingOf_31 : decode cX10_sayingOf 31 = .ok (.ireturn, 1) := by decide +kernel
theorem dX10_saying_0 : decode cX10_saying 0 = .ok (.iload_n 1, 1) := by decide +kernel
theorem dX10_saying_1 : decode cX10_saying 1 = .ok (.ifCond .lt 15, 3) := by decide +kernel
theorem dX10_saying_4 : decode cX10_saying 4 = .ok (.iload_n 2, 1) := by decide +kernel
theorem dX10_saying_5 : decode cX10_saying 5 = .ok (.i2l, 1) := by decide +kernel
theorem dX10_saying_6 : decode cX10_saying 6 = .ok (.lconst 0, 1) := by decide +kernel
theorem dX10_saying_7 : decode cX10_saying 7 = .ok (.ldc2_w 94, 3) := by decide +kernel
theorem dX10_saying_10 : decode cX10_saying 10 = .ok (.invokestatic 59, 3) := by decide +kernel
theorem dX10_saying_13 : decode cX10_saying 13 = .ok (.ifCond .ne 8, 3) := by decide +kernel
theorem dX10_saying_16 : decode cX10_saying 16 = .ok (.aload_n 0, 1) := by decide +kernel
theorem dX10_saying_17 : decode cX10_saying 17 = .ok (.invokevirtual 87, 3) := by decide +kernel
theorem dX10_saying_20 : decode cX10_saying 20 = .ok (.ireturn, 1) := by decide +kernel
theorem dX10_saying_21 : decode cX10_saying 21 = .ok (.iload_n 1, 1) := by decide +kernel
theorem dX10_saying_22 : decode cX10_saying 22 = .ok (.aload_n 0, 1) := by decide +kernel
theorem dX10_saying_23 : decode cX10_saying 23 = .ok (.getfield 74, 3) := by decide +kernel
theorem dX10_saying_26 : decode cX10_saying 26 = .ok (.if_icmp .ge 12, 3) := by decide +kernel
theorem dX10_saying_29 : decode cX10_saying 29 = .ok (.aload_n 0, 1) := by decide +kernel
theorem dX10_saying_30 : decode cX10_saying 30 = .ok (.iload_n 1, 1) := by decide +kernel
theorem dX10_saying_31 : decode cX10_saying 31 = .ok (.iload_n 2, 1) := by decide +kernel
theorem dX10_saying_32 : decode cX10_saying 32 = .ok (.invokevirtual 222, 3) := by decide +kernel
theorem dX10_saying_35 : decode cX10_saying 35 = .ok (.goto 4, 3) := by decide +kernel
theorem dX10_saying_38 : decode cX10_saying 38 = .ok (.iconst (-1), 1) := by decide +kernel
theorem dX10_saying_39 : decode cX10_saying 39 = .ok (.ireturn, 1) := by decide +kernel
theorem dX10_released_0 : decode cX10_released 0 = .ok (.iload_n 1, 1) := by decide +kernel
theorem dX10_released_1 : decode cX10_released 1 = .ok (.ifCond .ge 8, 3) := by decide +kernel
theorem dX10_released_4 : decode cX10_released 4 = .ok (.aload_n 0, 1) := by decide +kernel
theorem dX10_released_5 : decode cX10_released 5 = .ok (.invokevirtual 87, 3) := by decide +kernel
theorem dX10_released_8 : decode cX10_released 8 = .ok (.ireturn, 1) := by decide +kernel
theorem dX10_released_9 : decode cX10_released 9 = .ok (.iload_n 1, 1) := by decide +kernel
theorem dX10_released_10 : decode cX10_released 10 = .ok (.aload_n 0, 1) := by decide +kernel
theorem dX10_released_11 : decode cX10_released 11 = .ok (.getfield 77, 3) := by decide +kernel
theorem dX10_released_14 : decode cX10_released 14 = .ok (.if_icmp .ge 12, 3) := by decide +kernel
theorem dX10_released_17 : decode cX10_released 17 = .ok (.aload_n 0, 1) := by decide +kernel
theorem dX10_released_18 : decode cX10_released 18 = .ok (.getfield 47, 3) := by decide +kernel
theorem dX10_released_21 : decode cX10_released 21 = .ok (.iload_n 1, 1) := by decide +kernel
theorem dX10_released_22 : decode cX10_released 22 = .ok (.iaload, 1) := by decide +kernel
theorem dX10_released_23 : decode cX10_released 23 = .ok (.goto 4, 3) := by decide +kernel
theorem dX10_released_26 : decode cX10_released 26 = .ok (.iconst (-1), 1) := by decide +kernel
theorem dX10_released_27 : decode cX10_released 27 = .ok (.ireturn, 1) := by decide +kernel
theorem dX10_cutsNow_0 : decode cX10_cutsNow 0 = .ok (.aload_n 0, 1) := by decide +kernel
theorem dX10_cutsNow_1 : decode cX10_cutsNow 1 = .ok (.iload_n 1, 1) := by decide +kernel
theorem dX10_cutsNow_2 : decode cX10_cutsNow 2 = .ok (.invokevirtual 194, 3) := by decide +kernel
theorem dX10_cutsNow_5 : decode cX10_cutsNow 5 = .ok (.istore_n 2, 1) := by decide +kernel
theorem dX10_cutsNow_6 : decode cX10_cutsNow 6 = .ok (.iload_n 2, 1) := by decide +kernel
theorem dX10_cutsNow_7 : decode cX10_cutsNow 7 = .ok (.aload_n 0, 1) := by decide +kernel
theorem dX10_cutsNow_8 : decode cX10_cutsNow 8 = .ok (.getfield 23, 3) := by decide +kernel
theorem dX10_cutsNow_11 : decode cX10_cutsNow 11 = .ok (.iload_n 1, 1) := by decide +kernel
theorem dX10_cutsNow_12 : decode cX10_cutsNow 12 = .ok (.iaload, 1) := by decide +kernel
theorem dX10_cutsNow_13 : decode cX10_cutsNow 13 = .ok (.if_icmp .le 14, 3) := by decide +kernel
theorem dX10_cutsNow_16 : decode cX10_cutsNow 16 = .ok (.iload_n 2, 1) := by decide +kernel
theorem dX10_cutsNow_17 : decode cX10_cutsNow 17 = .ok (.aload_n 0, 1) := by decide +kernel
theorem dX10_cutsNow_18 : decode cX10_cutsNow 18 = .ok (.getfield 23, 3) := by decide +kernel
theorem dX10_cutsNow_21 : decode cX10_cutsNow 21 = .ok (.iload_n 1, 1) := by decide +kernel
theorem dX10_cutsNow_22 : decode cX10_cutsNow 22 = .ok (.iaload, 1) := by decide +kernel
theorem dX10_cutsNow_23 : decode cX10_cutsNow 23 = .ok (.isub, 1) := by decide +kernel
theorem dX10_cutsNow_24 : decode cX10_cutsNow 24 = .ok (.goto 4, 3) := by decide +kernel
theorem dX10_cutsNow_27 : decode cX10_cutsNow 27 = .ok (.iconst 0, 1) := by decide +kernel
theorem dX10_cutsNow_28 : decode cX10_cutsNow 28 = .ok (.istore_n 3, 1) := by decide +kernel
theorem dX10_cutsNow_29 : decode cX10_cutsNow 29 = .ok (.aload_n 0, 1) := by decide +kernel
theorem dX10_cutsNow_30 : decode cX10_cutsNow 30 = .ok (.getfield 23, 3) := by decide +kernel
theorem dX10_cutsNow_33 : decode cX10_cutsNow 33 = .ok (.iload_n 1, 1) := by decide +kernel
theorem dX10_cutsNow_34 : decode cX10_cutsNow 34 = .ok (.dup2, 1) := by decide +kernel
theorem dX10_cutsNow_35 : decode cX10_cutsNow 35 = .ok (.iaload, 1) := by decide +kernel
theorem dX10_cutsNow_36 : decode cX10_cutsNow 36 = .ok (.iload_n 3, 1) := by decide +kernel
theorem dX10_cutsNow_37 : decode cX10_cutsNow 37 = .ok (.iadd, 1) := by decide +kernel
theorem dX10_cutsNow_38 : decode cX10_cutsNow 38 = .ok (.iastore, 1) := by decide +kernel
theorem dX10_cutsNow_39 : decode cX10_cutsNow 39 = .ok (.iload_n 3, 1) := by decide +kernel
theorem dX10_cutsNow_40 : decode cX10_cutsNow 40 = .ok (.ireturn, 1) := by decide +kernel
theorem dX10_cuts_0 : decode cX10_cuts 0 = .ok (.aload_n 0, 1) := by decide +kernel
theorem dX10_cuts_1 : decode cX10_cuts 1 = .ok (.iload_n 1, 1) := by decide +kernel
theorem dX10_cuts_2 : decode cX10_cuts 2 = .ok (.invokevirtual 98, 3) := by decide +kernel
theorem dX10_cuts_5 : decode cX10_cuts 5 = .ok (.ifCond .eq 11, 3) := by decide +kernel
theorem dX10_cuts_8 : decode cX10_cuts 8 = .ok (.aload_n 0, 1) := by decide +kernel
theorem dX10_cuts_9 : decode cX10_cuts 9 = .ok (.iload_n 1, 1) := by decide +kernel
theorem dX10_cuts_10 : decode cX10_cuts 10 = .ok (.invokevirtual 225, 3) := by decide +kernel
theorem dX10_cuts_13 : decode cX10_cuts 13 = .ok (.goto 7, 3) := by decide +kernel
theorem dX10_cuts_16 : decode cX10_cuts 16 = .ok (.aload_n 0, 1) := by decide +kernel
theorem dX10_cuts_17 : decode cX10_cuts 17 = .ok (.invokevirtual 87, 3) := by decide +kernel
theorem dX10_cuts_20 : decode cX10_cuts 20 = .ok (.ireturn, 1) := by decide +kernel
theorem dX10_type_0 : decode cX10_type 0 = .ok (.iload_n 1, 1) := by decide +kernel
theorem dX10_type_1 : decode cX10_type 1 = .ok (.i2l, 1) := by decide +kernel
theorem dX10_type_2 : decode cX10_type 2 = .ok (.lconst 0, 1) := by decide +kernel
theorem dX10_type_3 : decode cX10_type 3 = .ok (.ldc2_w 228, 3) := by decide +kernel
theorem dX10_type_6 : decode cX10_type 6 = .ok (.invokestatic 59, 3) := by decide +kernel
theorem dX10_type_9 : decode cX10_type 9 = .ok (.ifCond .ne 8, 3) := by decide +kernel
theorem dX10_type_12 : decode cX10_type 12 = .ok (.aload_n 0, 1) := by decide +kernel
theorem dX10_type_13 : decode cX10_type 13 = .ok (.invokevirtual 87, 3) := by decide +kernel
theorem dX10_type_16 : decode cX10_type 16 = .ok (.ireturn, 1) := by decide +kernel
theorem dX10_type_17 : decode cX10_type 17 = .ok (.aload_n 0, 1) := by decide +kernel
theorem dX10_type_18 : decode cX10_type 18 = .ok (.getfield 230, 3) := by decide +kernel
theorem dX10_type_21 : decode cX10_type 21 = .ok (.bipush 120, 2) := by decide +kernel
theorem dX10_type_23 : decode cX10_type 23 = .ok (.if_icmp .ne 8, 3) := by decide +kernel
theorem dX10_type_26 : decode cX10_type 26 = .ok (.aload_n 0, 1) := by decide +kernel
theorem dX10_type_27 : decode cX10_type 27 = .ok (.invokevirtual 233, 3) := by decide +kernel
theorem dX10_type_30 : decode cX10_type 30 = .ok (.ireturn, 1) := by decide +kernel
theorem dX10_type_31 : decode cX10_type 31 = .ok (.aload_n 0, 1) := by decide +kernel
theorem dX10_type_32 : decode cX10_type 32 = .ok (.getfield 56, 3) := by decide +kernel
theorem dX10_type_35 : decode cX10_type 35 = .ok (.aload_n 0, 1) := by decide +kernel
theorem dX10_type_36 : decode cX10_type 36 = .ok (.getfield 230, 3) := by decide +kernel
theorem dX10_type_39 : decode cX10_type 39 = .ok (.iload_n 1, 1) := by decide +kernel
theorem dX10_type_40 : decode cX10_type 40 = .ok (.iastore, 1) := by decide +kernel
theorem dX10_type_41 : decode cX10_type 41 = .ok (.aload_n 0, 1) := by decide +kernel
theorem dX10_type_42 : decode cX10_type 42 = .ok (.dup, 1) := by decide +kernel
theorem dX10_type_43 : decode cX10_type 43 = .ok (.getfield 230, 3) := by decide +kernel
theorem dX10_type_46 : decode cX10_type 46 = .ok (.iconst 1, 1) := by decide +kernel
theorem dX10_type_47 : decode cX10_type 47 = .ok (.iadd, 1) := by decide +kernel
theorem dX10_type_48 : decode cX10_type 48 = .ok (.putfield 230, 3) := by decide +kernel
theorem dX10_type_51 : decode cX10_type 51 = .ok (.aload_n 0, 1) := by decide +kernel
theorem dX10_type_52 : decode cX10_type 52 = .ok (.getfield 230, 3) := by decide +kernel
theorem dX10_type_55 : decode cX10_type 55 = .ok (.ireturn, 1) := by decide +kernel
theorem dX10_clear_0 : decode cX10_clear 0 = .ok (.aload_n 0, 1) := by decide +kernel
theorem dX10_clear_1 : decode cX10_clear 1 = .ok (.getfield 230, 3) := by decide +kernel
theorem dX10_clear_4 : decode cX10_clear 4 = .ok (.istore_n 1, 1) := by decide +kernel
theorem dX10_clear_5 : decode cX10_clear 5 = .ok (.aload_n 0, 1) := by decide +kernel
theorem dX10_clear_6 : decode cX10_clear 6 = .ok (.iconst 0, 1) := by decide +kernel
theorem dX10_clear_7 : decode cX10_clear 7 = .ok (.putfield 230, 3) := by decide +kernel
theorem dX10_clear_10 : decode cX10_clear 10 = .ok (.iload_n 1, 1) := by decide +kernel
theorem dX10_clear_11 : decode cX10_clear 11 = .ok (.ireturn, 1) := by decide +kernel
theorem dX10_skip_0 : decode cX10_skip 0 = .ok (.aload_n 0, 1) := by decide +kernel
theorem dX10_skip_1 : decode cX10_skip 1 = .ok (.getfield 236, 3) := by decide +kernel
theorem dX10_skip_4 : decode cX10_skip 4 = .ok (.aload_n 0, 1) := by decide +kernel
theorem dX10_skip_5 : decode cX10_skip 5 = .ok (.getfield 230, 3) := by decide +kernel
theorem dX10_skip_8 : decode cX10_skip 8 = .ok (.if_icmp .ge 30, 3) := by decide +kernel
theorem dX10_skip_11 : decode cX10_skip 11 = .ok (.aload_n 0, 1) := by decide +kernel
theorem dX10_skip_12 : decode cX10_skip 12 = .ok (.getfield 56, 3) := by decide +kernel
theorem dX10_skip_15 : decode cX10_skip 15 = .ok (.aload_n 0, 1) := by decide +kernel
theorem dX10_skip_16 : decode cX10_skip 16 = .ok (.getfield 236, 3) := by decide +kernel
theorem dX10_skip_19 : decode cX10_skip 19 = .ok (.iaload, 1) := by decide +kernel
theorem dX10_skip_20 : decode cX10_skip 20 = .ok (.bipush 32, 2) := by decide +kernel
theorem dX10_skip_22 : decode cX10_skip 22 = .ok (.if_icmp .ne 16, 3) := by decide +kernel
theorem dX10_skip_25 : decode cX10_skip 25 = .ok (.aload_n 0, 1) := by decide +kernel
theorem dX10_skip_26 : decode cX10_skip 26 = .ok (.dup, 1) := by decide +kernel
theorem dX10_skip_27 : decode cX10_skip 27 = .ok (.getfield 236, 3) := by decide +kernel
theorem dX10_skip_30 : decode cX10_skip 30 = .ok (.iconst 1, 1) := by decide +kernel
theorem dX10_skip_31 : decode cX10_skip 31 = .ok (.iadd, 1) := by decide +kernel
theorem dX10_skip_32 : decode cX10_skip 32 = .ok (.putfield 236, 3) := by decide +kernel
theorem dX10_skip_35 : decode cX10_skip 35 = .ok (.goto (-35), 3) := by decide +kernel
theorem dX10_skip_38 : decode cX10_skip 38 = .ok (.return_, 1) := by decide +kernel
theorem dX10_isFigure_0 : decode cX10_isFigure 0 = .ok (.iload_n 1, 1) := by decide +kernel
theorem dX10_isFigure_1 : decode cX10_isFigure 1 = .ok (.aload_n 0, 1) := by decide +kernel
theorem dX10_isFigure_2 : decode cX10_isFigure 2 = .ok (.getfield 230, 3) := by decide +kernel
theorem dX10_isFigure_5 : decode cX10_isFigure 5 = .ok (.if_icmp .ge 26, 3) := by decide +kernel
theorem dX10_isFigure_8 : decode cX10_isFigure 8 = .ok (.aload_n 0, 1) := by decide +kernel
theorem dX10_isFigure_9 : decode cX10_isFigure 9 = .ok (.getfield 56, 3) := by decide +kernel
theorem dX10_isFigure_12 : decode cX10_isFigure 12 = .ok (.iload_n 1, 1) := by decide +kernel
theorem dX10_isFigure_13 : decode cX10_isFigure 13 = .ok (.iaload, 1) := by decide +kernel
theorem dX10_isFigure_14 : decode cX10_isFigure 14 = .ok (.i2l, 1) := by decide +kernel
theorem dX10_isFigure_15 : decode cX10_isFigure 15 = .ok (.ldc2_w 239, 3) := by decide +kernel
theorem dX10_isFigure_18 : decode cX10_isFigure 18 = .ok (.ldc2_w 241, 3) := by decide +kernel
theorem dX10_isFigure_21 : decode cX10_isFigure 21 = .ok (.invokestatic 59, 3) := by decide +kernel
theorem dX10_isFigure_24 : decode cX10_isFigure 24 = .ok (.ifCond .eq 7, 3) := by decide +kernel
theorem dX10_isFigure_27 : decode cX10_isFigure 27 = .ok (.iconst 1, 1) := by decide +kernel
theorem dX10_isFigure_28 : decode cX10_isFigure 28 = .ok (.goto 4, 3) := by decide +kernel
theorem dX10_isFigure_31 : decode cX10_isFigure 31 = .ok (.iconst 0, 1) := by decide +kernel
theorem dX10_isFigure_32 : decode cX10_isFigure 32 = .ok (.ireturn, 1) := by decide +kernel
theorem dX10_takes_0 : decode cX10_takes 0 = .ok (.aload_n 0, 1) := by decide +kernel
theorem dX10_takes_1 : decode cX10_takes 1 = .ok (.invokevirtual 243, 3) := by decide +kernel
theorem dX10_takes_4 : decode cX10_takes 4 = .ok (.aload_n 0, 1) := by decide +kernel
theorem dX10_takes_5 : decode cX10_takes 5 = .ok (.getfield 236, 3) := by decide +kernel
theorem dX10_takes_8 : decode cX10_takes 8 = .ok (.istore_n 2, 1) := by decide +kernel
theorem dX10_takes_9 : decode cX10_takes 9 = .ok (.iconst 0, 1) := by decide +kernel
theorem dX10_takes_10 : decode cX10_takes 10 = .ok (.istore_n 3, 1) := by decide +kernel
theorem dX10_takes_11 : decode cX10_takes 11 = .ok (.aload_n 0, 1) := by decide +kernel
theorem dX10_takes_12 : decode cX10_takes 12 = .ok (.iload_n 2, 1) := by decide +kernel
theorem dX10_takes_13 : decode cX10_takes 13 = .ok (.invokevirtual 246, 3) := by decide +kernel
theorem dX10_takes_16 : decode cX10_takes 16 = .ok (.ifCond .eq 34, 3) := by decide +kernel
theorem dX10_takes_19 : decode cX10_takes 19 = .ok (.iload_n 2, 1) := by decide +kernel
theorem dX10_takes_20 : decode cX10_takes 20 = .ok (.aload_n 0, 1) := by decide +kernel
theorem dX10_takes_21 : decode cX10_takes 21 = .ok (.getfield 236, 3) := by decide +kernel
