theorem dX2_tellPage_18 : decode cX2_tellPage 18 = .ok (.ireturn, 1) := by decide +kernel
theorem dX2_tellPage_19 : decode cX2_tellPage 19 = .ok (.iload 4, 2) := by decide +kernel
theorem dX2_tellPage_21 : decode cX2_tellPage 21 = .ok (.tableswitch 58 0 2 #[27, 37, 47], 27) := by decide +kernel
theorem dX2_tellPage_48 : decode cX2_tellPage 48 = .ok (.aload 5, 2) := by decide +kernel
theorem dX2_tellPage_50 : decode cX2_tellPage 50 = .ok (.getfield 210, 3) := by decide +kernel
theorem dX2_tellPage_53 : decode cX2_tellPage 53 = .ok (.iload_n 2, 1) := by decide +kernel
theorem dX2_tellPage_54 : decode cX2_tellPage 54 = .ok (.invokestatic 85, 3) := by decide +kernel
theorem dX2_tellPage_57 : decode cX2_tellPage 57 = .ok (.ireturn, 1) := by decide +kernel
theorem dX2_tellPage_58 : decode cX2_tellPage 58 = .ok (.aload 5, 2) := by decide +kernel
theorem dX2_tellPage_60 : decode cX2_tellPage 60 = .ok (.getfield 213, 3) := by decide +kernel
theorem dX2_tellPage_63 : decode cX2_tellPage 63 = .ok (.iload_n 2, 1) := by decide +kernel
theorem dX2_tellPage_64 : decode cX2_tellPage 64 = .ok (.invokestatic 85, 3) := by decide +kernel
theorem dX2_tellPage_67 : decode cX2_tellPage 67 = .ok (.ireturn, 1) := by decide +kernel
theorem dX2_tellPage_68 : decode cX2_tellPage 68 = .ok (.aload 5, 2) := by decide +kernel
theorem dX2_tellPage_70 : decode cX2_tellPage 70 = .ok (.getfield 148, 3) := by decide +kernel
theorem dX2_tellPage_73 : decode cX2_tellPage 73 = .ok (.iload_n 2, 1) := by decide +kernel
theorem dX2_tellPage_74 : decode cX2_tellPage 74 = .ok (.iload_n 3, 1) := by decide +kernel
theorem dX2_tellPage_75 : decode cX2_tellPage 75 = .ok (.invokevirtual 100, 3) := by decide +kernel
theorem dX2_tellPage_78 : decode cX2_tellPage 78 = .ok (.ireturn, 1) := by decide +kernel
theorem dX2_tellPage_79 : decode cX2_tellPage 79 = .ok (.aload 5, 2) := by decide +kernel
theorem dX2_tellPage_81 : decode cX2_tellPage 81 = .ok (.getfield 148, 3) := by decide +kernel
theorem dX2_tellPage_84 : decode cX2_tellPage 84 = .ok (.iload_n 2, 1) := by decide +kernel
theorem dX2_tellPage_85 : decode cX2_tellPage 85 = .ok (.iload_n 3, 1) := by decide +kernel
theorem dX2_tellPage_86 : decode cX2_tellPage 86 = .ok (.invokevirtual 105, 3) := by decide +kernel
theorem dX2_tellPage_89 : decode cX2_tellPage 89 = .ok (.ireturn, 1) := by decide +kernel
theorem dX2_tellLetter_0 : decode cX2_tellLetter 0 = .ok (.aload_n 0, 1) := by decide +kernel
theorem dX2_tellLetter_1 : decode cX2_tellLetter 1 = .ok (.getfield 20, 3) := by decide +kernel
theorem dX2_tellLetter_4 : decode cX2_tellLetter 4 = .ok (.iload_n 1, 1) := by decide +kernel
theorem dX2_tellLetter_5 : decode cX2_tellLetter 5 = .ok (.iload_n 2, 1) := by decide +kernel
theorem dX2_tellLetter_6 : decode cX2_tellLetter 6 = .ok (.invokevirtual 73, 3) := by decide +kernel
theorem dX2_tellLetter_9 : decode cX2_tellLetter 9 = .ok (.istore 4, 2) := by decide +kernel
theorem dX2_tellLetter_11 : decode cX2_tellLetter 11 = .ok (.iload 4, 2) := by decide +kernel
theorem dX2_tellLetter_13 : decode cX2_tellLetter 13 = .ok (.iconst (-1), 1) := by decide +kernel
theorem dX2_tellLetter_14 : decode cX2_tellLetter 14 = .ok (.if_icmp .ne 5, 3) := by decide +kernel
theorem dX2_tellLetter_17 : decode cX2_tellLetter 17 = .ok (.iconst (-1), 1) := by decide +kernel
theorem dX2_tellLetter_18 : decode cX2_tellLetter 18 = .ok (.ireturn, 1) := by decide +kernel
theorem dX2_tellLetter_19 : decode cX2_tellLetter 19 = .ok (.aload_n 0, 1) := by decide +kernel
theorem dX2_tellLetter_20 : decode cX2_tellLetter 20 = .ok (.getfield 20, 3) := by decide +kernel
theorem dX2_tellLetter_23 : decode cX2_tellLetter 23 = .ok (.getfield 214, 3) := by decide +kernel
theorem dX2_tellLetter_26 : decode cX2_tellLetter 26 = .ok (.iload 4, 2) := by decide +kernel
theorem dX2_tellLetter_28 : decode cX2_tellLetter 28 = .ok (.invokestatic 85, 3) := by decide +kernel
theorem dX2_tellLetter_31 : decode cX2_tellLetter 31 = .ok (.istore 5, 2) := by decide +kernel
theorem dX2_tellLetter_33 : decode cX2_tellLetter 33 = .ok (.iload_n 3, 1) := by decide +kernel
theorem dX2_tellLetter_34 : decode cX2_tellLetter 34 = .ok (.tableswitch 57 0 2 #[26, 29, 42], 26) := by decide +kernel
theorem dX2_tellLetter_60 : decode cX2_tellLetter 60 = .ok (.iload 5, 2) := by decide +kernel
theorem dX2_tellLetter_62 : decode cX2_tellLetter 62 = .ok (.ireturn, 1) := by decide +kernel
theorem dX2_tellLetter_63 : decode cX2_tellLetter 63 = .ok (.aload_n 0, 1) := by decide +kernel
theorem dX2_tellLetter_64 : decode cX2_tellLetter 64 = .ok (.getfield 20, 3) := by decide +kernel
theorem dX2_tellLetter_67 : decode cX2_tellLetter 67 = .ok (.getfield 81, 3) := by decide +kernel
theorem dX2_tellLetter_70 : decode cX2_tellLetter 70 = .ok (.iload 4, 2) := by decide +kernel
theorem dX2_tellLetter_72 : decode cX2_tellLetter 72 = .ok (.invokestatic 85, 3) := by decide +kernel
theorem dX2_tellLetter_75 : decode cX2_tellLetter 75 = .ok (.ireturn, 1) := by decide +kernel
theorem dX2_tellLetter_76 : decode cX2_tellLetter 76 = .ok (.aload_n 0, 1) := by decide +kernel
theorem dX2_tellLetter_77 : decode cX2_tellLetter 77 = .ok (.iload 4, 2) := by decide +kernel
theorem dX2_tellLetter_79 : decode cX2_tellLetter 79 = .ok (.invokevirtual 77, 3) := by decide +kernel
theorem dX2_tellLetter_82 : decode cX2_tellLetter 82 = .ok (.ifCond .eq 7, 3) := by decide +kernel
theorem dX2_tellLetter_85 : decode cX2_tellLetter 85 = .ok (.iconst 1, 1) := by decide +kernel
theorem dX2_tellLetter_86 : decode cX2_tellLetter 86 = .ok (.goto 4, 3) := by decide +kernel
theorem dX2_tellLetter_89 : decode cX2_tellLetter 89 = .ok (.iconst 0, 1) := by decide +kernel
theorem dX2_tellLetter_90 : decode cX2_tellLetter 90 = .ok (.ireturn, 1) := by decide +kernel
theorem dX2_tellLetter_91 : decode cX2_tellLetter 91 = .ok (.aload_n 0, 1) := by decide +kernel
theorem dX2_tellLetter_92 : decode cX2_tellLetter 92 = .ok (.getfield 20, 3) := by decide +kernel
theorem dX2_tellLetter_95 : decode cX2_tellLetter 95 = .ok (.getfield 89, 3) := by decide +kernel
theorem dX2_tellLetter_98 : decode cX2_tellLetter 98 = .ok (.iload 4, 2) := by decide +kernel
theorem dX2_tellLetter_100 : decode cX2_tellLetter 100 = .ok (.iload 5, 2) := by decide +kernel
theorem dX2_tellLetter_102 : decode cX2_tellLetter 102 = .ok (.invokevirtual 105, 3) := by decide +kernel
theorem dX2_tellLetter_105 : decode cX2_tellLetter 105 = .ok (.ireturn, 1) := by decide +kernel
theorem dX2_tellSaying_0 : decode cX2_tellSaying 0 = .ok (.iload_n 1, 1) := by decide +kernel
theorem dX2_tellSaying_1 : decode cX2_tellSaying 1 = .ok (.aload_n 0, 1) := by decide +kernel
theorem dX2_tellSaying_2 : decode cX2_tellSaying 2 = .ok (.getfield 27, 3) := by decide +kernel
theorem dX2_tellSaying_5 : decode cX2_tellSaying 5 = .ok (.getfield 172, 3) := by decide +kernel
theorem dX2_tellSaying_8 : decode cX2_tellSaying 8 = .ok (.if_icmp .lt 5, 3) := by decide +kernel
theorem dX2_tellSaying_11 : decode cX2_tellSaying 11 = .ok (.iconst (-1), 1) := by decide +kernel
theorem dX2_tellSaying_12 : decode cX2_tellSaying 12 = .ok (.ireturn, 1) := by decide +kernel
theorem dX2_tellSaying_13 : decode cX2_tellSaying 13 = .ok (.iload_n 2, 1) := by decide +kernel
theorem dX2_tellSaying_14 : decode cX2_tellSaying 14 = .ok (.tableswitch 62 0 2 #[26, 38, 50], 26) := by decide +kernel
theorem dX2_tellSaying_40 : decode cX2_tellSaying 40 = .ok (.aload_n 0, 1) := by decide +kernel
theorem dX2_tellSaying_41 : decode cX2_tellSaying 41 = .ok (.getfield 27, 3) := by decide +kernel
theorem dX2_tellSaying_44 : decode cX2_tellSaying 44 = .ok (.getfield 181, 3) := by decide +kernel
theorem dX2_tellSaying_47 : decode cX2_tellSaying 47 = .ok (.iload_n 1, 1) := by decide +kernel
theorem dX2_tellSaying_48 : decode cX2_tellSaying 48 = .ok (.invokestatic 85, 3) := by decide +kernel
theorem dX2_tellSaying_51 : decode cX2_tellSaying 51 = .ok (.ireturn, 1) := by decide +kernel
theorem dX2_tellSaying_52 : decode cX2_tellSaying 52 = .ok (.aload_n 0, 1) := by decide +kernel
theorem dX2_tellSaying_53 : decode cX2_tellSaying 53 = .ok (.getfield 27, 3) := by decide +kernel
theorem dX2_tellSaying_56 : decode cX2_tellSaying 56 = .ok (.getfield 183, 3) := by decide +kernel
theorem dX2_tellSaying_59 : decode cX2_tellSaying 59 = .ok (.iload_n 1, 1) := by decide +kernel
theorem dX2_tellSaying_60 : decode cX2_tellSaying 60 = .ok (.invokestatic 85, 3) := by decide +kernel
theorem dX2_tellSaying_63 : decode cX2_tellSaying 63 = .ok (.ireturn, 1) := by decide +kernel
theorem dX2_tellSaying_64 : decode cX2_tellSaying 64 = .ok (.aload_n 0, 1) := by decide +kernel
theorem dX2_tellSaying_65 : decode cX2_tellSaying 65 = .ok (.getfield 27, 3) := by decide +kernel
theorem dX2_tellSaying_68 : decode cX2_tellSaying 68 = .ok (.getfield 217, 3) := by decide +kernel
theorem dX2_tellSaying_71 : decode cX2_tellSaying 71 = .ok (.iload_n 1, 1) := by decide +kernel
theorem dX2_tellSaying_72 : decode cX2_tellSaying 72 = .ok (.invokestatic 85, 3) := by decide +kernel
theorem dX2_tellSaying_75 : decode cX2_tellSaying 75 = .ok (.ireturn, 1) := by decide +kernel
theorem dX2_tellSaying_76 : decode cX2_tellSaying 76 = .ok (.aload_n 0, 1) := by decide +kernel
theorem dX2_tellSaying_77 : decode cX2_tellSaying 77 = .ok (.iload_n 1, 1) := by decide +kernel
theorem dX2_tellSaying_78 : decode cX2_tellSaying 78 = .ok (.invokevirtual 192, 3) := by decide +kernel
theorem dX2_tellSaying_81 : decode cX2_tellSaying 81 = .ok (.ifCond .eq 7, 3) := by decide +kernel
theorem dX2_tellSaying_84 : decode cX2_tellSaying 84 = .ok (.iconst 1, 1) := by decide +kernel
theorem dX2_tellSaying_85 : decode cX2_tellSaying 85 = .ok (.goto 4, 3) := by decide +kernel
theorem dX2_tellSaying_88 : decode cX2_tellSaying 88 = .ok (.iconst 0, 1) := by decide +kernel
theorem dX2_tellSaying_89 : decode cX2_tellSaying 89 = .ok (.ireturn, 1) := by decide +kernel
theorem dX2_doDrawn_0 : decode cX2_doDrawn 0 = .ok (.lload_n 1, 1) := by decide +kernel
theorem dX2_doDrawn_1 : decode cX2_doDrawn 1 = .ok (.ldc2_w 220, 3) := by decide +kernel
theorem dX2_doDrawn_4 : decode cX2_doDrawn 4 = .ok (.ldiv, 1) := by decide +kernel
theorem dX2_doDrawn_5 : decode cX2_doDrawn 5 = .ok (.aload_n 0, 1) := by decide +kernel
theorem dX2_doDrawn_6 : decode cX2_doDrawn 6 = .ok (.getfield 44, 3) := by decide +kernel
theorem dX2_doDrawn_9 : decode cX2_doDrawn 9 = .ok (.invokestatic 222, 3) := by decide +kernel
theorem dX2_doDrawn_12 : decode cX2_doDrawn 12 = .ok (.istore_n 3, 1) := by decide +kernel
theorem dX2_doDrawn_13 : decode cX2_doDrawn 13 = .ok (.lload_n 1, 1) := by decide +kernel
theorem dX2_doDrawn_14 : decode cX2_doDrawn 14 = .ok (.ldc2_w 226, 3) := by decide +kernel
theorem dX2_doDrawn_17 : decode cX2_doDrawn 17 = .ok (.ldiv, 1) := by decide +kernel
theorem dX2_doDrawn_18 : decode cX2_doDrawn 18 = .ok (.bipush 9, 2) := by decide +kernel
theorem dX2_doDrawn_20 : decode cX2_doDrawn 20 = .ok (.invokestatic 222, 3) := by decide +kernel
theorem dX2_doDrawn_23 : decode cX2_doDrawn 23 = .ok (.tableswitch 93 0 7 #[45, 45, 45, 62, 62, 79, 79, 86], 45) := by decide +kernel
theorem dX2_doDrawn_68 : decode cX2_doDrawn 68 = .ok (.aload_n 0, 1) := by decide +kernel
theorem dX2_doDrawn_69 : decode cX2_doDrawn 69 = .ok (.iload_n 3, 1) := by decide +kernel
theorem dX2_doDrawn_70 : decode cX2_doDrawn 70 = .ok (.lload_n 1, 1) := by decide +kernel
theorem dX2_doDrawn_71 : decode cX2_doDrawn 71 = .ok (.ldc2_w 228, 3) := by decide +kernel
theorem dX2_doDrawn_74 : decode cX2_doDrawn 74 = .ok (.ldiv, 1) := by decide +kernel
theorem dX2_doDrawn_75 : decode cX2_doDrawn 75 = .ok (.sipush 1000, 3) := by decide +kernel
theorem dX2_doDrawn_78 : decode cX2_doDrawn 78 = .ok (.invokestatic 222, 3) := by decide +kernel
theorem dX2_doDrawn_81 : decode cX2_doDrawn 81 = .ok (.invokevirtual 230, 3) := by decide +kernel
theorem dX2_doDrawn_84 : decode cX2_doDrawn 84 = .ok (.ireturn, 1) := by decide +kernel
theorem dX2_doDrawn_85 : decode cX2_doDrawn 85 = .ok (.aload_n 0, 1) := by decide +kernel
theorem dX2_doDrawn_86 : decode cX2_doDrawn 86 = .ok (.iload_n 3, 1) := by decide +kernel
theorem dX2_doDrawn_87 : decode cX2_doDrawn 87 = .ok (.iload_n 3, 1) := by decide +kernel
theorem dX2_doDrawn_88 : decode cX2_doDrawn 88 = .ok (.iconst 1, 1) := by decide +kernel
theorem dX2_doDrawn_89 : decode cX2_doDrawn 89 = .ok (.iadd, 1) := by decide +kernel
theorem dX2_doDrawn_90 : decode cX2_doDrawn 90 = .ok (.i2l, 1) := by decide +kernel
theorem dX2_doDrawn_91 : decode cX2_doDrawn 91 = .ok (.aload_n 0, 1) := by decide +kernel
theorem dX2_doDrawn_92 : decode cX2_doDrawn 92 = .ok (.getfield 44, 3) := by decide +kernel
theorem dX2_doDrawn_95 : decode cX2_doDrawn 95 = .ok (.invokestatic 222, 3) := by decide +kernel
theorem dX2_doDrawn_98 : decode cX2_doDrawn 98 = .ok (.invokevirtual 233, 3) := by decide +kernel
theorem dX2_doDrawn_101 : decode cX2_doDrawn 101 = .ok (.ireturn, 1) := by decide +kernel
theorem dX2_doDrawn_102 : decode cX2_doDrawn 102 = .ok (.aload_n 0, 1) := by decide +kernel
theorem dX2_doDrawn_103 : decode cX2_doDrawn 103 = .ok (.iload_n 3, 1) := by decide +kernel
theorem dX2_doDrawn_104 : decode cX2_doDrawn 104 = .ok (.iconst 0, 1) := by decide +kernel
theorem dX2_doDrawn_105 : decode cX2_doDrawn 105 = .ok (.invokevirtual 236, 3) := by decide +kernel
theorem dX2_doDrawn_108 : decode cX2_doDrawn 108 = .ok (.ireturn, 1) := by decide +kernel
theorem dX2_doDrawn_109 : decode cX2_doDrawn 109 = .ok (.aload_n 0, 1) := by decide +kernel
theorem dX2_doDrawn_110 : decode cX2_doDrawn 110 = .ok (.iload_n 3, 1) := by decide +kernel
theorem dX2_doDrawn_111 : decode cX2_doDrawn 111 = .ok (.iconst 2, 1) := by decide +kernel
theorem dX2_doDrawn_112 : decode cX2_doDrawn 112 = .ok (.invokevirtual 239, 3) := by decide +kernel
theorem dX2_doDrawn_115 : decode cX2_doDrawn 115 = .ok (.ireturn, 1) := by decide +kernel
theorem dX2_doDrawn_116 : decode cX2_doDrawn 116 = .ok (.aload_n 0, 1) := by decide +kernel
theorem dX2_doDrawn_117 : decode cX2_doDrawn 117 = .ok (.iload_n 3, 1) := by decide +kernel
theorem dX2_doDrawn_118 : decode cX2_doDrawn 118 = .ok (.invokevirtual 242, 3) := by decide +kernel
theorem dX2_doDrawn_121 : decode cX2_doDrawn 121 = .ok (.ireturn, 1) := by decide +kernel
theorem dX2_follow_0 : decode cX2_follow 0 = .ok (.iload_n 1, 1) := by decide +kernel
theorem dX2_follow_1 : decode cX2_follow 1 = .ok (.tableswitch 133 103 120 #[101, 133, 133, 133, 133, 108, 133, 133, 122, 133, 133, 128, 94, 133, 133, 133, 87, 116], 87) := by decide +kernel
theorem dX2_follow_88 : decode cX2_follow 88 = .ok (.aload_n 0, 1) := by decide +kernel
theorem dX2_follow_89 : decode cX2_follow 89 = .ok (.iload_n 2, 1) := by decide +kernel
theorem dX2_follow_90 : decode cX2_follow 90 = .ok (.iload_n 3, 1) := by decide +kernel
theorem dX2_follow_91 : decode cX2_follow 91 = .ok (.invokevirtual 230, 3) := by decide +kernel
theorem dX2_follow_94 : decode cX2_follow 94 = .ok (.ireturn, 1) := by decide +kernel
theorem dX2_follow_95 : decode cX2_follow 95 = .ok (.aload_n 0, 1) := by decide +kernel
theorem dX2_follow_96 : decode cX2_follow 96 = .ok (.iload_n 2, 1) := by decide +kernel
theorem dX2_follow_97 : decode cX2_follow 97 = .ok (.iload_n 3, 1) := by decide +kernel
theorem dX2_follow_98 : decode cX2_follow 98 = .ok (.invokevirtual 233, 3) := by decide +kernel
theorem dX2_follow_101 : decode cX2_follow 101 = .ok (.ireturn, 1) := by decide +kernel
theorem dX2_follow_102 : decode cX2_follow 102 = .ok (.aload_n 0, 1) := by decide +kernel
theorem dX2_follow_103 : decode cX2_follow 103 = .ok (.iload_n 2, 1) := by decide +kernel
theorem dX2_follow_104 : decode cX2_follow 104 = .ok (.iload_n 3, 1) := by decide +kernel
theorem dX2_follow_105 : decode cX2_follow 105 = .ok (.invokevirtual 236, 3) := by decide +kernel
theorem dX2_follow_108 : decode cX2_follow 108 = .ok (.ireturn, 1) := by decide +kernel
theorem dX2_follow_109 : decode cX2_follow 109 = .ok (.aload_n 0, 1) := by decide +kernel
theorem dX2_follow_110 : decode cX2_follow 110 = .ok (.iload_n 2, 1) := by decide +kernel
theorem dX2_follow_111 : decode cX2_follow 111 = .ok (.bipush 24, 2) := by decide +kernel
theorem dX2_follow_113 : decode cX2_follow 113 = .ok (.invokevirtual 239, 3) := by decide +kernel
theorem dX2_follow_116 : decode cX2_follow 116 = .ok (.ireturn, 1) := by decide +kernel
theorem dX2_follow_117 : decode cX2_follow 117 = .ok (.aload_n 0, 1) := by decide +kernel
theorem dX2_follow_118 : decode cX2_follow 118 = .ok (.iload_n 2, 1) := by decide +kernel
theorem dX2_follow_119 : decode cX2_follow 119 = .ok (.invokevirtual 245, 3) := by decide +kernel
theorem dX2_follow_122 : decode cX2_follow 122 = .ok (.ireturn, 1) := by decide +kernel
theorem dX2_follow_123 : decode cX2_follow 123 = .ok (.aload_n 0, 1) := by decide +kernel
theorem dX2_follow_124 : decode cX2_follow 124 = .ok (.iload_n 2, 1) := by decide +kernel
theorem dX2_follow_125 : decode cX2_follow 125 = .ok (.invokevirtual 242, 3) := by decide +kernel
theorem dX2_follow_128 : decode cX2_follow 128 = .ok (.ireturn, 1) := by decide +kernel
theorem dX2_follow_129 : decode cX2_follow 129 = .ok (.aload_n 0, 1) := by decide +kernel
theorem dX2_follow_130 : decode cX2_follow 130 = .ok (.invokevirtual 248, 3) := by decide +kernel
theorem dX2_follow_133 : decode cX2_follow 133 = .ok (.ireturn, 1) := by decide +kernel
theorem dX2_follow_134 : decode cX2_follow 134 = .ok (.aload_n 0, 1) := by decide +kernel
theorem dX2_follow_135 : decode cX2_follow 135 = .ok (.invokevirtual 251, 3) := by decide +kernel
theorem dX2_follow_138 : decode cX2_follow 138 = .ok (.ireturn, 1) := by decide +kernel
theorem dX3_init_0 : decode cX3_init 0 = .ok (.aload_n 0, 1) := by decide +kernel
theorem dX3_init_1 : decode cX3_init 1 = .ok (.invokespecial 3, 3) := by decide +kernel
theorem dX3_init_4 : decode cX3_init 4 = .ok (.aload_n 0, 1) := by decide +kernel
theorem dX3_init_5 : decode cX3_init 5 = .ok (.bipush 40, 2) := by decide +kernel
theorem dX3_init_7 : decode cX3_init 7 = .ok (.newarray .int, 2) := by decide +kernel
theorem dX3_init_9 : decode cX3_init 9 = .ok (.putfield 9, 3) := by decide +kernel
theorem dX3_init_12 : decode cX3_init 12 = .ok (.aload_n 0, 1) := by decide +kernel
theorem dX3_init_13 : decode cX3_init 13 = .ok (.bipush 40, 2) := by decide +kernel
theorem dX3_init_15 : decode cX3_init 15 = .ok (.newarray .int, 2) := by decide +kernel
theorem dX3_init_17 : decode cX3_init 17 = .ok (.putfield 15, 3) := by decide +kernel
theorem dX3_init_20 : decode cX3_init 20 = .ok (.aload_n 0, 1) := by decide +kernel
theorem dX3_init_21 : decode cX3_init 21 = .ok (.bipush 40, 2) := by decide +kernel
theorem dX3_init_23 : decode cX3_init 23 = .ok (.newarray .int, 2) := by decide +kernel
theorem dX3_init_25 : decode cX3_init 25 = .ok (.putfield 18, 3) := by decide +kernel
theorem dX3_init_28 : decode cX3_init 28 = .ok (.aload_n 0, 1) := by decide +kernel
theorem dX3_init_29 : decode cX3_init 29 = .ok (.new 21, 3) := by decide +kernel
theorem dX3_init_32 : decode cX3_init 32 = .ok (.dup, 1) := by decide +kernel
theorem dX3_init_33 : decode cX3_init 33 = .ok (.bipush 40, 2) := by decide +kernel
theorem dX3_init_35 : decode cX3_init 35 = .ok (.invokespecial 23, 3) := by decide +kernel
theorem dX3_init_38 : decode cX3_init 38 = .ok (.putfield 26, 3) := by decide +kernel
theorem dX3_init_41 : decode cX3_init 41 = .ok (.return_, 1) := by decide +kernel
theorem dX3_add_0 : decode cX3_add 0 = .ok (.aload_n 0, 1) := by decide +kernel
theorem dX3_add_1 : decode cX3_add 1 = .ok (.getfield 9, 3) := by decide +kernel
theorem dX3_add_4 : decode cX3_add 4 = .ok (.aload_n 0, 1) := by decide +kernel
theorem dX3_add_5 : decode cX3_add 5 = .ok (.getfield 30, 3) := by decide +kernel
theorem dX3_add_8 : decode cX3_add 8 = .ok (.aload_n 1, 1) := by decide +kernel
theorem dX3_add_9 : decode cX3_add 9 = .ok (.getfield 34, 3) := by decide +kernel
theorem dX3_add_12 : decode cX3_add 12 = .ok (.invokestatic 39, 3) := by decide +kernel
theorem dX3_add_15 : decode cX3_add 15 = .ok (.aload_n 0, 1) := by decide +kernel
theorem dX3_add_16 : decode cX3_add 16 = .ok (.getfield 15, 3) := by decide +kernel
theorem dX3_add_19 : decode cX3_add 19 = .ok (.aload_n 0, 1) := by decide +kernel
theorem dX3_add_20 : decode cX3_add 20 = .ok (.getfield 30, 3) := by decide +kernel
theorem dX3_add_23 : decode cX3_add 23 = .ok (.iload_n 2, 1) := by decide +kernel
theorem dX3_add_24 : decode cX3_add 24 = .ok (.invokestatic 39, 3) := by decide +kernel
theorem dX3_add_27 : decode cX3_add 27 = .ok (.aload_n 0, 1) := by decide +kernel
theorem dX3_add_28 : decode cX3_add 28 = .ok (.getfield 18, 3) := by decide +kernel
theorem dX3_add_31 : decode cX3_add 31 = .ok (.aload_n 0, 1) := by decide +kernel
theorem dX3_add_32 : decode cX3_add 32 = .ok (.getfield 30, 3) := by decide +kernel
theorem dX3_add_35 : decode cX3_add 35 = .ok (.aload_n 1, 1) := by decide +kernel
theorem dX3_add_36 : decode cX3_add 36 = .ok (.invokevirtual 43, 3) := by decide +kernel
theorem dX3_add_39 : decode cX3_add 39 = .ok (.invokestatic 39, 3) := by decide +kernel
theorem dX3_add_42 : decode cX3_add 42 = .ok (.aload_n 0, 1) := by decide +kernel
theorem dX3_add_43 : decode cX3_add 43 = .ok (.getfield 26, 3) := by decide +kernel
theorem dX3_add_46 : decode cX3_add 46 = .ok (.aload_n 1, 1) := by decide +kernel
theorem dX3_add_47 : decode cX3_add 47 = .ok (.getfield 47, 3) := by decide +kernel
theorem dX3_add_50 : decode cX3_add 50 = .ok (.aload_n 1, 1) := by decide +kernel
theorem dX3_add_51 : decode cX3_add 51 = .ok (.getfield 48, 3) := by decide +kernel
theorem dX3_add_54 : decode cX3_add 54 = .ok (.aload_n 0, 1) := by decide +kernel
theorem dX3_add_55 : decode cX3_add 55 = .ok (.getfield 30, 3) := by decide +kernel
theorem dX3_add_58 : decode cX3_add 58 = .ok (.invokevirtual 51, 3) := by decide +kernel
theorem dX3_add_61 : decode cX3_add 61 = .ok (.aload_n 0, 1) := by decide +kernel
theorem dX3_add_62 : decode cX3_add 62 = .ok (.dup, 1) := by decide +kernel
theorem dX3_add_63 : decode cX3_add 63 = .ok (.getfield 30, 3) := by decide +kernel
theorem dX3_add_66 : decode cX3_add 66 = .ok (.iconst 1, 1) := by decide +kernel
theorem dX3_add_67 : decode cX3_add 67 = .ok (.iadd, 1) := by decide +kernel
theorem dX3_add_68 : decode cX3_add 68 = .ok (.putfield 30, 3) := by decide +kernel
theorem dX3_add_71 : decode cX3_add 71 = .ok (.return_, 1) := by decide +kernel
theorem dX3_remove_0 : decode cX3_remove 0 = .ok (.iload_n 1, 1) := by decide +kernel
theorem dX3_remove_1 : decode cX3_remove 1 = .ok (.iconst 1, 1) := by decide +kernel
theorem dX3_remove_2 : decode cX3_remove 2 = .ok (.iadd, 1) := by decide +kernel
theorem dX3_remove_3 : decode cX3_remove 3 = .ok (.istore_n 2, 1) := by decide +kernel
theorem dX3_remove_4 : decode cX3_remove 4 = .ok (.iload_n 2, 1) := by decide +kernel
theorem dX3_remove_5 : decode cX3_remove 5 = .ok (.aload_n 0, 1) := by decide +kernel
theorem dX3_remove_6 : decode cX3_remove 6 = .ok (.getfield 30, 3) := by decide +kernel
theorem dX3_remove_9 : decode cX3_remove 9 = .ok (.if_icmp .ge 78, 3) := by decide +kernel
theorem dX3_remove_12 : decode cX3_remove 12 = .ok (.aload_n 0, 1) := by decide +kernel
theorem dX3_remove_13 : decode cX3_remove 13 = .ok (.getfield 9, 3) := by decide +kernel
theorem dX3_remove_16 : decode cX3_remove 16 = .ok (.iload_n 2, 1) := by decide +kernel
theorem dX3_remove_17 : decode cX3_remove 17 = .ok (.iconst 1, 1) := by decide +kernel
theorem dX3_remove_18 : decode cX3_remove 18 = .ok (.isub, 1) := by decide +kernel
theorem dX3_remove_19 : decode cX3_remove 19 = .ok (.aload_n 0, 1) := by decide +kernel
theorem dX3_remove_20 : decode cX3_remove 20 = .ok (.getfield 9, 3) := by decide +kernel
theorem dX3_remove_23 : decode cX3_remove 23 = .ok (.iload_n 2, 1) := by decide +kernel
theorem dX3_remove_24 : decode cX3_remove 24 = .ok (.invokestatic 55, 3) := by decide +kernel
theorem dX3_remove_27 : decode cX3_remove 27 = .ok (.invokestatic 39, 3) := by decide +kernel
theorem dX3_remove_30 : decode cX3_remove 30 = .ok (.aload_n 0, 1) := by decide +kernel
theorem dX3_remove_31 : decode cX3_remove 31 = .ok (.getfield 15, 3) := by decide +kernel
theorem dX3_remove_34 : decode cX3_remove 34 = .ok (.iload_n 2, 1) := by decide +kernel
theorem dX3_remove_35 : decode cX3_remove 35 = .ok (.iconst 1, 1) := by decide +kernel
theorem dX3_remove_36 : decode cX3_remove 36 = .ok (.isub, 1) := by decide +kernel
theorem dX3_remove_37 : decode cX3_remove 37 = .ok (.aload_n 0, 1) := by decide +kernel
theorem dX3_remove_38 : decode cX3_remove 38 = .ok (.getfield 15, 3) := by decide +kernel
theorem dX3_remove_41 : decode cX3_remove 41 = .ok (.iload_n 2, 1) := by decide +kernel
theorem dX3_remove_42 : decode cX3_remove 42 = .ok (.invokestatic 55, 3) := by decide +kernel
theorem dX3_remove_45 : decode cX3_remove 45 = .ok (.invokestatic 39, 3) := by decide +kernel
theorem dX3_remove_48 : decode cX3_remove 48 = .ok (.aload_n 0, 1) := by decide +kernel
theorem dX3_remove_49 : decode cX3_remove 49 = .ok (.getfield 18, 3) := by decide +kernel
theorem dX3_remove_52 : decode cX3_remove 52 = .ok (.iload_n 2, 1) := by decide +kernel
theorem dX3_remove_53 : decode cX3_remove 53 = .ok (.iconst 1, 1) := by decide +kernel
theorem dX3_remove_54 : decode cX3_remove 54 = .ok (.isub, 1) := by decide +kernel
theorem dX3_remove_55 : decode cX3_remove 55 = .ok (.aload_n 0, 1) := by decide +kernel
theorem dX3_remove_56 : decode cX3_remove 56 = .ok (.getfield 18, 3) := by decide +kernel
theorem dX3_remove_59 : decode cX3_remove 59 = .ok (.iload_n 2, 1) := by decide +kernel
theorem dX3_remove_60 : decode cX3_remove 60 = .ok (.invokestatic 55, 3) := by decide +kernel
theorem dX3_remove_63 : decode cX3_remove 63 = .ok (.invokestatic 39, 3) := by decide +kernel
theorem dX3_remove_66 : decode cX3_remove 66 = .ok (.aload_n 0, 1) := by decide +kernel
theorem dX3_remove_67 : decode cX3_remove 67 = .ok (.getfield 26, 3) := by decide +kernel
theorem dX3_remove_70 : decode cX3_remove 70 = .ok (.aload_n 0, 1) := by decide +kernel
theorem dX3_remove_71 : decode cX3_remove 71 = .ok (.getfield 26, 3) := by decide +kernel
theorem dX3_remove_74 : decode cX3_remove 74 = .ok (.iload_n 2, 1) := by decide +kernel
theorem dX3_remove_75 : decode cX3_remove 75 = .ok (.iload_n 2, 1) := by decide +kernel
theorem dX3_remove_76 : decode cX3_remove 76 = .ok (.iconst 1, 1) := by decide +kernel
theorem dX3_remove_77 : decode cX3_remove 77 = .ok (.isub, 1) := by decide +kernel
theorem dX3_remove_78 : decode cX3_remove 78 = .ok (.invokevirtual 51, 3) := by decide +kernel
theorem dX3_remove_81 : decode cX3_remove 81 = .ok (.iinc 2 1, 3) := by decide +kernel
theorem dX3_remove_84 : decode cX3_remove 84 = .ok (.goto (-80), 3) := by decide +kernel
theorem dX3_remove_87 : decode cX3_remove 87 = .ok (.aload_n 0, 1) := by decide +kernel
theorem dX3_remove_88 : decode cX3_remove 88 = .ok (.dup, 1) := by decide +kernel
theorem dX3_remove_89 : decode cX3_remove 89 = .ok (.getfield 30, 3) := by decide +kernel
theorem dX3_remove_92 : decode cX3_remove 92 = .ok (.iconst 1, 1) := by decide +kernel
theorem dX3_remove_93 : decode cX3_remove 93 = .ok (.isub, 1) := by decide +kernel
theorem dX3_remove_94 : decode cX3_remove 94 = .ok (.putfield 30, 3) := by decide +kernel
theorem dX3_remove_97 : decode cX3_remove 97 = .ok (.return_, 1) := by decide +kernel
theorem dX3_find_0 : decode cX3_find 0 = .ok (.iconst 0, 1) := by decide +kernel
theorem dX3_find_1 : decode cX3_find 1 = .ok (.istore_n 3, 1) := by decide +kernel
theorem dX3_find_2 : decode cX3_find 2 = .ok (.iconst 0, 1) := by decide +kernel
theorem dX3_find_3 : decode cX3_find 3 = .ok (.istore 4, 2) := by decide +kernel
theorem dX3_find_5 : decode cX3_find 5 = .ok (.iload 4, 2) := by decide +kernel
theorem dX3_find_7 : decode cX3_find 7 = .ok (.aload_n 0, 1) := by decide +kernel
theorem dX3_find_8 : decode cX3_find 8 = .ok (.getfield 30, 3) := by decide +kernel
theorem dX3_find_11 : decode cX3_find 11 = .ok (.if_icmp .ge 36, 3) := by decide +kernel
theorem dX3_find_14 : decode cX3_find 14 = .ok (.aload_n 0, 1) := by decide +kernel
theorem dX3_find_15 : decode cX3_find 15 = .ok (.getfield 15, 3) := by decide +kernel
theorem dX3_find_18 : decode cX3_find 18 = .ok (.iload 4, 2) := by decide +kernel
theorem dX3_find_20 : decode cX3_find 20 = .ok (.invokestatic 55, 3) := by decide +kernel
theorem dX3_find_23 : decode cX3_find 23 = .ok (.iload_n 1, 1) := by decide +kernel
theorem dX3_find_24 : decode cX3_find 24 = .ok (.if_icmp .eq 6, 3) := by decide +kernel
theorem dX3_find_27 : decode cX3_find 27 = .ok (.goto 14, 3) := by decide +kernel
theorem dX3_find_30 : decode cX3_find 30 = .ok (.iload_n 3, 1) := by decide +kernel
theorem dX3_find_31 : decode cX3_find 31 = .ok (.iload_n 2, 1) := by decide +kernel
theorem dX3_find_32 : decode cX3_find 32 = .ok (.if_icmp .ne 6, 3) := by decide +kernel
theorem dX3_find_35 : decode cX3_find 35 = .ok (.iload 4, 2) := by decide +kernel
theorem dX3_find_37 : decode cX3_find 37 = .ok (.ireturn, 1) := by decide +kernel
theorem dX3_find_38 : decode cX3_find 38 = .ok (.iinc 3 1, 3) := by decide +kernel
theorem dX3_find_41 : decode cX3_find 41 = .ok (.iinc 4 1, 3) := by decide +kernel
theorem dX3_find_44 : decode cX3_find 44 = .ok (.goto (-39), 3) := by decide +kernel
theorem dX3_find_47 : decode cX3_find 47 = .ok (.iconst (-1), 1) := by decide +kernel
theorem dX3_find_48 : decode cX3_find 48 = .ok (.ireturn, 1) := by decide +kernel
theorem dX3_countTo_0 : decode cX3_countTo 0 = .ok (.iconst 0, 1) := by decide +kernel
theorem dX3_countTo_1 : decode cX3_countTo 1 = .ok (.istore_n 2, 1) := by decide +kernel
theorem dX3_countTo_2 : decode cX3_countTo 2 = .ok (.iconst 0, 1) := by decide +kernel
theorem dX3_countTo_3 : decode cX3_countTo 3 = .ok (.istore_n 3, 1) := by decide +kernel
theorem dX3_countTo_4 : decode cX3_countTo 4 = .ok (.iload_n 3, 1) := by decide +kernel
theorem dX3_countTo_5 : decode cX3_countTo 5 = .ok (.aload_n 0, 1) := by decide +kernel
theorem dX3_countTo_6 : decode cX3_countTo 6 = .ok (.getfield 30, 3) := by decide +kernel
theorem dX3_countTo_9 : decode cX3_countTo 9 = .ok (.if_icmp .ge 24, 3) := by decide +kernel
theorem dX3_countTo_12 : decode cX3_countTo 12 = .ok (.aload_n 0, 1) := by decide +kernel
theorem dX3_countTo_13 : decode cX3_countTo 13 = .ok (.getfield 15, 3) := by decide +kernel
theorem dX3_countTo_16 : decode cX3_countTo 16 = .ok (.iload_n 3, 1) := by decide +kernel
theorem dX3_countTo_17 : decode cX3_countTo 17 = .ok (.invokestatic 55, 3) := by decide +kernel
theorem dX3_countTo_20 : decode cX3_countTo 20 = .ok (.iload_n 1, 1) := by decide +kernel
theorem dX3_countTo_21 : decode cX3_countTo 21 = .ok (.if_icmp .ne 6, 3) := by decide +kernel
theorem dX3_countTo_24 : decode cX3_countTo 24 = .ok (.iinc 2 1, 3) := by decide +kernel
theorem dX3_countTo_27 : decode cX3_countTo 27 = .ok (.iinc 3 1, 3) := by decide +kernel
theorem dX3_countTo_30 : decode cX3_countTo 30 = .ok (.goto (-26), 3) := by decide +kernel
theorem dX3_countTo_33 : decode cX3_countTo 33 = .ok (.iload_n 2, 1) := by decide +kernel
theorem dX3_countTo_34 : decode cX3_countTo 34 = .ok (.ireturn, 1) := by decide +kernel
theorem dX4_init_0 : decode cX4_init 0 = .ok (.aload_n 0, 1) := by decide +kernel
theorem dX4_init_1 : decode cX4_init 1 = .ok (.invokespecial 3, 3) := by decide +kernel
theorem dX4_init_4 : decode cX4_init 4 = .ok (.aload_n 0, 1) := by decide +kernel
theorem dX4_init_5 : decode cX4_init 5 = .ok (.bipush 60, 2) := by decide +kernel
theorem dX4_init_7 : decode cX4_init 7 = .ok (.newarray .int, 2) := by decide +kernel
theorem dX4_init_9 : decode cX4_init 9 = .ok (.putfield 9, 3) := by decide +kernel
theorem dX4_init_12 : decode cX4_init 12 = .ok (.aload_n 0, 1) := by decide +kernel
theorem dX4_init_13 : decode cX4_init 13 = .ok (.bipush 60, 2) := by decide +kernel
theorem dX4_init_15 : decode cX4_init 15 = .ok (.newarray .int, 2) := by decide +kernel
theorem dX4_init_17 : decode cX4_init 17 = .ok (.putfield 15, 3) := by decide +kernel
theorem dX4_init_20 : decode cX4_init 20 = .ok (.aload_n 0, 1) := by decide +kernel
theorem dX4_init_21 : decode cX4_init 21 = .ok (.bipush 60, 2) := by decide +kernel
theorem dX4_init_23 : decode cX4_init 23 = .ok (.newarray .int, 2) := by decide +kernel
theorem dX4_init_25 : decode cX4_init 25 = .ok (.putfield 18, 3) := by decide +kernel
theorem dX4_init_28 : decode cX4_init 28 = .ok (.return_, 1) := by decide +kernel
theorem dX4_readAll_0 : decode cX4_readAll 0 = .ok (.aload_n 0, 1) := by decide +kernel
theorem dX4_readAll_1 : decode cX4_readAll 1 = .ok (.iconst 0, 1) := by decide +kernel
theorem dX4_readAll_2 : decode cX4_readAll 2 = .ok (.putfield 21, 3) := by decide +kernel
theorem dX4_readAll_5 : decode cX4_readAll 5 = .ok (.aload_n 0, 1) := by decide +kernel
theorem dX4_readAll_6 : decode cX4_readAll 6 = .ok (.iconst 0, 1) := by decide +kernel
theorem dX4_readAll_7 : decode cX4_readAll 7 = .ok (.putfield 25, 3) := by decide +kernel
theorem dX4_readAll_10 : decode cX4_readAll 10 = .ok (.aload_n 0, 1) := by decide +kernel
theorem dX4_readAll_11 : decode cX4_readAll 11 = .ok (.iconst (-1), 1) := by decide +kernel
theorem dX4_readAll_12 : decode cX4_readAll 12 = .ok (.putfield 28, 3) := by decide +kernel
theorem dX4_readAll_15 : decode cX4_readAll 15 = .ok (.iconst 0, 1) := by decide +kernel
theorem dX4_readAll_16 : decode cX4_readAll 16 = .ok (.istore_n 3, 1) := by decide +kernel
theorem dX4_readAll_17 : decode cX4_readAll 17 = .ok (.iload_n 3, 1) := by decide +kernel
theorem dX4_readAll_18 : decode cX4_readAll 18 = .ok (.bipush 60, 2) := by decide +kernel
theorem dX4_readAll_20 : decode cX4_readAll 20 = .ok (.if_icmp .ge 42, 3) := by decide +kernel
theorem dX4_readAll_23 : decode cX4_readAll 23 = .ok (.aload_n 0, 1) := by decide +kernel
theorem dX4_readAll_24 : decode cX4_readAll 24 = .ok (.aload_n 1, 1) := by decide +kernel
theorem dX4_readAll_25 : decode cX4_readAll 25 = .ok (.iload_n 2, 1) := by decide +kernel
theorem dX4_readAll_26 : decode cX4_readAll 26 = .ok (.invokevirtual 31, 3) := by decide +kernel
theorem dX4_readAll_29 : decode cX4_readAll 29 = .ok (.aload_n 0, 1) := by decide +kernel
theorem dX4_readAll_30 : decode cX4_readAll 30 = .ok (.aload_n 1, 1) := by decide +kernel
theorem dX4_readAll_31 : decode cX4_readAll 31 = .ok (.invokevirtual 35, 3) := by decide +kernel
theorem dX4_readAll_34 : decode cX4_readAll 34 = .ok (.aload_n 0, 1) := by decide +kernel
theorem dX4_readAll_35 : decode cX4_readAll 35 = .ok (.getfield 28, 3) := by decide +kernel
theorem dX4_readAll_38 : decode cX4_readAll 38 = .ok (.iconst (-1), 1) := by decide +kernel
theorem dX4_readAll_39 : decode cX4_readAll 39 = .ok (.if_icmp .ne 23, 3) := by decide +kernel
theorem dX4_readAll_42 : decode cX4_readAll 42 = .ok (.aload_n 0, 1) := by decide +kernel
theorem dX4_readAll_43 : decode cX4_readAll 43 = .ok (.getfield 25, 3) := by decide +kernel
theorem dX4_readAll_46 : decode cX4_readAll 46 = .ok (.aload_n 1, 1) := by decide +kernel
theorem dX4_readAll_47 : decode cX4_readAll 47 = .ok (.getfield 39, 3) := by decide +kernel
theorem dX4_readAll_50 : decode cX4_readAll 50 = .ok (.if_icmp .lt 6, 3) := by decide +kernel
theorem dX4_readAll_53 : decode cX4_readAll 53 = .ok (.goto 9, 3) := by decide +kernel
theorem dX4_readAll_56 : decode cX4_readAll 56 = .ok (.iinc 3 1, 3) := by decide +kernel
theorem dX4_readAll_59 : decode cX4_readAll 59 = .ok (.goto (-42), 3) := by decide +kernel
theorem dX4_readAll_62 : decode cX4_readAll 62 = .ok (.aload_n 0, 1) := by decide +kernel
theorem dX4_readAll_63 : decode cX4_readAll 63 = .ok (.getfield 28, 3) := by decide +kernel
theorem dX4_readAll_66 : decode cX4_readAll 66 = .ok (.ireturn, 1) := by decide +kernel
theorem dX4_readOrder_0 : decode cX4_readOrder 0 = .ok (.aload_n 0, 1) := by decide +kernel
theorem dX4_readOrder_1 : decode cX4_readOrder 1 = .ok (.aload_n 1, 1) := by decide +kernel
theorem dX4_readOrder_2 : decode cX4_readOrder 2 = .ok (.invokevirtual 35, 3) := by decide +kernel
theorem dX4_readOrder_5 : decode cX4_readOrder 5 = .ok (.aload_n 1, 1) := by decide +kernel
theorem dX4_readOrder_6 : decode cX4_readOrder 6 = .ok (.aload_n 0, 1) := by decide +kernel
theorem dX4_readOrder_7 : decode cX4_readOrder 7 = .ok (.getfield 25, 3) := by decide +kernel
theorem dX4_readOrder_10 : decode cX4_readOrder 10 = .ok (.invokevirtual 44, 3) := by decide +kernel
theorem dX4_readOrder_13 : decode cX4_readOrder 13 = .ok (.istore_n 3, 1) := by decide +kernel
theorem dX4_readOrder_14 : decode cX4_readOrder 14 = .ok (.iload_n 3, 1) := by decide +kernel
theorem dX4_readOrder_15 : decode cX4_readOrder 15 = .ok (.invokestatic 48, 3) := by decide +kernel
theorem dX4_readOrder_18 : decode cX4_readOrder 18 = .ok (.istore 4, 2) := by decide +kernel
theorem dX4_readOrder_20 : decode cX4_readOrder 20 = .ok (.iload 4, 2) := by decide +kernel
theorem dX4_readOrder_22 : decode cX4_readOrder 22 = .ok (.iconst (-1), 1) := by decide +kernel
theorem dX4_readOrder_23 : decode cX4_readOrder 23 = .ok (.if_icmp .ne 12, 3) := by decide +kernel
theorem dX4_readOrder_26 : decode cX4_readOrder 26 = .ok (.aload_n 0, 1) := by decide +kernel
theorem dX4_readOrder_27 : decode cX4_readOrder 27 = .ok (.aload_n 0, 1) := by decide +kernel
theorem dX4_readOrder_28 : decode cX4_readOrder 28 = .ok (.getfield 25, 3) := by decide +kernel
theorem dX4_readOrder_31 : decode cX4_readOrder 31 = .ok (.putfield 28, 3) := by decide +kernel
theorem dX4_readOrder_34 : decode cX4_readOrder 34 = .ok (.return_, 1) := by decide +kernel
theorem dX4_readOrder_35 : decode cX4_readOrder 35 = .ok (.aload_n 0, 1) := by decide +kernel
theorem dX4_readOrder_36 : decode cX4_readOrder 36 = .ok (.dup, 1) := by decide +kernel
theorem dX4_readOrder_37 : decode cX4_readOrder 37 = .ok (.getfield 25, 3) := by decide +kernel
theorem dX4_readOrder_40 : decode cX4_readOrder 40 = .ok (.iconst 1, 1) := by decide +kernel
theorem dX4_readOrder_41 : decode cX4_readOrder 41 = .ok (.iadd, 1) := by decide +kernel
theorem dX4_readOrder_42 : decode cX4_readOrder 42 = .ok (.putfield 25, 3) := by decide +kernel
theorem dX4_readOrder_45 : decode cX4_readOrder 45 = .ok (.iload 4, 2) := by decide +kernel
theorem dX4_readOrder_47 : decode cX4_readOrder 47 = .ok (.ifCond .le 15, 3) := by decide +kernel
theorem dX4_readOrder_50 : decode cX4_readOrder 50 = .ok (.aload_n 0, 1) := by decide +kernel
theorem dX4_readOrder_51 : decode cX4_readOrder 51 = .ok (.aload_n 1, 1) := by decide +kernel
theorem dX4_readOrder_52 : decode cX4_readOrder 52 = .ok (.iload_n 2, 1) := by decide +kernel
theorem dX4_readOrder_53 : decode cX4_readOrder 53 = .ok (.iconst 1, 1) := by decide +kernel
theorem dX4_readOrder_54 : decode cX4_readOrder 54 = .ok (.isub, 1) := by decide +kernel
theorem dX4_readOrder_55 : decode cX4_readOrder 55 = .ok (.iconst (-1), 1) := by decide +kernel
theorem dX4_readOrder_56 : decode cX4_readOrder 56 = .ok (.invokevirtual 51, 3) := by decide +kernel
theorem dX4_readOrder_59 : decode cX4_readOrder 59 = .ok (.goto 4, 3) := by decide +kernel
theorem dX4_readOrder_62 : decode cX4_readOrder 62 = .ok (.iconst 0, 1) := by decide +kernel
theorem dX4_readOrder_63 : decode cX4_readOrder 63 = .ok (.istore 5, 2) := by decide +kernel
theorem dX4_readOrder_65 : decode cX4_readOrder 65 = .ok (.iload 4, 2) := by decide +kernel
theorem dX4_readOrder_67 : decode cX4_readOrder 67 = .ok (.iconst 1, 1) := by decide +kernel
theorem dX4_readOrder_68 : decode cX4_readOrder 68 = .ok (.if_icmp .le 28, 3) := by decide +kernel
theorem dX4_readOrder_71 : decode cX4_readOrder 71 = .ok (.aload_n 0, 1) := by decide +kernel
theorem dX4_readOrder_72 : decode cX4_readOrder 72 = .ok (.aload_n 1, 1) := by decide +kernel
theorem dX4_readOrder_73 : decode cX4_readOrder 73 = .ok (.iload_n 3, 1) := by decide +kernel
theorem dX4_readOrder_74 : decode cX4_readOrder 74 = .ok (.iload_n 2, 1) := by decide +kernel
theorem dX4_readOrder_75 : decode cX4_readOrder 75 = .ok (.invokestatic 55, 3) := by decide +kernel
theorem dX4_readOrder_78 : decode cX4_readOrder 78 = .ok (.iload_n 3, 1) := by decide +kernel
theorem dX4_readOrder_79 : decode cX4_readOrder 79 = .ok (.bipush 115, 2) := by decide +kernel
theorem dX4_readOrder_81 : decode cX4_readOrder 81 = .ok (.if_icmp .ne 8, 3) := by decide +kernel
theorem dX4_readOrder_84 : decode cX4_readOrder 84 = .ok (.iload 5, 2) := by decide +kernel
theorem dX4_readOrder_86 : decode cX4_readOrder 86 = .ok (.goto 4, 3) := by decide +kernel
theorem dX4_readOrder_89 : decode cX4_readOrder 89 = .ok (.iconst (-1), 1) := by decide +kernel
theorem dX4_readOrder_90 : decode cX4_readOrder 90 = .ok (.invokevirtual 51, 3) := by decide +kernel
theorem dX4_readOrder_93 : decode cX4_readOrder 93 = .ok (.goto 4, 3) := by decide +kernel
theorem dX4_readOrder_96 : decode cX4_readOrder 96 = .ok (.iconst 0, 1) := by decide +kernel
theorem dX4_readOrder_97 : decode cX4_readOrder 97 = .ok (.istore 6, 2) := by decide +kernel
theorem dX4_readOrder_99 : decode cX4_readOrder 99 = .ok (.aload_n 0, 1) := by decide +kernel
theorem dX4_readOrder_100 : decode cX4_readOrder 100 = .ok (.aload_n 1, 1) := by decide +kernel
theorem dX4_readOrder_101 : decode cX4_readOrder 101 = .ok (.invokevirtual 59, 3) := by decide +kernel
theorem dX4_readOrder_104 : decode cX4_readOrder 104 = .ok (.aload_n 0, 1) := by decide +kernel
theorem dX4_readOrder_105 : decode cX4_readOrder 105 = .ok (.getfield 9, 3) := by decide +kernel
theorem dX4_readOrder_108 : decode cX4_readOrder 108 = .ok (.aload_n 0, 1) := by decide +kernel
theorem dX4_readOrder_109 : decode cX4_readOrder 109 = .ok (.getfield 21, 3) := by decide +kernel
theorem dX4_readOrder_112 : decode cX4_readOrder 112 = .ok (.iload_n 3, 1) := by decide +kernel
theorem dX4_readOrder_113 : decode cX4_readOrder 113 = .ok (.invokestatic 62, 3) := by decide +kernel
theorem dX4_readOrder_116 : decode cX4_readOrder 116 = .ok (.aload_n 0, 1) := by decide +kernel
theorem dX4_readOrder_117 : decode cX4_readOrder 117 = .ok (.getfield 15, 3) := by decide +kernel
theorem dX4_readOrder_120 : decode cX4_readOrder 120 = .ok (.aload_n 0, 1) := by decide +kernel
theorem dX4_readOrder_121 : decode cX4_readOrder 121 = .ok (.getfield 21, 3) := by decide +kernel
theorem dX4_readOrder_124 : decode cX4_readOrder 124 = .ok (.iload 5, 2) := by decide +kernel
theorem dX4_readOrder_126 : decode cX4_readOrder 126 = .ok (.invokestatic 62, 3) := by decide +kernel
theorem dX4_readOrder_129 : decode cX4_readOrder 129 = .ok (.aload_n 0, 1) := by decide +kernel
theorem dX4_readOrder_130 : decode cX4_readOrder 130 = .ok (.getfield 18, 3) := by decide +kernel
theorem dX4_readOrder_133 : decode cX4_readOrder 133 = .ok (.aload_n 0, 1) := by decide +kernel
theorem dX4_readOrder_134 : decode cX4_readOrder 134 = .ok (.getfield 21, 3) := by decide +kernel
theorem dX4_readOrder_137 : decode cX4_readOrder 137 = .ok (.iload 6, 2) := by decide +kernel
theorem dX4_readOrder_139 : decode cX4_readOrder 139 = .ok (.invokestatic 62, 3) := by decide +kernel
theorem dX4_readOrder_142 : decode cX4_readOrder 142 = .ok (.aload_n 0, 1) := by decide +kernel
theorem dX4_readOrder_143 : decode cX4_readOrder 143 = .ok (.dup, 1) := by decide +kernel
theorem dX4_readOrder_144 : decode cX4_readOrder 144 = .ok (.getfield 21, 3) := by decide +kernel
theorem dX4_readOrder_147 : decode cX4_readOrder 147 = .ok (.iconst 1, 1) := by decide +kernel
theorem dX4_readOrder_148 : decode cX4_readOrder 148 = .ok (.iadd, 1) := by decide +kernel
theorem dX4_readOrder_149 : decode cX4_readOrder 149 = .ok (.putfield 21, 3) := by decide +kernel
theorem dX4_readOrder_152 : decode cX4_readOrder 152 = .ok (.return_, 1) := by decide +kernel
theorem dX4_numbersOf_0 : decode cX4_numbersOf 0 = .ok (.iload_n 0, 1) := by decide +kernel
theorem dX4_numbersOf_1 : decode cX4_numbersOf 1 = .ok (.tableswitch 93 103 120 #[87, 93, 93, 93, 93, 89, 93, 93, 89, 93, 93, 91, 87, 93, 91, 93, 87, 89], 87) := by decide +kernel
theorem dX4_numbersOf_88 : decode cX4_numbersOf 88 = .ok (.iconst 2, 1) := by decide +kernel
theorem dX4_numbersOf_89 : decode cX4_numbersOf 89 = .ok (.ireturn, 1) := by decide +kernel
theorem dX4_numbersOf_90 : decode cX4_numbersOf 90 = .ok (.iconst 1, 1) := by decide +kernel
theorem dX4_numbersOf_91 : decode cX4_numbersOf 91 = .ok (.ireturn, 1) := by decide +kernel
theorem dX4_numbersOf_92 : decode cX4_numbersOf 92 = .ok (.iconst 0, 1) := by decide +kernel
theorem dX4_numbersOf_93 : decode cX4_numbersOf 93 = .ok (.ireturn, 1) := by decide +kernel
theorem dX4_numbersOf_94 : decode cX4_numbersOf 94 = .ok (.iconst (-1), 1) := by decide +kernel
theorem dX4_numbersOf_95 : decode cX4_numbersOf 95 = .ok (.ireturn, 1) := by decide +kernel
theorem dX4_mostSecond_0 : decode cX4_mostSecond 0 = .ok (.iload_n 0, 1) := by decide +kernel
theorem dX4_mostSecond_1 : decode cX4_mostSecond 1 = .ok (.bipush 119, 2) := by decide +kernel
theorem dX4_mostSecond_3 : decode cX4_mostSecond 3 = .ok (.if_icmp .ne 7, 3) := by decide +kernel
theorem dX4_mostSecond_6 : decode cX4_mostSecond 6 = .ok (.sipush 999, 3) := by decide +kernel
theorem dX4_mostSecond_9 : decode cX4_mostSecond 9 = .ok (.ireturn, 1) := by decide +kernel
theorem dX4_mostSecond_10 : decode cX4_mostSecond 10 = .ok (.iload_n 0, 1) := by decide +kernel
theorem dX4_mostSecond_11 : decode cX4_mostSecond 11 = .ok (.bipush 103, 2) := by decide +kernel
theorem dX4_mostSecond_13 : decode cX4_mostSecond 13 = .ok (.if_icmp .ne 8, 3) := by decide +kernel
theorem dX4_mostSecond_16 : decode cX4_mostSecond 16 = .ok (.bipush 99, 2) := by decide +kernel
theorem dX4_mostSecond_18 : decode cX4_mostSecond 18 = .ok (.goto 6, 3) := by decide +kernel
theorem dX4_mostSecond_21 : decode cX4_mostSecond 21 = .ok (.iload_n 1, 1) := by decide +kernel
theorem dX4_mostSecond_22 : decode cX4_mostSecond 22 = .ok (.iconst 1, 1) := by decide +kernel
theorem dX4_mostSecond_23 : decode cX4_mostSecond 23 = .ok (.isub, 1) := by decide +kernel
theorem dX4_mostSecond_24 : decode cX4_mostSecond 24 = .ok (.ireturn, 1) := by decide +kernel
theorem dX4_readNumber_0 : decode cX4_readNumber 0 = .ok (.aload_n 0, 1) := by decide +kernel
theorem dX4_readNumber_1 : decode cX4_readNumber 1 = .ok (.getfield 28, 3) := by decide +kernel
theorem dX4_readNumber_4 : decode cX4_readNumber 4 = .ok (.iconst (-1), 1) := by decide +kernel
theorem dX4_readNumber_5 : decode cX4_readNumber 5 = .ok (.if_icmp .eq 5, 3) := by decide +kernel
theorem dX4_readNumber_8 : decode cX4_readNumber 8 = .ok (.iconst 0, 1) := by decide +kernel
theorem dX4_readNumber_9 : decode cX4_readNumber 9 = .ok (.ireturn, 1) := by decide +kernel
theorem dX4_readNumber_10 : decode cX4_readNumber 10 = .ok (.aload_n 0, 1) := by decide +kernel
theorem dX4_readNumber_11 : decode cX4_readNumber 11 = .ok (.aload_n 1, 1) := by decide +kernel
theorem dX4_readNumber_12 : decode cX4_readNumber 12 = .ok (.invokevirtual 35, 3) := by decide +kernel
theorem dX4_readNumber_15 : decode cX4_readNumber 15 = .ok (.aload_n 0, 1) := by decide +kernel
theorem dX4_readNumber_16 : decode cX4_readNumber 16 = .ok (.getfield 25, 3) := by decide +kernel
theorem dX4_readNumber_19 : decode cX4_readNumber 19 = .ok (.istore 4, 2) := by decide +kernel
theorem dX4_readNumber_21 : decode cX4_readNumber 21 = .ok (.iconst 0, 1) := by decide +kernel
theorem dX4_readNumber_22 : decode cX4_readNumber 22 = .ok (.istore 5, 2) := by decide +kernel
theorem dX4_readNumber_24 : decode cX4_readNumber 24 = .ok (.iload 4, 2) := by decide +kernel
theorem dX4_readNumber_26 : decode cX4_readNumber 26 = .ok (.istore 6, 2) := by decide +kernel
theorem dX4_readNumber_28 : decode cX4_readNumber 28 = .ok (.iload 6, 2) := by decide +kernel
theorem dX4_readNumber_30 : decode cX4_readNumber 30 = .ok (.aload_n 1, 1) := by decide +kernel
theorem dX4_readNumber_31 : decode cX4_readNumber 31 = .ok (.getfield 39, 3) := by decide +kernel
theorem dX4_readNumber_34 : decode cX4_readNumber 34 = .ok (.if_icmp .ge 55, 3) := by decide +kernel
theorem dX4_readNumber_37 : decode cX4_readNumber 37 = .ok (.aload_n 1, 1) := by decide +kernel
theorem dX4_readNumber_38 : decode cX4_readNumber 38 = .ok (.iload 6, 2) := by decide +kernel
theorem dX4_readNumber_40 : decode cX4_readNumber 40 = .ok (.invokevirtual 44, 3) := by decide +kernel
theorem dX4_readNumber_43 : decode cX4_readNumber 43 = .ok (.invokestatic 66, 3) := by decide +kernel
theorem dX4_readNumber_46 : decode cX4_readNumber 46 = .ok (.ifCond .eq 43, 3) := by decide +kernel
theorem dX4_readNumber_49 : decode cX4_readNumber 49 = .ok (.iload 6, 2) := by decide +kernel
theorem dX4_readNumber_51 : decode cX4_readNumber 51 = .ok (.iload 4, 2) := by decide +kernel
theorem dX4_readNumber_53 : decode cX4_readNumber 53 = .ok (.isub, 1) := by decide +kernel
theorem dX4_readNumber_54 : decode cX4_readNumber 54 = .ok (.iconst 3, 1) := by decide +kernel
theorem dX4_readNumber_55 : decode cX4_readNumber 55 = .ok (.if_icmp .ge 20, 3) := by decide +kernel
theorem dX4_readNumber_58 : decode cX4_readNumber 58 = .ok (.iload 5, 2) := by decide +kernel
theorem dX4_readNumber_60 : decode cX4_readNumber 60 = .ok (.bipush 10, 2) := by decide +kernel
theorem dX4_readNumber_62 : decode cX4_readNumber 62 = .ok (.imul, 1) := by decide +kernel
theorem dX4_readNumber_63 : decode cX4_readNumber 63 = .ok (.aload_n 1, 1) := by decide +kernel
theorem dX4_readNumber_64 : decode cX4_readNumber 64 = .ok (.iload 6, 2) := by decide +kernel
theorem dX4_readNumber_66 : decode cX4_readNumber 66 = .ok (.invokevirtual 44, 3) := by decide +kernel
theorem dX4_readNumber_69 : decode cX4_readNumber 69 = .ok (.iadd, 1) := by decide +kernel
theorem dX4_readNumber_70 : decode cX4_readNumber 70 = .ok (.bipush 48, 2) := by decide +kernel
theorem dX4_readNumber_72 : decode cX4_readNumber 72 = .ok (.isub, 1) := by decide +kernel
theorem dX4_readNumber_73 : decode cX4_readNumber 73 = .ok (.istore 5, 2) := by decide +kernel
theorem dX4_readNumber_75 : decode cX4_readNumber 75 = .ok (.aload_n 0, 1) := by decide +kernel
theorem dX4_readNumber_76 : decode cX4_readNumber 76 = .ok (.iload 6, 2) := by decide +kernel
theorem dX4_readNumber_78 : decode cX4_readNumber 78 = .ok (.iconst 1, 1) := by decide +kernel
theorem dX4_readNumber_79 : decode cX4_readNumber 79 = .ok (.iadd, 1) := by decide +kernel
theorem dX4_readNumber_80 : decode cX4_readNumber 80 = .ok (.putfield 25, 3) := by decide +kernel
theorem dX4_readNumber_83 : decode cX4_readNumber 83 = .ok (.iinc 6 1, 3) := by decide +kernel
theorem dX4_readNumber_86 : decode cX4_readNumber 86 = .ok (.goto (-58), 3) := by decide +kernel
theorem dX4_readNumber_89 : decode cX4_readNumber 89 = .ok (.aload_n 0, 1) := by decide +kernel
theorem dX4_readNumber_90 : decode cX4_readNumber 90 = .ok (.getfield 25, 3) := by decide +kernel
theorem dX4_readNumber_93 : decode cX4_readNumber 93 = .ok (.iload 4, 2) := by decide +kernel
theorem dX4_readNumber_95 : decode cX4_readNumber 95 = .ok (.isub, 1) := by decide +kernel
theorem dX4_readNumber_96 : decode cX4_readNumber 96 = .ok (.istore 6, 2) := by decide +kernel
theorem dX4_readNumber_98 : decode cX4_readNumber 98 = .ok (.iload 6, 2) := by decide +kernel
theorem dX4_readNumber_100 : decode cX4_readNumber 100 = .ok (.iconst 1, 1) := by decide +kernel
theorem dX4_readNumber_101 : decode cX4_readNumber 101 = .ok (.iconst 3, 1) := by decide +kernel
theorem dX4_readNumber_102 : decode cX4_readNumber 102 = .ok (.invokestatic 70, 3) := by decide +kernel
theorem dX4_readNumber_105 : decode cX4_readNumber 105 = .ok (.ifCond .eq 19, 3) := by decide +kernel
theorem dX4_readNumber_108 : decode cX4_readNumber 108 = .ok (.iload 5, 2) := by decide +kernel
theorem dX4_readNumber_110 : decode cX4_readNumber 110 = .ok (.iload_n 2, 1) := by decide +kernel
theorem dX4_readNumber_111 : decode cX4_readNumber 111 = .ok (.if_icmp .gt 13, 3) := by decide +kernel
theorem dX4_readNumber_114 : decode cX4_readNumber 114 = .ok (.iload 5, 2) := by decide +kernel
theorem dX4_readNumber_116 : decode cX4_readNumber 116 = .ok (.iload_n 3, 1) := by decide +kernel
theorem dX4_readNumber_117 : decode cX4_readNumber 117 = .ok (.if_icmp .eq 7, 3) := by decide +kernel
theorem dX4_readNumber_120 : decode cX4_readNumber 120 = .ok (.iconst 1, 1) := by decide +kernel
theorem dX4_readNumber_121 : decode cX4_readNumber 121 = .ok (.goto 4, 3) := by decide +kernel
theorem dX4_readNumber_124 : decode cX4_readNumber 124 = .ok (.iconst 0, 1) := by decide +kernel
theorem dX4_readNumber_125 : decode cX4_readNumber 125 = .ok (.istore 7, 2) := by decide +kernel
theorem dX4_readNumber_127 : decode cX4_readNumber 127 = .ok (.iload 7, 2) := by decide +kernel
theorem dX4_readNumber_129 : decode cX4_readNumber 129 = .ok (.ifCond .ne 9, 3) := by decide +kernel
theorem dX4_readNumber_132 : decode cX4_readNumber 132 = .ok (.aload_n 0, 1) := by decide +kernel
theorem dX4_readNumber_133 : decode cX4_readNumber 133 = .ok (.iload 4, 2) := by decide +kernel
theorem dX4_readNumber_135 : decode cX4_readNumber 135 = .ok (.putfield 28, 3) := by decide +kernel
theorem dX4_readNumber_138 : decode cX4_readNumber 138 = .ok (.iload 5, 2) := by decide +kernel
theorem dX4_readNumber_140 : decode cX4_readNumber 140 = .ok (.ireturn, 1) := by decide +kernel
theorem dX4_readSemicolon_0 : decode cX4_readSemicolon 0 = .ok (.aload_n 0, 1) := by decide +kernel
theorem dX4_readSemicolon_1 : decode cX4_readSemicolon 1 = .ok (.getfield 28, 3) := by decide +kernel
theorem dX4_readSemicolon_4 : decode cX4_readSemicolon 4 = .ok (.iconst (-1), 1) := by decide +kernel
theorem dX4_readSemicolon_5 : decode cX4_readSemicolon 5 = .ok (.if_icmp .eq 4, 3) := by decide +kernel
theorem dX4_readSemicolon_8 : decode cX4_readSemicolon 8 = .ok (.return_, 1) := by decide +kernel
theorem dX4_readSemicolon_9 : decode cX4_readSemicolon 9 = .ok (.aload_n 0, 1) := by decide +kernel
theorem dX4_readSemicolon_10 : decode cX4_readSemicolon 10 = .ok (.aload_n 1, 1) := by decide +kernel
theorem dX4_readSemicolon_11 : decode cX4_readSemicolon 11 = .ok (.invokevirtual 35, 3) := by decide +kernel
theorem dX4_readSemicolon_14 : decode cX4_readSemicolon 14 = .ok (.aload_n 1, 1) := by decide +kernel
theorem dX4_readSemicolon_15 : decode cX4_readSemicolon 15 = .ok (.aload_n 0, 1) := by decide +kernel
theorem dX4_readSemicolon_16 : decode cX4_readSemicolon 16 = .ok (.getfield 25, 3) := by decide +kernel
theorem dX4_readSemicolon_19 : decode cX4_readSemicolon 19 = .ok (.invokevirtual 44, 3) := by decide +kernel
theorem dX4_readSemicolon_22 : decode cX4_readSemicolon 22 = .ok (.bipush 59, 2) := by decide +kernel
theorem dX4_readSemicolon_24 : decode cX4_readSemicolon 24 = .ok (.if_icmp .ne 16, 3) := by decide +kernel
theorem dX4_readSemicolon_27 : decode cX4_readSemicolon 27 = .ok (.aload_n 0, 1) := by decide +kernel
theorem dX4_readSemicolon_28 : decode cX4_readSemicolon 28 = .ok (.dup, 1) := by decide +kernel
theorem dX4_readSemicolon_29 : decode cX4_readSemicolon 29 = .ok (.getfield 25, 3) := by decide +kernel
theorem dX4_readSemicolon_32 : decode cX4_readSemicolon 32 = .ok (.iconst 1, 1) := by decide +kernel
theorem dX4_readSemicolon_33 : decode cX4_readSemicolon 33 = .ok (.iadd, 1) := by decide +kernel
theorem dX4_readSemicolon_34 : decode cX4_readSemicolon 34 = .ok (.putfield 25, 3) := by decide +kernel
theorem dX4_readSemicolon_37 : decode cX4_readSemicolon 37 = .ok (.goto 11, 3) := by decide +kernel
theorem dX4_readSemicolon_40 : decode cX4_readSemicolon 40 = .ok (.aload_n 0, 1) := by decide +kernel
theorem dX4_readSemicolon_41 : decode cX4_readSemicolon 41 = .ok (.aload_n 0, 1) := by decide +kernel
theorem dX4_readSemicolon_42 : decode cX4_readSemicolon 42 = .ok (.getfield 25, 3) := by decide +kernel
theorem dX4_readSemicolon_45 : decode cX4_readSemicolon 45 = .ok (.putfield 28, 3) := by decide +kernel
theorem dX4_readSemicolon_48 : decode cX4_readSemicolon 48 = .ok (.return_, 1) := by decide +kernel
theorem dX4_skipBlanks_0 : decode cX4_skipBlanks 0 = .ok (.aload_n 0, 1) := by decide +kernel
theorem dX4_skipBlanks_1 : decode cX4_skipBlanks 1 = .ok (.getfield 25, 3) := by decide +kernel
theorem dX4_skipBlanks_4 : decode cX4_skipBlanks 4 = .ok (.istore_n 2, 1) := by decide +kernel
theorem dX4_skipBlanks_5 : decode cX4_skipBlanks 5 = .ok (.iload_n 2, 1) := by decide +kernel
theorem dX4_skipBlanks_6 : decode cX4_skipBlanks 6 = .ok (.aload_n 1, 1) := by decide +kernel
theorem dX4_skipBlanks_7 : decode cX4_skipBlanks 7 = .ok (.getfield 39, 3) := by decide +kernel
theorem dX4_skipBlanks_10 : decode cX4_skipBlanks 10 = .ok (.if_icmp .ge 26, 3) := by decide +kernel
theorem dX4_skipBlanks_13 : decode cX4_skipBlanks 13 = .ok (.aload_n 1, 1) := by decide +kernel
theorem dX4_skipBlanks_14 : decode cX4_skipBlanks 14 = .ok (.iload_n 2, 1) := by decide +kernel
theorem dX4_skipBlanks_15 : decode cX4_skipBlanks 15 = .ok (.invokevirtual 44, 3) := by decide +kernel
theorem dX4_skipBlanks_18 : decode cX4_skipBlanks 18 = .ok (.bipush 32, 2) := by decide +kernel
theorem dX4_skipBlanks_20 : decode cX4_skipBlanks 20 = .ok (.if_icmp .ne 16, 3) := by decide +kernel
theorem dX4_skipBlanks_23 : decode cX4_skipBlanks 23 = .ok (.aload_n 0, 1) := by decide +kernel
theorem dX4_skipBlanks_24 : decode cX4_skipBlanks 24 = .ok (.iload_n 2, 1) := by decide +kernel
theorem dX4_skipBlanks_25 : decode cX4_skipBlanks 25 = .ok (.iconst 1, 1) := by decide +kernel
theorem dX4_skipBlanks_26 : decode cX4_skipBlanks 26 = .ok (.iadd, 1) := by decide +kernel
theorem dX4_skipBlanks_27 : decode cX4_skipBlanks 27 = .ok (.putfield 25, 3) := by decide +kernel
theorem dX4_skipBlanks_30 : decode cX4_skipBlanks 30 = .ok (.iinc 2 1, 3) := by decide +kernel
theorem dX4_skipBlanks_33 : decode cX4_skipBlanks 33 = .ok (.goto (-28), 3) := by decide +kernel
theorem dX4_skipBlanks_36 : decode cX4_skipBlanks 36 = .ok (.return_, 1) := by decide +kernel
theorem dX4_isFigure_0 : decode cX4_isFigure 0 = .ok (.iload_n 0, 1) := by decide +kernel
theorem dX4_isFigure_1 : decode cX4_isFigure 1 = .ok (.bipush 48, 2) := by decide +kernel
theorem dX4_isFigure_3 : decode cX4_isFigure 3 = .ok (.if_icmp .lt 13, 3) := by decide +kernel
theorem dX4_isFigure_6 : decode cX4_isFigure 6 = .ok (.iload_n 0, 1) := by decide +kernel
theorem dX4_isFigure_7 : decode cX4_isFigure 7 = .ok (.bipush 57, 2) := by decide +kernel
theorem dX4_isFigure_9 : decode cX4_isFigure 9 = .ok (.if_icmp .gt 7, 3) := by decide +kernel
theorem dX4_isFigure_12 : decode cX4_isFigure 12 = .ok (.iconst 1, 1) := by decide +kernel
theorem dX4_isFigure_13 : decode cX4_isFigure 13 = .ok (.goto 4, 3) := by decide +kernel
theorem dX4_isFigure_16 : decode cX4_isFigure 16 = .ok (.iconst 0, 1) := by decide +kernel
theorem dX4_isFigure_17 : decode cX4_isFigure 17 = .ok (.ireturn, 1) := by decide +kernel
theorem dX5_init_0 : decode cX5_init 0 = .ok (.aload_n 0, 1) := by decide +kernel
theorem dX5_init_1 : decode cX5_init 1 = .ok (.invokespecial 3, 3) := by decide +kernel
theorem dX5_init_4 : decode cX5_init 4 = .ok (.iconst 0, 1) := by decide +kernel
theorem dX5_init_5 : decode cX5_init 5 = .ok (.iload_n 1, 1) := by decide +kernel
theorem dX5_init_6 : decode cX5_init 6 = .ok (.bipush 40, 2) := by decide +kernel
theorem dX5_init_8 : decode cX5_init 8 = .ok (.invokestatic 9, 3) := by decide +kernel
theorem dX5_init_11 : decode cX5_init 11 = .ok (.invokestatic 15, 3) := by decide +kernel
theorem dX5_init_14 : decode cX5_init 14 = .ok (.iconst 5, 1) := by decide +kernel
theorem dX5_init_15 : decode cX5_init 15 = .ok (.imul, 1) := by decide +kernel
theorem dX5_init_16 : decode cX5_init 16 = .ok (.istore_n 2, 1) := by decide +kernel
theorem dX5_init_17 : decode cX5_init 17 = .ok (.aload_n 0, 1) := by decide +kernel
theorem dX5_init_18 : decode cX5_init 18 = .ok (.iload_n 2, 1) := by decide +kernel
theorem dX5_init_19 : decode cX5_init 19 = .ok (.newarray .int, 2) := by decide +kernel
theorem dX5_init_21 : decode cX5_init 21 = .ok (.putfield 18, 3) := by decide +kernel
theorem dX5_init_24 : decode cX5_init 24 = .ok (.aload_n 0, 1) := by decide +kernel
theorem dX5_init_25 : decode cX5_init 25 = .ok (.iload_n 2, 1) := by decide +kernel
theorem dX5_init_26 : decode cX5_init 26 = .ok (.newarray .int, 2) := by decide +kernel
theorem dX5_init_28 : decode cX5_init 28 = .ok (.putfield 24, 3) := by decide +kernel
theorem dX5_init_31 : decode cX5_init 31 = .ok (.return_, 1) := by decide +kernel
theorem dX5_lifeOf_0 : decode cX5_lifeOf 0 = .ok (.aload_n 0, 1) := by decide +kernel
theorem dX5_lifeOf_1 : decode cX5_lifeOf 1 = .ok (.getfield 18, 3) := by decide +kernel
theorem dX5_lifeOf_4 : decode cX5_lifeOf 4 = .ok (.iload_n 1, 1) := by decide +kernel
theorem dX5_lifeOf_5 : decode cX5_lifeOf 5 = .ok (.iconst 5, 1) := by decide +kernel
theorem dX5_lifeOf_6 : decode cX5_lifeOf 6 = .ok (.imul, 1) := by decide +kernel
theorem dX5_lifeOf_7 : decode cX5_lifeOf 7 = .ok (.iload_n 2, 1) := by decide +kernel
theorem dX5_lifeOf_8 : decode cX5_lifeOf 8 = .ok (.iadd, 1) := by decide +kernel
theorem dX5_lifeOf_9 : decode cX5_lifeOf 9 = .ok (.invokestatic 27, 3) := by decide +kernel
theorem dX5_lifeOf_12 : decode cX5_lifeOf 12 = .ok (.ireturn, 1) := by decide +kernel
theorem dX5_pageOf_0 : decode cX5_pageOf 0 = .ok (.aload_n 0, 1) := by decide +kernel
theorem dX5_pageOf_1 : decode cX5_pageOf 1 = .ok (.getfield 24, 3) := by decide +kernel
theorem dX5_pageOf_4 : decode cX5_pageOf 4 = .ok (.iload_n 1, 1) := by decide +kernel
theorem dX5_pageOf_5 : decode cX5_pageOf 5 = .ok (.iconst 5, 1) := by decide +kernel
theorem dX5_pageOf_6 : decode cX5_pageOf 6 = .ok (.imul, 1) := by decide +kernel
theorem dX5_pageOf_7 : decode cX5_pageOf 7 = .ok (.iload_n 2, 1) := by decide +kernel
theorem dX5_pageOf_8 : decode cX5_pageOf 8 = .ok (.iadd, 1) := by decide +kernel
theorem dX5_pageOf_9 : decode cX5_pageOf 9 = .ok (.invokestatic 27, 3) := by decide +kernel
theorem dX5_pageOf_12 : decode cX5_pageOf 12 = .ok (.ireturn, 1) := by decide +kernel
theorem dX5_set_0 : decode cX5_set 0 = .ok (.aload_n 0, 1) := by decide +kernel
theorem dX5_set_1 : decode cX5_set 1 = .ok (.getfield 18, 3) := by decide +kernel
theorem dX5_set_4 : decode cX5_set 4 = .ok (.iload_n 1, 1) := by decide +kernel
theorem dX5_set_5 : decode cX5_set 5 = .ok (.iconst 5, 1) := by decide +kernel
theorem dX5_set_6 : decode cX5_set 6 = .ok (.imul, 1) := by decide +kernel
theorem dX5_set_7 : decode cX5_set 7 = .ok (.iload_n 2, 1) := by decide +kernel
theorem dX5_set_8 : decode cX5_set 8 = .ok (.iadd, 1) := by decide +kernel
theorem dX5_set_9 : decode cX5_set 9 = .ok (.iload_n 3, 1) := by decide +kernel
theorem dX5_set_10 : decode cX5_set 10 = .ok (.invokestatic 31, 3) := by decide +kernel
theorem dX5_set_13 : decode cX5_set 13 = .ok (.aload_n 0, 1) := by decide +kernel
theorem dX5_set_14 : decode cX5_set 14 = .ok (.getfield 24, 3) := by decide +kernel
theorem dX5_set_17 : decode cX5_set 17 = .ok (.iload_n 1, 1) := by decide +kernel
theorem dX5_set_18 : decode cX5_set 18 = .ok (.iconst 5, 1) := by decide +kernel
theorem dX5_set_19 : decode cX5_set 19 = .ok (.imul, 1) := by decide +kernel
theorem dX5_set_20 : decode cX5_set 20 = .ok (.iload_n 2, 1) := by decide +kernel
theorem dX5_set_21 : decode cX5_set 21 = .ok (.iadd, 1) := by decide +kernel
theorem dX5_set_22 : decode cX5_set 22 = .ok (.iload 4, 2) := by decide +kernel
theorem dX5_set_24 : decode cX5_set 24 = .ok (.invokestatic 31, 3) := by decide +kernel
theorem dX5_set_27 : decode cX5_set 27 = .ok (.return_, 1) := by decide +kernel
theorem dX5_copyRow_0 : decode cX5_copyRow 0 = .ok (.iconst 0, 1) := by decide +kernel
theorem dX5_copyRow_1 : decode cX5_copyRow 1 = .ok (.istore 4, 2) := by decide +kernel
theorem dX5_copyRow_3 : decode cX5_copyRow 3 = .ok (.iload 4, 2) := by decide +kernel
theorem dX5_copyRow_5 : decode cX5_copyRow 5 = .ok (.iconst 5, 1) := by decide +kernel
theorem dX5_copyRow_6 : decode cX5_copyRow 6 = .ok (.if_icmp .ge 30, 3) := by decide +kernel
theorem dX5_copyRow_9 : decode cX5_copyRow 9 = .ok (.aload_n 0, 1) := by decide +kernel
theorem dX5_copyRow_10 : decode cX5_copyRow 10 = .ok (.iload_n 3, 1) := by decide +kernel
theorem dX5_copyRow_11 : decode cX5_copyRow 11 = .ok (.iload 4, 2) := by decide +kernel
theorem dX5_copyRow_13 : decode cX5_copyRow 13 = .ok (.aload_n 1, 1) := by decide +kernel
theorem dX5_copyRow_14 : decode cX5_copyRow 14 = .ok (.iload_n 2, 1) := by decide +kernel
theorem dX5_copyRow_15 : decode cX5_copyRow 15 = .ok (.iload 4, 2) := by decide +kernel
theorem dX5_copyRow_17 : decode cX5_copyRow 17 = .ok (.invokevirtual 35, 3) := by decide +kernel
theorem dX5_copyRow_20 : decode cX5_copyRow 20 = .ok (.aload_n 1, 1) := by decide +kernel
theorem dX5_copyRow_21 : decode cX5_copyRow 21 = .ok (.iload_n 2, 1) := by decide +kernel
theorem dX5_copyRow_22 : decode cX5_copyRow 22 = .ok (.iload 4, 2) := by decide +kernel
theorem dX5_copyRow_24 : decode cX5_copyRow 24 = .ok (.invokevirtual 38, 3) := by decide +kernel
theorem dX5_copyRow_27 : decode cX5_copyRow 27 = .ok (.invokevirtual 41, 3) := by decide +kernel
theorem dX5_copyRow_30 : decode cX5_copyRow 30 = .ok (.iinc 4 1, 3) := by decide +kernel
theorem dX5_copyRow_33 : decode cX5_copyRow 33 = .ok (.goto (-30), 3) := by decide +kernel
theorem dX5_copyRow_36 : decode cX5_copyRow 36 = .ok (.return_, 1) := by decide +kernel
theorem dX5_raise_0 : decode cX5_raise 0 = .ok (.aload_n 0, 1) := by decide +kernel
theorem dX5_raise_1 : decode cX5_raise 1 = .ok (.iload_n 1, 1) := by decide +kernel
theorem dX5_raise_2 : decode cX5_raise 2 = .ok (.iload_n 2, 1) := by decide +kernel
theorem dX5_raise_3 : decode cX5_raise 3 = .ok (.invokevirtual 35, 3) := by decide +kernel
theorem dX5_raise_6 : decode cX5_raise 6 = .ok (.istore 5, 2) := by decide +kernel
theorem dX5_raise_8 : decode cX5_raise 8 = .ok (.iload_n 3, 1) := by decide +kernel
theorem dX5_raise_9 : decode cX5_raise 9 = .ok (.iload 5, 2) := by decide +kernel
theorem dX5_raise_11 : decode cX5_raise 11 = .ok (.if_icmp .gt 20, 3) := by decide +kernel
theorem dX5_raise_14 : decode cX5_raise 14 = .ok (.iload_n 3, 1) := by decide +kernel
theorem dX5_raise_15 : decode cX5_raise 15 = .ok (.iload 5, 2) := by decide +kernel
theorem dX5_raise_17 : decode cX5_raise 17 = .ok (.if_icmp .ne 18, 3) := by decide +kernel
theorem dX5_raise_20 : decode cX5_raise 20 = .ok (.iload 4, 2) := by decide +kernel
theorem dX5_raise_22 : decode cX5_raise 22 = .ok (.aload_n 0, 1) := by decide +kernel
theorem dX5_raise_23 : decode cX5_raise 23 = .ok (.iload_n 1, 1) := by decide +kernel
theorem dX5_raise_24 : decode cX5_raise 24 = .ok (.iload_n 2, 1) := by decide +kernel
theorem dX5_raise_25 : decode cX5_raise 25 = .ok (.invokevirtual 38, 3) := by decide +kernel
theorem dX5_raise_28 : decode cX5_raise 28 = .ok (.if_icmp .le 7, 3) := by decide +kernel
theorem dX5_raise_31 : decode cX5_raise 31 = .ok (.iconst 1, 1) := by decide +kernel
theorem dX5_raise_32 : decode cX5_raise 32 = .ok (.goto 4, 3) := by decide +kernel
theorem dX5_raise_35 : decode cX5_raise 35 = .ok (.iconst 0, 1) := by decide +kernel
theorem dX5_raise_36 : decode cX5_raise 36 = .ok (.istore 6, 2) := by decide +kernel
theorem dX5_raise_38 : decode cX5_raise 38 = .ok (.iload 6, 2) := by decide +kernel
theorem dX5_raise_40 : decode cX5_raise 40 = .ok (.ifCond .eq 12, 3) := by decide +kernel
theorem dX5_raise_43 : decode cX5_raise 43 = .ok (.aload_n 0, 1) := by decide +kernel
theorem dX5_raise_44 : decode cX5_raise 44 = .ok (.iload_n 1, 1) := by decide +kernel
theorem dX5_raise_45 : decode cX5_raise 45 = .ok (.iload_n 2, 1) := by decide +kernel
theorem dX5_raise_46 : decode cX5_raise 46 = .ok (.iload_n 3, 1) := by decide +kernel
theorem dX5_raise_47 : decode cX5_raise 47 = .ok (.iload 4, 2) := by decide +kernel
theorem dX5_raise_49 : decode cX5_raise 49 = .ok (.invokevirtual 41, 3) := by decide +kernel
theorem dX5_raise_52 : decode cX5_raise 52 = .ok (.return_, 1) := by decide +kernel
theorem dX6_init_0 : decode cX6_init 0 = .ok (.aload_n 0, 1) := by decide +kernel
theorem dX6_init_1 : decode cX6_init 1 = .ok (.invokespecial 3, 3) := by decide +kernel
theorem dX6_init_4 : decode cX6_init 4 = .ok (.aload_n 0, 1) := by decide +kernel
theorem dX6_init_5 : decode cX6_init 5 = .ok (.bipush 30, 2) := by decide +kernel
theorem dX6_init_7 : decode cX6_init 7 = .ok (.newarray .int, 2) := by decide +kernel
theorem dX6_init_9 : decode cX6_init 9 = .ok (.putfield 9, 3) := by decide +kernel
theorem dX6_init_12 : decode cX6_init 12 = .ok (.aload_n 0, 1) := by decide +kernel
theorem dX6_init_13 : decode cX6_init 13 = .ok (.bipush 30, 2) := by decide +kernel
theorem dX6_init_15 : decode cX6_init 15 = .ok (.newarray .int, 2) := by decide +kernel
theorem dX6_init_17 : decode cX6_init 17 = .ok (.putfield 15, 3) := by decide +kernel
theorem dX6_init_20 : decode cX6_init 20 = .ok (.aload_n 0, 1) := by decide +kernel
theorem dX6_init_21 : decode cX6_init 21 = .ok (.bipush 30, 2) := by decide +kernel
theorem dX6_init_23 : decode cX6_init 23 = .ok (.newarray .int, 2) := by decide +kernel
theorem dX6_init_25 : decode cX6_init 25 = .ok (.putfield 18, 3) := by decide +kernel
theorem dX6_init_28 : decode cX6_init 28 = .ok (.aload_n 0, 1) := by decide +kernel
theorem dX6_init_29 : decode cX6_init 29 = .ok (.bipush 30, 2) := by decide +kernel
theorem dX6_init_31 : decode cX6_init 31 = .ok (.newarray .int, 2) := by decide +kernel
theorem dX6_init_33 : decode cX6_init 33 = .ok (.putfield 21, 3) := by decide +kernel
theorem dX6_init_36 : decode cX6_init 36 = .ok (.return_, 1) := by decide +kernel
theorem dX6_begin_0 : decode cX6_begin 0 = .ok (.aload_n 0, 1) := by decide +kernel
theorem dX6_begin_1 : decode cX6_begin 1 = .ok (.iconst 0, 1) := by decide +kernel
theorem dX6_begin_2 : decode cX6_begin 2 = .ok (.putfield 24, 3) := by decide +kernel
theorem dX6_begin_5 : decode cX6_begin 5 = .ok (.aload_n 0, 1) := by decide +kernel
theorem dX6_begin_6 : decode cX6_begin 6 = .ok (.iconst 0, 1) := by decide +kernel
theorem dX6_begin_7 : decode cX6_begin 7 = .ok (.putfield 28, 3) := by decide +kernel
theorem dX6_begin_10 : decode cX6_begin 10 = .ok (.return_, 1) := by decide +kernel
theorem dX6_add_0 : decode cX6_add 0 = .ok (.aload_n 0, 1) := by decide +kernel
theorem dX6_add_1 : decode cX6_add 1 = .ok (.getfield 9, 3) := by decide +kernel
theorem dX6_add_4 : decode cX6_add 4 = .ok (.aload_n 0, 1) := by decide +kernel
theorem dX6_add_5 : decode cX6_add 5 = .ok (.getfield 24, 3) := by decide +kernel
theorem dX6_add_8 : decode cX6_add 8 = .ok (.iload_n 1, 1) := by decide +kernel
theorem dX6_add_9 : decode cX6_add 9 = .ok (.invokestatic 31, 3) := by decide +kernel
theorem dX6_add_12 : decode cX6_add 12 = .ok (.aload_n 0, 1) := by decide +kernel
theorem dX6_add_13 : decode cX6_add 13 = .ok (.getfield 15, 3) := by decide +kernel
theorem dX6_add_16 : decode cX6_add 16 = .ok (.aload_n 0, 1) := by decide +kernel
theorem dX6_add_17 : decode cX6_add 17 = .ok (.getfield 24, 3) := by decide +kernel
theorem dX6_add_20 : decode cX6_add 20 = .ok (.iload_n 2, 1) := by decide +kernel
theorem dX6_add_21 : decode cX6_add 21 = .ok (.invokestatic 31, 3) := by decide +kernel
theorem dX6_add_24 : decode cX6_add 24 = .ok (.aload_n 0, 1) := by decide +kernel
theorem dX6_add_25 : decode cX6_add 25 = .ok (.getfield 18, 3) := by decide +kernel
theorem dX6_add_28 : decode cX6_add 28 = .ok (.aload_n 0, 1) := by decide +kernel
theorem dX6_add_29 : decode cX6_add 29 = .ok (.getfield 24, 3) := by decide +kernel
theorem dX6_add_32 : decode cX6_add 32 = .ok (.iconst 0, 1) := by decide +kernel
theorem dX6_add_33 : decode cX6_add 33 = .ok (.invokestatic 31, 3) := by decide +kernel
theorem dX6_add_36 : decode cX6_add 36 = .ok (.aload_n 0, 1) := by decide +kernel
theorem dX6_add_37 : decode cX6_add 37 = .ok (.dup, 1) := by decide +kernel
theorem dX6_add_38 : decode cX6_add 38 = .ok (.getfield 24, 3) := by decide +kernel
theorem dX6_add_41 : decode cX6_add 41 = .ok (.iconst 1, 1) := by decide +kernel
theorem dX6_add_42 : decode cX6_add 42 = .ok (.iadd, 1) := by decide +kernel
theorem dX6_add_43 : decode cX6_add 43 = .ok (.putfield 24, 3) := by decide +kernel
theorem dX6_add_46 : decode cX6_add 46 = .ok (.return_, 1) := by decide +kernel
theorem dX6_isHeld_0 : decode cX6_isHeld 0 = .ok (.iload_n 1, 1) := by decide +kernel
theorem dX6_isHeld_1 : decode cX6_isHeld 1 = .ok (.ifCond .lt 26, 3) := by decide +kernel
theorem dX6_isHeld_4 : decode cX6_isHeld 4 = .ok (.iload_n 1, 1) := by decide +kernel
theorem dX6_isHeld_5 : decode cX6_isHeld 5 = .ok (.aload_n 0, 1) := by decide +kernel
theorem dX6_isHeld_6 : decode cX6_isHeld 6 = .ok (.getfield 24, 3) := by decide +kernel
theorem dX6_isHeld_9 : decode cX6_isHeld 9 = .ok (.if_icmp .ge 18, 3) := by decide +kernel
theorem dX6_isHeld_12 : decode cX6_isHeld 12 = .ok (.aload_n 0, 1) := by decide +kernel
theorem dX6_isHeld_13 : decode cX6_isHeld 13 = .ok (.getfield 18, 3) := by decide +kernel
theorem dX6_isHeld_16 : decode cX6_isHeld 16 = .ok (.iload_n 1, 1) := by decide +kernel
theorem dX6_isHeld_17 : decode cX6_isHeld 17 = .ok (.invokestatic 35, 3) := by decide +kernel
theorem dX6_isHeld_20 : decode cX6_isHeld 20 = .ok (.ifCond .ne 7, 3) := by decide +kernel
theorem dX6_isHeld_23 : decode cX6_isHeld 23 = .ok (.iconst 1, 1) := by decide +kernel
theorem dX6_isHeld_24 : decode cX6_isHeld 24 = .ok (.goto 4, 3) := by decide +kernel
theorem dX6_isHeld_27 : decode cX6_isHeld 27 = .ok (.iconst 0, 1) := by decide +kernel
theorem dX6_isHeld_28 : decode cX6_isHeld 28 = .ok (.ireturn, 1) := by decide +kernel
theorem dX6_countHeld_0 : decode cX6_countHeld 0 = .ok (.iconst 0, 1) := by decide +kernel
theorem dX6_countHeld_1 : decode cX6_countHeld 1 = .ok (.istore_n 1, 1) := by decide +kernel
theorem dX6_countHeld_2 : decode cX6_countHeld 2 = .ok (.iconst 0, 1) := by decide +kernel
theorem dX6_countHeld_3 : decode cX6_countHeld 3 = .ok (.istore_n 2, 1) := by decide +kernel
theorem dX6_countHeld_4 : decode cX6_countHeld 4 = .ok (.iload_n 2, 1) := by decide +kernel
theorem dX6_countHeld_5 : decode cX6_countHeld 5 = .ok (.aload_n 0, 1) := by decide +kernel
theorem dX6_countHeld_6 : decode cX6_countHeld 6 = .ok (.getfield 24, 3) := by decide +kernel
theorem dX6_countHeld_9 : decode cX6_countHeld 9 = .ok (.if_icmp .ge 20, 3) := by decide +kernel
theorem dX6_countHeld_12 : decode cX6_countHeld 12 = .ok (.aload_n 0, 1) := by decide +kernel
theorem dX6_countHeld_13 : decode cX6_countHeld 13 = .ok (.iload_n 2, 1) := by decide +kernel
theorem dX6_countHeld_14 : decode cX6_countHeld 14 = .ok (.invokevirtual 39, 3) := by decide +kernel
theorem dX6_countHeld_17 : decode cX6_countHeld 17 = .ok (.ifCond .eq 6, 3) := by decide +kernel
theorem dX6_countHeld_20 : decode cX6_countHeld 20 = .ok (.iinc 1 1, 3) := by decide +kernel
theorem dX6_countHeld_23 : decode cX6_countHeld 23 = .ok (.iinc 2 1, 3) := by decide +kernel
theorem dX6_countHeld_26 : decode cX6_countHeld 26 = .ok (.goto (-22), 3) := by decide +kernel
theorem dX6_countHeld_29 : decode cX6_countHeld 29 = .ok (.iload_n 1, 1) := by decide +kernel
theorem dX6_countHeld_30 : decode cX6_countHeld 30 = .ok (.ireturn, 1) := by decide +kernel
theorem dX6_countHeldBy_0 : decode cX6_countHeldBy 0 = .ok (.iconst 0, 1) := by decide +kernel
theorem dX6_countHeldBy_1 : decode cX6_countHeldBy 1 = .ok (.istore_n 2, 1) := by decide +kernel
theorem dX6_countHeldBy_2 : decode cX6_countHeldBy 2 = .ok (.iconst 0, 1) := by decide +kernel
theorem dX6_countHeldBy_3 : decode cX6_countHeldBy 3 = .ok (.istore_n 3, 1) := by decide +kernel
theorem dX6_countHeldBy_4 : decode cX6_countHeldBy 4 = .ok (.iload_n 3, 1) := by decide +kernel
theorem dX6_countHeldBy_5 : decode cX6_countHeldBy 5 = .ok (.aload_n 0, 1) := by decide +kernel
theorem dX6_countHeldBy_6 : decode cX6_countHeldBy 6 = .ok (.getfield 24, 3) := by decide +kernel
theorem dX6_countHeldBy_9 : decode cX6_countHeldBy 9 = .ok (.if_icmp .ge 32, 3) := by decide +kernel
theorem dX6_countHeldBy_12 : decode cX6_countHeldBy 12 = .ok (.aload_n 0, 1) := by decide +kernel
theorem dX6_countHeldBy_13 : decode cX6_countHeldBy 13 = .ok (.iload_n 3, 1) := by decide +kernel
theorem dX6_countHeldBy_14 : decode cX6_countHeldBy 14 = .ok (.invokevirtual 39, 3) := by decide +kernel
theorem dX6_countHeldBy_17 : decode cX6_countHeldBy 17 = .ok (.ifCond .eq 18, 3) := by decide +kernel
theorem dX6_countHeldBy_20 : decode cX6_countHeldBy 20 = .ok (.aload_n 0, 1) := by decide +kernel
theorem dX6_countHeldBy_21 : decode cX6_countHeldBy 21 = .ok (.getfield 9, 3) := by decide +kernel
theorem dX6_countHeldBy_24 : decode cX6_countHeldBy 24 = .ok (.iload_n 3, 1) := by decide +kernel
theorem dX6_countHeldBy_25 : decode cX6_countHeldBy 25 = .ok (.invokestatic 35, 3) := by decide +kernel
theorem dX6_countHeldBy_28 : decode cX6_countHeldBy 28 = .ok (.iload_n 1, 1) := by decide +kernel
theorem dX6_countHeldBy_29 : decode cX6_countHeldBy 29 = .ok (.if_icmp .ne 6, 3) := by decide +kernel
theorem dX6_countHeldBy_32 : decode cX6_countHeldBy 32 = .ok (.iinc 2 1, 3) := by decide +kernel
theorem dX6_countHeldBy_35 : decode cX6_countHeldBy 35 = .ok (.iinc 3 1, 3) := by decide +kernel
theorem dX6_countHeldBy_38 : decode cX6_countHeldBy 38 = .ok (.goto (-34), 3) := by decide +kernel
theorem dX6_countHeldBy_41 : decode cX6_countHeldBy 41 = .ok (.iload_n 2, 1) := by decide +kernel
theorem dX6_countHeldBy_42 : decode cX6_countHeldBy 42 = .ok (.ireturn, 1) := by decide +kernel
theorem dX6_countHeldBehind_0 : decode cX6_countHeldBehind 0 = .ok (.iconst 0, 1) := by decide +kernel
theorem dX6_countHeldBehind_1 : decode cX6_countHeldBehind 1 = .ok (.istore_n 3, 1) := by decide +kernel
theorem dX6_countHeldBehind_2 : decode cX6_countHeldBehind 2 = .ok (.iconst 0, 1) := by decide +kernel
theorem dX6_countHeldBehind_3 : decode cX6_countHeldBehind 3 = .ok (.istore 4, 2) := by decide +kernel
theorem dX6_countHeldBehind_5 : decode cX6_countHeldBehind 5 = .ok (.iload 4, 2) := by decide +kernel
theorem dX6_countHeldBehind_7 : decode cX6_countHeldBehind 7 = .ok (.aload_n 0, 1) := by decide +kernel
theorem dX6_countHeldBehind_8 : decode cX6_countHeldBehind 8 = .ok (.getfield 24, 3) := by decide +kernel
theorem dX6_countHeldBehind_11 : decode cX6_countHeldBehind 11 = .ok (.if_icmp .ge 23, 3) := by decide +kernel
theorem dX6_countHeldBehind_14 : decode cX6_countHeldBehind 14 = .ok (.aload_n 0, 1) := by decide +kernel
theorem dX6_countHeldBehind_15 : decode cX6_countHeldBehind 15 = .ok (.iload 4, 2) := by decide +kernel
theorem dX6_countHeldBehind_17 : decode cX6_countHeldBehind 17 = .ok (.iload_n 1, 1) := by decide +kernel
theorem dX6_countHeldBehind_18 : decode cX6_countHeldBehind 18 = .ok (.iload_n 2, 1) := by decide +kernel
theorem dX6_countHeldBehind_19 : decode cX6_countHeldBehind 19 = .ok (.invokevirtual 43, 3) := by decide +kernel
theorem dX6_countHeldBehind_22 : decode cX6_countHeldBehind 22 = .ok (.ifCond .eq 6, 3) := by decide +kernel
theorem dX6_countHeldBehind_25 : decode cX6_countHeldBehind 25 = .ok (.iinc 3 1, 3) := by decide +kernel
theorem dX6_countHeldBehind_28 : decode cX6_countHeldBehind 28 = .ok (.iinc 4 1, 3) := by decide +kernel
theorem dX6_countHeldBehind_31 : decode cX6_countHeldBehind 31 = .ok (.goto (-26), 3) := by decide +kernel
theorem dX6_countHeldBehind_34 : decode cX6_countHeldBehind 34 = .ok (.iload_n 3, 1) := by decide +kernel
theorem dX6_countHeldBehind_35 : decode cX6_countHeldBehind 35 = .ok (.ireturn, 1) := by decide +kernel
theorem dX6_loseBehind_0 : decode cX6_loseBehind 0 = .ok (.iconst 0, 1) := by decide +kernel
theorem dX6_loseBehind_1 : decode cX6_loseBehind 1 = .ok (.istore_n 3, 1) := by decide +kernel
theorem dX6_loseBehind_2 : decode cX6_loseBehind 2 = .ok (.iload_n 3, 1) := by decide +kernel
theorem dX6_loseBehind_3 : decode cX6_loseBehind 3 = .ok (.aload_n 0, 1) := by decide +kernel
theorem dX6_loseBehind_4 : decode cX6_loseBehind 4 = .ok (.getfield 24, 3) := by decide +kernel
theorem dX6_loseBehind_7 : decode cX6_loseBehind 7 = .ok (.if_icmp .ge 28, 3) := by decide +kernel
theorem dX6_loseBehind_10 : decode cX6_loseBehind 10 = .ok (.aload_n 0, 1) := by decide +kernel
theorem dX6_loseBehind_11 : decode cX6_loseBehind 11 = .ok (.iload_n 3, 1) := by decide +kernel
theorem dX6_loseBehind_12 : decode cX6_loseBehind 12 = .ok (.iload_n 1, 1) := by decide +kernel
theorem dX6_loseBehind_13 : decode cX6_loseBehind 13 = .ok (.iload_n 2, 1) := by decide +kernel
theorem dX6_loseBehind_14 : decode cX6_loseBehind 14 = .ok (.invokevirtual 43, 3) := by decide +kernel
theorem dX6_loseBehind_17 : decode cX6_loseBehind 17 = .ok (.ifCond .eq 12, 3) := by decide +kernel
theorem dX6_loseBehind_20 : decode cX6_loseBehind 20 = .ok (.aload_n 0, 1) := by decide +kernel
theorem dX6_loseBehind_21 : decode cX6_loseBehind 21 = .ok (.getfield 18, 3) := by decide +kernel
theorem dX6_loseBehind_24 : decode cX6_loseBehind 24 = .ok (.iload_n 3, 1) := by decide +kernel
theorem dX6_loseBehind_25 : decode cX6_loseBehind 25 = .ok (.iconst 2, 1) := by decide +kernel
theorem dX6_loseBehind_26 : decode cX6_loseBehind 26 = .ok (.invokestatic 31, 3) := by decide +kernel
theorem dX6_loseBehind_29 : decode cX6_loseBehind 29 = .ok (.iinc 3 1, 3) := by decide +kernel
theorem dX6_loseBehind_32 : decode cX6_loseBehind 32 = .ok (.goto (-30), 3) := by decide +kernel
theorem dX6_loseBehind_35 : decode cX6_loseBehind 35 = .ok (.return_, 1) := by decide +kernel
theorem dX6_isHeldBehind_0 : decode cX6_isHeldBehind 0 = .ok (.aload_n 0, 1) := by decide +kernel
theorem dX6_isHeldBehind_1 : decode cX6_isHeldBehind 1 = .ok (.iload_n 1, 1) := by decide +kernel
theorem dX6_isHeldBehind_2 : decode cX6_isHeldBehind 2 = .ok (.invokevirtual 39, 3) := by decide +kernel
theorem dX6_isHeldBehind_5 : decode cX6_isHeldBehind 5 = .ok (.ifCond .eq 31, 3) := by decide +kernel
theorem dX6_isHeldBehind_8 : decode cX6_isHeldBehind 8 = .ok (.aload_n 0, 1) := by decide +kernel
theorem dX6_isHeldBehind_9 : decode cX6_isHeldBehind 9 = .ok (.getfield 9, 3) := by decide +kernel
theorem dX6_isHeldBehind_12 : decode cX6_isHeldBehind 12 = .ok (.iload_n 1, 1) := by decide +kernel
theorem dX6_isHeldBehind_13 : decode cX6_isHeldBehind 13 = .ok (.invokestatic 35, 3) := by decide +kernel
theorem dX6_isHeldBehind_16 : decode cX6_isHeldBehind 16 = .ok (.iload_n 2, 1) := by decide +kernel
theorem dX6_isHeldBehind_17 : decode cX6_isHeldBehind 17 = .ok (.if_icmp .ne 19, 3) := by decide +kernel
theorem dX6_isHeldBehind_20 : decode cX6_isHeldBehind 20 = .ok (.aload_n 0, 1) := by decide +kernel
theorem dX6_isHeldBehind_21 : decode cX6_isHeldBehind 21 = .ok (.getfield 15, 3) := by decide +kernel
theorem dX6_isHeldBehind_24 : decode cX6_isHeldBehind 24 = .ok (.iload_n 1, 1) := by decide +kernel
theorem dX6_isHeldBehind_25 : decode cX6_isHeldBehind 25 = .ok (.invokestatic 35, 3) := by decide +kernel
theorem dX6_isHeldBehind_28 : decode cX6_isHeldBehind 28 = .ok (.iload_n 3, 1) := by decide +kernel
theorem dX6_isHeldBehind_29 : decode cX6_isHeldBehind 29 = .ok (.if_icmp .le 7, 3) := by decide +kernel
theorem dX6_isHeldBehind_32 : decode cX6_isHeldBehind 32 = .ok (.iconst 1, 1) := by decide +kernel
theorem dX6_isHeldBehind_33 : decode cX6_isHeldBehind 33 = .ok (.goto 4, 3) := by decide +kernel
theorem dX6_isHeldBehind_36 : decode cX6_isHeldBehind 36 = .ok (.iconst 0, 1) := by decide +kernel
theorem dX6_isHeldBehind_37 : decode cX6_isHeldBehind 37 = .ok (.ireturn, 1) := by decide +kernel
theorem dX6_goesAhead_0 : decode cX6_goesAhead 0 = .ok (.aload_n 0, 1) := by decide +kernel
theorem dX6_goesAhead_1 : decode cX6_goesAhead 1 = .ok (.getfield 15, 3) := by decide +kernel
theorem dX6_goesAhead_4 : decode cX6_goesAhead 4 = .ok (.iload_n 1, 1) := by decide +kernel
theorem dX6_goesAhead_5 : decode cX6_goesAhead 5 = .ok (.invokestatic 35, 3) := by decide +kernel
theorem dX6_goesAhead_8 : decode cX6_goesAhead 8 = .ok (.aload_n 0, 1) := by decide +kernel
theorem dX6_goesAhead_9 : decode cX6_goesAhead 9 = .ok (.getfield 15, 3) := by decide +kernel
theorem dX6_goesAhead_12 : decode cX6_goesAhead 12 = .ok (.iload_n 2, 1) := by decide +kernel
theorem dX6_goesAhead_13 : decode cX6_goesAhead 13 = .ok (.invokestatic 35, 3) := by decide +kernel
theorem dX6_goesAhead_16 : decode cX6_goesAhead 16 = .ok (.if_icmp .eq 28, 3) := by decide +kernel
theorem dX6_goesAhead_19 : decode cX6_goesAhead 19 = .ok (.aload_n 0, 1) := by decide +kernel
theorem dX6_goesAhead_20 : decode cX6_goesAhead 20 = .ok (.getfield 15, 3) := by decide +kernel
theorem dX6_goesAhead_23 : decode cX6_goesAhead 23 = .ok (.iload_n 1, 1) := by decide +kernel
theorem dX6_goesAhead_24 : decode cX6_goesAhead 24 = .ok (.invokestatic 35, 3) := by decide +kernel
theorem dX6_goesAhead_27 : decode cX6_goesAhead 27 = .ok (.aload_n 0, 1) := by decide +kernel
theorem dX6_goesAhead_28 : decode cX6_goesAhead 28 = .ok (.getfield 15, 3) := by decide +kernel
theorem dX6_goesAhead_31 : decode cX6_goesAhead 31 = .ok (.iload_n 2, 1) := by decide +kernel
theorem dX6_goesAhead_32 : decode cX6_goesAhead 32 = .ok (.invokestatic 35, 3) := by decide +kernel
theorem dX6_goesAhead_35 : decode cX6_goesAhead 35 = .ok (.if_icmp .ge 7, 3) := by decide +kernel
theorem dX6_goesAhead_38 : decode cX6_goesAhead 38 = .ok (.iconst 1, 1) := by decide +kernel
theorem dX6_goesAhead_39 : decode cX6_goesAhead 39 = .ok (.goto 4, 3) := by decide +kernel
theorem dX6_goesAhead_42 : decode cX6_goesAhead 42 = .ok (.iconst 0, 1) := by decide +kernel
theorem dX6_goesAhead_43 : decode cX6_goesAhead 43 = .ok (.ireturn, 1) := by decide +kernel
theorem dX6_goesAhead_44 : decode cX6_goesAhead 44 = .ok (.aload_n 0, 1) := by decide +kernel
theorem dX6_goesAhead_45 : decode cX6_goesAhead 45 = .ok (.getfield 9, 3) := by decide +kernel
theorem dX6_goesAhead_48 : decode cX6_goesAhead 48 = .ok (.iload_n 1, 1) := by decide +kernel
theorem dX6_goesAhead_49 : decode cX6_goesAhead 49 = .ok (.invokestatic 35, 3) := by decide +kernel
theorem dX6_goesAhead_52 : decode cX6_goesAhead 52 = .ok (.aload_n 0, 1) := by decide +kernel
theorem dX6_goesAhead_53 : decode cX6_goesAhead 53 = .ok (.getfield 9, 3) := by decide +kernel
theorem dX6_goesAhead_56 : decode cX6_goesAhead 56 = .ok (.iload_n 2, 1) := by decide +kernel
theorem dX6_goesAhead_57 : decode cX6_goesAhead 57 = .ok (.invokestatic 35, 3) := by decide +kernel
theorem dX6_goesAhead_60 : decode cX6_goesAhead 60 = .ok (.if_icmp .ge 7, 3) := by decide +kernel
theorem dX6_goesAhead_63 : decode cX6_goesAhead 63 = .ok (.iconst 1, 1) := by decide +kernel
theorem dX6_goesAhead_64 : decode cX6_goesAhead 64 = .ok (.goto 4, 3) := by decide +kernel
theorem dX6_goesAhead_67 : decode cX6_goesAhead 67 = .ok (.iconst 0, 1) := by decide +kernel
theorem dX6_goesAhead_68 : decode cX6_goesAhead 68 = .ok (.ireturn, 1) := by decide +kernel
theorem dX6_markReleased_0 : decode cX6_markReleased 0 = .ok (.aload_n 0, 1) := by decide +kernel
theorem dX6_markReleased_1 : decode cX6_markReleased 1 = .ok (.getfield 18, 3) := by decide +kernel
theorem dX6_markReleased_4 : decode cX6_markReleased 4 = .ok (.iload_n 1, 1) := by decide +kernel
theorem dX6_markReleased_5 : decode cX6_markReleased 5 = .ok (.iconst 1, 1) := by decide +kernel
theorem dX6_markReleased_6 : decode cX6_markReleased 6 = .ok (.invokestatic 31, 3) := by decide +kernel
theorem dX6_markReleased_9 : decode cX6_markReleased 9 = .ok (.aload_n 0, 1) := by decide +kernel
theorem dX6_markReleased_10 : decode cX6_markReleased 10 = .ok (.getfield 21, 3) := by decide +kernel
theorem dX6_markReleased_13 : decode cX6_markReleased 13 = .ok (.aload_n 0, 1) := by decide +kernel
theorem dX6_markReleased_14 : decode cX6_markReleased 14 = .ok (.getfield 28, 3) := by decide +kernel
theorem dX6_markReleased_17 : decode cX6_markReleased 17 = .ok (.iload_n 1, 1) := by decide +kernel
theorem dX6_markReleased_18 : decode cX6_markReleased 18 = .ok (.invokestatic 31, 3) := by decide +kernel
theorem dX6_markReleased_21 : decode cX6_markReleased 21 = .ok (.aload_n 0, 1) := by decide +kernel
theorem dX6_markReleased_22 : decode cX6_markReleased 22 = .ok (.dup, 1) := by decide +kernel
theorem dX6_markReleased_23 : decode cX6_markReleased 23 = .ok (.getfield 28, 3) := by decide +kernel
theorem dX6_markReleased_26 : decode cX6_markReleased 26 = .ok (.iconst 1, 1) := by decide +kernel
theorem dX6_markReleased_27 : decode cX6_markReleased 27 = .ok (.iadd, 1) := by decide +kernel
theorem dX6_markReleased_28 : decode cX6_markReleased 28 = .ok (.putfield 28, 3) := by decide +kernel
theorem dX6_markReleased_31 : decode cX6_markReleased 31 = .ok (.return_, 1) := by decide +kernel
theorem dX6_releasedAt_0 : decode cX6_releasedAt 0 = .ok (.iload_n 1, 1) := by decide +kernel
theorem dX6_releasedAt_1 : decode cX6_releasedAt 1 = .ok (.ifCond .lt 22, 3) := by decide +kernel
theorem dX6_releasedAt_4 : decode cX6_releasedAt 4 = .ok (.iload_n 1, 1) := by decide +kernel
theorem dX6_releasedAt_5 : decode cX6_releasedAt 5 = .ok (.aload_n 0, 1) := by decide +kernel
theorem dX6_releasedAt_6 : decode cX6_releasedAt 6 = .ok (.getfield 28, 3) := by decide +kernel
theorem dX6_releasedAt_9 : decode cX6_releasedAt 9 = .ok (.if_icmp .ge 14, 3) := by decide +kernel
theorem dX6_releasedAt_12 : decode cX6_releasedAt 12 = .ok (.aload_n 0, 1) := by decide +kernel
theorem dX6_releasedAt_13 : decode cX6_releasedAt 13 = .ok (.getfield 21, 3) := by decide +kernel
theorem dX6_releasedAt_16 : decode cX6_releasedAt 16 = .ok (.iload_n 1, 1) := by decide +kernel
theorem dX6_releasedAt_17 : decode cX6_releasedAt 17 = .ok (.invokestatic 35, 3) := by decide +kernel
theorem dX6_releasedAt_20 : decode cX6_releasedAt 20 = .ok (.goto 4, 3) := by decide +kernel
theorem dX6_releasedAt_23 : decode cX6_releasedAt 23 = .ok (.iconst (-1), 1) := by decide +kernel
theorem dX6_releasedAt_24 : decode cX6_releasedAt 24 = .ok (.ireturn, 1) := by decide +kernel
theorem dX7_init_0 : decode cX7_init 0 = .ok (.aload_n 0, 1) := by decide +kernel
theorem dX7_init_1 : decode cX7_init 1 = .ok (.invokespecial 3, 3) := by decide +kernel
theorem dX7_init_4 : decode cX7_init 4 = .ok (.return_, 1) := by decide +kernel
theorem dX7_counted_0 : decode cX7_counted 0 = .ok (.iload_n 1, 1) := by decide +kernel
theorem dX7_counted_1 : decode cX7_counted 1 = .ok (.bipush (-2), 2) := by decide +kernel
theorem dX7_counted_3 : decode cX7_counted 3 = .ok (.if_icmp .ne 13, 3) := by decide +kernel
theorem dX7_counted_6 : decode cX7_counted 6 = .ok (.aload_n 0, 1) := by decide +kernel
theorem dX7_counted_7 : decode cX7_counted 7 = .ok (.dup, 1) := by decide +kernel
theorem dX7_counted_8 : decode cX7_counted 8 = .ok (.getfield 9, 3) := by decide +kernel
theorem dX7_counted_11 : decode cX7_counted 11 = .ok (.iconst 1, 1) := by decide +kernel
theorem dX7_counted_12 : decode cX7_counted 12 = .ok (.iadd, 1) := by decide +kernel
theorem dX7_counted_13 : decode cX7_counted 13 = .ok (.putfield 9, 3) := by decide +kernel
theorem dX7_counted_16 : decode cX7_counted 16 = .ok (.iload_n 1, 1) := by decide +kernel
theorem dX7_counted_17 : decode cX7_counted 17 = .ok (.bipush (-3), 2) := by decide +kernel
theorem dX7_counted_19 : decode cX7_counted 19 = .ok (.if_icmp .ne 13, 3) := by decide +kernel
theorem dX7_counted_22 : decode cX7_counted 22 = .ok (.aload_n 0, 1) := by decide +kernel
theorem dX7_counted_23 : decode cX7_counted 23 = .ok (.dup, 1) := by decide +kernel
theorem dX7_counted_24 : decode cX7_counted 24 = .ok (.getfield 15, 3) := by decide +kernel
theorem dX7_counted_27 : decode cX7_counted 27 = .ok (.iconst 1, 1) := by decide +kernel
theorem dX7_counted_28 : decode cX7_counted 28 = .ok (.iadd, 1) := by decide +kernel
theorem dX7_counted_29 : decode cX7_counted 29 = .ok (.putfield 15, 3) := by decide +kernel
theorem dX7_counted_32 : decode cX7_counted 32 = .ok (.iload_n 1, 1) := by decide +kernel
theorem dX7_counted_33 : decode cX7_counted 33 = .ok (.bipush (-4), 2) := by decide +kernel
theorem dX7_counted_35 : decode cX7_counted 35 = .ok (.if_icmp .ne 13, 3) := by decide +kernel
theorem dX7_counted_38 : decode cX7_counted 38 = .ok (.aload_n 0, 1) := by decide +kernel
theorem dX7_counted_39 : decode cX7_counted 39 = .ok (.dup, 1) := by decide +kernel
theorem dX7_counted_40 : decode cX7_counted 40 = .ok (.getfield 18, 3) := by decide +kernel
theorem dX7_counted_43 : decode cX7_counted 43 = .ok (.iconst 1, 1) := by decide +kernel
theorem dX7_counted_44 : decode cX7_counted 44 = .ok (.iadd, 1) := by decide +kernel
theorem dX7_counted_45 : decode cX7_counted 45 = .ok (.putfield 18, 3) := by decide +kernel
theorem dX7_counted_48 : decode cX7_counted 48 = .ok (.iload_n 1, 1) := by decide +kernel
theorem dX7_counted_49 : decode cX7_counted 49 = .ok (.ireturn, 1) := by decide +kernel
theorem dX8_init_0 : decode cX8_init 0 = .ok (.aload_n 0, 1) := by decide +kernel
