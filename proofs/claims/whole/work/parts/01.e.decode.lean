theorem dX10_begins_60 : decode cX10_begins 60 = .ok (.iconst 5, 1) := by decide +kernel
theorem dX10_begins_61 : decode cX10_begins 61 = .ok (.if_icmp .ge 33, 3) := by decide +kernel
theorem dX10_begins_64 : decode cX10_begins 64 = .ok (.aload_n 0, 1) := by decide +kernel
theorem dX10_begins_65 : decode cX10_begins 65 = .ok (.getfield 35, 3) := by decide +kernel
theorem dX10_begins_68 : decode cX10_begins 68 = .ok (.iload_n 1, 1) := by decide +kernel
theorem dX10_begins_69 : decode cX10_begins 69 = .ok (.iconst 0, 1) := by decide +kernel
theorem dX10_begins_70 : decode cX10_begins 70 = .ok (.iload_n 2, 1) := by decide +kernel
theorem dX10_begins_71 : decode cX10_begins 71 = .ok (.invokestatic 67, 3) := by decide +kernel
theorem dX10_begins_74 : decode cX10_begins 74 = .ok (.iconst 0, 1) := by decide +kernel
theorem dX10_begins_75 : decode cX10_begins 75 = .ok (.iastore, 1) := by decide +kernel
theorem dX10_begins_76 : decode cX10_begins 76 = .ok (.aload_n 0, 1) := by decide +kernel
theorem dX10_begins_77 : decode cX10_begins 77 = .ok (.getfield 38, 3) := by decide +kernel
theorem dX10_begins_80 : decode cX10_begins 80 = .ok (.iload_n 1, 1) := by decide +kernel
theorem dX10_begins_81 : decode cX10_begins 81 = .ok (.iconst 0, 1) := by decide +kernel
theorem dX10_begins_82 : decode cX10_begins 82 = .ok (.iload_n 2, 1) := by decide +kernel
theorem dX10_begins_83 : decode cX10_begins 83 = .ok (.invokestatic 67, 3) := by decide +kernel
theorem dX10_begins_86 : decode cX10_begins 86 = .ok (.iconst 0, 1) := by decide +kernel
theorem dX10_begins_87 : decode cX10_begins 87 = .ok (.iastore, 1) := by decide +kernel
theorem dX10_begins_88 : decode cX10_begins 88 = .ok (.iinc 2 1, 3) := by decide +kernel
theorem dX10_begins_91 : decode cX10_begins 91 = .ok (.goto (-32), 3) := by decide +kernel
theorem dX10_begins_94 : decode cX10_begins 94 = .ok (.iinc 1 1, 3) := by decide +kernel
theorem dX10_begins_97 : decode cX10_begins 97 = .ok (.goto (-95), 3) := by decide +kernel
theorem dX10_begins_100 : decode cX10_begins 100 = .ok (.aload_n 0, 1) := by decide +kernel
theorem dX10_begins_101 : decode cX10_begins 101 = .ok (.iconst 0, 1) := by decide +kernel
theorem dX10_begins_102 : decode cX10_begins 102 = .ok (.putfield 71, 3) := by decide +kernel
theorem dX10_begins_105 : decode cX10_begins 105 = .ok (.aload_n 0, 1) := by decide +kernel
theorem dX10_begins_106 : decode cX10_begins 106 = .ok (.iconst 0, 1) := by decide +kernel
theorem dX10_begins_107 : decode cX10_begins 107 = .ok (.putfield 74, 3) := by decide +kernel
theorem dX10_begins_110 : decode cX10_begins 110 = .ok (.aload_n 0, 1) := by decide +kernel
theorem dX10_begins_111 : decode cX10_begins 111 = .ok (.iconst 0, 1) := by decide +kernel
theorem dX10_begins_112 : decode cX10_begins 112 = .ok (.putfield 77, 3) := by decide +kernel
theorem dX10_begins_115 : decode cX10_begins 115 = .ok (.aload_n 0, 1) := by decide +kernel
theorem dX10_begins_116 : decode cX10_begins 116 = .ok (.iconst 0, 1) := by decide +kernel
theorem dX10_begins_117 : decode cX10_begins 117 = .ok (.putfield 80, 3) := by decide +kernel
theorem dX10_begins_120 : decode cX10_begins 120 = .ok (.return_, 1) := by decide +kernel
theorem dX10_clerks_0 : decode cX10_clerks 0 = .ok (.iload_n 1, 1) := by decide +kernel
theorem dX10_clerks_1 : decode cX10_clerks 1 = .ok (.i2l, 1) := by decide +kernel
theorem dX10_clerks_2 : decode cX10_clerks 2 = .ok (.ldc2_w 83, 3) := by decide +kernel
theorem dX10_clerks_5 : decode cX10_clerks 5 = .ok (.ldc2_w 85, 3) := by decide +kernel
theorem dX10_clerks_8 : decode cX10_clerks 8 = .ok (.invokestatic 59, 3) := by decide +kernel
theorem dX10_clerks_11 : decode cX10_clerks 11 = .ok (.ifCond .ne 8, 3) := by decide +kernel
theorem dX10_clerks_14 : decode cX10_clerks 14 = .ok (.aload_n 0, 1) := by decide +kernel
theorem dX10_clerks_15 : decode cX10_clerks 15 = .ok (.invokevirtual 87, 3) := by decide +kernel
theorem dX10_clerks_18 : decode cX10_clerks 18 = .ok (.ireturn, 1) := by decide +kernel
theorem dX10_clerks_19 : decode cX10_clerks 19 = .ok (.aload_n 0, 1) := by decide +kernel
theorem dX10_clerks_20 : decode cX10_clerks 20 = .ok (.getfield 7, 3) := by decide +kernel
theorem dX10_clerks_23 : decode cX10_clerks 23 = .ok (.istore_n 2, 1) := by decide +kernel
theorem dX10_clerks_24 : decode cX10_clerks 24 = .ok (.aload_n 0, 1) := by decide +kernel
theorem dX10_clerks_25 : decode cX10_clerks 25 = .ok (.iload_n 1, 1) := by decide +kernel
theorem dX10_clerks_26 : decode cX10_clerks 26 = .ok (.putfield 7, 3) := by decide +kernel
theorem dX10_clerks_29 : decode cX10_clerks 29 = .ok (.aload_n 0, 1) := by decide +kernel
theorem dX10_clerks_30 : decode cX10_clerks 30 = .ok (.invokevirtual 91, 3) := by decide +kernel
theorem dX10_clerks_33 : decode cX10_clerks 33 = .ok (.iload_n 2, 1) := by decide +kernel
theorem dX10_clerks_34 : decode cX10_clerks 34 = .ok (.ireturn, 1) := by decide +kernel
theorem dX10_writesPage_0 : decode cX10_writesPage 0 = .ok (.aload_n 0, 1) := by decide +kernel
theorem dX10_writesPage_1 : decode cX10_writesPage 1 = .ok (.getfield 17, 3) := by decide +kernel
theorem dX10_writesPage_4 : decode cX10_writesPage 4 = .ok (.iload_n 1, 1) := by decide +kernel
theorem dX10_writesPage_5 : decode cX10_writesPage 5 = .ok (.iaload, 1) := by decide +kernel
theorem dX10_writesPage_6 : decode cX10_writesPage 6 = .ok (.iconst 1, 1) := by decide +kernel
theorem dX10_writesPage_7 : decode cX10_writesPage 7 = .ok (.iadd, 1) := by decide +kernel
theorem dX10_writesPage_8 : decode cX10_writesPage 8 = .ok (.istore_n 3, 1) := by decide +kernel
theorem dX10_writesPage_9 : decode cX10_writesPage 9 = .ok (.iload_n 3, 1) := by decide +kernel
theorem dX10_writesPage_10 : decode cX10_writesPage 10 = .ok (.bipush 24, 2) := by decide +kernel
theorem dX10_writesPage_12 : decode cX10_writesPage 12 = .ok (.if_icmp .ne 6, 3) := by decide +kernel
theorem dX10_writesPage_15 : decode cX10_writesPage 15 = .ok (.bipush (-4), 2) := by decide +kernel
theorem dX10_writesPage_17 : decode cX10_writesPage 17 = .ok (.ireturn, 1) := by decide +kernel
theorem dX10_writesPage_18 : decode cX10_writesPage 18 = .ok (.iconst 0, 1) := by decide +kernel
theorem dX10_writesPage_19 : decode cX10_writesPage 19 = .ok (.istore 4, 2) := by decide +kernel
theorem dX10_writesPage_21 : decode cX10_writesPage 21 = .ok (.iload 4, 2) := by decide +kernel
theorem dX10_writesPage_23 : decode cX10_writesPage 23 = .ok (.iconst 5, 1) := by decide +kernel
theorem dX10_writesPage_24 : decode cX10_writesPage 24 = .ok (.if_icmp .ge 61, 3) := by decide +kernel
theorem dX10_writesPage_27 : decode cX10_writesPage 27 = .ok (.aload_n 0, 1) := by decide +kernel
theorem dX10_writesPage_28 : decode cX10_writesPage 28 = .ok (.getfield 35, 3) := by decide +kernel
theorem dX10_writesPage_31 : decode cX10_writesPage 31 = .ok (.iload_n 1, 1) := by decide +kernel
theorem dX10_writesPage_32 : decode cX10_writesPage 32 = .ok (.iload_n 3, 1) := by decide +kernel
theorem dX10_writesPage_33 : decode cX10_writesPage 33 = .ok (.iload 4, 2) := by decide +kernel
theorem dX10_writesPage_35 : decode cX10_writesPage 35 = .ok (.invokestatic 67, 3) := by decide +kernel
theorem dX10_writesPage_38 : decode cX10_writesPage 38 = .ok (.aload_n 0, 1) := by decide +kernel
theorem dX10_writesPage_39 : decode cX10_writesPage 39 = .ok (.getfield 35, 3) := by decide +kernel
theorem dX10_writesPage_42 : decode cX10_writesPage 42 = .ok (.iload_n 1, 1) := by decide +kernel
theorem dX10_writesPage_43 : decode cX10_writesPage 43 = .ok (.iload_n 3, 1) := by decide +kernel
theorem dX10_writesPage_44 : decode cX10_writesPage 44 = .ok (.iconst 1, 1) := by decide +kernel
theorem dX10_writesPage_45 : decode cX10_writesPage 45 = .ok (.isub, 1) := by decide +kernel
theorem dX10_writesPage_46 : decode cX10_writesPage 46 = .ok (.iload 4, 2) := by decide +kernel
theorem dX10_writesPage_48 : decode cX10_writesPage 48 = .ok (.invokestatic 67, 3) := by decide +kernel
theorem dX10_writesPage_51 : decode cX10_writesPage 51 = .ok (.iaload, 1) := by decide +kernel
theorem dX10_writesPage_52 : decode cX10_writesPage 52 = .ok (.iastore, 1) := by decide +kernel
theorem dX10_writesPage_53 : decode cX10_writesPage 53 = .ok (.aload_n 0, 1) := by decide +kernel
theorem dX10_writesPage_54 : decode cX10_writesPage 54 = .ok (.getfield 38, 3) := by decide +kernel
theorem dX10_writesPage_57 : decode cX10_writesPage 57 = .ok (.iload_n 1, 1) := by decide +kernel
theorem dX10_writesPage_58 : decode cX10_writesPage 58 = .ok (.iload_n 3, 1) := by decide +kernel
theorem dX10_writesPage_59 : decode cX10_writesPage 59 = .ok (.iload 4, 2) := by decide +kernel
theorem dX10_writesPage_61 : decode cX10_writesPage 61 = .ok (.invokestatic 67, 3) := by decide +kernel
theorem dX10_writesPage_64 : decode cX10_writesPage 64 = .ok (.aload_n 0, 1) := by decide +kernel
theorem dX10_writesPage_65 : decode cX10_writesPage 65 = .ok (.getfield 38, 3) := by decide +kernel
theorem dX10_writesPage_68 : decode cX10_writesPage 68 = .ok (.iload_n 1, 1) := by decide +kernel
theorem dX10_writesPage_69 : decode cX10_writesPage 69 = .ok (.iload_n 3, 1) := by decide +kernel
theorem dX10_writesPage_70 : decode cX10_writesPage 70 = .ok (.iconst 1, 1) := by decide +kernel
theorem dX10_writesPage_71 : decode cX10_writesPage 71 = .ok (.isub, 1) := by decide +kernel
theorem dX10_writesPage_72 : decode cX10_writesPage 72 = .ok (.iload 4, 2) := by decide +kernel
theorem dX10_writesPage_74 : decode cX10_writesPage 74 = .ok (.invokestatic 67, 3) := by decide +kernel
theorem dX10_writesPage_77 : decode cX10_writesPage 77 = .ok (.iaload, 1) := by decide +kernel
theorem dX10_writesPage_78 : decode cX10_writesPage 78 = .ok (.iastore, 1) := by decide +kernel
theorem dX10_writesPage_79 : decode cX10_writesPage 79 = .ok (.iinc 4 1, 3) := by decide +kernel
theorem dX10_writesPage_82 : decode cX10_writesPage 82 = .ok (.goto (-61), 3) := by decide +kernel
theorem dX10_writesPage_85 : decode cX10_writesPage 85 = .ok (.aload_n 0, 1) := by decide +kernel
theorem dX10_writesPage_86 : decode cX10_writesPage 86 = .ok (.getfield 35, 3) := by decide +kernel
theorem dX10_writesPage_89 : decode cX10_writesPage 89 = .ok (.iload_n 1, 1) := by decide +kernel
theorem dX10_writesPage_90 : decode cX10_writesPage 90 = .ok (.iload_n 3, 1) := by decide +kernel
theorem dX10_writesPage_91 : decode cX10_writesPage 91 = .ok (.iload_n 1, 1) := by decide +kernel
theorem dX10_writesPage_92 : decode cX10_writesPage 92 = .ok (.invokestatic 67, 3) := by decide +kernel
theorem dX10_writesPage_95 : decode cX10_writesPage 95 = .ok (.aload_n 0, 1) := by decide +kernel
theorem dX10_writesPage_96 : decode cX10_writesPage 96 = .ok (.getfield 13, 3) := by decide +kernel
theorem dX10_writesPage_99 : decode cX10_writesPage 99 = .ok (.iload_n 1, 1) := by decide +kernel
theorem dX10_writesPage_100 : decode cX10_writesPage 100 = .ok (.iaload, 1) := by decide +kernel
theorem dX10_writesPage_101 : decode cX10_writesPage 101 = .ok (.iastore, 1) := by decide +kernel
theorem dX10_writesPage_102 : decode cX10_writesPage 102 = .ok (.aload_n 0, 1) := by decide +kernel
theorem dX10_writesPage_103 : decode cX10_writesPage 103 = .ok (.getfield 38, 3) := by decide +kernel
theorem dX10_writesPage_106 : decode cX10_writesPage 106 = .ok (.iload_n 1, 1) := by decide +kernel
theorem dX10_writesPage_107 : decode cX10_writesPage 107 = .ok (.iload_n 3, 1) := by decide +kernel
theorem dX10_writesPage_108 : decode cX10_writesPage 108 = .ok (.iload_n 1, 1) := by decide +kernel
theorem dX10_writesPage_109 : decode cX10_writesPage 109 = .ok (.invokestatic 67, 3) := by decide +kernel
theorem dX10_writesPage_112 : decode cX10_writesPage 112 = .ok (.iload_n 3, 1) := by decide +kernel
theorem dX10_writesPage_113 : decode cX10_writesPage 113 = .ok (.iastore, 1) := by decide +kernel
theorem dX10_writesPage_114 : decode cX10_writesPage 114 = .ok (.aload_n 0, 1) := by decide +kernel
theorem dX10_writesPage_115 : decode cX10_writesPage 115 = .ok (.getfield 29, 3) := by decide +kernel
theorem dX10_writesPage_118 : decode cX10_writesPage 118 = .ok (.iload_n 1, 1) := by decide +kernel
theorem dX10_writesPage_119 : decode cX10_writesPage 119 = .ok (.iload_n 3, 1) := by decide +kernel
theorem dX10_writesPage_120 : decode cX10_writesPage 120 = .ok (.invokestatic 63, 3) := by decide +kernel
theorem dX10_writesPage_123 : decode cX10_writesPage 123 = .ok (.aload_n 0, 1) := by decide +kernel
theorem dX10_writesPage_124 : decode cX10_writesPage 124 = .ok (.getfield 13, 3) := by decide +kernel
theorem dX10_writesPage_127 : decode cX10_writesPage 127 = .ok (.iload_n 1, 1) := by decide +kernel
theorem dX10_writesPage_128 : decode cX10_writesPage 128 = .ok (.iaload, 1) := by decide +kernel
theorem dX10_writesPage_129 : decode cX10_writesPage 129 = .ok (.iastore, 1) := by decide +kernel
theorem dX10_writesPage_130 : decode cX10_writesPage 130 = .ok (.aload_n 0, 1) := by decide +kernel
theorem dX10_writesPage_131 : decode cX10_writesPage 131 = .ok (.getfield 32, 3) := by decide +kernel
theorem dX10_writesPage_134 : decode cX10_writesPage 134 = .ok (.iload_n 1, 1) := by decide +kernel
theorem dX10_writesPage_135 : decode cX10_writesPage 135 = .ok (.iload_n 3, 1) := by decide +kernel
theorem dX10_writesPage_136 : decode cX10_writesPage 136 = .ok (.invokestatic 63, 3) := by decide +kernel
theorem dX10_writesPage_139 : decode cX10_writesPage 139 = .ok (.ldc2_w 94, 3) := by decide +kernel
theorem dX10_writesPage_142 : decode cX10_writesPage 142 = .ok (.aload_n 0, 1) := by decide +kernel
theorem dX10_writesPage_143 : decode cX10_writesPage 143 = .ok (.getfield 32, 3) := by decide +kernel
theorem dX10_writesPage_146 : decode cX10_writesPage 146 = .ok (.iload_n 1, 1) := by decide +kernel
theorem dX10_writesPage_147 : decode cX10_writesPage 147 = .ok (.iload_n 3, 1) := by decide +kernel
theorem dX10_writesPage_148 : decode cX10_writesPage 148 = .ok (.iconst 1, 1) := by decide +kernel
theorem dX10_writesPage_149 : decode cX10_writesPage 149 = .ok (.isub, 1) := by decide +kernel
theorem dX10_writesPage_150 : decode cX10_writesPage 150 = .ok (.invokestatic 63, 3) := by decide +kernel
theorem dX10_writesPage_153 : decode cX10_writesPage 153 = .ok (.iaload, 1) := by decide +kernel
theorem dX10_writesPage_154 : decode cX10_writesPage 154 = .ok (.i2l, 1) := by decide +kernel
theorem dX10_writesPage_155 : decode cX10_writesPage 155 = .ok (.lmul, 1) := by decide +kernel
theorem dX10_writesPage_156 : decode cX10_writesPage 156 = .ok (.iload_n 2, 1) := by decide +kernel
theorem dX10_writesPage_157 : decode cX10_writesPage 157 = .ok (.i2l, 1) := by decide +kernel
theorem dX10_writesPage_158 : decode cX10_writesPage 158 = .ok (.ladd, 1) := by decide +kernel
theorem dX10_writesPage_159 : decode cX10_writesPage 159 = .ok (.ldc2_w 96, 3) := by decide +kernel
theorem dX10_writesPage_162 : decode cX10_writesPage 162 = .ok (.lrem, 1) := by decide +kernel
theorem dX10_writesPage_163 : decode cX10_writesPage 163 = .ok (.l2i, 1) := by decide +kernel
theorem dX10_writesPage_164 : decode cX10_writesPage 164 = .ok (.iastore, 1) := by decide +kernel
theorem dX10_writesPage_165 : decode cX10_writesPage 165 = .ok (.aload_n 0, 1) := by decide +kernel
theorem dX10_writesPage_166 : decode cX10_writesPage 166 = .ok (.getfield 17, 3) := by decide +kernel
theorem dX10_writesPage_169 : decode cX10_writesPage 169 = .ok (.iload_n 1, 1) := by decide +kernel
theorem dX10_writesPage_170 : decode cX10_writesPage 170 = .ok (.iload_n 3, 1) := by decide +kernel
theorem dX10_writesPage_171 : decode cX10_writesPage 171 = .ok (.iastore, 1) := by decide +kernel
theorem dX10_writesPage_172 : decode cX10_writesPage 172 = .ok (.iload_n 3, 1) := by decide +kernel
theorem dX10_writesPage_173 : decode cX10_writesPage 173 = .ok (.ireturn, 1) := by decide +kernel
theorem dX10_work_0 : decode cX10_work 0 = .ok (.aload_n 0, 1) := by decide +kernel
theorem dX10_work_1 : decode cX10_work 1 = .ok (.iload_n 1, 1) := by decide +kernel
theorem dX10_work_2 : decode cX10_work 2 = .ok (.invokevirtual 98, 3) := by decide +kernel
theorem dX10_work_5 : decode cX10_work 5 = .ok (.ifCond .eq 15, 3) := by decide +kernel
theorem dX10_work_8 : decode cX10_work 8 = .ok (.iload_n 2, 1) := by decide +kernel
theorem dX10_work_9 : decode cX10_work 9 = .ok (.i2l, 1) := by decide +kernel
theorem dX10_work_10 : decode cX10_work 10 = .ok (.lconst 0, 1) := by decide +kernel
theorem dX10_work_11 : decode cX10_work 11 = .ok (.ldc2_w 102, 3) := by decide +kernel
theorem dX10_work_14 : decode cX10_work 14 = .ok (.invokestatic 59, 3) := by decide +kernel
theorem dX10_work_17 : decode cX10_work 17 = .ok (.ifCond .ne 10, 3) := by decide +kernel
theorem dX10_work_20 : decode cX10_work 20 = .ok (.aload_n 0, 1) := by decide +kernel
theorem dX10_work_21 : decode cX10_work 21 = .ok (.invokevirtual 87, 3) := by decide +kernel
theorem dX10_work_24 : decode cX10_work 24 = .ok (.goto 13, 3) := by decide +kernel
theorem dX10_work_27 : decode cX10_work 27 = .ok (.aload_n 0, 1) := by decide +kernel
theorem dX10_work_28 : decode cX10_work 28 = .ok (.aload_n 0, 1) := by decide +kernel
theorem dX10_work_29 : decode cX10_work 29 = .ok (.iload_n 1, 1) := by decide +kernel
theorem dX10_work_30 : decode cX10_work 30 = .ok (.iload_n 2, 1) := by decide +kernel
theorem dX10_work_31 : decode cX10_work 31 = .ok (.invokevirtual 104, 3) := by decide +kernel
theorem dX10_work_34 : decode cX10_work 34 = .ok (.invokevirtual 107, 3) := by decide +kernel
theorem dX10_work_37 : decode cX10_work 37 = .ok (.ireturn, 1) := by decide +kernel
theorem dX10_sends_0 : decode cX10_sends 0 = .ok (.aload_n 0, 1) := by decide +kernel
theorem dX10_sends_1 : decode cX10_sends 1 = .ok (.getfield 71, 3) := by decide +kernel
theorem dX10_sends_4 : decode cX10_sends 4 = .ok (.bipush 40, 2) := by decide +kernel
theorem dX10_sends_6 : decode cX10_sends 6 = .ok (.if_icmp .ne 6, 3) := by decide +kernel
theorem dX10_sends_9 : decode cX10_sends 9 = .ok (.bipush (-4), 2) := by decide +kernel
theorem dX10_sends_11 : decode cX10_sends 11 = .ok (.ireturn, 1) := by decide +kernel
theorem dX10_sends_12 : decode cX10_sends 12 = .ok (.bipush 13, 2) := by decide +kernel
theorem dX10_sends_14 : decode cX10_sends 14 = .ok (.aload_n 0, 1) := by decide +kernel
theorem dX10_sends_15 : decode cX10_sends 15 = .ok (.getfield 71, 3) := by decide +kernel
theorem dX10_sends_18 : decode cX10_sends 18 = .ok (.imul, 1) := by decide +kernel
theorem dX10_sends_19 : decode cX10_sends 19 = .ok (.istore_n 3, 1) := by decide +kernel
theorem dX10_sends_20 : decode cX10_sends 20 = .ok (.aload_n 0, 1) := by decide +kernel
theorem dX10_sends_21 : decode cX10_sends 21 = .ok (.getfield 41, 3) := by decide +kernel
theorem dX10_sends_24 : decode cX10_sends 24 = .ok (.iload_n 3, 1) := by decide +kernel
theorem dX10_sends_25 : decode cX10_sends 25 = .ok (.iload_n 2, 1) := by decide +kernel
theorem dX10_sends_26 : decode cX10_sends 26 = .ok (.iastore, 1) := by decide +kernel
theorem dX10_sends_27 : decode cX10_sends 27 = .ok (.aload_n 0, 1) := by decide +kernel
theorem dX10_sends_28 : decode cX10_sends 28 = .ok (.getfield 41, 3) := by decide +kernel
theorem dX10_sends_31 : decode cX10_sends 31 = .ok (.iload_n 3, 1) := by decide +kernel
theorem dX10_sends_32 : decode cX10_sends 32 = .ok (.iconst 1, 1) := by decide +kernel
theorem dX10_sends_33 : decode cX10_sends 33 = .ok (.iadd, 1) := by decide +kernel
theorem dX10_sends_34 : decode cX10_sends 34 = .ok (.iload_n 1, 1) := by decide +kernel
theorem dX10_sends_35 : decode cX10_sends 35 = .ok (.iastore, 1) := by decide +kernel
theorem dX10_sends_36 : decode cX10_sends 36 = .ok (.aload_n 0, 1) := by decide +kernel
theorem dX10_sends_37 : decode cX10_sends 37 = .ok (.getfield 41, 3) := by decide +kernel
theorem dX10_sends_40 : decode cX10_sends 40 = .ok (.iload_n 3, 1) := by decide +kernel
theorem dX10_sends_41 : decode cX10_sends 41 = .ok (.iconst 2, 1) := by decide +kernel
theorem dX10_sends_42 : decode cX10_sends 42 = .ok (.iadd, 1) := by decide +kernel
theorem dX10_sends_43 : decode cX10_sends 43 = .ok (.aload_n 0, 1) := by decide +kernel
theorem dX10_sends_44 : decode cX10_sends 44 = .ok (.getfield 32, 3) := by decide +kernel
theorem dX10_sends_47 : decode cX10_sends 47 = .ok (.iload_n 1, 1) := by decide +kernel
theorem dX10_sends_48 : decode cX10_sends 48 = .ok (.aload_n 0, 1) := by decide +kernel
theorem dX10_sends_49 : decode cX10_sends 49 = .ok (.getfield 17, 3) := by decide +kernel
theorem dX10_sends_52 : decode cX10_sends 52 = .ok (.iload_n 1, 1) := by decide +kernel
theorem dX10_sends_53 : decode cX10_sends 53 = .ok (.iaload, 1) := by decide +kernel
theorem dX10_sends_54 : decode cX10_sends 54 = .ok (.invokestatic 63, 3) := by decide +kernel
theorem dX10_sends_57 : decode cX10_sends 57 = .ok (.iaload, 1) := by decide +kernel
theorem dX10_sends_58 : decode cX10_sends 58 = .ok (.iastore, 1) := by decide +kernel
theorem dX10_sends_59 : decode cX10_sends 59 = .ok (.iconst 0, 1) := by decide +kernel
theorem dX10_sends_60 : decode cX10_sends 60 = .ok (.istore 4, 2) := by decide +kernel
theorem dX10_sends_62 : decode cX10_sends 62 = .ok (.iload 4, 2) := by decide +kernel
theorem dX10_sends_64 : decode cX10_sends 64 = .ok (.iconst 5, 1) := by decide +kernel
theorem dX10_sends_65 : decode cX10_sends 65 = .ok (.if_icmp .ge 66, 3) := by decide +kernel
theorem dX10_sends_68 : decode cX10_sends 68 = .ok (.aload_n 0, 1) := by decide +kernel
theorem dX10_sends_69 : decode cX10_sends 69 = .ok (.getfield 41, 3) := by decide +kernel
theorem dX10_sends_72 : decode cX10_sends 72 = .ok (.iload_n 3, 1) := by decide +kernel
theorem dX10_sends_73 : decode cX10_sends 73 = .ok (.iconst 3, 1) := by decide +kernel
theorem dX10_sends_74 : decode cX10_sends 74 = .ok (.iadd, 1) := by decide +kernel
theorem dX10_sends_75 : decode cX10_sends 75 = .ok (.iload 4, 2) := by decide +kernel
theorem dX10_sends_77 : decode cX10_sends 77 = .ok (.iadd, 1) := by decide +kernel
theorem dX10_sends_78 : decode cX10_sends 78 = .ok (.aload_n 0, 1) := by decide +kernel
theorem dX10_sends_79 : decode cX10_sends 79 = .ok (.getfield 35, 3) := by decide +kernel
theorem dX10_sends_82 : decode cX10_sends 82 = .ok (.iload_n 1, 1) := by decide +kernel
theorem dX10_sends_83 : decode cX10_sends 83 = .ok (.aload_n 0, 1) := by decide +kernel
theorem dX10_sends_84 : decode cX10_sends 84 = .ok (.getfield 17, 3) := by decide +kernel
theorem dX10_sends_87 : decode cX10_sends 87 = .ok (.iload_n 1, 1) := by decide +kernel
theorem dX10_sends_88 : decode cX10_sends 88 = .ok (.iaload, 1) := by decide +kernel
theorem dX10_sends_89 : decode cX10_sends 89 = .ok (.iload 4, 2) := by decide +kernel
theorem dX10_sends_91 : decode cX10_sends 91 = .ok (.invokestatic 67, 3) := by decide +kernel
theorem dX10_sends_94 : decode cX10_sends 94 = .ok (.iaload, 1) := by decide +kernel
theorem dX10_sends_95 : decode cX10_sends 95 = .ok (.iastore, 1) := by decide +kernel
theorem dX10_sends_96 : decode cX10_sends 96 = .ok (.aload_n 0, 1) := by decide +kernel
theorem dX10_sends_97 : decode cX10_sends 97 = .ok (.getfield 41, 3) := by decide +kernel
theorem dX10_sends_100 : decode cX10_sends 100 = .ok (.iload_n 3, 1) := by decide +kernel
theorem dX10_sends_101 : decode cX10_sends 101 = .ok (.bipush 8, 2) := by decide +kernel
theorem dX10_sends_103 : decode cX10_sends 103 = .ok (.iadd, 1) := by decide +kernel
theorem dX10_sends_104 : decode cX10_sends 104 = .ok (.iload 4, 2) := by decide +kernel
theorem dX10_sends_106 : decode cX10_sends 106 = .ok (.iadd, 1) := by decide +kernel
theorem dX10_sends_107 : decode cX10_sends 107 = .ok (.aload_n 0, 1) := by decide +kernel
theorem dX10_sends_108 : decode cX10_sends 108 = .ok (.getfield 38, 3) := by decide +kernel
theorem dX10_sends_111 : decode cX10_sends 111 = .ok (.iload_n 1, 1) := by decide +kernel
theorem dX10_sends_112 : decode cX10_sends 112 = .ok (.aload_n 0, 1) := by decide +kernel
theorem dX10_sends_113 : decode cX10_sends 113 = .ok (.getfield 17, 3) := by decide +kernel
theorem dX10_sends_116 : decode cX10_sends 116 = .ok (.iload_n 1, 1) := by decide +kernel
theorem dX10_sends_117 : decode cX10_sends 117 = .ok (.iaload, 1) := by decide +kernel
theorem dX10_sends_118 : decode cX10_sends 118 = .ok (.iload 4, 2) := by decide +kernel
theorem dX10_sends_120 : decode cX10_sends 120 = .ok (.invokestatic 67, 3) := by decide +kernel
theorem dX10_sends_123 : decode cX10_sends 123 = .ok (.iaload, 1) := by decide +kernel
theorem dX10_sends_124 : decode cX10_sends 124 = .ok (.iastore, 1) := by decide +kernel
theorem dX10_sends_125 : decode cX10_sends 125 = .ok (.iinc 4 1, 3) := by decide +kernel
theorem dX10_sends_128 : decode cX10_sends 128 = .ok (.goto (-66), 3) := by decide +kernel
theorem dX10_sends_131 : decode cX10_sends 131 = .ok (.aload_n 0, 1) := by decide +kernel
theorem dX10_sends_132 : decode cX10_sends 132 = .ok (.dup, 1) := by decide +kernel
theorem dX10_sends_133 : decode cX10_sends 133 = .ok (.getfield 71, 3) := by decide +kernel
theorem dX10_sends_136 : decode cX10_sends 136 = .ok (.iconst 1, 1) := by decide +kernel
theorem dX10_sends_137 : decode cX10_sends 137 = .ok (.iadd, 1) := by decide +kernel
theorem dX10_sends_138 : decode cX10_sends 138 = .ok (.putfield 71, 3) := by decide +kernel
theorem dX10_sends_141 : decode cX10_sends 141 = .ok (.aload_n 0, 1) := by decide +kernel
theorem dX10_sends_142 : decode cX10_sends 142 = .ok (.getfield 71, 3) := by decide +kernel
theorem dX10_sends_145 : decode cX10_sends 145 = .ok (.ireturn, 1) := by decide +kernel
theorem dX10_send_0 : decode cX10_send 0 = .ok (.aload_n 0, 1) := by decide +kernel
theorem dX10_send_1 : decode cX10_send 1 = .ok (.iload_n 1, 1) := by decide +kernel
theorem dX10_send_2 : decode cX10_send 2 = .ok (.invokevirtual 98, 3) := by decide +kernel
theorem dX10_send_5 : decode cX10_send 5 = .ok (.ifCond .eq 16, 3) := by decide +kernel
theorem dX10_send_8 : decode cX10_send 8 = .ok (.aload_n 0, 1) := by decide +kernel
theorem dX10_send_9 : decode cX10_send 9 = .ok (.iload_n 2, 1) := by decide +kernel
theorem dX10_send_10 : decode cX10_send 10 = .ok (.invokevirtual 98, 3) := by decide +kernel
theorem dX10_send_13 : decode cX10_send 13 = .ok (.ifCond .eq 8, 3) := by decide +kernel
theorem dX10_send_16 : decode cX10_send 16 = .ok (.iload_n 1, 1) := by decide +kernel
theorem dX10_send_17 : decode cX10_send 17 = .ok (.iload_n 2, 1) := by decide +kernel
theorem dX10_send_18 : decode cX10_send 18 = .ok (.if_icmp .ne 10, 3) := by decide +kernel
theorem dX10_send_21 : decode cX10_send 21 = .ok (.aload_n 0, 1) := by decide +kernel
theorem dX10_send_22 : decode cX10_send 22 = .ok (.invokevirtual 87, 3) := by decide +kernel
theorem dX10_send_25 : decode cX10_send 25 = .ok (.goto 13, 3) := by decide +kernel
theorem dX10_send_28 : decode cX10_send 28 = .ok (.aload_n 0, 1) := by decide +kernel
theorem dX10_send_29 : decode cX10_send 29 = .ok (.aload_n 0, 1) := by decide +kernel
theorem dX10_send_30 : decode cX10_send 30 = .ok (.iload_n 1, 1) := by decide +kernel
theorem dX10_send_31 : decode cX10_send 31 = .ok (.iload_n 2, 1) := by decide +kernel
theorem dX10_send_32 : decode cX10_send 32 = .ok (.invokevirtual 111, 3) := by decide +kernel
theorem dX10_send_35 : decode cX10_send 35 = .ok (.invokevirtual 107, 3) := by decide +kernel
theorem dX10_send_38 : decode cX10_send 38 = .ok (.ireturn, 1) := by decide +kernel
theorem dX10_isDead_0 : decode cX10_isDead 0 = .ok (.iconst 0, 1) := by decide +kernel
theorem dX10_isDead_1 : decode cX10_isDead 1 = .ok (.istore 4, 2) := by decide +kernel
theorem dX10_isDead_3 : decode cX10_isDead 3 = .ok (.iload_n 2, 1) := by decide +kernel
theorem dX10_isDead_4 : decode cX10_isDead 4 = .ok (.istore 5, 2) := by decide +kernel
theorem dX10_isDead_6 : decode cX10_isDead 6 = .ok (.iload 5, 2) := by decide +kernel
theorem dX10_isDead_8 : decode cX10_isDead 8 = .ok (.aload_n 0, 1) := by decide +kernel
theorem dX10_isDead_9 : decode cX10_isDead 9 = .ok (.getfield 13, 3) := by decide +kernel
theorem dX10_isDead_12 : decode cX10_isDead 12 = .ok (.iload_n 1, 1) := by decide +kernel
theorem dX10_isDead_13 : decode cX10_isDead 13 = .ok (.iaload, 1) := by decide +kernel
theorem dX10_isDead_14 : decode cX10_isDead 14 = .ok (.if_icmp .ge 38, 3) := by decide +kernel
theorem dX10_isDead_17 : decode cX10_isDead 17 = .ok (.iload 4, 2) := by decide +kernel
theorem dX10_isDead_19 : decode cX10_isDead 19 = .ok (.ifCond .ne 20, 3) := by decide +kernel
theorem dX10_isDead_22 : decode cX10_isDead 22 = .ok (.aload_n 0, 1) := by decide +kernel
theorem dX10_isDead_23 : decode cX10_isDead 23 = .ok (.getfield 26, 3) := by decide +kernel
theorem dX10_isDead_26 : decode cX10_isDead 26 = .ok (.sipush 128, 3) := by decide +kernel
theorem dX10_isDead_29 : decode cX10_isDead 29 = .ok (.iload_n 1, 1) := by decide +kernel
theorem dX10_isDead_30 : decode cX10_isDead 30 = .ok (.imul, 1) := by decide +kernel
theorem dX10_isDead_31 : decode cX10_isDead 31 = .ok (.iload 5, 2) := by decide +kernel
theorem dX10_isDead_33 : decode cX10_isDead 33 = .ok (.iadd, 1) := by decide +kernel
theorem dX10_isDead_34 : decode cX10_isDead 34 = .ok (.iaload, 1) := by decide +kernel
theorem dX10_isDead_35 : decode cX10_isDead 35 = .ok (.iload_n 3, 1) := by decide +kernel
theorem dX10_isDead_36 : decode cX10_isDead 36 = .ok (.if_icmp .ge 7, 3) := by decide +kernel
theorem dX10_isDead_39 : decode cX10_isDead 39 = .ok (.iconst 1, 1) := by decide +kernel
theorem dX10_isDead_40 : decode cX10_isDead 40 = .ok (.goto 4, 3) := by decide +kernel
theorem dX10_isDead_43 : decode cX10_isDead 43 = .ok (.iconst 0, 1) := by decide +kernel
theorem dX10_isDead_44 : decode cX10_isDead 44 = .ok (.istore 4, 2) := by decide +kernel
theorem dX10_isDead_46 : decode cX10_isDead 46 = .ok (.iinc 5 1, 3) := by decide +kernel
theorem dX10_isDead_49 : decode cX10_isDead 49 = .ok (.goto (-43), 3) := by decide +kernel
theorem dX10_isDead_52 : decode cX10_isDead 52 = .ok (.iload 4, 2) := by decide +kernel
theorem dX10_isDead_54 : decode cX10_isDead 54 = .ok (.ireturn, 1) := by decide +kernel
theorem dX10_isDeadLetter_0 : decode cX10_isDeadLetter 0 = .ok (.iconst 0, 1) := by decide +kernel
theorem dX10_isDeadLetter_1 : decode cX10_isDeadLetter 1 = .ok (.istore_n 2, 1) := by decide +kernel
theorem dX10_isDeadLetter_2 : decode cX10_isDeadLetter 2 = .ok (.iconst 0, 1) := by decide +kernel
theorem dX10_isDeadLetter_3 : decode cX10_isDeadLetter 3 = .ok (.istore_n 3, 1) := by decide +kernel
theorem dX10_isDeadLetter_4 : decode cX10_isDeadLetter 4 = .ok (.iload_n 3, 1) := by decide +kernel
theorem dX10_isDeadLetter_5 : decode cX10_isDeadLetter 5 = .ok (.aload_n 0, 1) := by decide +kernel
theorem dX10_isDeadLetter_6 : decode cX10_isDeadLetter 6 = .ok (.getfield 7, 3) := by decide +kernel
theorem dX10_isDeadLetter_9 : decode cX10_isDeadLetter 9 = .ok (.if_icmp .ge 54, 3) := by decide +kernel
theorem dX10_isDeadLetter_12 : decode cX10_isDeadLetter 12 = .ok (.iload_n 2, 1) := by decide +kernel
theorem dX10_isDeadLetter_13 : decode cX10_isDeadLetter 13 = .ok (.ifCond .ne 38, 3) := by decide +kernel
theorem dX10_isDeadLetter_16 : decode cX10_isDeadLetter 16 = .ok (.aload_n 0, 1) := by decide +kernel
theorem dX10_isDeadLetter_17 : decode cX10_isDeadLetter 17 = .ok (.iload_n 3, 1) := by decide +kernel
theorem dX10_isDeadLetter_18 : decode cX10_isDeadLetter 18 = .ok (.aload_n 0, 1) := by decide +kernel
theorem dX10_isDeadLetter_19 : decode cX10_isDeadLetter 19 = .ok (.getfield 41, 3) := by decide +kernel
theorem dX10_isDeadLetter_22 : decode cX10_isDeadLetter 22 = .ok (.bipush 13, 2) := by decide +kernel
theorem dX10_isDeadLetter_24 : decode cX10_isDeadLetter 24 = .ok (.iload_n 1, 1) := by decide +kernel
theorem dX10_isDeadLetter_25 : decode cX10_isDeadLetter 25 = .ok (.imul, 1) := by decide +kernel
theorem dX10_isDeadLetter_26 : decode cX10_isDeadLetter 26 = .ok (.iconst 3, 1) := by decide +kernel
theorem dX10_isDeadLetter_27 : decode cX10_isDeadLetter 27 = .ok (.iadd, 1) := by decide +kernel
theorem dX10_isDeadLetter_28 : decode cX10_isDeadLetter 28 = .ok (.iload_n 3, 1) := by decide +kernel
theorem dX10_isDeadLetter_29 : decode cX10_isDeadLetter 29 = .ok (.iadd, 1) := by decide +kernel
theorem dX10_isDeadLetter_30 : decode cX10_isDeadLetter 30 = .ok (.iaload, 1) := by decide +kernel
theorem dX10_isDeadLetter_31 : decode cX10_isDeadLetter 31 = .ok (.aload_n 0, 1) := by decide +kernel
theorem dX10_isDeadLetter_32 : decode cX10_isDeadLetter 32 = .ok (.getfield 41, 3) := by decide +kernel
theorem dX10_isDeadLetter_35 : decode cX10_isDeadLetter 35 = .ok (.bipush 13, 2) := by decide +kernel
theorem dX10_isDeadLetter_37 : decode cX10_isDeadLetter 37 = .ok (.iload_n 1, 1) := by decide +kernel
theorem dX10_isDeadLetter_38 : decode cX10_isDeadLetter 38 = .ok (.imul, 1) := by decide +kernel
theorem dX10_isDeadLetter_39 : decode cX10_isDeadLetter 39 = .ok (.bipush 8, 2) := by decide +kernel
theorem dX10_isDeadLetter_41 : decode cX10_isDeadLetter 41 = .ok (.iadd, 1) := by decide +kernel
theorem dX10_isDeadLetter_42 : decode cX10_isDeadLetter 42 = .ok (.iload_n 3, 1) := by decide +kernel
theorem dX10_isDeadLetter_43 : decode cX10_isDeadLetter 43 = .ok (.iadd, 1) := by decide +kernel
theorem dX10_isDeadLetter_44 : decode cX10_isDeadLetter 44 = .ok (.iaload, 1) := by decide +kernel
theorem dX10_isDeadLetter_45 : decode cX10_isDeadLetter 45 = .ok (.invokevirtual 114, 3) := by decide +kernel
theorem dX10_isDeadLetter_48 : decode cX10_isDeadLetter 48 = .ok (.ifCond .eq 7, 3) := by decide +kernel
theorem dX10_isDeadLetter_51 : decode cX10_isDeadLetter 51 = .ok (.iconst 1, 1) := by decide +kernel
theorem dX10_isDeadLetter_52 : decode cX10_isDeadLetter 52 = .ok (.goto 4, 3) := by decide +kernel
theorem dX10_isDeadLetter_55 : decode cX10_isDeadLetter 55 = .ok (.iconst 0, 1) := by decide +kernel
theorem dX10_isDeadLetter_56 : decode cX10_isDeadLetter 56 = .ok (.istore_n 2, 1) := by decide +kernel
theorem dX10_isDeadLetter_57 : decode cX10_isDeadLetter 57 = .ok (.iinc 3 1, 3) := by decide +kernel
theorem dX10_isDeadLetter_60 : decode cX10_isDeadLetter 60 = .ok (.goto (-56), 3) := by decide +kernel
theorem dX10_isDeadLetter_63 : decode cX10_isDeadLetter 63 = .ok (.iload_n 2, 1) := by decide +kernel
theorem dX10_isDeadLetter_64 : decode cX10_isDeadLetter 64 = .ok (.ireturn, 1) := by decide +kernel
theorem dX10_letterAt_0 : decode cX10_letterAt 0 = .ok (.iload_n 2, 1) := by decide +kernel
theorem dX10_letterAt_1 : decode cX10_letterAt 1 = .ok (.istore_n 3, 1) := by decide +kernel
theorem dX10_letterAt_2 : decode cX10_letterAt 2 = .ok (.iconst 0, 1) := by decide +kernel
theorem dX10_letterAt_3 : decode cX10_letterAt 3 = .ok (.istore 4, 2) := by decide +kernel
theorem dX10_letterAt_5 : decode cX10_letterAt 5 = .ok (.iload 4, 2) := by decide +kernel
theorem dX10_letterAt_7 : decode cX10_letterAt 7 = .ok (.aload_n 0, 1) := by decide +kernel
theorem dX10_letterAt_8 : decode cX10_letterAt 8 = .ok (.getfield 71, 3) := by decide +kernel
theorem dX10_letterAt_11 : decode cX10_letterAt 11 = .ok (.if_icmp .ge 33, 3) := by decide +kernel
theorem dX10_letterAt_14 : decode cX10_letterAt 14 = .ok (.aload_n 0, 1) := by decide +kernel
theorem dX10_letterAt_15 : decode cX10_letterAt 15 = .ok (.getfield 41, 3) := by decide +kernel
theorem dX10_letterAt_18 : decode cX10_letterAt 18 = .ok (.bipush 13, 2) := by decide +kernel
theorem dX10_letterAt_20 : decode cX10_letterAt 20 = .ok (.iload 4, 2) := by decide +kernel
theorem dX10_letterAt_22 : decode cX10_letterAt 22 = .ok (.imul, 1) := by decide +kernel
theorem dX10_letterAt_23 : decode cX10_letterAt 23 = .ok (.iaload, 1) := by decide +kernel
theorem dX10_letterAt_24 : decode cX10_letterAt 24 = .ok (.iload_n 1, 1) := by decide +kernel
theorem dX10_letterAt_25 : decode cX10_letterAt 25 = .ok (.if_icmp .ne 13, 3) := by decide +kernel
theorem dX10_letterAt_28 : decode cX10_letterAt 28 = .ok (.iload_n 3, 1) := by decide +kernel
theorem dX10_letterAt_29 : decode cX10_letterAt 29 = .ok (.ifCond .ne 6, 3) := by decide +kernel
theorem dX10_letterAt_32 : decode cX10_letterAt 32 = .ok (.iload 4, 2) := by decide +kernel
theorem dX10_letterAt_34 : decode cX10_letterAt 34 = .ok (.ireturn, 1) := by decide +kernel
theorem dX10_letterAt_35 : decode cX10_letterAt 35 = .ok (.iinc 3 (-1), 3) := by decide +kernel
theorem dX10_letterAt_38 : decode cX10_letterAt 38 = .ok (.iinc 4 1, 3) := by decide +kernel
theorem dX10_letterAt_41 : decode cX10_letterAt 41 = .ok (.goto (-36), 3) := by decide +kernel
theorem dX10_letterAt_44 : decode cX10_letterAt 44 = .ok (.iconst (-1), 1) := by decide +kernel
theorem dX10_letterAt_45 : decode cX10_letterAt 45 = .ok (.ireturn, 1) := by decide +kernel
theorem dX10_takeLetter_0 : decode cX10_takeLetter 0 = .ok (.aload_n 0, 1) := by decide +kernel
theorem dX10_takeLetter_1 : decode cX10_takeLetter 1 = .ok (.dup, 1) := by decide +kernel
theorem dX10_takeLetter_2 : decode cX10_takeLetter 2 = .ok (.getfield 71, 3) := by decide +kernel
theorem dX10_takeLetter_5 : decode cX10_takeLetter 5 = .ok (.iconst 1, 1) := by decide +kernel
theorem dX10_takeLetter_6 : decode cX10_takeLetter 6 = .ok (.isub, 1) := by decide +kernel
theorem dX10_takeLetter_7 : decode cX10_takeLetter 7 = .ok (.putfield 71, 3) := by decide +kernel
theorem dX10_takeLetter_10 : decode cX10_takeLetter 10 = .ok (.bipush 13, 2) := by decide +kernel
theorem dX10_takeLetter_12 : decode cX10_takeLetter 12 = .ok (.iload_n 1, 1) := by decide +kernel
theorem dX10_takeLetter_13 : decode cX10_takeLetter 13 = .ok (.imul, 1) := by decide +kernel
theorem dX10_takeLetter_14 : decode cX10_takeLetter 14 = .ok (.istore_n 2, 1) := by decide +kernel
theorem dX10_takeLetter_15 : decode cX10_takeLetter 15 = .ok (.iload_n 2, 1) := by decide +kernel
theorem dX10_takeLetter_16 : decode cX10_takeLetter 16 = .ok (.bipush 13, 2) := by decide +kernel
theorem dX10_takeLetter_18 : decode cX10_takeLetter 18 = .ok (.aload_n 0, 1) := by decide +kernel
theorem dX10_takeLetter_19 : decode cX10_takeLetter 19 = .ok (.getfield 71, 3) := by decide +kernel
theorem dX10_takeLetter_22 : decode cX10_takeLetter 22 = .ok (.imul, 1) := by decide +kernel
theorem dX10_takeLetter_23 : decode cX10_takeLetter 23 = .ok (.if_icmp .ge 24, 3) := by decide +kernel
theorem dX10_takeLetter_26 : decode cX10_takeLetter 26 = .ok (.aload_n 0, 1) := by decide +kernel
theorem dX10_takeLetter_27 : decode cX10_takeLetter 27 = .ok (.getfield 41, 3) := by decide +kernel
theorem dX10_takeLetter_30 : decode cX10_takeLetter 30 = .ok (.iload_n 2, 1) := by decide +kernel
theorem dX10_takeLetter_31 : decode cX10_takeLetter 31 = .ok (.aload_n 0, 1) := by decide +kernel
theorem dX10_takeLetter_32 : decode cX10_takeLetter 32 = .ok (.getfield 41, 3) := by decide +kernel
theorem dX10_takeLetter_35 : decode cX10_takeLetter 35 = .ok (.iload_n 2, 1) := by decide +kernel
theorem dX10_takeLetter_36 : decode cX10_takeLetter 36 = .ok (.bipush 13, 2) := by decide +kernel
theorem dX10_takeLetter_38 : decode cX10_takeLetter 38 = .ok (.iadd, 1) := by decide +kernel
theorem dX10_takeLetter_39 : decode cX10_takeLetter 39 = .ok (.iaload, 1) := by decide +kernel
theorem dX10_takeLetter_40 : decode cX10_takeLetter 40 = .ok (.iastore, 1) := by decide +kernel
theorem dX10_takeLetter_41 : decode cX10_takeLetter 41 = .ok (.iinc 2 1, 3) := by decide +kernel
theorem dX10_takeLetter_44 : decode cX10_takeLetter 44 = .ok (.goto (-29), 3) := by decide +kernel
theorem dX10_takeLetter_47 : decode cX10_takeLetter 47 = .ok (.return_, 1) := by decide +kernel
theorem dX10_gets_0 : decode cX10_gets 0 = .ok (.aload_n 0, 1) := by decide +kernel
theorem dX10_gets_1 : decode cX10_gets 1 = .ok (.iload_n 1, 1) := by decide +kernel
theorem dX10_gets_2 : decode cX10_gets 2 = .ok (.iload_n 2, 1) := by decide +kernel
theorem dX10_gets_3 : decode cX10_gets 3 = .ok (.invokevirtual 118, 3) := by decide +kernel
theorem dX10_gets_6 : decode cX10_gets 6 = .ok (.istore_n 3, 1) := by decide +kernel
theorem dX10_gets_7 : decode cX10_gets 7 = .ok (.iload_n 3, 1) := by decide +kernel
theorem dX10_gets_8 : decode cX10_gets 8 = .ok (.iconst (-1), 1) := by decide +kernel
theorem dX10_gets_9 : decode cX10_gets 9 = .ok (.if_icmp .ne 6, 3) := by decide +kernel
theorem dX10_gets_12 : decode cX10_gets 12 = .ok (.bipush (-3), 2) := by decide +kernel
theorem dX10_gets_14 : decode cX10_gets 14 = .ok (.ireturn, 1) := by decide +kernel
theorem dX10_gets_15 : decode cX10_gets 15 = .ok (.aload_n 0, 1) := by decide +kernel
theorem dX10_gets_16 : decode cX10_gets 16 = .ok (.iload_n 3, 1) := by decide +kernel
theorem dX10_gets_17 : decode cX10_gets 17 = .ok (.invokevirtual 121, 3) := by decide +kernel
theorem dX10_gets_20 : decode cX10_gets 20 = .ok (.ifCond .eq 10, 3) := by decide +kernel
theorem dX10_gets_23 : decode cX10_gets 23 = .ok (.aload_n 0, 1) := by decide +kernel
theorem dX10_gets_24 : decode cX10_gets 24 = .ok (.iload_n 3, 1) := by decide +kernel
theorem dX10_gets_25 : decode cX10_gets 25 = .ok (.invokevirtual 124, 3) := by decide +kernel
theorem dX10_gets_28 : decode cX10_gets 28 = .ok (.iconst (-1), 1) := by decide +kernel
theorem dX10_gets_29 : decode cX10_gets 29 = .ok (.ireturn, 1) := by decide +kernel
theorem dX10_gets_30 : decode cX10_gets 30 = .ok (.aload_n 0, 1) := by decide +kernel
theorem dX10_gets_31 : decode cX10_gets 31 = .ok (.iload_n 1, 1) := by decide +kernel
theorem dX10_gets_32 : decode cX10_gets 32 = .ok (.aload_n 0, 1) := by decide +kernel
theorem dX10_gets_33 : decode cX10_gets 33 = .ok (.getfield 41, 3) := by decide +kernel
theorem dX10_gets_36 : decode cX10_gets 36 = .ok (.bipush 13, 2) := by decide +kernel
theorem dX10_gets_38 : decode cX10_gets 38 = .ok (.iload_n 3, 1) := by decide +kernel
theorem dX10_gets_39 : decode cX10_gets 39 = .ok (.imul, 1) := by decide +kernel
theorem dX10_gets_40 : decode cX10_gets 40 = .ok (.iconst 2, 1) := by decide +kernel
theorem dX10_gets_41 : decode cX10_gets 41 = .ok (.iadd, 1) := by decide +kernel
theorem dX10_gets_42 : decode cX10_gets 42 = .ok (.iaload, 1) := by decide +kernel
theorem dX10_gets_43 : decode cX10_gets 43 = .ok (.invokevirtual 104, 3) := by decide +kernel
theorem dX10_gets_46 : decode cX10_gets 46 = .ok (.istore 4, 2) := by decide +kernel
theorem dX10_gets_48 : decode cX10_gets 48 = .ok (.iload 4, 2) := by decide +kernel
theorem dX10_gets_50 : decode cX10_gets 50 = .ok (.bipush (-4), 2) := by decide +kernel
theorem dX10_gets_52 : decode cX10_gets 52 = .ok (.if_icmp .ne 6, 3) := by decide +kernel
theorem dX10_gets_55 : decode cX10_gets 55 = .ok (.bipush (-4), 2) := by decide +kernel
theorem dX10_gets_57 : decode cX10_gets 57 = .ok (.ireturn, 1) := by decide +kernel
theorem dX10_gets_58 : decode cX10_gets 58 = .ok (.iconst 0, 1) := by decide +kernel
theorem dX10_gets_59 : decode cX10_gets 59 = .ok (.istore 5, 2) := by decide +kernel
theorem dX10_gets_61 : decode cX10_gets 61 = .ok (.iload 5, 2) := by decide +kernel
theorem dX10_gets_63 : decode cX10_gets 63 = .ok (.aload_n 0, 1) := by decide +kernel
theorem dX10_gets_64 : decode cX10_gets 64 = .ok (.getfield 7, 3) := by decide +kernel
theorem dX10_gets_67 : decode cX10_gets 67 = .ok (.if_icmp .ge 124, 3) := by decide +kernel
theorem dX10_gets_70 : decode cX10_gets 70 = .ok (.iload_n 1, 1) := by decide +kernel
theorem dX10_gets_71 : decode cX10_gets 71 = .ok (.iload 4, 2) := by decide +kernel
theorem dX10_gets_73 : decode cX10_gets 73 = .ok (.iload 5, 2) := by decide +kernel
theorem dX10_gets_75 : decode cX10_gets 75 = .ok (.invokestatic 67, 3) := by decide +kernel
theorem dX10_gets_78 : decode cX10_gets 78 = .ok (.istore 6, 2) := by decide +kernel
theorem dX10_gets_80 : decode cX10_gets 80 = .ok (.aload_n 0, 1) := by decide +kernel
theorem dX10_gets_81 : decode cX10_gets 81 = .ok (.getfield 41, 3) := by decide +kernel
theorem dX10_gets_84 : decode cX10_gets 84 = .ok (.bipush 13, 2) := by decide +kernel
theorem dX10_gets_86 : decode cX10_gets 86 = .ok (.iload_n 3, 1) := by decide +kernel
theorem dX10_gets_87 : decode cX10_gets 87 = .ok (.imul, 1) := by decide +kernel
theorem dX10_gets_88 : decode cX10_gets 88 = .ok (.iconst 3, 1) := by decide +kernel
theorem dX10_gets_89 : decode cX10_gets 89 = .ok (.iadd, 1) := by decide +kernel
theorem dX10_gets_90 : decode cX10_gets 90 = .ok (.iload 5, 2) := by decide +kernel
theorem dX10_gets_92 : decode cX10_gets 92 = .ok (.iadd, 1) := by decide +kernel
theorem dX10_gets_93 : decode cX10_gets 93 = .ok (.iaload, 1) := by decide +kernel
theorem dX10_gets_94 : decode cX10_gets 94 = .ok (.istore 7, 2) := by decide +kernel
theorem dX10_gets_96 : decode cX10_gets 96 = .ok (.aload_n 0, 1) := by decide +kernel
theorem dX10_gets_97 : decode cX10_gets 97 = .ok (.getfield 41, 3) := by decide +kernel
theorem dX10_gets_100 : decode cX10_gets 100 = .ok (.bipush 13, 2) := by decide +kernel
theorem dX10_gets_102 : decode cX10_gets 102 = .ok (.iload_n 3, 1) := by decide +kernel
theorem dX10_gets_103 : decode cX10_gets 103 = .ok (.imul, 1) := by decide +kernel
theorem dX10_gets_104 : decode cX10_gets 104 = .ok (.bipush 8, 2) := by decide +kernel
theorem dX10_gets_106 : decode cX10_gets 106 = .ok (.iadd, 1) := by decide +kernel
theorem dX10_gets_107 : decode cX10_gets 107 = .ok (.iload 5, 2) := by decide +kernel
theorem dX10_gets_109 : decode cX10_gets 109 = .ok (.iadd, 1) := by decide +kernel
theorem dX10_gets_110 : decode cX10_gets 110 = .ok (.iaload, 1) := by decide +kernel
theorem dX10_gets_111 : decode cX10_gets 111 = .ok (.istore 8, 2) := by decide +kernel
theorem dX10_gets_113 : decode cX10_gets 113 = .ok (.iload 7, 2) := by decide +kernel
theorem dX10_gets_115 : decode cX10_gets 115 = .ok (.aload_n 0, 1) := by decide +kernel
theorem dX10_gets_116 : decode cX10_gets 116 = .ok (.getfield 35, 3) := by decide +kernel
theorem dX10_gets_119 : decode cX10_gets 119 = .ok (.iload 6, 2) := by decide +kernel
theorem dX10_gets_121 : decode cX10_gets 121 = .ok (.iaload, 1) := by decide +kernel
theorem dX10_gets_122 : decode cX10_gets 122 = .ok (.if_icmp .gt 27, 3) := by decide +kernel
theorem dX10_gets_125 : decode cX10_gets 125 = .ok (.iload 7, 2) := by decide +kernel
theorem dX10_gets_127 : decode cX10_gets 127 = .ok (.aload_n 0, 1) := by decide +kernel
theorem dX10_gets_128 : decode cX10_gets 128 = .ok (.getfield 35, 3) := by decide +kernel
theorem dX10_gets_131 : decode cX10_gets 131 = .ok (.iload 6, 2) := by decide +kernel
theorem dX10_gets_133 : decode cX10_gets 133 = .ok (.iaload, 1) := by decide +kernel
theorem dX10_gets_134 : decode cX10_gets 134 = .ok (.if_icmp .ne 19, 3) := by decide +kernel
theorem dX10_gets_137 : decode cX10_gets 137 = .ok (.iload 8, 2) := by decide +kernel
theorem dX10_gets_139 : decode cX10_gets 139 = .ok (.aload_n 0, 1) := by decide +kernel
theorem dX10_gets_140 : decode cX10_gets 140 = .ok (.getfield 38, 3) := by decide +kernel
theorem dX10_gets_143 : decode cX10_gets 143 = .ok (.iload 6, 2) := by decide +kernel
theorem dX10_gets_145 : decode cX10_gets 145 = .ok (.iaload, 1) := by decide +kernel
theorem dX10_gets_146 : decode cX10_gets 146 = .ok (.if_icmp .le 7, 3) := by decide +kernel
theorem dX10_gets_149 : decode cX10_gets 149 = .ok (.iconst 1, 1) := by decide +kernel
theorem dX10_gets_150 : decode cX10_gets 150 = .ok (.goto 4, 3) := by decide +kernel
theorem dX10_gets_153 : decode cX10_gets 153 = .ok (.iconst 0, 1) := by decide +kernel
theorem dX10_gets_154 : decode cX10_gets 154 = .ok (.istore 9, 2) := by decide +kernel
theorem dX10_gets_156 : decode cX10_gets 156 = .ok (.iload 5, 2) := by decide +kernel
theorem dX10_gets_158 : decode cX10_gets 158 = .ok (.iload_n 1, 1) := by decide +kernel
theorem dX10_gets_159 : decode cX10_gets 159 = .ok (.if_icmp .eq 26, 3) := by decide +kernel
theorem dX10_gets_162 : decode cX10_gets 162 = .ok (.iload 9, 2) := by decide +kernel
theorem dX10_gets_164 : decode cX10_gets 164 = .ok (.ifCond .eq 21, 3) := by decide +kernel
theorem dX10_gets_167 : decode cX10_gets 167 = .ok (.aload_n 0, 1) := by decide +kernel
theorem dX10_gets_168 : decode cX10_gets 168 = .ok (.getfield 35, 3) := by decide +kernel
theorem dX10_gets_171 : decode cX10_gets 171 = .ok (.iload 6, 2) := by decide +kernel
theorem dX10_gets_173 : decode cX10_gets 173 = .ok (.iload 7, 2) := by decide +kernel
theorem dX10_gets_175 : decode cX10_gets 175 = .ok (.iastore, 1) := by decide +kernel
theorem dX10_gets_176 : decode cX10_gets 176 = .ok (.aload_n 0, 1) := by decide +kernel
theorem dX10_gets_177 : decode cX10_gets 177 = .ok (.getfield 38, 3) := by decide +kernel
theorem dX10_gets_180 : decode cX10_gets 180 = .ok (.iload 6, 2) := by decide +kernel
theorem dX10_gets_182 : decode cX10_gets 182 = .ok (.iload 8, 2) := by decide +kernel
theorem dX10_gets_184 : decode cX10_gets 184 = .ok (.iastore, 1) := by decide +kernel
theorem dX10_gets_185 : decode cX10_gets 185 = .ok (.iinc 5 1, 3) := by decide +kernel
theorem dX10_gets_188 : decode cX10_gets 188 = .ok (.goto (-127), 3) := by decide +kernel
theorem dX10_gets_191 : decode cX10_gets 191 = .ok (.aload_n 0, 1) := by decide +kernel
theorem dX10_gets_192 : decode cX10_gets 192 = .ok (.iload_n 3, 1) := by decide +kernel
theorem dX10_gets_193 : decode cX10_gets 193 = .ok (.invokevirtual 124, 3) := by decide +kernel
theorem dX10_gets_196 : decode cX10_gets 196 = .ok (.iload 4, 2) := by decide +kernel
theorem dX10_gets_198 : decode cX10_gets 198 = .ok (.ireturn, 1) := by decide +kernel
theorem dX10_get_0 : decode cX10_get 0 = .ok (.aload_n 0, 1) := by decide +kernel
theorem dX10_get_1 : decode cX10_get 1 = .ok (.iload_n 1, 1) := by decide +kernel
theorem dX10_get_2 : decode cX10_get 2 = .ok (.invokevirtual 98, 3) := by decide +kernel
theorem dX10_get_5 : decode cX10_get 5 = .ok (.ifCond .eq 7, 3) := by decide +kernel
theorem dX10_get_8 : decode cX10_get 8 = .ok (.iload_n 2, 1) := by decide +kernel
theorem dX10_get_9 : decode cX10_get 9 = .ok (.ifCond .ge 8, 3) := by decide +kernel
theorem dX10_get_12 : decode cX10_get 12 = .ok (.aload_n 0, 1) := by decide +kernel
theorem dX10_get_13 : decode cX10_get 13 = .ok (.invokevirtual 87, 3) := by decide +kernel
theorem dX10_get_16 : decode cX10_get 16 = .ok (.ireturn, 1) := by decide +kernel
theorem dX10_get_17 : decode cX10_get 17 = .ok (.aload_n 0, 1) := by decide +kernel
theorem dX10_get_18 : decode cX10_get 18 = .ok (.iload_n 1, 1) := by decide +kernel
theorem dX10_get_19 : decode cX10_get 19 = .ok (.iload_n 2, 1) := by decide +kernel
theorem dX10_get_20 : decode cX10_get 20 = .ok (.invokevirtual 128, 3) := by decide +kernel
theorem dX10_get_23 : decode cX10_get 23 = .ok (.istore_n 3, 1) := by decide +kernel
theorem dX10_get_24 : decode cX10_get 24 = .ok (.aload_n 0, 1) := by decide +kernel
theorem dX10_get_25 : decode cX10_get 25 = .ok (.getfield 50, 3) := by decide +kernel
theorem dX10_get_28 : decode cX10_get 28 = .ok (.iconst 1, 1) := by decide +kernel
theorem dX10_get_29 : decode cX10_get 29 = .ok (.dup2, 1) := by decide +kernel
theorem dX10_get_30 : decode cX10_get 30 = .ok (.iaload, 1) := by decide +kernel
theorem dX10_get_31 : decode cX10_get 31 = .ok (.iload_n 3, 1) := by decide +kernel
theorem dX10_get_32 : decode cX10_get 32 = .ok (.bipush (-3), 2) := by decide +kernel
theorem dX10_get_34 : decode cX10_get 34 = .ok (.if_icmp .ne 7, 3) := by decide +kernel
theorem dX10_get_37 : decode cX10_get 37 = .ok (.iconst 1, 1) := by decide +kernel
theorem dX10_get_38 : decode cX10_get 38 = .ok (.goto 4, 3) := by decide +kernel
theorem dX10_get_41 : decode cX10_get 41 = .ok (.iconst 0, 1) := by decide +kernel
theorem dX10_get_42 : decode cX10_get 42 = .ok (.iadd, 1) := by decide +kernel
theorem dX10_get_43 : decode cX10_get 43 = .ok (.iastore, 1) := by decide +kernel
theorem dX10_get_44 : decode cX10_get 44 = .ok (.aload_n 0, 1) := by decide +kernel
theorem dX10_get_45 : decode cX10_get 45 = .ok (.iload_n 3, 1) := by decide +kernel
theorem dX10_get_46 : decode cX10_get 46 = .ok (.invokevirtual 107, 3) := by decide +kernel
theorem dX10_get_49 : decode cX10_get 49 = .ok (.ireturn, 1) := by decide +kernel
theorem dX10_becomesWritten_0 : decode cX10_becomesWritten 0 = .ok (.aload_n 0, 1) := by decide +kernel
theorem dX10_becomesWritten_1 : decode cX10_becomesWritten 1 = .ok (.getfield 20, 3) := by decide +kernel
theorem dX10_becomesWritten_4 : decode cX10_becomesWritten 4 = .ok (.iload_n 1, 1) := by decide +kernel
theorem dX10_becomesWritten_5 : decode cX10_becomesWritten 5 = .ok (.iaload, 1) := by decide +kernel
theorem dX10_becomesWritten_6 : decode cX10_becomesWritten 6 = .ok (.iload_n 2, 1) := by decide +kernel
theorem dX10_becomesWritten_7 : decode cX10_becomesWritten 7 = .ok (.iadd, 1) := by decide +kernel
theorem dX10_becomesWritten_8 : decode cX10_becomesWritten 8 = .ok (.istore_n 3, 1) := by decide +kernel
theorem dX10_becomesWritten_9 : decode cX10_becomesWritten 9 = .ok (.aload_n 0, 1) := by decide +kernel
theorem dX10_becomesWritten_10 : decode cX10_becomesWritten 10 = .ok (.getfield 20, 3) := by decide +kernel
theorem dX10_becomesWritten_13 : decode cX10_becomesWritten 13 = .ok (.iload_n 1, 1) := by decide +kernel
theorem dX10_becomesWritten_14 : decode cX10_becomesWritten 14 = .ok (.iload_n 3, 1) := by decide +kernel
theorem dX10_becomesWritten_15 : decode cX10_becomesWritten 15 = .ok (.aload_n 0, 1) := by decide +kernel
theorem dX10_becomesWritten_16 : decode cX10_becomesWritten 16 = .ok (.getfield 17, 3) := by decide +kernel
theorem dX10_becomesWritten_19 : decode cX10_becomesWritten 19 = .ok (.iload_n 1, 1) := by decide +kernel
theorem dX10_becomesWritten_20 : decode cX10_becomesWritten 20 = .ok (.iaload, 1) := by decide +kernel
theorem dX10_becomesWritten_21 : decode cX10_becomesWritten 21 = .ok (.if_icmp .ge 7, 3) := by decide +kernel
theorem dX10_becomesWritten_24 : decode cX10_becomesWritten 24 = .ok (.iload_n 3, 1) := by decide +kernel
theorem dX10_becomesWritten_25 : decode cX10_becomesWritten 25 = .ok (.goto 9, 3) := by decide +kernel
theorem dX10_becomesWritten_28 : decode cX10_becomesWritten 28 = .ok (.aload_n 0, 1) := by decide +kernel
theorem dX10_becomesWritten_29 : decode cX10_becomesWritten 29 = .ok (.getfield 17, 3) := by decide +kernel
theorem dX10_becomesWritten_32 : decode cX10_becomesWritten 32 = .ok (.iload_n 1, 1) := by decide +kernel
theorem dX10_becomesWritten_33 : decode cX10_becomesWritten 33 = .ok (.iaload, 1) := by decide +kernel
theorem dX10_becomesWritten_34 : decode cX10_becomesWritten 34 = .ok (.iastore, 1) := by decide +kernel
theorem dX10_becomesWritten_35 : decode cX10_becomesWritten 35 = .ok (.aload_n 0, 1) := by decide +kernel
theorem dX10_becomesWritten_36 : decode cX10_becomesWritten 36 = .ok (.getfield 20, 3) := by decide +kernel
theorem dX10_becomesWritten_39 : decode cX10_becomesWritten 39 = .ok (.iload_n 1, 1) := by decide +kernel
theorem dX10_becomesWritten_40 : decode cX10_becomesWritten 40 = .ok (.iaload, 1) := by decide +kernel
theorem dX10_becomesWritten_41 : decode cX10_becomesWritten 41 = .ok (.ireturn, 1) := by decide +kernel
theorem dX10_writes_0 : decode cX10_writes 0 = .ok (.aload_n 0, 1) := by decide +kernel
theorem dX10_writes_1 : decode cX10_writes 1 = .ok (.iload_n 1, 1) := by decide +kernel
theorem dX10_writes_2 : decode cX10_writes 2 = .ok (.invokevirtual 98, 3) := by decide +kernel
theorem dX10_writes_5 : decode cX10_writes 5 = .ok (.ifCond .eq 24, 3) := by decide +kernel
theorem dX10_writes_8 : decode cX10_writes 8 = .ok (.iload_n 2, 1) := by decide +kernel
theorem dX10_writes_9 : decode cX10_writes 9 = .ok (.i2l, 1) := by decide +kernel
theorem dX10_writes_10 : decode cX10_writes 10 = .ok (.lconst 1, 1) := by decide +kernel
theorem dX10_writes_11 : decode cX10_writes 11 = .ok (.ldc2_w 131, 3) := by decide +kernel
theorem dX10_writes_14 : decode cX10_writes 14 = .ok (.invokestatic 59, 3) := by decide +kernel
theorem dX10_writes_17 : decode cX10_writes 17 = .ok (.ifCond .eq 12, 3) := by decide +kernel
theorem dX10_writes_20 : decode cX10_writes 20 = .ok (.aload_n 0, 1) := by decide +kernel
theorem dX10_writes_21 : decode cX10_writes 21 = .ok (.iload_n 1, 1) := by decide +kernel
theorem dX10_writes_22 : decode cX10_writes 22 = .ok (.iload_n 2, 1) := by decide +kernel
theorem dX10_writes_23 : decode cX10_writes 23 = .ok (.invokevirtual 133, 3) := by decide +kernel
theorem dX10_writes_26 : decode cX10_writes 26 = .ok (.goto 7, 3) := by decide +kernel
theorem dX10_writes_29 : decode cX10_writes 29 = .ok (.aload_n 0, 1) := by decide +kernel
theorem dX10_writes_30 : decode cX10_writes 30 = .ok (.invokevirtual 87, 3) := by decide +kernel
theorem dX10_writes_33 : decode cX10_writes 33 = .ok (.ireturn, 1) := by decide +kernel
theorem dX10_isDeadPage_0 : decode cX10_isDeadPage 0 = .ok (.iconst 0, 1) := by decide +kernel
theorem dX10_isDeadPage_1 : decode cX10_isDeadPage 1 = .ok (.istore_n 3, 1) := by decide +kernel
theorem dX10_isDeadPage_2 : decode cX10_isDeadPage 2 = .ok (.iconst 0, 1) := by decide +kernel
theorem dX10_isDeadPage_3 : decode cX10_isDeadPage 3 = .ok (.istore 4, 2) := by decide +kernel
theorem dX10_isDeadPage_5 : decode cX10_isDeadPage 5 = .ok (.iload 4, 2) := by decide +kernel
theorem dX10_isDeadPage_7 : decode cX10_isDeadPage 7 = .ok (.aload_n 0, 1) := by decide +kernel
theorem dX10_isDeadPage_8 : decode cX10_isDeadPage 8 = .ok (.getfield 7, 3) := by decide +kernel
theorem dX10_isDeadPage_11 : decode cX10_isDeadPage 11 = .ok (.if_icmp .ge 52, 3) := by decide +kernel
theorem dX10_isDeadPage_14 : decode cX10_isDeadPage 14 = .ok (.iload_n 3, 1) := by decide +kernel
theorem dX10_isDeadPage_15 : decode cX10_isDeadPage 15 = .ok (.ifCond .ne 36, 3) := by decide +kernel
theorem dX10_isDeadPage_18 : decode cX10_isDeadPage 18 = .ok (.aload_n 0, 1) := by decide +kernel
theorem dX10_isDeadPage_19 : decode cX10_isDeadPage 19 = .ok (.iload 4, 2) := by decide +kernel
theorem dX10_isDeadPage_21 : decode cX10_isDeadPage 21 = .ok (.aload_n 0, 1) := by decide +kernel
theorem dX10_isDeadPage_22 : decode cX10_isDeadPage 22 = .ok (.getfield 35, 3) := by decide +kernel
theorem dX10_isDeadPage_25 : decode cX10_isDeadPage 25 = .ok (.iload_n 1, 1) := by decide +kernel
theorem dX10_isDeadPage_26 : decode cX10_isDeadPage 26 = .ok (.iload_n 2, 1) := by decide +kernel
theorem dX10_isDeadPage_27 : decode cX10_isDeadPage 27 = .ok (.iload 4, 2) := by decide +kernel
theorem dX10_isDeadPage_29 : decode cX10_isDeadPage 29 = .ok (.invokestatic 67, 3) := by decide +kernel
theorem dX10_isDeadPage_32 : decode cX10_isDeadPage 32 = .ok (.iaload, 1) := by decide +kernel
theorem dX10_isDeadPage_33 : decode cX10_isDeadPage 33 = .ok (.aload_n 0, 1) := by decide +kernel
theorem dX10_isDeadPage_34 : decode cX10_isDeadPage 34 = .ok (.getfield 38, 3) := by decide +kernel
theorem dX10_isDeadPage_37 : decode cX10_isDeadPage 37 = .ok (.iload_n 1, 1) := by decide +kernel
theorem dX10_isDeadPage_38 : decode cX10_isDeadPage 38 = .ok (.iload_n 2, 1) := by decide +kernel
theorem dX10_isDeadPage_39 : decode cX10_isDeadPage 39 = .ok (.iload 4, 2) := by decide +kernel
theorem dX10_isDeadPage_41 : decode cX10_isDeadPage 41 = .ok (.invokestatic 67, 3) := by decide +kernel
theorem dX10_isDeadPage_44 : decode cX10_isDeadPage 44 = .ok (.iaload, 1) := by decide +kernel
theorem dX10_isDeadPage_45 : decode cX10_isDeadPage 45 = .ok (.invokevirtual 114, 3) := by decide +kernel
theorem dX10_isDeadPage_48 : decode cX10_isDeadPage 48 = .ok (.ifCond .eq 7, 3) := by decide +kernel
theorem dX10_isDeadPage_51 : decode cX10_isDeadPage 51 = .ok (.iconst 1, 1) := by decide +kernel
theorem dX10_isDeadPage_52 : decode cX10_isDeadPage 52 = .ok (.goto 4, 3) := by decide +kernel
theorem dX10_isDeadPage_55 : decode cX10_isDeadPage 55 = .ok (.iconst 0, 1) := by decide +kernel
theorem dX10_isDeadPage_56 : decode cX10_isDeadPage 56 = .ok (.istore_n 3, 1) := by decide +kernel
theorem dX10_isDeadPage_57 : decode cX10_isDeadPage 57 = .ok (.iinc 4 1, 3) := by decide +kernel
theorem dX10_isDeadPage_60 : decode cX10_isDeadPage 60 = .ok (.goto (-55), 3) := by decide +kernel
theorem dX10_isDeadPage_63 : decode cX10_isDeadPage 63 = .ok (.iload_n 3, 1) := by decide +kernel
theorem dX10_isDeadPage_64 : decode cX10_isDeadPage 64 = .ok (.ireturn, 1) := by decide +kernel
theorem dX10_firstDead_0 : decode cX10_firstDead 0 = .ok (.aload_n 0, 1) := by decide +kernel
theorem dX10_firstDead_1 : decode cX10_firstDead 1 = .ok (.getfield 23, 3) := by decide +kernel
theorem dX10_firstDead_4 : decode cX10_firstDead 4 = .ok (.iload_n 1, 1) := by decide +kernel
theorem dX10_firstDead_5 : decode cX10_firstDead 5 = .ok (.iaload, 1) := by decide +kernel
theorem dX10_firstDead_6 : decode cX10_firstDead 6 = .ok (.istore_n 2, 1) := by decide +kernel
theorem dX10_firstDead_7 : decode cX10_firstDead 7 = .ok (.iload_n 2, 1) := by decide +kernel
theorem dX10_firstDead_8 : decode cX10_firstDead 8 = .ok (.aload_n 0, 1) := by decide +kernel
theorem dX10_firstDead_9 : decode cX10_firstDead 9 = .ok (.getfield 17, 3) := by decide +kernel
theorem dX10_firstDead_12 : decode cX10_firstDead 12 = .ok (.iload_n 1, 1) := by decide +kernel
theorem dX10_firstDead_13 : decode cX10_firstDead 13 = .ok (.iaload, 1) := by decide +kernel
theorem dX10_firstDead_14 : decode cX10_firstDead 14 = .ok (.if_icmp .gt 18, 3) := by decide +kernel
theorem dX10_firstDead_17 : decode cX10_firstDead 17 = .ok (.aload_n 0, 1) := by decide +kernel
theorem dX10_firstDead_18 : decode cX10_firstDead 18 = .ok (.iload_n 1, 1) := by decide +kernel
theorem dX10_firstDead_19 : decode cX10_firstDead 19 = .ok (.iload_n 2, 1) := by decide +kernel
theorem dX10_firstDead_20 : decode cX10_firstDead 20 = .ok (.invokevirtual 136, 3) := by decide +kernel
theorem dX10_firstDead_23 : decode cX10_firstDead 23 = .ok (.ifCond .ne 9, 3) := by decide +kernel
theorem dX10_firstDead_26 : decode cX10_firstDead 26 = .ok (.iinc 2 1, 3) := by decide +kernel
theorem dX10_firstDead_29 : decode cX10_firstDead 29 = .ok (.goto (-22), 3) := by decide +kernel
theorem dX10_firstDead_32 : decode cX10_firstDead 32 = .ok (.iload_n 2, 1) := by decide +kernel
theorem dX10_firstDead_33 : decode cX10_firstDead 33 = .ok (.aload_n 0, 1) := by decide +kernel
theorem dX10_firstDead_34 : decode cX10_firstDead 34 = .ok (.getfield 17, 3) := by decide +kernel
theorem dX10_firstDead_37 : decode cX10_firstDead 37 = .ok (.iload_n 1, 1) := by decide +kernel
theorem dX10_firstDead_38 : decode cX10_firstDead 38 = .ok (.iaload, 1) := by decide +kernel
theorem dX10_firstDead_39 : decode cX10_firstDead 39 = .ok (.if_icmp .gt 7, 3) := by decide +kernel
theorem dX10_firstDead_42 : decode cX10_firstDead 42 = .ok (.iload_n 2, 1) := by decide +kernel
theorem dX10_firstDead_43 : decode cX10_firstDead 43 = .ok (.goto 4, 3) := by decide +kernel
theorem dX10_firstDead_46 : decode cX10_firstDead 46 = .ok (.iconst (-1), 1) := by decide +kernel
theorem dX10_firstDead_47 : decode cX10_firstDead 47 = .ok (.ireturn, 1) := by decide +kernel
theorem dX10_falls_0 : decode cX10_falls 0 = .ok (.aload_n 0, 1) := by decide +kernel
theorem dX10_falls_1 : decode cX10_falls 1 = .ok (.getfield 17, 3) := by decide +kernel
theorem dX10_falls_4 : decode cX10_falls 4 = .ok (.iload_n 1, 1) := by decide +kernel
theorem dX10_falls_5 : decode cX10_falls 5 = .ok (.iaload, 1) := by decide +kernel
theorem dX10_falls_6 : decode cX10_falls 6 = .ok (.iload_n 2, 1) := by decide +kernel
theorem dX10_falls_7 : decode cX10_falls 7 = .ok (.isub, 1) := by decide +kernel
theorem dX10_falls_8 : decode cX10_falls 8 = .ok (.istore_n 3, 1) := by decide +kernel
theorem dX10_falls_9 : decode cX10_falls 9 = .ok (.aload_n 0, 1) := by decide +kernel
theorem dX10_falls_10 : decode cX10_falls 10 = .ok (.getfield 17, 3) := by decide +kernel
theorem dX10_falls_13 : decode cX10_falls 13 = .ok (.iload_n 1, 1) := by decide +kernel
theorem dX10_falls_14 : decode cX10_falls 14 = .ok (.iload_n 2, 1) := by decide +kernel
theorem dX10_falls_15 : decode cX10_falls 15 = .ok (.iastore, 1) := by decide +kernel
theorem dX10_falls_16 : decode cX10_falls 16 = .ok (.aload_n 0, 1) := by decide +kernel
theorem dX10_falls_17 : decode cX10_falls 17 = .ok (.getfield 26, 3) := by decide +kernel
theorem dX10_falls_20 : decode cX10_falls 20 = .ok (.sipush 128, 3) := by decide +kernel
theorem dX10_falls_23 : decode cX10_falls 23 = .ok (.iload_n 1, 1) := by decide +kernel
theorem dX10_falls_24 : decode cX10_falls 24 = .ok (.imul, 1) := by decide +kernel
theorem dX10_falls_25 : decode cX10_falls 25 = .ok (.aload_n 0, 1) := by decide +kernel
theorem dX10_falls_26 : decode cX10_falls 26 = .ok (.getfield 13, 3) := by decide +kernel
theorem dX10_falls_29 : decode cX10_falls 29 = .ok (.iload_n 1, 1) := by decide +kernel
theorem dX10_falls_30 : decode cX10_falls 30 = .ok (.iaload, 1) := by decide +kernel
theorem dX10_falls_31 : decode cX10_falls 31 = .ok (.iadd, 1) := by decide +kernel
theorem dX10_falls_32 : decode cX10_falls 32 = .ok (.iload_n 2, 1) := by decide +kernel
theorem dX10_falls_33 : decode cX10_falls 33 = .ok (.iastore, 1) := by decide +kernel
theorem dX10_falls_34 : decode cX10_falls 34 = .ok (.aload_n 0, 1) := by decide +kernel
theorem dX10_falls_35 : decode cX10_falls 35 = .ok (.getfield 13, 3) := by decide +kernel
theorem dX10_falls_38 : decode cX10_falls 38 = .ok (.iload_n 1, 1) := by decide +kernel
theorem dX10_falls_39 : decode cX10_falls 39 = .ok (.dup2, 1) := by decide +kernel
theorem dX10_falls_40 : decode cX10_falls 40 = .ok (.iaload, 1) := by decide +kernel
theorem dX10_falls_41 : decode cX10_falls 41 = .ok (.iconst 1, 1) := by decide +kernel
theorem dX10_falls_42 : decode cX10_falls 42 = .ok (.iadd, 1) := by decide +kernel
theorem dX10_falls_43 : decode cX10_falls 43 = .ok (.iastore, 1) := by decide +kernel
theorem dX10_falls_44 : decode cX10_falls 44 = .ok (.aload_n 0, 1) := by decide +kernel
theorem dX10_falls_45 : decode cX10_falls 45 = .ok (.getfield 20, 3) := by decide +kernel
theorem dX10_falls_48 : decode cX10_falls 48 = .ok (.iload_n 1, 1) := by decide +kernel
theorem dX10_falls_49 : decode cX10_falls 49 = .ok (.aload_n 0, 1) := by decide +kernel
theorem dX10_falls_50 : decode cX10_falls 50 = .ok (.getfield 20, 3) := by decide +kernel
theorem dX10_falls_53 : decode cX10_falls 53 = .ok (.iload_n 1, 1) := by decide +kernel
theorem dX10_falls_54 : decode cX10_falls 54 = .ok (.iaload, 1) := by decide +kernel
theorem dX10_falls_55 : decode cX10_falls 55 = .ok (.iload_n 2, 1) := by decide +kernel
theorem dX10_falls_56 : decode cX10_falls 56 = .ok (.if_icmp .ge 12, 3) := by decide +kernel
theorem dX10_falls_59 : decode cX10_falls 59 = .ok (.aload_n 0, 1) := by decide +kernel
theorem dX10_falls_60 : decode cX10_falls 60 = .ok (.getfield 20, 3) := by decide +kernel
theorem dX10_falls_63 : decode cX10_falls 63 = .ok (.iload_n 1, 1) := by decide +kernel
theorem dX10_falls_64 : decode cX10_falls 64 = .ok (.iaload, 1) := by decide +kernel
theorem dX10_falls_65 : decode cX10_falls 65 = .ok (.goto 4, 3) := by decide +kernel
theorem dX10_falls_68 : decode cX10_falls 68 = .ok (.iload_n 2, 1) := by decide +kernel
theorem dX10_falls_69 : decode cX10_falls 69 = .ok (.iastore, 1) := by decide +kernel
theorem dX10_falls_70 : decode cX10_falls 70 = .ok (.iload_n 3, 1) := by decide +kernel
theorem dX10_falls_71 : decode cX10_falls 71 = .ok (.ireturn, 1) := by decide +kernel
theorem dX10_lossOf_0 : decode cX10_lossOf 0 = .ok (.aload_n 0, 1) := by decide +kernel
theorem dX10_lossOf_1 : decode cX10_lossOf 1 = .ok (.iload_n 1, 1) := by decide +kernel
theorem dX10_lossOf_2 : decode cX10_lossOf 2 = .ok (.aload_n 0, 1) := by decide +kernel
theorem dX10_lossOf_3 : decode cX10_lossOf 3 = .ok (.getfield 20, 3) := by decide +kernel
theorem dX10_lossOf_6 : decode cX10_lossOf 6 = .ok (.iload_n 1, 1) := by decide +kernel
theorem dX10_lossOf_7 : decode cX10_lossOf 7 = .ok (.iaload, 1) := by decide +kernel
theorem dX10_lossOf_8 : decode cX10_lossOf 8 = .ok (.invokevirtual 140, 3) := by decide +kernel
theorem dX10_lossOf_11 : decode cX10_lossOf 11 = .ok (.istore_n 2, 1) := by decide +kernel
theorem dX10_lossOf_12 : decode cX10_lossOf 12 = .ok (.iconst 1, 1) := by decide +kernel
theorem dX10_lossOf_13 : decode cX10_lossOf 13 = .ok (.istore_n 3, 1) := by decide +kernel
theorem dX10_lossOf_14 : decode cX10_lossOf 14 = .ok (.iload_n 3, 1) := by decide +kernel
theorem dX10_lossOf_15 : decode cX10_lossOf 15 = .ok (.ifCond .eq 70, 3) := by decide +kernel
theorem dX10_lossOf_18 : decode cX10_lossOf 18 = .ok (.iconst 0, 1) := by decide +kernel
theorem dX10_lossOf_19 : decode cX10_lossOf 19 = .ok (.istore 4, 2) := by decide +kernel
theorem dX10_lossOf_21 : decode cX10_lossOf 21 = .ok (.iload 4, 2) := by decide +kernel
theorem dX10_lossOf_23 : decode cX10_lossOf 23 = .ok (.aload_n 0, 1) := by decide +kernel
theorem dX10_lossOf_24 : decode cX10_lossOf 24 = .ok (.getfield 7, 3) := by decide +kernel
theorem dX10_lossOf_27 : decode cX10_lossOf 27 = .ok (.if_icmp .ge 19, 3) := by decide +kernel
theorem dX10_lossOf_30 : decode cX10_lossOf 30 = .ok (.aload_n 0, 1) := by decide +kernel
theorem dX10_lossOf_31 : decode cX10_lossOf 31 = .ok (.iload 4, 2) := by decide +kernel
theorem dX10_lossOf_33 : decode cX10_lossOf 33 = .ok (.invokevirtual 143, 3) := by decide +kernel
theorem dX10_lossOf_36 : decode cX10_lossOf 36 = .ok (.iconst (-1), 1) := by decide +kernel
theorem dX10_lossOf_37 : decode cX10_lossOf 37 = .ok (.if_icmp .ne 9, 3) := by decide +kernel
theorem dX10_lossOf_40 : decode cX10_lossOf 40 = .ok (.iinc 4 1, 3) := by decide +kernel
theorem dX10_lossOf_43 : decode cX10_lossOf 43 = .ok (.goto (-22), 3) := by decide +kernel
theorem dX10_lossOf_46 : decode cX10_lossOf 46 = .ok (.iload 4, 2) := by decide +kernel
theorem dX10_lossOf_48 : decode cX10_lossOf 48 = .ok (.aload_n 0, 1) := by decide +kernel
theorem dX10_lossOf_49 : decode cX10_lossOf 49 = .ok (.getfield 7, 3) := by decide +kernel
theorem dX10_lossOf_52 : decode cX10_lossOf 52 = .ok (.if_icmp .ge 7, 3) := by decide +kernel
theorem dX10_lossOf_55 : decode cX10_lossOf 55 = .ok (.iconst 1, 1) := by decide +kernel
theorem dX10_lossOf_56 : decode cX10_lossOf 56 = .ok (.goto 4, 3) := by decide +kernel
theorem dX10_lossOf_59 : decode cX10_lossOf 59 = .ok (.iconst 0, 1) := by decide +kernel
theorem dX10_lossOf_60 : decode cX10_lossOf 60 = .ok (.istore_n 3, 1) := by decide +kernel
theorem dX10_lossOf_61 : decode cX10_lossOf 61 = .ok (.iload_n 3, 1) := by decide +kernel
theorem dX10_lossOf_62 : decode cX10_lossOf 62 = .ok (.ifCond .eq 20, 3) := by decide +kernel
theorem dX10_lossOf_65 : decode cX10_lossOf 65 = .ok (.iload_n 2, 1) := by decide +kernel
theorem dX10_lossOf_66 : decode cX10_lossOf 66 = .ok (.aload_n 0, 1) := by decide +kernel
theorem dX10_lossOf_67 : decode cX10_lossOf 67 = .ok (.iload 4, 2) := by decide +kernel
theorem dX10_lossOf_69 : decode cX10_lossOf 69 = .ok (.aload_n 0, 1) := by decide +kernel
theorem dX10_lossOf_70 : decode cX10_lossOf 70 = .ok (.iload 4, 2) := by decide +kernel
theorem dX10_lossOf_72 : decode cX10_lossOf 72 = .ok (.invokevirtual 143, 3) := by decide +kernel
theorem dX10_lossOf_75 : decode cX10_lossOf 75 = .ok (.iconst 1, 1) := by decide +kernel
theorem dX10_lossOf_76 : decode cX10_lossOf 76 = .ok (.isub, 1) := by decide +kernel
theorem dX10_lossOf_77 : decode cX10_lossOf 77 = .ok (.invokevirtual 140, 3) := by decide +kernel
theorem dX10_lossOf_80 : decode cX10_lossOf 80 = .ok (.iadd, 1) := by decide +kernel
theorem dX10_lossOf_81 : decode cX10_lossOf 81 = .ok (.istore_n 2, 1) := by decide +kernel
theorem dX10_lossOf_82 : decode cX10_lossOf 82 = .ok (.goto (-68), 3) := by decide +kernel
theorem dX10_lossOf_85 : decode cX10_lossOf 85 = .ok (.iload_n 2, 1) := by decide +kernel
theorem dX10_lossOf_86 : decode cX10_lossOf 86 = .ok (.ireturn, 1) := by decide +kernel
theorem dX10_isTooOld_0 : decode cX10_isTooOld 0 = .ok (.iconst 0, 1) := by decide +kernel
theorem dX10_isTooOld_1 : decode cX10_isTooOld 1 = .ok (.istore_n 1, 1) := by decide +kernel
theorem dX10_isTooOld_2 : decode cX10_isTooOld 2 = .ok (.iconst 0, 1) := by decide +kernel
theorem dX10_isTooOld_3 : decode cX10_isTooOld 3 = .ok (.istore_n 2, 1) := by decide +kernel
theorem dX10_isTooOld_4 : decode cX10_isTooOld 4 = .ok (.iload_n 2, 1) := by decide +kernel
theorem dX10_isTooOld_5 : decode cX10_isTooOld 5 = .ok (.aload_n 0, 1) := by decide +kernel
theorem dX10_isTooOld_6 : decode cX10_isTooOld 6 = .ok (.getfield 7, 3) := by decide +kernel
theorem dX10_isTooOld_9 : decode cX10_isTooOld 9 = .ok (.if_icmp .ge 30, 3) := by decide +kernel
theorem dX10_isTooOld_12 : decode cX10_isTooOld 12 = .ok (.iload_n 1, 1) := by decide +kernel
theorem dX10_isTooOld_13 : decode cX10_isTooOld 13 = .ok (.ifCond .ne 14, 3) := by decide +kernel
theorem dX10_isTooOld_16 : decode cX10_isTooOld 16 = .ok (.aload_n 0, 1) := by decide +kernel
theorem dX10_isTooOld_17 : decode cX10_isTooOld 17 = .ok (.getfield 13, 3) := by decide +kernel
theorem dX10_isTooOld_20 : decode cX10_isTooOld 20 = .ok (.iload_n 2, 1) := by decide +kernel
theorem dX10_isTooOld_21 : decode cX10_isTooOld 21 = .ok (.iaload, 1) := by decide +kernel
theorem dX10_isTooOld_22 : decode cX10_isTooOld 22 = .ok (.bipush 60, 2) := by decide +kernel
theorem dX10_isTooOld_24 : decode cX10_isTooOld 24 = .ok (.if_icmp .lt 7, 3) := by decide +kernel
theorem dX10_isTooOld_27 : decode cX10_isTooOld 27 = .ok (.iconst 1, 1) := by decide +kernel
theorem dX10_isTooOld_28 : decode cX10_isTooOld 28 = .ok (.goto 4, 3) := by decide +kernel
theorem dX10_isTooOld_31 : decode cX10_isTooOld 31 = .ok (.iconst 0, 1) := by decide +kernel
theorem dX10_isTooOld_32 : decode cX10_isTooOld 32 = .ok (.istore_n 1, 1) := by decide +kernel
theorem dX10_isTooOld_33 : decode cX10_isTooOld 33 = .ok (.iinc 2 1, 3) := by decide +kernel
theorem dX10_isTooOld_36 : decode cX10_isTooOld 36 = .ok (.goto (-32), 3) := by decide +kernel
theorem dX10_isTooOld_39 : decode cX10_isTooOld 39 = .ok (.iload_n 1, 1) := by decide +kernel
theorem dX10_isTooOld_40 : decode cX10_isTooOld 40 = .ok (.ireturn, 1) := by decide +kernel
theorem dX10_losesNow_0 : decode cX10_losesNow 0 = .ok (.aload_n 0, 1) := by decide +kernel
theorem dX10_losesNow_1 : decode cX10_losesNow 1 = .ok (.invokevirtual 146, 3) := by decide +kernel
theorem dX10_losesNow_4 : decode cX10_losesNow 4 = .ok (.ifCond .eq 6, 3) := by decide +kernel
theorem dX10_losesNow_7 : decode cX10_losesNow 7 = .ok (.bipush (-4), 2) := by decide +kernel
theorem dX10_losesNow_9 : decode cX10_losesNow 9 = .ok (.ireturn, 1) := by decide +kernel
theorem dX10_losesNow_10 : decode cX10_losesNow 10 = .ok (.aload_n 0, 1) := by decide +kernel
theorem dX10_losesNow_11 : decode cX10_losesNow 11 = .ok (.iload_n 1, 1) := by decide +kernel
theorem dX10_losesNow_12 : decode cX10_losesNow 12 = .ok (.invokevirtual 150, 3) := by decide +kernel
theorem dX10_losesNow_15 : decode cX10_losesNow 15 = .ok (.istore_n 2, 1) := by decide +kernel
theorem dX10_losesNow_16 : decode cX10_losesNow 16 = .ok (.aload_n 0, 1) := by decide +kernel
theorem dX10_losesNow_17 : decode cX10_losesNow 17 = .ok (.dup, 1) := by decide +kernel
theorem dX10_losesNow_18 : decode cX10_losesNow 18 = .ok (.getfield 80, 3) := by decide +kernel
theorem dX10_losesNow_21 : decode cX10_losesNow 21 = .ok (.iload_n 2, 1) := by decide +kernel
theorem dX10_losesNow_22 : decode cX10_losesNow 22 = .ok (.iadd, 1) := by decide +kernel
theorem dX10_losesNow_23 : decode cX10_losesNow 23 = .ok (.putfield 80, 3) := by decide +kernel
theorem dX10_losesNow_26 : decode cX10_losesNow 26 = .ok (.iconst 0, 1) := by decide +kernel
theorem dX10_losesNow_27 : decode cX10_losesNow 27 = .ok (.istore_n 3, 1) := by decide +kernel
theorem dX10_losesNow_28 : decode cX10_losesNow 28 = .ok (.iload_n 3, 1) := by decide +kernel
theorem dX10_losesNow_29 : decode cX10_losesNow 29 = .ok (.aload_n 0, 1) := by decide +kernel
theorem dX10_losesNow_30 : decode cX10_losesNow 30 = .ok (.getfield 74, 3) := by decide +kernel
theorem dX10_losesNow_33 : decode cX10_losesNow 33 = .ok (.if_icmp .ge 84, 3) := by decide +kernel
theorem dX10_losesNow_36 : decode cX10_losesNow 36 = .ok (.aload_n 0, 1) := by decide +kernel
theorem dX10_losesNow_37 : decode cX10_losesNow 37 = .ok (.getfield 44, 3) := by decide +kernel
theorem dX10_losesNow_40 : decode cX10_losesNow 40 = .ok (.iconst 3, 1) := by decide +kernel
theorem dX10_losesNow_41 : decode cX10_losesNow 41 = .ok (.iload_n 3, 1) := by decide +kernel
theorem dX10_losesNow_42 : decode cX10_losesNow 42 = .ok (.imul, 1) := by decide +kernel
theorem dX10_losesNow_43 : decode cX10_losesNow 43 = .ok (.iconst 2, 1) := by decide +kernel
theorem dX10_losesNow_44 : decode cX10_losesNow 44 = .ok (.iadd, 1) := by decide +kernel
theorem dX10_losesNow_45 : decode cX10_losesNow 45 = .ok (.iaload, 1) := by decide +kernel
theorem dX10_losesNow_46 : decode cX10_losesNow 46 = .ok (.ifCond .ne 33, 3) := by decide +kernel
theorem dX10_losesNow_49 : decode cX10_losesNow 49 = .ok (.aload_n 0, 1) := by decide +kernel
theorem dX10_losesNow_50 : decode cX10_losesNow 50 = .ok (.getfield 44, 3) := by decide +kernel
theorem dX10_losesNow_53 : decode cX10_losesNow 53 = .ok (.iconst 3, 1) := by decide +kernel
theorem dX10_losesNow_54 : decode cX10_losesNow 54 = .ok (.iload_n 3, 1) := by decide +kernel
theorem dX10_losesNow_55 : decode cX10_losesNow 55 = .ok (.imul, 1) := by decide +kernel
theorem dX10_losesNow_56 : decode cX10_losesNow 56 = .ok (.iconst 1, 1) := by decide +kernel
theorem dX10_losesNow_57 : decode cX10_losesNow 57 = .ok (.iadd, 1) := by decide +kernel
theorem dX10_losesNow_58 : decode cX10_losesNow 58 = .ok (.iaload, 1) := by decide +kernel
theorem dX10_losesNow_59 : decode cX10_losesNow 59 = .ok (.aload_n 0, 1) := by decide +kernel
theorem dX10_losesNow_60 : decode cX10_losesNow 60 = .ok (.getfield 17, 3) := by decide +kernel
theorem dX10_losesNow_63 : decode cX10_losesNow 63 = .ok (.aload_n 0, 1) := by decide +kernel
theorem dX10_losesNow_64 : decode cX10_losesNow 64 = .ok (.getfield 44, 3) := by decide +kernel
theorem dX10_losesNow_67 : decode cX10_losesNow 67 = .ok (.iconst 3, 1) := by decide +kernel
theorem dX10_losesNow_68 : decode cX10_losesNow 68 = .ok (.iload_n 3, 1) := by decide +kernel
theorem dX10_losesNow_69 : decode cX10_losesNow 69 = .ok (.imul, 1) := by decide +kernel
theorem dX10_losesNow_70 : decode cX10_losesNow 70 = .ok (.iaload, 1) := by decide +kernel
theorem dX10_losesNow_71 : decode cX10_losesNow 71 = .ok (.iaload, 1) := by decide +kernel
theorem dX10_losesNow_72 : decode cX10_losesNow 72 = .ok (.if_icmp .le 7, 3) := by decide +kernel
theorem dX10_losesNow_75 : decode cX10_losesNow 75 = .ok (.iconst 1, 1) := by decide +kernel
theorem dX10_losesNow_76 : decode cX10_losesNow 76 = .ok (.goto 4, 3) := by decide +kernel
theorem dX10_losesNow_79 : decode cX10_losesNow 79 = .ok (.iconst 0, 1) := by decide +kernel
theorem dX10_losesNow_80 : decode cX10_losesNow 80 = .ok (.istore 4, 2) := by decide +kernel
theorem dX10_losesNow_82 : decode cX10_losesNow 82 = .ok (.aload_n 0, 1) := by decide +kernel
theorem dX10_losesNow_83 : decode cX10_losesNow 83 = .ok (.getfield 44, 3) := by decide +kernel
theorem dX10_losesNow_86 : decode cX10_losesNow 86 = .ok (.iconst 3, 1) := by decide +kernel
theorem dX10_losesNow_87 : decode cX10_losesNow 87 = .ok (.iload_n 3, 1) := by decide +kernel
theorem dX10_losesNow_88 : decode cX10_losesNow 88 = .ok (.imul, 1) := by decide +kernel
theorem dX10_losesNow_89 : decode cX10_losesNow 89 = .ok (.iconst 2, 1) := by decide +kernel
theorem dX10_losesNow_90 : decode cX10_losesNow 90 = .ok (.iadd, 1) := by decide +kernel
theorem dX10_losesNow_91 : decode cX10_losesNow 91 = .ok (.iload 4, 2) := by decide +kernel
theorem dX10_losesNow_93 : decode cX10_losesNow 93 = .ok (.ifCond .eq 7, 3) := by decide +kernel
theorem dX10_losesNow_96 : decode cX10_losesNow 96 = .ok (.iconst 2, 1) := by decide +kernel
theorem dX10_losesNow_97 : decode cX10_losesNow 97 = .ok (.goto 13, 3) := by decide +kernel
theorem dX10_losesNow_100 : decode cX10_losesNow 100 = .ok (.aload_n 0, 1) := by decide +kernel
theorem dX10_losesNow_101 : decode cX10_losesNow 101 = .ok (.getfield 44, 3) := by decide +kernel
theorem dX10_losesNow_104 : decode cX10_losesNow 104 = .ok (.iconst 3, 1) := by decide +kernel
theorem dX10_losesNow_105 : decode cX10_losesNow 105 = .ok (.iload_n 3, 1) := by decide +kernel
theorem dX10_losesNow_106 : decode cX10_losesNow 106 = .ok (.imul, 1) := by decide +kernel
theorem dX10_losesNow_107 : decode cX10_losesNow 107 = .ok (.iconst 2, 1) := by decide +kernel
theorem dX10_losesNow_108 : decode cX10_losesNow 108 = .ok (.iadd, 1) := by decide +kernel
theorem dX10_losesNow_109 : decode cX10_losesNow 109 = .ok (.iaload, 1) := by decide +kernel
theorem dX10_losesNow_110 : decode cX10_losesNow 110 = .ok (.iastore, 1) := by decide +kernel
theorem dX10_losesNow_111 : decode cX10_losesNow 111 = .ok (.iinc 3 1, 3) := by decide +kernel
theorem dX10_losesNow_114 : decode cX10_losesNow 114 = .ok (.goto (-86), 3) := by decide +kernel
theorem dX10_losesNow_117 : decode cX10_losesNow 117 = .ok (.iload_n 2, 1) := by decide +kernel
theorem dX10_losesNow_118 : decode cX10_losesNow 118 = .ok (.ireturn, 1) := by decide +kernel
theorem dX10_loses_0 : decode cX10_loses 0 = .ok (.aload_n 0, 1) := by decide +kernel
theorem dX10_loses_1 : decode cX10_loses 1 = .ok (.iload_n 1, 1) := by decide +kernel
theorem dX10_loses_2 : decode cX10_loses 2 = .ok (.invokevirtual 98, 3) := by decide +kernel
theorem dX10_loses_5 : decode cX10_loses 5 = .ok (.ifCond .eq 15, 3) := by decide +kernel
theorem dX10_loses_8 : decode cX10_loses 8 = .ok (.aload_n 0, 1) := by decide +kernel
theorem dX10_loses_9 : decode cX10_loses 9 = .ok (.aload_n 0, 1) := by decide +kernel
theorem dX10_loses_10 : decode cX10_loses 10 = .ok (.iload_n 1, 1) := by decide +kernel
theorem dX10_loses_11 : decode cX10_loses 11 = .ok (.invokevirtual 153, 3) := by decide +kernel
theorem dX10_loses_14 : decode cX10_loses 14 = .ok (.invokevirtual 107, 3) := by decide +kernel
theorem dX10_loses_17 : decode cX10_loses 17 = .ok (.goto 7, 3) := by decide +kernel
theorem dX10_loses_20 : decode cX10_loses 20 = .ok (.aload_n 0, 1) := by decide +kernel
theorem dX10_loses_21 : decode cX10_loses 21 = .ok (.invokevirtual 87, 3) := by decide +kernel
theorem dX10_loses_24 : decode cX10_loses 24 = .ok (.ireturn, 1) := by decide +kernel
theorem dX10_tries_0 : decode cX10_tries 0 = .ok (.iconst 0, 1) := by decide +kernel
theorem dX10_tries_1 : decode cX10_tries 1 = .ok (.istore_n 2, 1) := by decide +kernel
theorem dX10_tries_2 : decode cX10_tries 2 = .ok (.iload_n 2, 1) := by decide +kernel
theorem dX10_tries_3 : decode cX10_tries 3 = .ok (.aload_n 0, 1) := by decide +kernel
theorem dX10_tries_4 : decode cX10_tries 4 = .ok (.getfield 7, 3) := by decide +kernel
theorem dX10_tries_7 : decode cX10_tries 7 = .ok (.if_icmp .ge 50, 3) := by decide +kernel
theorem dX10_tries_10 : decode cX10_tries 10 = .ok (.aload_n 0, 1) := by decide +kernel
theorem dX10_tries_11 : decode cX10_tries 11 = .ok (.getfield 53, 3) := by decide +kernel
theorem dX10_tries_14 : decode cX10_tries 14 = .ok (.iload_n 2, 1) := by decide +kernel
theorem dX10_tries_15 : decode cX10_tries 15 = .ok (.aload_n 0, 1) := by decide +kernel
theorem dX10_tries_16 : decode cX10_tries 16 = .ok (.getfield 13, 3) := by decide +kernel
theorem dX10_tries_19 : decode cX10_tries 19 = .ok (.iload_n 2, 1) := by decide +kernel
theorem dX10_tries_20 : decode cX10_tries 20 = .ok (.iaload, 1) := by decide +kernel
theorem dX10_tries_21 : decode cX10_tries 21 = .ok (.iastore, 1) := by decide +kernel
theorem dX10_tries_22 : decode cX10_tries 22 = .ok (.aload_n 0, 1) := by decide +kernel
theorem dX10_tries_23 : decode cX10_tries 23 = .ok (.getfield 53, 3) := by decide +kernel
theorem dX10_tries_26 : decode cX10_tries 26 = .ok (.iconst 5, 1) := by decide +kernel
theorem dX10_tries_27 : decode cX10_tries 27 = .ok (.iload_n 2, 1) := by decide +kernel
theorem dX10_tries_28 : decode cX10_tries 28 = .ok (.iadd, 1) := by decide +kernel
theorem dX10_tries_29 : decode cX10_tries 29 = .ok (.aload_n 0, 1) := by decide +kernel
theorem dX10_tries_30 : decode cX10_tries 30 = .ok (.getfield 17, 3) := by decide +kernel
theorem dX10_tries_33 : decode cX10_tries 33 = .ok (.iload_n 2, 1) := by decide +kernel
theorem dX10_tries_34 : decode cX10_tries 34 = .ok (.iaload, 1) := by decide +kernel
theorem dX10_tries_35 : decode cX10_tries 35 = .ok (.iastore, 1) := by decide +kernel
theorem dX10_tries_36 : decode cX10_tries 36 = .ok (.aload_n 0, 1) := by decide +kernel
theorem dX10_tries_37 : decode cX10_tries 37 = .ok (.getfield 53, 3) := by decide +kernel
theorem dX10_tries_40 : decode cX10_tries 40 = .ok (.bipush 10, 2) := by decide +kernel
theorem dX10_tries_42 : decode cX10_tries 42 = .ok (.iload_n 2, 1) := by decide +kernel
theorem dX10_tries_43 : decode cX10_tries 43 = .ok (.iadd, 1) := by decide +kernel
theorem dX10_tries_44 : decode cX10_tries 44 = .ok (.aload_n 0, 1) := by decide +kernel
theorem dX10_tries_45 : decode cX10_tries 45 = .ok (.getfield 20, 3) := by decide +kernel
theorem dX10_tries_48 : decode cX10_tries 48 = .ok (.iload_n 2, 1) := by decide +kernel
theorem dX10_tries_49 : decode cX10_tries 49 = .ok (.iaload, 1) := by decide +kernel
theorem dX10_tries_50 : decode cX10_tries 50 = .ok (.iastore, 1) := by decide +kernel
theorem dX10_tries_51 : decode cX10_tries 51 = .ok (.iinc 2 1, 3) := by decide +kernel
theorem dX10_tries_54 : decode cX10_tries 54 = .ok (.goto (-52), 3) := by decide +kernel
theorem dX10_tries_57 : decode cX10_tries 57 = .ok (.aload_n 0, 1) := by decide +kernel
theorem dX10_tries_58 : decode cX10_tries 58 = .ok (.iload_n 1, 1) := by decide +kernel
theorem dX10_tries_59 : decode cX10_tries 59 = .ok (.invokevirtual 150, 3) := by decide +kernel
theorem dX10_tries_62 : decode cX10_tries 62 = .ok (.istore_n 2, 1) := by decide +kernel
theorem dX10_tries_63 : decode cX10_tries 63 = .ok (.aload_n 0, 1) := by decide +kernel
theorem dX10_tries_64 : decode cX10_tries 64 = .ok (.iconst 0, 1) := by decide +kernel
theorem dX10_tries_65 : decode cX10_tries 65 = .ok (.putfield 156, 3) := by decide +kernel
theorem dX10_tries_68 : decode cX10_tries 68 = .ok (.aload_n 0, 1) := by decide +kernel
theorem dX10_tries_69 : decode cX10_tries 69 = .ok (.iconst 0, 1) := by decide +kernel
theorem dX10_tries_70 : decode cX10_tries 70 = .ok (.putfield 159, 3) := by decide +kernel
theorem dX10_tries_73 : decode cX10_tries 73 = .ok (.iconst 0, 1) := by decide +kernel
theorem dX10_tries_74 : decode cX10_tries 74 = .ok (.istore_n 3, 1) := by decide +kernel
theorem dX10_tries_75 : decode cX10_tries 75 = .ok (.iload_n 3, 1) := by decide +kernel
theorem dX10_tries_76 : decode cX10_tries 76 = .ok (.aload_n 0, 1) := by decide +kernel
theorem dX10_tries_77 : decode cX10_tries 77 = .ok (.getfield 74, 3) := by decide +kernel
theorem dX10_tries_80 : decode cX10_tries 80 = .ok (.if_icmp .ge 62, 3) := by decide +kernel
theorem dX10_tries_83 : decode cX10_tries 83 = .ok (.aload_n 0, 1) := by decide +kernel
theorem dX10_tries_84 : decode cX10_tries 84 = .ok (.dup, 1) := by decide +kernel
theorem dX10_tries_85 : decode cX10_tries 85 = .ok (.getfield 159, 3) := by decide +kernel
theorem dX10_tries_88 : decode cX10_tries 88 = .ok (.aload_n 0, 1) := by decide +kernel
theorem dX10_tries_89 : decode cX10_tries 89 = .ok (.getfield 44, 3) := by decide +kernel
theorem dX10_tries_92 : decode cX10_tries 92 = .ok (.iconst 3, 1) := by decide +kernel
theorem dX10_tries_93 : decode cX10_tries 93 = .ok (.iload_n 3, 1) := by decide +kernel
theorem dX10_tries_94 : decode cX10_tries 94 = .ok (.imul, 1) := by decide +kernel
theorem dX10_tries_95 : decode cX10_tries 95 = .ok (.iconst 2, 1) := by decide +kernel
theorem dX10_tries_96 : decode cX10_tries 96 = .ok (.iadd, 1) := by decide +kernel
theorem dX10_tries_97 : decode cX10_tries 97 = .ok (.iaload, 1) := by decide +kernel
theorem dX10_tries_98 : decode cX10_tries 98 = .ok (.ifCond .ne 33, 3) := by decide +kernel
theorem dX10_tries_101 : decode cX10_tries 101 = .ok (.aload_n 0, 1) := by decide +kernel
theorem dX10_tries_102 : decode cX10_tries 102 = .ok (.getfield 44, 3) := by decide +kernel
theorem dX10_tries_105 : decode cX10_tries 105 = .ok (.iconst 3, 1) := by decide +kernel
theorem dX10_tries_106 : decode cX10_tries 106 = .ok (.iload_n 3, 1) := by decide +kernel
theorem dX10_tries_107 : decode cX10_tries 107 = .ok (.imul, 1) := by decide +kernel
theorem dX10_tries_108 : decode cX10_tries 108 = .ok (.iconst 1, 1) := by decide +kernel
theorem dX10_tries_109 : decode cX10_tries 109 = .ok (.iadd, 1) := by decide +kernel
theorem dX10_tries_110 : decode cX10_tries 110 = .ok (.iaload, 1) := by decide +kernel
theorem dX10_tries_111 : decode cX10_tries 111 = .ok (.aload_n 0, 1) := by decide +kernel
theorem dX10_tries_112 : decode cX10_tries 112 = .ok (.getfield 17, 3) := by decide +kernel
theorem dX10_tries_115 : decode cX10_tries 115 = .ok (.aload_n 0, 1) := by decide +kernel
theorem dX10_tries_116 : decode cX10_tries 116 = .ok (.getfield 44, 3) := by decide +kernel
theorem dX10_tries_119 : decode cX10_tries 119 = .ok (.iconst 3, 1) := by decide +kernel
theorem dX10_tries_120 : decode cX10_tries 120 = .ok (.iload_n 3, 1) := by decide +kernel
theorem dX10_tries_121 : decode cX10_tries 121 = .ok (.imul, 1) := by decide +kernel
theorem dX10_tries_122 : decode cX10_tries 122 = .ok (.iaload, 1) := by decide +kernel
theorem dX10_tries_123 : decode cX10_tries 123 = .ok (.iaload, 1) := by decide +kernel
theorem dX10_tries_124 : decode cX10_tries 124 = .ok (.if_icmp .le 7, 3) := by decide +kernel
theorem dX10_tries_127 : decode cX10_tries 127 = .ok (.iconst 1, 1) := by decide +kernel
theorem dX10_tries_128 : decode cX10_tries 128 = .ok (.goto 4, 3) := by decide +kernel
theorem dX10_tries_131 : decode cX10_tries 131 = .ok (.iconst 0, 1) := by decide +kernel
theorem dX10_tries_132 : decode cX10_tries 132 = .ok (.iadd, 1) := by decide +kernel
theorem dX10_tries_133 : decode cX10_tries 133 = .ok (.putfield 159, 3) := by decide +kernel
theorem dX10_tries_136 : decode cX10_tries 136 = .ok (.iinc 3 1, 3) := by decide +kernel
theorem dX10_tries_139 : decode cX10_tries 139 = .ok (.goto (-64), 3) := by decide +kernel
theorem dX10_tries_142 : decode cX10_tries 142 = .ok (.iconst 0, 1) := by decide +kernel
theorem dX10_tries_143 : decode cX10_tries 143 = .ok (.istore_n 3, 1) := by decide +kernel
theorem dX10_tries_144 : decode cX10_tries 144 = .ok (.iload_n 3, 1) := by decide +kernel
theorem dX10_tries_145 : decode cX10_tries 145 = .ok (.aload_n 0, 1) := by decide +kernel
theorem dX10_tries_146 : decode cX10_tries 146 = .ok (.getfield 7, 3) := by decide +kernel
theorem dX10_tries_149 : decode cX10_tries 149 = .ok (.if_icmp .ge 79, 3) := by decide +kernel
theorem dX10_tries_152 : decode cX10_tries 152 = .ok (.aload_n 0, 1) := by decide +kernel
theorem dX10_tries_153 : decode cX10_tries 153 = .ok (.dup, 1) := by decide +kernel
theorem dX10_tries_154 : decode cX10_tries 154 = .ok (.getfield 156, 3) := by decide +kernel
theorem dX10_tries_157 : decode cX10_tries 157 = .ok (.aload_n 0, 1) := by decide +kernel
theorem dX10_tries_158 : decode cX10_tries 158 = .ok (.getfield 13, 3) := by decide +kernel
theorem dX10_tries_161 : decode cX10_tries 161 = .ok (.iload_n 3, 1) := by decide +kernel
theorem dX10_tries_162 : decode cX10_tries 162 = .ok (.iaload, 1) := by decide +kernel
theorem dX10_tries_163 : decode cX10_tries 163 = .ok (.aload_n 0, 1) := by decide +kernel
theorem dX10_tries_164 : decode cX10_tries 164 = .ok (.getfield 53, 3) := by decide +kernel
theorem dX10_tries_167 : decode cX10_tries 167 = .ok (.iload_n 3, 1) := by decide +kernel
theorem dX10_tries_168 : decode cX10_tries 168 = .ok (.iaload, 1) := by decide +kernel
theorem dX10_tries_169 : decode cX10_tries 169 = .ok (.if_icmp .le 7, 3) := by decide +kernel
theorem dX10_tries_172 : decode cX10_tries 172 = .ok (.iconst 1, 1) := by decide +kernel
theorem dX10_tries_173 : decode cX10_tries 173 = .ok (.goto 4, 3) := by decide +kernel
theorem dX10_tries_176 : decode cX10_tries 176 = .ok (.iconst 0, 1) := by decide +kernel
theorem dX10_tries_177 : decode cX10_tries 177 = .ok (.iadd, 1) := by decide +kernel
theorem dX10_tries_178 : decode cX10_tries 178 = .ok (.putfield 156, 3) := by decide +kernel
theorem dX10_tries_181 : decode cX10_tries 181 = .ok (.aload_n 0, 1) := by decide +kernel
