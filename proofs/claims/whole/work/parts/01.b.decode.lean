theorem dX0_init_0 : decode cX0_init 0 = .ok (.aload_n 0, 1) := by decide +kernel
theorem dX0_init_1 : decode cX0_init 1 = .ok (.invokespecial 3, 3) := by decide +kernel
theorem dX0_init_4 : decode cX0_init 4 = .ok (.aload_n 0, 1) := by decide +kernel
theorem dX0_init_5 : decode cX0_init 5 = .ok (.bipush 24, 2) := by decide +kernel
theorem dX0_init_7 : decode cX0_init 7 = .ok (.newarray .int, 2) := by decide +kernel
theorem dX0_init_9 : decode cX0_init 9 = .ok (.putfield 9, 3) := by decide +kernel
theorem dX0_init_12 : decode cX0_init 12 = .ok (.aload_n 0, 1) := by decide +kernel
theorem dX0_init_13 : decode cX0_init 13 = .ok (.bipush 24, 2) := by decide +kernel
theorem dX0_init_15 : decode cX0_init 15 = .ok (.newarray .int, 2) := by decide +kernel
theorem dX0_init_17 : decode cX0_init 17 = .ok (.putfield 15, 3) := by decide +kernel
theorem dX0_init_20 : decode cX0_init 20 = .ok (.aload_n 0, 1) := by decide +kernel
theorem dX0_init_21 : decode cX0_init 21 = .ok (.new 18, 3) := by decide +kernel
theorem dX0_init_24 : decode cX0_init 24 = .ok (.dup, 1) := by decide +kernel
theorem dX0_init_25 : decode cX0_init 25 = .ok (.bipush 24, 2) := by decide +kernel
theorem dX0_init_27 : decode cX0_init 27 = .ok (.invokespecial 20, 3) := by decide +kernel
theorem dX0_init_30 : decode cX0_init 30 = .ok (.putfield 23, 3) := by decide +kernel
theorem dX0_init_33 : decode cX0_init 33 = .ok (.aload_n 0, 1) := by decide +kernel
theorem dX0_init_34 : decode cX0_init 34 = .ok (.bipush 60, 2) := by decide +kernel
theorem dX0_init_36 : decode cX0_init 36 = .ok (.newarray .int, 2) := by decide +kernel
theorem dX0_init_38 : decode cX0_init 38 = .ok (.putfield 27, 3) := by decide +kernel
theorem dX0_init_41 : decode cX0_init 41 = .ok (.aload_n 0, 1) := by decide +kernel
theorem dX0_init_42 : decode cX0_init 42 = .ok (.iload_n 1, 1) := by decide +kernel
theorem dX0_init_43 : decode cX0_init 43 = .ok (.putfield 30, 3) := by decide +kernel
theorem dX0_init_46 : decode cX0_init 46 = .ok (.return_, 1) := by decide +kernel
theorem dX0_begin_0 : decode cX0_begin 0 = .ok (.aload_n 0, 1) := by decide +kernel
theorem dX0_begin_1 : decode cX0_begin 1 = .ok (.iconst 0, 1) := by decide +kernel
theorem dX0_begin_2 : decode cX0_begin 2 = .ok (.putfield 34, 3) := by decide +kernel
theorem dX0_begin_5 : decode cX0_begin 5 = .ok (.aload_n 0, 1) := by decide +kernel
theorem dX0_begin_6 : decode cX0_begin 6 = .ok (.iconst 0, 1) := by decide +kernel
theorem dX0_begin_7 : decode cX0_begin 7 = .ok (.putfield 37, 3) := by decide +kernel
theorem dX0_begin_10 : decode cX0_begin 10 = .ok (.aload_n 0, 1) := by decide +kernel
theorem dX0_begin_11 : decode cX0_begin 11 = .ok (.iconst 0, 1) := by decide +kernel
theorem dX0_begin_12 : decode cX0_begin 12 = .ok (.putfield 40, 3) := by decide +kernel
theorem dX0_begin_15 : decode cX0_begin 15 = .ok (.aload_n 0, 1) := by decide +kernel
theorem dX0_begin_16 : decode cX0_begin 16 = .ok (.iconst 0, 1) := by decide +kernel
theorem dX0_begin_17 : decode cX0_begin 17 = .ok (.putfield 43, 3) := by decide +kernel
theorem dX0_begin_20 : decode cX0_begin 20 = .ok (.aload_n 0, 1) := by decide +kernel
theorem dX0_begin_21 : decode cX0_begin 21 = .ok (.getfield 9, 3) := by decide +kernel
theorem dX0_begin_24 : decode cX0_begin 24 = .ok (.iconst 0, 1) := by decide +kernel
theorem dX0_begin_25 : decode cX0_begin 25 = .ok (.iconst 0, 1) := by decide +kernel
theorem dX0_begin_26 : decode cX0_begin 26 = .ok (.invokestatic 46, 3) := by decide +kernel
theorem dX0_begin_29 : decode cX0_begin 29 = .ok (.aload_n 0, 1) := by decide +kernel
theorem dX0_begin_30 : decode cX0_begin 30 = .ok (.getfield 15, 3) := by decide +kernel
theorem dX0_begin_33 : decode cX0_begin 33 = .ok (.iconst 0, 1) := by decide +kernel
theorem dX0_begin_34 : decode cX0_begin 34 = .ok (.iconst 0, 1) := by decide +kernel
theorem dX0_begin_35 : decode cX0_begin 35 = .ok (.invokestatic 46, 3) := by decide +kernel
theorem dX0_begin_38 : decode cX0_begin 38 = .ok (.iconst 0, 1) := by decide +kernel
theorem dX0_begin_39 : decode cX0_begin 39 = .ok (.istore_n 1, 1) := by decide +kernel
theorem dX0_begin_40 : decode cX0_begin 40 = .ok (.iload_n 1, 1) := by decide +kernel
theorem dX0_begin_41 : decode cX0_begin 41 = .ok (.iconst 5, 1) := by decide +kernel
theorem dX0_begin_42 : decode cX0_begin 42 = .ok (.if_icmp .ge 20, 3) := by decide +kernel
theorem dX0_begin_45 : decode cX0_begin 45 = .ok (.aload_n 0, 1) := by decide +kernel
theorem dX0_begin_46 : decode cX0_begin 46 = .ok (.getfield 23, 3) := by decide +kernel
theorem dX0_begin_49 : decode cX0_begin 49 = .ok (.iconst 0, 1) := by decide +kernel
theorem dX0_begin_50 : decode cX0_begin 50 = .ok (.iload_n 1, 1) := by decide +kernel
theorem dX0_begin_51 : decode cX0_begin 51 = .ok (.iconst 0, 1) := by decide +kernel
theorem dX0_begin_52 : decode cX0_begin 52 = .ok (.iconst 0, 1) := by decide +kernel
theorem dX0_begin_53 : decode cX0_begin 53 = .ok (.invokevirtual 50, 3) := by decide +kernel
theorem dX0_begin_56 : decode cX0_begin 56 = .ok (.iinc 1 1, 3) := by decide +kernel
theorem dX0_begin_59 : decode cX0_begin 59 = .ok (.goto (-19), 3) := by decide +kernel
theorem dX0_begin_62 : decode cX0_begin 62 = .ok (.return_, 1) := by decide +kernel
theorem dX0_isFull_0 : decode cX0_isFull 0 = .ok (.aload_n 0, 1) := by decide +kernel
theorem dX0_isFull_1 : decode cX0_isFull 1 = .ok (.getfield 37, 3) := by decide +kernel
theorem dX0_isFull_4 : decode cX0_isFull 4 = .ok (.bipush 23, 2) := by decide +kernel
theorem dX0_isFull_6 : decode cX0_isFull 6 = .ok (.if_icmp .lt 7, 3) := by decide +kernel
theorem dX0_isFull_9 : decode cX0_isFull 9 = .ok (.iconst 1, 1) := by decide +kernel
theorem dX0_isFull_10 : decode cX0_isFull 10 = .ok (.goto 4, 3) := by decide +kernel
theorem dX0_isFull_13 : decode cX0_isFull 13 = .ok (.iconst 0, 1) := by decide +kernel
theorem dX0_isFull_14 : decode cX0_isFull 14 = .ok (.ireturn, 1) := by decide +kernel
theorem dX0_addPage_0 : decode cX0_addPage 0 = .ok (.aload_n 0, 1) := by decide +kernel
theorem dX0_addPage_1 : decode cX0_addPage 1 = .ok (.getfield 37, 3) := by decide +kernel
theorem dX0_addPage_4 : decode cX0_addPage 4 = .ok (.iconst 1, 1) := by decide +kernel
theorem dX0_addPage_5 : decode cX0_addPage 5 = .ok (.iadd, 1) := by decide +kernel
theorem dX0_addPage_6 : decode cX0_addPage 6 = .ok (.istore_n 2, 1) := by decide +kernel
theorem dX0_addPage_7 : decode cX0_addPage 7 = .ok (.aload_n 0, 1) := by decide +kernel
theorem dX0_addPage_8 : decode cX0_addPage 8 = .ok (.getfield 15, 3) := by decide +kernel
theorem dX0_addPage_11 : decode cX0_addPage 11 = .ok (.aload_n 0, 1) := by decide +kernel
theorem dX0_addPage_12 : decode cX0_addPage 12 = .ok (.getfield 37, 3) := by decide +kernel
theorem dX0_addPage_15 : decode cX0_addPage 15 = .ok (.invokestatic 54, 3) := by decide +kernel
theorem dX0_addPage_18 : decode cX0_addPage 18 = .ok (.i2l, 1) := by decide +kernel
theorem dX0_addPage_19 : decode cX0_addPage 19 = .ok (.ldc2_w 58, 3) := by decide +kernel
theorem dX0_addPage_22 : decode cX0_addPage 22 = .ok (.lmul, 1) := by decide +kernel
theorem dX0_addPage_23 : decode cX0_addPage 23 = .ok (.iload_n 1, 1) := by decide +kernel
theorem dX0_addPage_24 : decode cX0_addPage 24 = .ok (.i2l, 1) := by decide +kernel
theorem dX0_addPage_25 : decode cX0_addPage 25 = .ok (.ladd, 1) := by decide +kernel
theorem dX0_addPage_26 : decode cX0_addPage 26 = .ok (.lstore_n 3, 1) := by decide +kernel
theorem dX0_addPage_27 : decode cX0_addPage 27 = .ok (.aload_n 0, 1) := by decide +kernel
theorem dX0_addPage_28 : decode cX0_addPage 28 = .ok (.getfield 9, 3) := by decide +kernel
theorem dX0_addPage_31 : decode cX0_addPage 31 = .ok (.iload_n 2, 1) := by decide +kernel
theorem dX0_addPage_32 : decode cX0_addPage 32 = .ok (.aload_n 0, 1) := by decide +kernel
theorem dX0_addPage_33 : decode cX0_addPage 33 = .ok (.getfield 34, 3) := by decide +kernel
theorem dX0_addPage_36 : decode cX0_addPage 36 = .ok (.invokestatic 46, 3) := by decide +kernel
theorem dX0_addPage_39 : decode cX0_addPage 39 = .ok (.aload_n 0, 1) := by decide +kernel
theorem dX0_addPage_40 : decode cX0_addPage 40 = .ok (.getfield 15, 3) := by decide +kernel
theorem dX0_addPage_43 : decode cX0_addPage 43 = .ok (.iload_n 2, 1) := by decide +kernel
theorem dX0_addPage_44 : decode cX0_addPage 44 = .ok (.lload_n 3, 1) := by decide +kernel
theorem dX0_addPage_45 : decode cX0_addPage 45 = .ok (.ldc 60, 2) := by decide +kernel
theorem dX0_addPage_47 : decode cX0_addPage 47 = .ok (.invokestatic 61, 3) := by decide +kernel
theorem dX0_addPage_50 : decode cX0_addPage 50 = .ok (.invokestatic 46, 3) := by decide +kernel
theorem dX0_addPage_53 : decode cX0_addPage 53 = .ok (.aload_n 0, 1) := by decide +kernel
theorem dX0_addPage_54 : decode cX0_addPage 54 = .ok (.getfield 23, 3) := by decide +kernel
theorem dX0_addPage_57 : decode cX0_addPage 57 = .ok (.aload_n 0, 1) := by decide +kernel
theorem dX0_addPage_58 : decode cX0_addPage 58 = .ok (.getfield 23, 3) := by decide +kernel
theorem dX0_addPage_61 : decode cX0_addPage 61 = .ok (.aload_n 0, 1) := by decide +kernel
theorem dX0_addPage_62 : decode cX0_addPage 62 = .ok (.getfield 37, 3) := by decide +kernel
theorem dX0_addPage_65 : decode cX0_addPage 65 = .ok (.iload_n 2, 1) := by decide +kernel
theorem dX0_addPage_66 : decode cX0_addPage 66 = .ok (.invokevirtual 65, 3) := by decide +kernel
theorem dX0_addPage_69 : decode cX0_addPage 69 = .ok (.aload_n 0, 1) := by decide +kernel
theorem dX0_addPage_70 : decode cX0_addPage 70 = .ok (.getfield 23, 3) := by decide +kernel
theorem dX0_addPage_73 : decode cX0_addPage 73 = .ok (.iload_n 2, 1) := by decide +kernel
theorem dX0_addPage_74 : decode cX0_addPage 74 = .ok (.aload_n 0, 1) := by decide +kernel
theorem dX0_addPage_75 : decode cX0_addPage 75 = .ok (.getfield 30, 3) := by decide +kernel
theorem dX0_addPage_78 : decode cX0_addPage 78 = .ok (.aload_n 0, 1) := by decide +kernel
theorem dX0_addPage_79 : decode cX0_addPage 79 = .ok (.getfield 34, 3) := by decide +kernel
theorem dX0_addPage_82 : decode cX0_addPage 82 = .ok (.iload_n 2, 1) := by decide +kernel
theorem dX0_addPage_83 : decode cX0_addPage 83 = .ok (.invokevirtual 50, 3) := by decide +kernel
theorem dX0_addPage_86 : decode cX0_addPage 86 = .ok (.aload_n 0, 1) := by decide +kernel
theorem dX0_addPage_87 : decode cX0_addPage 87 = .ok (.iload_n 2, 1) := by decide +kernel
theorem dX0_addPage_88 : decode cX0_addPage 88 = .ok (.putfield 37, 3) := by decide +kernel
theorem dX0_addPage_91 : decode cX0_addPage 91 = .ok (.iload_n 2, 1) := by decide +kernel
theorem dX0_addPage_92 : decode cX0_addPage 92 = .ok (.ireturn, 1) := by decide +kernel
theorem dX0_restAlsoOn_0 : decode cX0_restAlsoOn 0 = .ok (.iconst 0, 1) := by decide +kernel
theorem dX0_restAlsoOn_1 : decode cX0_restAlsoOn 1 = .ok (.istore_n 3, 1) := by decide +kernel
theorem dX0_restAlsoOn_2 : decode cX0_restAlsoOn 2 = .ok (.iload_n 3, 1) := by decide +kernel
theorem dX0_restAlsoOn_3 : decode cX0_restAlsoOn 3 = .ok (.iconst 5, 1) := by decide +kernel
theorem dX0_restAlsoOn_4 : decode cX0_restAlsoOn 4 = .ok (.if_icmp .ge 41, 3) := by decide +kernel
theorem dX0_restAlsoOn_7 : decode cX0_restAlsoOn 7 = .ok (.iload_n 3, 1) := by decide +kernel
theorem dX0_restAlsoOn_8 : decode cX0_restAlsoOn 8 = .ok (.aload_n 0, 1) := by decide +kernel
theorem dX0_restAlsoOn_9 : decode cX0_restAlsoOn 9 = .ok (.getfield 30, 3) := by decide +kernel
theorem dX0_restAlsoOn_12 : decode cX0_restAlsoOn 12 = .ok (.if_icmp .eq 27, 3) := by decide +kernel
theorem dX0_restAlsoOn_15 : decode cX0_restAlsoOn 15 = .ok (.aload_n 0, 1) := by decide +kernel
theorem dX0_restAlsoOn_16 : decode cX0_restAlsoOn 16 = .ok (.getfield 23, 3) := by decide +kernel
theorem dX0_restAlsoOn_19 : decode cX0_restAlsoOn 19 = .ok (.aload_n 0, 1) := by decide +kernel
theorem dX0_restAlsoOn_20 : decode cX0_restAlsoOn 20 = .ok (.getfield 37, 3) := by decide +kernel
theorem dX0_restAlsoOn_23 : decode cX0_restAlsoOn 23 = .ok (.iload_n 3, 1) := by decide +kernel
theorem dX0_restAlsoOn_24 : decode cX0_restAlsoOn 24 = .ok (.aload_n 1, 1) := by decide +kernel
theorem dX0_restAlsoOn_25 : decode cX0_restAlsoOn 25 = .ok (.iload_n 2, 1) := by decide +kernel
theorem dX0_restAlsoOn_26 : decode cX0_restAlsoOn 26 = .ok (.iload_n 3, 1) := by decide +kernel
theorem dX0_restAlsoOn_27 : decode cX0_restAlsoOn 27 = .ok (.invokevirtual 69, 3) := by decide +kernel
theorem dX0_restAlsoOn_30 : decode cX0_restAlsoOn 30 = .ok (.aload_n 1, 1) := by decide +kernel
theorem dX0_restAlsoOn_31 : decode cX0_restAlsoOn 31 = .ok (.iload_n 2, 1) := by decide +kernel
theorem dX0_restAlsoOn_32 : decode cX0_restAlsoOn 32 = .ok (.iload_n 3, 1) := by decide +kernel
theorem dX0_restAlsoOn_33 : decode cX0_restAlsoOn 33 = .ok (.invokevirtual 73, 3) := by decide +kernel
theorem dX0_restAlsoOn_36 : decode cX0_restAlsoOn 36 = .ok (.invokevirtual 76, 3) := by decide +kernel
theorem dX0_restAlsoOn_39 : decode cX0_restAlsoOn 39 = .ok (.iinc 3 1, 3) := by decide +kernel
theorem dX0_restAlsoOn_42 : decode cX0_restAlsoOn 42 = .ok (.goto (-40), 3) := by decide +kernel
theorem dX0_restAlsoOn_45 : decode cX0_restAlsoOn 45 = .ok (.return_, 1) := by decide +kernel
theorem dX0_writeMore_0 : decode cX0_writeMore 0 = .ok (.aload_n 0, 1) := by decide +kernel
theorem dX0_writeMore_1 : decode cX0_writeMore 1 = .ok (.aload_n 0, 1) := by decide +kernel
theorem dX0_writeMore_2 : decode cX0_writeMore 2 = .ok (.getfield 37, 3) := by decide +kernel
theorem dX0_writeMore_5 : decode cX0_writeMore 5 = .ok (.aload_n 0, 1) := by decide +kernel
theorem dX0_writeMore_6 : decode cX0_writeMore 6 = .ok (.getfield 40, 3) := by decide +kernel
theorem dX0_writeMore_9 : decode cX0_writeMore 9 = .ok (.iload_n 1, 1) := by decide +kernel
theorem dX0_writeMore_10 : decode cX0_writeMore 10 = .ok (.iadd, 1) := by decide +kernel
theorem dX0_writeMore_11 : decode cX0_writeMore 11 = .ok (.invokestatic 79, 3) := by decide +kernel
theorem dX0_writeMore_14 : decode cX0_writeMore 14 = .ok (.putfield 40, 3) := by decide +kernel
theorem dX0_writeMore_17 : decode cX0_writeMore 17 = .ok (.aload_n 0, 1) := by decide +kernel
theorem dX0_writeMore_18 : decode cX0_writeMore 18 = .ok (.getfield 40, 3) := by decide +kernel
theorem dX0_writeMore_21 : decode cX0_writeMore 21 = .ok (.ireturn, 1) := by decide +kernel
theorem dX0_fallBack_0 : decode cX0_fallBack 0 = .ok (.aload_n 0, 1) := by decide +kernel
theorem dX0_fallBack_1 : decode cX0_fallBack 1 = .ok (.getfield 27, 3) := by decide +kernel
theorem dX0_fallBack_4 : decode cX0_fallBack 4 = .ok (.aload_n 0, 1) := by decide +kernel
theorem dX0_fallBack_5 : decode cX0_fallBack 5 = .ok (.getfield 34, 3) := by decide +kernel
theorem dX0_fallBack_8 : decode cX0_fallBack 8 = .ok (.iload_n 1, 1) := by decide +kernel
theorem dX0_fallBack_9 : decode cX0_fallBack 9 = .ok (.invokestatic 46, 3) := by decide +kernel
theorem dX0_fallBack_12 : decode cX0_fallBack 12 = .ok (.aload_n 0, 1) := by decide +kernel
theorem dX0_fallBack_13 : decode cX0_fallBack 13 = .ok (.dup, 1) := by decide +kernel
theorem dX0_fallBack_14 : decode cX0_fallBack 14 = .ok (.getfield 34, 3) := by decide +kernel
theorem dX0_fallBack_17 : decode cX0_fallBack 17 = .ok (.iconst 1, 1) := by decide +kernel
theorem dX0_fallBack_18 : decode cX0_fallBack 18 = .ok (.iadd, 1) := by decide +kernel
theorem dX0_fallBack_19 : decode cX0_fallBack 19 = .ok (.putfield 34, 3) := by decide +kernel
theorem dX0_fallBack_22 : decode cX0_fallBack 22 = .ok (.aload_n 0, 1) := by decide +kernel
theorem dX0_fallBack_23 : decode cX0_fallBack 23 = .ok (.iload_n 1, 1) := by decide +kernel
theorem dX0_fallBack_24 : decode cX0_fallBack 24 = .ok (.putfield 37, 3) := by decide +kernel
theorem dX0_fallBack_27 : decode cX0_fallBack 27 = .ok (.aload_n 0, 1) := by decide +kernel
theorem dX0_fallBack_28 : decode cX0_fallBack 28 = .ok (.aload_n 0, 1) := by decide +kernel
theorem dX0_fallBack_29 : decode cX0_fallBack 29 = .ok (.getfield 40, 3) := by decide +kernel
theorem dX0_fallBack_32 : decode cX0_fallBack 32 = .ok (.iload_n 1, 1) := by decide +kernel
theorem dX0_fallBack_33 : decode cX0_fallBack 33 = .ok (.invokestatic 79, 3) := by decide +kernel
theorem dX0_fallBack_36 : decode cX0_fallBack 36 = .ok (.putfield 40, 3) := by decide +kernel
theorem dX0_fallBack_39 : decode cX0_fallBack 39 = .ok (.return_, 1) := by decide +kernel
theorem dX0_endOf_0 : decode cX0_endOf 0 = .ok (.iload_n 1, 1) := by decide +kernel
theorem dX0_endOf_1 : decode cX0_endOf 1 = .ok (.ifCond .lt 22, 3) := by decide +kernel
theorem dX0_endOf_4 : decode cX0_endOf 4 = .ok (.iload_n 1, 1) := by decide +kernel
theorem dX0_endOf_5 : decode cX0_endOf 5 = .ok (.aload_n 0, 1) := by decide +kernel
theorem dX0_endOf_6 : decode cX0_endOf 6 = .ok (.getfield 34, 3) := by decide +kernel
theorem dX0_endOf_9 : decode cX0_endOf 9 = .ok (.if_icmp .ge 14, 3) := by decide +kernel
theorem dX0_endOf_12 : decode cX0_endOf 12 = .ok (.aload_n 0, 1) := by decide +kernel
theorem dX0_endOf_13 : decode cX0_endOf 13 = .ok (.getfield 27, 3) := by decide +kernel
theorem dX0_endOf_16 : decode cX0_endOf 16 = .ok (.iload_n 1, 1) := by decide +kernel
theorem dX0_endOf_17 : decode cX0_endOf 17 = .ok (.invokestatic 54, 3) := by decide +kernel
theorem dX0_endOf_20 : decode cX0_endOf 20 = .ok (.goto 4, 3) := by decide +kernel
theorem dX0_endOf_23 : decode cX0_endOf 23 = .ok (.iconst (-1), 1) := by decide +kernel
theorem dX0_endOf_24 : decode cX0_endOf 24 = .ok (.ireturn, 1) := by decide +kernel
theorem dX0_isDeadRest_0 : decode cX0_isDeadRest 0 = .ok (.iconst 0, 1) := by decide +kernel
theorem dX0_isDeadRest_1 : decode cX0_isDeadRest 1 = .ok (.iload_n 1, 1) := by decide +kernel
theorem dX0_isDeadRest_2 : decode cX0_isDeadRest 2 = .ok (.invokestatic 84, 3) := by decide +kernel
theorem dX0_isDeadRest_5 : decode cX0_isDeadRest 5 = .ok (.istore_n 3, 1) := by decide +kernel
theorem dX0_isDeadRest_6 : decode cX0_isDeadRest 6 = .ok (.iload_n 3, 1) := by decide +kernel
theorem dX0_isDeadRest_7 : decode cX0_isDeadRest 7 = .ok (.aload_n 0, 1) := by decide +kernel
theorem dX0_isDeadRest_8 : decode cX0_isDeadRest 8 = .ok (.getfield 34, 3) := by decide +kernel
theorem dX0_isDeadRest_11 : decode cX0_isDeadRest 11 = .ok (.if_icmp .ge 23, 3) := by decide +kernel
theorem dX0_isDeadRest_14 : decode cX0_isDeadRest 14 = .ok (.aload_n 0, 1) := by decide +kernel
theorem dX0_isDeadRest_15 : decode cX0_isDeadRest 15 = .ok (.getfield 27, 3) := by decide +kernel
theorem dX0_isDeadRest_18 : decode cX0_isDeadRest 18 = .ok (.iload_n 3, 1) := by decide +kernel
theorem dX0_isDeadRest_19 : decode cX0_isDeadRest 19 = .ok (.invokestatic 54, 3) := by decide +kernel
theorem dX0_isDeadRest_22 : decode cX0_isDeadRest 22 = .ok (.iload_n 2, 1) := by decide +kernel
theorem dX0_isDeadRest_23 : decode cX0_isDeadRest 23 = .ok (.if_icmp .ge 5, 3) := by decide +kernel
theorem dX0_isDeadRest_26 : decode cX0_isDeadRest 26 = .ok (.iconst 1, 1) := by decide +kernel
theorem dX0_isDeadRest_27 : decode cX0_isDeadRest 27 = .ok (.ireturn, 1) := by decide +kernel
theorem dX0_isDeadRest_28 : decode cX0_isDeadRest 28 = .ok (.iinc 3 1, 3) := by decide +kernel
theorem dX0_isDeadRest_31 : decode cX0_isDeadRest 31 = .ok (.goto (-25), 3) := by decide +kernel
theorem dX0_isDeadRest_34 : decode cX0_isDeadRest 34 = .ok (.iconst 0, 1) := by decide +kernel
theorem dX0_isDeadRest_35 : decode cX0_isDeadRest 35 = .ok (.ireturn, 1) := by decide +kernel
theorem dX0_hasPage_0 : decode cX0_hasPage 0 = .ok (.iload_n 1, 1) := by decide +kernel
theorem dX0_hasPage_1 : decode cX0_hasPage 1 = .ok (.aload_n 0, 1) := by decide +kernel
theorem dX0_hasPage_2 : decode cX0_hasPage 2 = .ok (.getfield 43, 3) := by decide +kernel
theorem dX0_hasPage_5 : decode cX0_hasPage 5 = .ok (.if_icmp .lt 15, 3) := by decide +kernel
theorem dX0_hasPage_8 : decode cX0_hasPage 8 = .ok (.iload_n 1, 1) := by decide +kernel
theorem dX0_hasPage_9 : decode cX0_hasPage 9 = .ok (.aload_n 0, 1) := by decide +kernel
theorem dX0_hasPage_10 : decode cX0_hasPage 10 = .ok (.getfield 37, 3) := by decide +kernel
theorem dX0_hasPage_13 : decode cX0_hasPage 13 = .ok (.if_icmp .gt 7, 3) := by decide +kernel
theorem dX0_hasPage_16 : decode cX0_hasPage 16 = .ok (.iconst 1, 1) := by decide +kernel
theorem dX0_hasPage_17 : decode cX0_hasPage 17 = .ok (.goto 4, 3) := by decide +kernel
theorem dX0_hasPage_20 : decode cX0_hasPage 20 = .ok (.iconst 0, 1) := by decide +kernel
theorem dX0_hasPage_21 : decode cX0_hasPage 21 = .ok (.ireturn, 1) := by decide +kernel
theorem dX0_sumNow_0 : decode cX0_sumNow 0 = .ok (.aload_n 0, 1) := by decide +kernel
theorem dX0_sumNow_1 : decode cX0_sumNow 1 = .ok (.getfield 15, 3) := by decide +kernel
theorem dX0_sumNow_4 : decode cX0_sumNow 4 = .ok (.aload_n 0, 1) := by decide +kernel
theorem dX0_sumNow_5 : decode cX0_sumNow 5 = .ok (.getfield 37, 3) := by decide +kernel
theorem dX0_sumNow_8 : decode cX0_sumNow 8 = .ok (.invokestatic 54, 3) := by decide +kernel
theorem dX0_sumNow_11 : decode cX0_sumNow 11 = .ok (.ireturn, 1) := by decide +kernel
theorem dX1_init_0 : decode cX1_init 0 = .ok (.aload_n 0, 1) := by decide +kernel
theorem dX1_init_1 : decode cX1_init 1 = .ok (.invokespecial 3, 3) := by decide +kernel
theorem dX1_init_4 : decode cX1_init 4 = .ok (.aload_n 0, 1) := by decide +kernel
theorem dX1_init_5 : decode cX1_init 5 = .ok (.iconst 5, 1) := by decide +kernel
theorem dX1_init_6 : decode cX1_init 6 = .ok (.newarray .int, 2) := by decide +kernel
theorem dX1_init_8 : decode cX1_init 8 = .ok (.putfield 9, 3) := by decide +kernel
theorem dX1_init_11 : decode cX1_init 11 = .ok (.aload_n 0, 1) := by decide +kernel
theorem dX1_init_12 : decode cX1_init 12 = .ok (.iconst 5, 1) := by decide +kernel
theorem dX1_init_13 : decode cX1_init 13 = .ok (.newarray .int, 2) := by decide +kernel
theorem dX1_init_15 : decode cX1_init 15 = .ok (.putfield 15, 3) := by decide +kernel
theorem dX1_init_18 : decode cX1_init 18 = .ok (.return_, 1) := by decide +kernel
theorem dX1_foresee_0 : decode cX1_foresee 0 = .ok (.aload_n 0, 1) := by decide +kernel
theorem dX1_foresee_1 : decode cX1_foresee 1 = .ok (.iload_n 2, 1) := by decide +kernel
theorem dX1_foresee_2 : decode cX1_foresee 2 = .ok (.putfield 18, 3) := by decide +kernel
theorem dX1_foresee_5 : decode cX1_foresee 5 = .ok (.aload_n 0, 1) := by decide +kernel
theorem dX1_foresee_6 : decode cX1_foresee 6 = .ok (.aload_n 1, 1) := by decide +kernel
theorem dX1_foresee_7 : decode cX1_foresee 7 = .ok (.getfield 22, 3) := by decide +kernel
theorem dX1_foresee_10 : decode cX1_foresee 10 = .ok (.putfield 27, 3) := by decide +kernel
theorem dX1_foresee_13 : decode cX1_foresee 13 = .ok (.iconst 0, 1) := by decide +kernel
theorem dX1_foresee_14 : decode cX1_foresee 14 = .ok (.istore_n 3, 1) := by decide +kernel
theorem dX1_foresee_15 : decode cX1_foresee 15 = .ok (.iload_n 3, 1) := by decide +kernel
theorem dX1_foresee_16 : decode cX1_foresee 16 = .ok (.aload_n 0, 1) := by decide +kernel
theorem dX1_foresee_17 : decode cX1_foresee 17 = .ok (.getfield 27, 3) := by decide +kernel
theorem dX1_foresee_20 : decode cX1_foresee 20 = .ok (.if_icmp .ge 41, 3) := by decide +kernel
theorem dX1_foresee_23 : decode cX1_foresee 23 = .ok (.aload_n 0, 1) := by decide +kernel
theorem dX1_foresee_24 : decode cX1_foresee 24 = .ok (.getfield 15, 3) := by decide +kernel
theorem dX1_foresee_27 : decode cX1_foresee 27 = .ok (.iload_n 3, 1) := by decide +kernel
theorem dX1_foresee_28 : decode cX1_foresee 28 = .ok (.aload_n 1, 1) := by decide +kernel
theorem dX1_foresee_29 : decode cX1_foresee 29 = .ok (.iload_n 3, 1) := by decide +kernel
theorem dX1_foresee_30 : decode cX1_foresee 30 = .ok (.invokevirtual 28, 3) := by decide +kernel
theorem dX1_foresee_33 : decode cX1_foresee 33 = .ok (.getfield 32, 3) := by decide +kernel
theorem dX1_foresee_36 : decode cX1_foresee 36 = .ok (.invokestatic 37, 3) := by decide +kernel
theorem dX1_foresee_39 : decode cX1_foresee 39 = .ok (.aload_n 0, 1) := by decide +kernel
theorem dX1_foresee_40 : decode cX1_foresee 40 = .ok (.getfield 9, 3) := by decide +kernel
theorem dX1_foresee_43 : decode cX1_foresee 43 = .ok (.iload_n 3, 1) := by decide +kernel
theorem dX1_foresee_44 : decode cX1_foresee 44 = .ok (.aload_n 1, 1) := by decide +kernel
theorem dX1_foresee_45 : decode cX1_foresee 45 = .ok (.iload_n 3, 1) := by decide +kernel
theorem dX1_foresee_46 : decode cX1_foresee 46 = .ok (.invokevirtual 28, 3) := by decide +kernel
theorem dX1_foresee_49 : decode cX1_foresee 49 = .ok (.getfield 32, 3) := by decide +kernel
theorem dX1_foresee_52 : decode cX1_foresee 52 = .ok (.invokestatic 37, 3) := by decide +kernel
theorem dX1_foresee_55 : decode cX1_foresee 55 = .ok (.iinc 3 1, 3) := by decide +kernel
theorem dX1_foresee_58 : decode cX1_foresee 58 = .ok (.goto (-43), 3) := by decide +kernel
theorem dX1_foresee_61 : decode cX1_foresee 61 = .ok (.aload_n 0, 1) := by decide +kernel
theorem dX1_foresee_62 : decode cX1_foresee 62 = .ok (.getfield 9, 3) := by decide +kernel
theorem dX1_foresee_65 : decode cX1_foresee 65 = .ok (.iload_n 2, 1) := by decide +kernel
theorem dX1_foresee_66 : decode cX1_foresee 66 = .ok (.aload_n 1, 1) := by decide +kernel
theorem dX1_foresee_67 : decode cX1_foresee 67 = .ok (.iload_n 2, 1) := by decide +kernel
theorem dX1_foresee_68 : decode cX1_foresee 68 = .ok (.invokevirtual 28, 3) := by decide +kernel
theorem dX1_foresee_71 : decode cX1_foresee 71 = .ok (.getfield 41, 3) := by decide +kernel
theorem dX1_foresee_74 : decode cX1_foresee 74 = .ok (.invokestatic 37, 3) := by decide +kernel
theorem dX1_foresee_77 : decode cX1_foresee 77 = .ok (.iconst 0, 1) := by decide +kernel
theorem dX1_foresee_78 : decode cX1_foresee 78 = .ok (.istore_n 3, 1) := by decide +kernel
theorem dX1_foresee_79 : decode cX1_foresee 79 = .ok (.iconst 0, 1) := by decide +kernel
theorem dX1_foresee_80 : decode cX1_foresee 80 = .ok (.istore 4, 2) := by decide +kernel
theorem dX1_foresee_82 : decode cX1_foresee 82 = .ok (.iload_n 3, 1) := by decide +kernel
theorem dX1_foresee_83 : decode cX1_foresee 83 = .ok (.aload_n 0, 1) := by decide +kernel
theorem dX1_foresee_84 : decode cX1_foresee 84 = .ok (.getfield 27, 3) := by decide +kernel
theorem dX1_foresee_87 : decode cX1_foresee 87 = .ok (.if_icmp .ge 68, 3) := by decide +kernel
theorem dX1_foresee_90 : decode cX1_foresee 90 = .ok (.iload 4, 2) := by decide +kernel
theorem dX1_foresee_92 : decode cX1_foresee 92 = .ok (.sipush 10000, 3) := by decide +kernel
theorem dX1_foresee_95 : decode cX1_foresee 95 = .ok (.if_icmp .ge 60, 3) := by decide +kernel
theorem dX1_foresee_98 : decode cX1_foresee 98 = .ok (.aload_n 0, 1) := by decide +kernel
theorem dX1_foresee_99 : decode cX1_foresee 99 = .ok (.aload_n 1, 1) := by decide +kernel
theorem dX1_foresee_100 : decode cX1_foresee 100 = .ok (.iload_n 3, 1) := by decide +kernel
theorem dX1_foresee_101 : decode cX1_foresee 101 = .ok (.invokevirtual 28, 3) := by decide +kernel
theorem dX1_foresee_104 : decode cX1_foresee 104 = .ok (.aload_n 0, 1) := by decide +kernel
theorem dX1_foresee_105 : decode cX1_foresee 105 = .ok (.getfield 9, 3) := by decide +kernel
theorem dX1_foresee_108 : decode cX1_foresee 108 = .ok (.iload_n 3, 1) := by decide +kernel
theorem dX1_foresee_109 : decode cX1_foresee 109 = .ok (.invokestatic 44, 3) := by decide +kernel
theorem dX1_foresee_112 : decode cX1_foresee 112 = .ok (.invokevirtual 48, 3) := by decide +kernel
theorem dX1_foresee_115 : decode cX1_foresee 115 = .ok (.istore 5, 2) := by decide +kernel
theorem dX1_foresee_117 : decode cX1_foresee 117 = .ok (.iload 5, 2) := by decide +kernel
theorem dX1_foresee_119 : decode cX1_foresee 119 = .ok (.iconst (-1), 1) := by decide +kernel
theorem dX1_foresee_120 : decode cX1_foresee 120 = .ok (.if_icmp .eq 15, 3) := by decide +kernel
theorem dX1_foresee_123 : decode cX1_foresee 123 = .ok (.aload_n 0, 1) := by decide +kernel
theorem dX1_foresee_124 : decode cX1_foresee 124 = .ok (.getfield 9, 3) := by decide +kernel
theorem dX1_foresee_127 : decode cX1_foresee 127 = .ok (.iload_n 3, 1) := by decide +kernel
theorem dX1_foresee_128 : decode cX1_foresee 128 = .ok (.iload 5, 2) := by decide +kernel
theorem dX1_foresee_130 : decode cX1_foresee 130 = .ok (.iconst 1, 1) := by decide +kernel
theorem dX1_foresee_131 : decode cX1_foresee 131 = .ok (.isub, 1) := by decide +kernel
theorem dX1_foresee_132 : decode cX1_foresee 132 = .ok (.invokestatic 37, 3) := by decide +kernel
theorem dX1_foresee_135 : decode cX1_foresee 135 = .ok (.iload 5, 2) := by decide +kernel
theorem dX1_foresee_137 : decode cX1_foresee 137 = .ok (.iconst (-1), 1) := by decide +kernel
theorem dX1_foresee_138 : decode cX1_foresee 138 = .ok (.if_icmp .ne 9, 3) := by decide +kernel
theorem dX1_foresee_141 : decode cX1_foresee 141 = .ok (.iload_n 3, 1) := by decide +kernel
theorem dX1_foresee_142 : decode cX1_foresee 142 = .ok (.iconst 1, 1) := by decide +kernel
theorem dX1_foresee_143 : decode cX1_foresee 143 = .ok (.iadd, 1) := by decide +kernel
theorem dX1_foresee_144 : decode cX1_foresee 144 = .ok (.goto 4, 3) := by decide +kernel
theorem dX1_foresee_147 : decode cX1_foresee 147 = .ok (.iconst 0, 1) := by decide +kernel
theorem dX1_foresee_148 : decode cX1_foresee 148 = .ok (.istore_n 3, 1) := by decide +kernel
theorem dX1_foresee_149 : decode cX1_foresee 149 = .ok (.iinc 4 1, 3) := by decide +kernel
theorem dX1_foresee_152 : decode cX1_foresee 152 = .ok (.goto (-70), 3) := by decide +kernel
theorem dX1_foresee_155 : decode cX1_foresee 155 = .ok (.return_, 1) := by decide +kernel
theorem dX1_firstDead_0 : decode cX1_firstDead 0 = .ok (.aload_n 1, 1) := by decide +kernel
theorem dX1_firstDead_1 : decode cX1_firstDead 1 = .ok (.getfield 52, 3) := by decide +kernel
theorem dX1_firstDead_4 : decode cX1_firstDead 4 = .ok (.istore_n 3, 1) := by decide +kernel
theorem dX1_firstDead_5 : decode cX1_firstDead 5 = .ok (.iload_n 3, 1) := by decide +kernel
theorem dX1_firstDead_6 : decode cX1_firstDead 6 = .ok (.iload_n 2, 1) := by decide +kernel
theorem dX1_firstDead_7 : decode cX1_firstDead 7 = .ok (.if_icmp .gt 51, 3) := by decide +kernel
theorem dX1_firstDead_10 : decode cX1_firstDead 10 = .ok (.iconst 0, 1) := by decide +kernel
theorem dX1_firstDead_11 : decode cX1_firstDead 11 = .ok (.istore 4, 2) := by decide +kernel
theorem dX1_firstDead_13 : decode cX1_firstDead 13 = .ok (.iload 4, 2) := by decide +kernel
theorem dX1_firstDead_15 : decode cX1_firstDead 15 = .ok (.aload_n 0, 1) := by decide +kernel
theorem dX1_firstDead_16 : decode cX1_firstDead 16 = .ok (.getfield 27, 3) := by decide +kernel
theorem dX1_firstDead_19 : decode cX1_firstDead 19 = .ok (.if_icmp .ge 33, 3) := by decide +kernel
theorem dX1_firstDead_22 : decode cX1_firstDead 22 = .ok (.aload_n 1, 1) := by decide +kernel
theorem dX1_firstDead_23 : decode cX1_firstDead 23 = .ok (.getfield 55, 3) := by decide +kernel
theorem dX1_firstDead_26 : decode cX1_firstDead 26 = .ok (.iload_n 3, 1) := by decide +kernel
theorem dX1_firstDead_27 : decode cX1_firstDead 27 = .ok (.iload 4, 2) := by decide +kernel
theorem dX1_firstDead_29 : decode cX1_firstDead 29 = .ok (.invokevirtual 59, 3) := by decide +kernel
theorem dX1_firstDead_32 : decode cX1_firstDead 32 = .ok (.aload_n 0, 1) := by decide +kernel
theorem dX1_firstDead_33 : decode cX1_firstDead 33 = .ok (.getfield 9, 3) := by decide +kernel
theorem dX1_firstDead_36 : decode cX1_firstDead 36 = .ok (.iload 4, 2) := by decide +kernel
theorem dX1_firstDead_38 : decode cX1_firstDead 38 = .ok (.invokestatic 44, 3) := by decide +kernel
theorem dX1_firstDead_41 : decode cX1_firstDead 41 = .ok (.if_icmp .le 5, 3) := by decide +kernel
theorem dX1_firstDead_44 : decode cX1_firstDead 44 = .ok (.iload_n 3, 1) := by decide +kernel
theorem dX1_firstDead_45 : decode cX1_firstDead 45 = .ok (.ireturn, 1) := by decide +kernel
theorem dX1_firstDead_46 : decode cX1_firstDead 46 = .ok (.iinc 4 1, 3) := by decide +kernel
theorem dX1_firstDead_49 : decode cX1_firstDead 49 = .ok (.goto (-36), 3) := by decide +kernel
theorem dX1_firstDead_52 : decode cX1_firstDead 52 = .ok (.iinc 3 1, 3) := by decide +kernel
theorem dX1_firstDead_55 : decode cX1_firstDead 55 = .ok (.goto (-50), 3) := by decide +kernel
theorem dX1_firstDead_58 : decode cX1_firstDead 58 = .ok (.iconst (-1), 1) := by decide +kernel
theorem dX1_firstDead_59 : decode cX1_firstDead 59 = .ok (.ireturn, 1) := by decide +kernel
theorem dX1_keptBy_0 : decode cX1_keptBy 0 = .ok (.aload_n 0, 1) := by decide +kernel
theorem dX1_keptBy_1 : decode cX1_keptBy 1 = .ok (.getfield 9, 3) := by decide +kernel
theorem dX1_keptBy_4 : decode cX1_keptBy 4 = .ok (.iload_n 1, 1) := by decide +kernel
theorem dX1_keptBy_5 : decode cX1_keptBy 5 = .ok (.invokestatic 44, 3) := by decide +kernel
theorem dX1_keptBy_8 : decode cX1_keptBy 8 = .ok (.ireturn, 1) := by decide +kernel
theorem dX1_fells_0 : decode cX1_fells 0 = .ok (.iload_n 1, 1) := by decide +kernel
theorem dX1_fells_1 : decode cX1_fells 1 = .ok (.aload_n 0, 1) := by decide +kernel
theorem dX1_fells_2 : decode cX1_fells 2 = .ok (.getfield 18, 3) := by decide +kernel
theorem dX1_fells_5 : decode cX1_fells 5 = .ok (.if_icmp .eq 22, 3) := by decide +kernel
theorem dX1_fells_8 : decode cX1_fells 8 = .ok (.aload_n 0, 1) := by decide +kernel
theorem dX1_fells_9 : decode cX1_fells 9 = .ok (.getfield 9, 3) := by decide +kernel
theorem dX1_fells_12 : decode cX1_fells 12 = .ok (.iload_n 1, 1) := by decide +kernel
theorem dX1_fells_13 : decode cX1_fells 13 = .ok (.invokestatic 44, 3) := by decide +kernel
theorem dX1_fells_16 : decode cX1_fells 16 = .ok (.aload_n 0, 1) := by decide +kernel
theorem dX1_fells_17 : decode cX1_fells 17 = .ok (.getfield 15, 3) := by decide +kernel
theorem dX1_fells_20 : decode cX1_fells 20 = .ok (.iload_n 1, 1) := by decide +kernel
theorem dX1_fells_21 : decode cX1_fells 21 = .ok (.invokestatic 44, 3) := by decide +kernel
theorem dX1_fells_24 : decode cX1_fells 24 = .ok (.if_icmp .ge 7, 3) := by decide +kernel
theorem dX1_fells_27 : decode cX1_fells 27 = .ok (.iconst 1, 1) := by decide +kernel
theorem dX1_fells_28 : decode cX1_fells 28 = .ok (.goto 4, 3) := by decide +kernel
theorem dX1_fells_31 : decode cX1_fells 31 = .ok (.iconst 0, 1) := by decide +kernel
theorem dX1_fells_32 : decode cX1_fells 32 = .ok (.ireturn, 1) := by decide +kernel
theorem dX1_pagesGone_0 : decode cX1_pagesGone 0 = .ok (.iconst 0, 1) := by decide +kernel
theorem dX1_pagesGone_1 : decode cX1_pagesGone 1 = .ok (.istore_n 1, 1) := by decide +kernel
theorem dX1_pagesGone_2 : decode cX1_pagesGone 2 = .ok (.iconst 0, 1) := by decide +kernel
theorem dX1_pagesGone_3 : decode cX1_pagesGone 3 = .ok (.istore_n 2, 1) := by decide +kernel
theorem dX1_pagesGone_4 : decode cX1_pagesGone 4 = .ok (.iload_n 2, 1) := by decide +kernel
theorem dX1_pagesGone_5 : decode cX1_pagesGone 5 = .ok (.aload_n 0, 1) := by decide +kernel
theorem dX1_pagesGone_6 : decode cX1_pagesGone 6 = .ok (.getfield 27, 3) := by decide +kernel
theorem dX1_pagesGone_9 : decode cX1_pagesGone 9 = .ok (.if_icmp .ge 29, 3) := by decide +kernel
theorem dX1_pagesGone_12 : decode cX1_pagesGone 12 = .ok (.iload_n 1, 1) := by decide +kernel
theorem dX1_pagesGone_13 : decode cX1_pagesGone 13 = .ok (.aload_n 0, 1) := by decide +kernel
theorem dX1_pagesGone_14 : decode cX1_pagesGone 14 = .ok (.getfield 15, 3) := by decide +kernel
theorem dX1_pagesGone_17 : decode cX1_pagesGone 17 = .ok (.iload_n 2, 1) := by decide +kernel
theorem dX1_pagesGone_18 : decode cX1_pagesGone 18 = .ok (.invokestatic 44, 3) := by decide +kernel
theorem dX1_pagesGone_21 : decode cX1_pagesGone 21 = .ok (.aload_n 0, 1) := by decide +kernel
theorem dX1_pagesGone_22 : decode cX1_pagesGone 22 = .ok (.getfield 9, 3) := by decide +kernel
theorem dX1_pagesGone_25 : decode cX1_pagesGone 25 = .ok (.iload_n 2, 1) := by decide +kernel
theorem dX1_pagesGone_26 : decode cX1_pagesGone 26 = .ok (.invokestatic 44, 3) := by decide +kernel
theorem dX1_pagesGone_29 : decode cX1_pagesGone 29 = .ok (.isub, 1) := by decide +kernel
theorem dX1_pagesGone_30 : decode cX1_pagesGone 30 = .ok (.iadd, 1) := by decide +kernel
theorem dX1_pagesGone_31 : decode cX1_pagesGone 31 = .ok (.istore_n 1, 1) := by decide +kernel
theorem dX1_pagesGone_32 : decode cX1_pagesGone 32 = .ok (.iinc 2 1, 3) := by decide +kernel
theorem dX1_pagesGone_35 : decode cX1_pagesGone 35 = .ok (.goto (-31), 3) := by decide +kernel
theorem dX1_pagesGone_38 : decode cX1_pagesGone 38 = .ok (.iload_n 1, 1) := by decide +kernel
theorem dX1_pagesGone_39 : decode cX1_pagesGone 39 = .ok (.ireturn, 1) := by decide +kernel
theorem dX1_clerksFelled_0 : decode cX1_clerksFelled 0 = .ok (.iconst 0, 1) := by decide +kernel
theorem dX1_clerksFelled_1 : decode cX1_clerksFelled 1 = .ok (.istore_n 1, 1) := by decide +kernel
theorem dX1_clerksFelled_2 : decode cX1_clerksFelled 2 = .ok (.iconst 0, 1) := by decide +kernel
theorem dX1_clerksFelled_3 : decode cX1_clerksFelled 3 = .ok (.istore_n 2, 1) := by decide +kernel
theorem dX1_clerksFelled_4 : decode cX1_clerksFelled 4 = .ok (.iload_n 2, 1) := by decide +kernel
theorem dX1_clerksFelled_5 : decode cX1_clerksFelled 5 = .ok (.aload_n 0, 1) := by decide +kernel
theorem dX1_clerksFelled_6 : decode cX1_clerksFelled 6 = .ok (.getfield 27, 3) := by decide +kernel
theorem dX1_clerksFelled_9 : decode cX1_clerksFelled 9 = .ok (.if_icmp .ge 20, 3) := by decide +kernel
theorem dX1_clerksFelled_12 : decode cX1_clerksFelled 12 = .ok (.aload_n 0, 1) := by decide +kernel
theorem dX1_clerksFelled_13 : decode cX1_clerksFelled 13 = .ok (.iload_n 2, 1) := by decide +kernel
theorem dX1_clerksFelled_14 : decode cX1_clerksFelled 14 = .ok (.invokevirtual 65, 3) := by decide +kernel
theorem dX1_clerksFelled_17 : decode cX1_clerksFelled 17 = .ok (.ifCond .eq 6, 3) := by decide +kernel
theorem dX1_clerksFelled_20 : decode cX1_clerksFelled 20 = .ok (.iinc 1 1, 3) := by decide +kernel
theorem dX1_clerksFelled_23 : decode cX1_clerksFelled 23 = .ok (.iinc 2 1, 3) := by decide +kernel
theorem dX1_clerksFelled_26 : decode cX1_clerksFelled 26 = .ok (.goto (-22), 3) := by decide +kernel
theorem dX1_clerksFelled_29 : decode cX1_clerksFelled 29 = .ok (.iload_n 1, 1) := by decide +kernel
theorem dX1_clerksFelled_30 : decode cX1_clerksFelled 30 = .ok (.ireturn, 1) := by decide +kernel
theorem dX2_init_0 : decode cX2_init 0 = .ok (.aload_n 0, 1) := by decide +kernel
theorem dX2_init_1 : decode cX2_init 1 = .ok (.invokespecial 3, 3) := by decide +kernel
theorem dX2_init_4 : decode cX2_init 4 = .ok (.aload_n 0, 1) := by decide +kernel
theorem dX2_init_5 : decode cX2_init 5 = .ok (.iconst 5, 1) := by decide +kernel
theorem dX2_init_6 : decode cX2_init 6 = .ok (.anewarray 9, 3) := by decide +kernel
theorem dX2_init_9 : decode cX2_init 9 = .ok (.putfield 11, 3) := by decide +kernel
theorem dX2_init_12 : decode cX2_init 12 = .ok (.aload_n 0, 1) := by decide +kernel
theorem dX2_init_13 : decode cX2_init 13 = .ok (.new 17, 3) := by decide +kernel
theorem dX2_init_16 : decode cX2_init 16 = .ok (.dup, 1) := by decide +kernel
theorem dX2_init_17 : decode cX2_init 17 = .ok (.invokespecial 19, 3) := by decide +kernel
theorem dX2_init_20 : decode cX2_init 20 = .ok (.putfield 20, 3) := by decide +kernel
theorem dX2_init_23 : decode cX2_init 23 = .ok (.aload_n 0, 1) := by decide +kernel
theorem dX2_init_24 : decode cX2_init 24 = .ok (.new 24, 3) := by decide +kernel
theorem dX2_init_27 : decode cX2_init 27 = .ok (.dup, 1) := by decide +kernel
theorem dX2_init_28 : decode cX2_init 28 = .ok (.invokespecial 26, 3) := by decide +kernel
theorem dX2_init_31 : decode cX2_init 31 = .ok (.putfield 27, 3) := by decide +kernel
theorem dX2_init_34 : decode cX2_init 34 = .ok (.aload_n 0, 1) := by decide +kernel
theorem dX2_init_35 : decode cX2_init 35 = .ok (.new 31, 3) := by decide +kernel
theorem dX2_init_38 : decode cX2_init 38 = .ok (.dup, 1) := by decide +kernel
theorem dX2_init_39 : decode cX2_init 39 = .ok (.invokespecial 33, 3) := by decide +kernel
theorem dX2_init_42 : decode cX2_init 42 = .ok (.putfield 34, 3) := by decide +kernel
theorem dX2_init_45 : decode cX2_init 45 = .ok (.iconst 0, 1) := by decide +kernel
theorem dX2_init_46 : decode cX2_init 46 = .ok (.istore_n 1, 1) := by decide +kernel
theorem dX2_init_47 : decode cX2_init 47 = .ok (.iload_n 1, 1) := by decide +kernel
theorem dX2_init_48 : decode cX2_init 48 = .ok (.aload_n 0, 1) := by decide +kernel
theorem dX2_init_49 : decode cX2_init 49 = .ok (.getfield 11, 3) := by decide +kernel
theorem dX2_init_52 : decode cX2_init 52 = .ok (.arraylength, 1) := by decide +kernel
theorem dX2_init_53 : decode cX2_init 53 = .ok (.if_icmp .ge 23, 3) := by decide +kernel
theorem dX2_init_56 : decode cX2_init 56 = .ok (.aload_n 0, 1) := by decide +kernel
theorem dX2_init_57 : decode cX2_init 57 = .ok (.getfield 11, 3) := by decide +kernel
theorem dX2_init_60 : decode cX2_init 60 = .ok (.iload_n 1, 1) := by decide +kernel
theorem dX2_init_61 : decode cX2_init 61 = .ok (.new 9, 3) := by decide +kernel
theorem dX2_init_64 : decode cX2_init 64 = .ok (.dup, 1) := by decide +kernel
theorem dX2_init_65 : decode cX2_init 65 = .ok (.iload_n 1, 1) := by decide +kernel
theorem dX2_init_66 : decode cX2_init 66 = .ok (.invokespecial 38, 3) := by decide +kernel
theorem dX2_init_69 : decode cX2_init 69 = .ok (.aastore, 1) := by decide +kernel
theorem dX2_init_70 : decode cX2_init 70 = .ok (.iinc 1 1, 3) := by decide +kernel
theorem dX2_init_73 : decode cX2_init 73 = .ok (.goto (-26), 3) := by decide +kernel
theorem dX2_init_76 : decode cX2_init 76 = .ok (.aload_n 0, 1) := by decide +kernel
theorem dX2_init_77 : decode cX2_init 77 = .ok (.iconst 3, 1) := by decide +kernel
theorem dX2_init_78 : decode cX2_init 78 = .ok (.invokevirtual 41, 3) := by decide +kernel
theorem dX2_init_81 : decode cX2_init 81 = .ok (.return_, 1) := by decide +kernel
theorem dX2_begin_0 : decode cX2_begin 0 = .ok (.aload_n 0, 1) := by decide +kernel
theorem dX2_begin_1 : decode cX2_begin 1 = .ok (.iload_n 1, 1) := by decide +kernel
theorem dX2_begin_2 : decode cX2_begin 2 = .ok (.putfield 44, 3) := by decide +kernel
theorem dX2_begin_5 : decode cX2_begin 5 = .ok (.aload_n 0, 1) := by decide +kernel
theorem dX2_begin_6 : decode cX2_begin 6 = .ok (.iconst 0, 1) := by decide +kernel
theorem dX2_begin_7 : decode cX2_begin 7 = .ok (.putfield 48, 3) := by decide +kernel
theorem dX2_begin_10 : decode cX2_begin 10 = .ok (.aload_n 0, 1) := by decide +kernel
theorem dX2_begin_11 : decode cX2_begin 11 = .ok (.getfield 20, 3) := by decide +kernel
theorem dX2_begin_14 : decode cX2_begin 14 = .ok (.iconst 0, 1) := by decide +kernel
theorem dX2_begin_15 : decode cX2_begin 15 = .ok (.putfield 51, 3) := by decide +kernel
theorem dX2_begin_18 : decode cX2_begin 18 = .ok (.aload_n 0, 1) := by decide +kernel
theorem dX2_begin_19 : decode cX2_begin 19 = .ok (.getfield 27, 3) := by decide +kernel
theorem dX2_begin_22 : decode cX2_begin 22 = .ok (.invokevirtual 54, 3) := by decide +kernel
theorem dX2_begin_25 : decode cX2_begin 25 = .ok (.iconst 0, 1) := by decide +kernel
theorem dX2_begin_26 : decode cX2_begin 26 = .ok (.istore_n 2, 1) := by decide +kernel
theorem dX2_begin_27 : decode cX2_begin 27 = .ok (.iload_n 2, 1) := by decide +kernel
theorem dX2_begin_28 : decode cX2_begin 28 = .ok (.aload_n 0, 1) := by decide +kernel
theorem dX2_begin_29 : decode cX2_begin 29 = .ok (.getfield 11, 3) := by decide +kernel
theorem dX2_begin_32 : decode cX2_begin 32 = .ok (.arraylength, 1) := by decide +kernel
theorem dX2_begin_33 : decode cX2_begin 33 = .ok (.if_icmp .ge 18, 3) := by decide +kernel
theorem dX2_begin_36 : decode cX2_begin 36 = .ok (.aload_n 0, 1) := by decide +kernel
theorem dX2_begin_37 : decode cX2_begin 37 = .ok (.getfield 11, 3) := by decide +kernel
theorem dX2_begin_40 : decode cX2_begin 40 = .ok (.iload_n 2, 1) := by decide +kernel
theorem dX2_begin_41 : decode cX2_begin 41 = .ok (.aaload, 1) := by decide +kernel
theorem dX2_begin_42 : decode cX2_begin 42 = .ok (.invokevirtual 56, 3) := by decide +kernel
theorem dX2_begin_45 : decode cX2_begin 45 = .ok (.iinc 2 1, 3) := by decide +kernel
theorem dX2_begin_48 : decode cX2_begin 48 = .ok (.goto (-21), 3) := by decide +kernel
theorem dX2_begin_51 : decode cX2_begin 51 = .ok (.return_, 1) := by decide +kernel
theorem dX2_hasClerk_0 : decode cX2_hasClerk 0 = .ok (.iload_n 1, 1) := by decide +kernel
theorem dX2_hasClerk_1 : decode cX2_hasClerk 1 = .ok (.ifCond .lt 15, 3) := by decide +kernel
theorem dX2_hasClerk_4 : decode cX2_hasClerk 4 = .ok (.iload_n 1, 1) := by decide +kernel
theorem dX2_hasClerk_5 : decode cX2_hasClerk 5 = .ok (.aload_n 0, 1) := by decide +kernel
theorem dX2_hasClerk_6 : decode cX2_hasClerk 6 = .ok (.getfield 44, 3) := by decide +kernel
theorem dX2_hasClerk_9 : decode cX2_hasClerk 9 = .ok (.if_icmp .ge 7, 3) := by decide +kernel
theorem dX2_hasClerk_12 : decode cX2_hasClerk 12 = .ok (.iconst 1, 1) := by decide +kernel
theorem dX2_hasClerk_13 : decode cX2_hasClerk 13 = .ok (.goto 4, 3) := by decide +kernel
theorem dX2_hasClerk_16 : decode cX2_hasClerk 16 = .ok (.iconst 0, 1) := by decide +kernel
theorem dX2_hasClerk_17 : decode cX2_hasClerk 17 = .ok (.ireturn, 1) := by decide +kernel
theorem dX2_clerk_0 : decode cX2_clerk 0 = .ok (.aload_n 0, 1) := by decide +kernel
theorem dX2_clerk_1 : decode cX2_clerk 1 = .ok (.getfield 11, 3) := by decide +kernel
theorem dX2_clerk_4 : decode cX2_clerk 4 = .ok (.iload_n 1, 1) := by decide +kernel
theorem dX2_clerk_5 : decode cX2_clerk 5 = .ok (.ifCond .lt 16, 3) := by decide +kernel
theorem dX2_clerk_8 : decode cX2_clerk 8 = .ok (.iload_n 1, 1) := by decide +kernel
theorem dX2_clerk_9 : decode cX2_clerk 9 = .ok (.aload_n 0, 1) := by decide +kernel
theorem dX2_clerk_10 : decode cX2_clerk 10 = .ok (.getfield 11, 3) := by decide +kernel
theorem dX2_clerk_13 : decode cX2_clerk 13 = .ok (.arraylength, 1) := by decide +kernel
theorem dX2_clerk_14 : decode cX2_clerk 14 = .ok (.if_icmp .ge 7, 3) := by decide +kernel
theorem dX2_clerk_17 : decode cX2_clerk 17 = .ok (.iload_n 1, 1) := by decide +kernel
theorem dX2_clerk_18 : decode cX2_clerk 18 = .ok (.goto 4, 3) := by decide +kernel
theorem dX2_clerk_21 : decode cX2_clerk 21 = .ok (.iconst 0, 1) := by decide +kernel
theorem dX2_clerk_22 : decode cX2_clerk 22 = .ok (.aaload, 1) := by decide +kernel
theorem dX2_clerk_23 : decode cX2_clerk 23 = .ok (.areturn, 1) := by decide +kernel
theorem dX2_addWork_0 : decode cX2_addWork 0 = .ok (.aload_n 0, 1) := by decide +kernel
theorem dX2_addWork_1 : decode cX2_addWork 1 = .ok (.iload_n 1, 1) := by decide +kernel
theorem dX2_addWork_2 : decode cX2_addWork 2 = .ok (.invokevirtual 57, 3) := by decide +kernel
theorem dX2_addWork_5 : decode cX2_addWork 5 = .ok (.invokevirtual 61, 3) := by decide +kernel
theorem dX2_addWork_8 : decode cX2_addWork 8 = .ok (.ifCond .eq 8, 3) := by decide +kernel
theorem dX2_addWork_11 : decode cX2_addWork 11 = .ok (.bipush (-4), 2) := by decide +kernel
theorem dX2_addWork_13 : decode cX2_addWork 13 = .ok (.goto 12, 3) := by decide +kernel
theorem dX2_addWork_16 : decode cX2_addWork 16 = .ok (.aload_n 0, 1) := by decide +kernel
theorem dX2_addWork_17 : decode cX2_addWork 17 = .ok (.iload_n 1, 1) := by decide +kernel
theorem dX2_addWork_18 : decode cX2_addWork 18 = .ok (.invokevirtual 57, 3) := by decide +kernel
theorem dX2_addWork_21 : decode cX2_addWork 21 = .ok (.iload_n 2, 1) := by decide +kernel
theorem dX2_addWork_22 : decode cX2_addWork 22 = .ok (.invokevirtual 65, 3) := by decide +kernel
theorem dX2_addWork_25 : decode cX2_addWork 25 = .ok (.ireturn, 1) := by decide +kernel
theorem dX2_sendLetter_0 : decode cX2_sendLetter 0 = .ok (.aload_n 0, 1) := by decide +kernel
theorem dX2_sendLetter_1 : decode cX2_sendLetter 1 = .ok (.getfield 20, 3) := by decide +kernel
theorem dX2_sendLetter_4 : decode cX2_sendLetter 4 = .ok (.getfield 51, 3) := by decide +kernel
theorem dX2_sendLetter_7 : decode cX2_sendLetter 7 = .ok (.bipush 40, 2) := by decide +kernel
theorem dX2_sendLetter_9 : decode cX2_sendLetter 9 = .ok (.if_icmp .lt 6, 3) := by decide +kernel
theorem dX2_sendLetter_12 : decode cX2_sendLetter 12 = .ok (.bipush (-4), 2) := by decide +kernel
theorem dX2_sendLetter_14 : decode cX2_sendLetter 14 = .ok (.ireturn, 1) := by decide +kernel
theorem dX2_sendLetter_15 : decode cX2_sendLetter 15 = .ok (.aload_n 0, 1) := by decide +kernel
theorem dX2_sendLetter_16 : decode cX2_sendLetter 16 = .ok (.getfield 20, 3) := by decide +kernel
theorem dX2_sendLetter_19 : decode cX2_sendLetter 19 = .ok (.aload_n 0, 1) := by decide +kernel
theorem dX2_sendLetter_20 : decode cX2_sendLetter 20 = .ok (.iload_n 1, 1) := by decide +kernel
theorem dX2_sendLetter_21 : decode cX2_sendLetter 21 = .ok (.invokevirtual 57, 3) := by decide +kernel
theorem dX2_sendLetter_24 : decode cX2_sendLetter 24 = .ok (.iload_n 2, 1) := by decide +kernel
theorem dX2_sendLetter_25 : decode cX2_sendLetter 25 = .ok (.invokevirtual 69, 3) := by decide +kernel
theorem dX2_sendLetter_28 : decode cX2_sendLetter 28 = .ok (.aload_n 0, 1) := by decide +kernel
theorem dX2_sendLetter_29 : decode cX2_sendLetter 29 = .ok (.getfield 20, 3) := by decide +kernel
theorem dX2_sendLetter_32 : decode cX2_sendLetter 32 = .ok (.getfield 51, 3) := by decide +kernel
theorem dX2_sendLetter_35 : decode cX2_sendLetter 35 = .ok (.ireturn, 1) := by decide +kernel
theorem dX2_takeLetter_0 : decode cX2_takeLetter 0 = .ok (.aload_n 0, 1) := by decide +kernel
theorem dX2_takeLetter_1 : decode cX2_takeLetter 1 = .ok (.getfield 20, 3) := by decide +kernel
theorem dX2_takeLetter_4 : decode cX2_takeLetter 4 = .ok (.iload_n 1, 1) := by decide +kernel
theorem dX2_takeLetter_5 : decode cX2_takeLetter 5 = .ok (.iload_n 2, 1) := by decide +kernel
theorem dX2_takeLetter_6 : decode cX2_takeLetter 6 = .ok (.invokevirtual 73, 3) := by decide +kernel
theorem dX2_takeLetter_9 : decode cX2_takeLetter 9 = .ok (.istore_n 3, 1) := by decide +kernel
theorem dX2_takeLetter_10 : decode cX2_takeLetter 10 = .ok (.iload_n 3, 1) := by decide +kernel
theorem dX2_takeLetter_11 : decode cX2_takeLetter 11 = .ok (.iconst (-1), 1) := by decide +kernel
theorem dX2_takeLetter_12 : decode cX2_takeLetter 12 = .ok (.if_icmp .ne 6, 3) := by decide +kernel
theorem dX2_takeLetter_15 : decode cX2_takeLetter 15 = .ok (.bipush (-3), 2) := by decide +kernel
theorem dX2_takeLetter_17 : decode cX2_takeLetter 17 = .ok (.ireturn, 1) := by decide +kernel
theorem dX2_takeLetter_18 : decode cX2_takeLetter 18 = .ok (.aload_n 0, 1) := by decide +kernel
theorem dX2_takeLetter_19 : decode cX2_takeLetter 19 = .ok (.iload_n 3, 1) := by decide +kernel
theorem dX2_takeLetter_20 : decode cX2_takeLetter 20 = .ok (.invokevirtual 77, 3) := by decide +kernel
theorem dX2_takeLetter_23 : decode cX2_takeLetter 23 = .ok (.istore 4, 2) := by decide +kernel
theorem dX2_takeLetter_25 : decode cX2_takeLetter 25 = .ok (.iload 4, 2) := by decide +kernel
theorem dX2_takeLetter_27 : decode cX2_takeLetter 27 = .ok (.ifCond .ne 17, 3) := by decide +kernel
theorem dX2_takeLetter_30 : decode cX2_takeLetter 30 = .ok (.aload_n 0, 1) := by decide +kernel
theorem dX2_takeLetter_31 : decode cX2_takeLetter 31 = .ok (.iload_n 1, 1) := by decide +kernel
theorem dX2_takeLetter_32 : decode cX2_takeLetter 32 = .ok (.invokevirtual 57, 3) := by decide +kernel
theorem dX2_takeLetter_35 : decode cX2_takeLetter 35 = .ok (.invokevirtual 61, 3) := by decide +kernel
theorem dX2_takeLetter_38 : decode cX2_takeLetter 38 = .ok (.ifCond .eq 6, 3) := by decide +kernel
theorem dX2_takeLetter_41 : decode cX2_takeLetter 41 = .ok (.bipush (-4), 2) := by decide +kernel
theorem dX2_takeLetter_43 : decode cX2_takeLetter 43 = .ok (.ireturn, 1) := by decide +kernel
theorem dX2_takeLetter_44 : decode cX2_takeLetter 44 = .ok (.iconst (-1), 1) := by decide +kernel
theorem dX2_takeLetter_45 : decode cX2_takeLetter 45 = .ok (.istore 5, 2) := by decide +kernel
theorem dX2_takeLetter_47 : decode cX2_takeLetter 47 = .ok (.iload 4, 2) := by decide +kernel
theorem dX2_takeLetter_49 : decode cX2_takeLetter 49 = .ok (.ifCond .ne 40, 3) := by decide +kernel
theorem dX2_takeLetter_52 : decode cX2_takeLetter 52 = .ok (.aload_n 0, 1) := by decide +kernel
theorem dX2_takeLetter_53 : decode cX2_takeLetter 53 = .ok (.iload_n 1, 1) := by decide +kernel
theorem dX2_takeLetter_54 : decode cX2_takeLetter 54 = .ok (.invokevirtual 57, 3) := by decide +kernel
theorem dX2_takeLetter_57 : decode cX2_takeLetter 57 = .ok (.aload_n 0, 1) := by decide +kernel
theorem dX2_takeLetter_58 : decode cX2_takeLetter 58 = .ok (.getfield 20, 3) := by decide +kernel
theorem dX2_takeLetter_61 : decode cX2_takeLetter 61 = .ok (.getfield 81, 3) := by decide +kernel
theorem dX2_takeLetter_64 : decode cX2_takeLetter 64 = .ok (.iload_n 3, 1) := by decide +kernel
theorem dX2_takeLetter_65 : decode cX2_takeLetter 65 = .ok (.invokestatic 85, 3) := by decide +kernel
theorem dX2_takeLetter_68 : decode cX2_takeLetter 68 = .ok (.invokevirtual 65, 3) := by decide +kernel
theorem dX2_takeLetter_71 : decode cX2_takeLetter 71 = .ok (.istore 5, 2) := by decide +kernel
theorem dX2_takeLetter_73 : decode cX2_takeLetter 73 = .ok (.aload_n 0, 1) := by decide +kernel
theorem dX2_takeLetter_74 : decode cX2_takeLetter 74 = .ok (.iload_n 1, 1) := by decide +kernel
theorem dX2_takeLetter_75 : decode cX2_takeLetter 75 = .ok (.invokevirtual 57, 3) := by decide +kernel
theorem dX2_takeLetter_78 : decode cX2_takeLetter 78 = .ok (.aload_n 0, 1) := by decide +kernel
theorem dX2_takeLetter_79 : decode cX2_takeLetter 79 = .ok (.getfield 20, 3) := by decide +kernel
theorem dX2_takeLetter_82 : decode cX2_takeLetter 82 = .ok (.getfield 89, 3) := by decide +kernel
theorem dX2_takeLetter_85 : decode cX2_takeLetter 85 = .ok (.iload_n 3, 1) := by decide +kernel
theorem dX2_takeLetter_86 : decode cX2_takeLetter 86 = .ok (.invokevirtual 93, 3) := by decide +kernel
theorem dX2_takeLetter_89 : decode cX2_takeLetter 89 = .ok (.aload_n 0, 1) := by decide +kernel
theorem dX2_takeLetter_90 : decode cX2_takeLetter 90 = .ok (.getfield 20, 3) := by decide +kernel
theorem dX2_takeLetter_93 : decode cX2_takeLetter 93 = .ok (.iload_n 3, 1) := by decide +kernel
theorem dX2_takeLetter_94 : decode cX2_takeLetter 94 = .ok (.invokevirtual 97, 3) := by decide +kernel
theorem dX2_takeLetter_97 : decode cX2_takeLetter 97 = .ok (.iload 5, 2) := by decide +kernel
theorem dX2_takeLetter_99 : decode cX2_takeLetter 99 = .ok (.ireturn, 1) := by decide +kernel
theorem dX2_isDeadLetter_0 : decode cX2_isDeadLetter 0 = .ok (.iconst 0, 1) := by decide +kernel
theorem dX2_isDeadLetter_1 : decode cX2_isDeadLetter 1 = .ok (.istore_n 2, 1) := by decide +kernel
theorem dX2_isDeadLetter_2 : decode cX2_isDeadLetter 2 = .ok (.iload_n 2, 1) := by decide +kernel
theorem dX2_isDeadLetter_3 : decode cX2_isDeadLetter 3 = .ok (.aload_n 0, 1) := by decide +kernel
theorem dX2_isDeadLetter_4 : decode cX2_isDeadLetter 4 = .ok (.getfield 44, 3) := by decide +kernel
theorem dX2_isDeadLetter_7 : decode cX2_isDeadLetter 7 = .ok (.if_icmp .ge 46, 3) := by decide +kernel
theorem dX2_isDeadLetter_10 : decode cX2_isDeadLetter 10 = .ok (.aload_n 0, 1) := by decide +kernel
theorem dX2_isDeadLetter_11 : decode cX2_isDeadLetter 11 = .ok (.iload_n 2, 1) := by decide +kernel
theorem dX2_isDeadLetter_12 : decode cX2_isDeadLetter 12 = .ok (.invokevirtual 57, 3) := by decide +kernel
theorem dX2_isDeadLetter_15 : decode cX2_isDeadLetter 15 = .ok (.aload_n 0, 1) := by decide +kernel
theorem dX2_isDeadLetter_16 : decode cX2_isDeadLetter 16 = .ok (.getfield 20, 3) := by decide +kernel
theorem dX2_isDeadLetter_19 : decode cX2_isDeadLetter 19 = .ok (.getfield 89, 3) := by decide +kernel
theorem dX2_isDeadLetter_22 : decode cX2_isDeadLetter 22 = .ok (.iload_n 1, 1) := by decide +kernel
theorem dX2_isDeadLetter_23 : decode cX2_isDeadLetter 23 = .ok (.iload_n 2, 1) := by decide +kernel
theorem dX2_isDeadLetter_24 : decode cX2_isDeadLetter 24 = .ok (.invokevirtual 100, 3) := by decide +kernel
theorem dX2_isDeadLetter_27 : decode cX2_isDeadLetter 27 = .ok (.aload_n 0, 1) := by decide +kernel
theorem dX2_isDeadLetter_28 : decode cX2_isDeadLetter 28 = .ok (.getfield 20, 3) := by decide +kernel
theorem dX2_isDeadLetter_31 : decode cX2_isDeadLetter 31 = .ok (.getfield 89, 3) := by decide +kernel
theorem dX2_isDeadLetter_34 : decode cX2_isDeadLetter 34 = .ok (.iload_n 1, 1) := by decide +kernel
theorem dX2_isDeadLetter_35 : decode cX2_isDeadLetter 35 = .ok (.iload_n 2, 1) := by decide +kernel
theorem dX2_isDeadLetter_36 : decode cX2_isDeadLetter 36 = .ok (.invokevirtual 105, 3) := by decide +kernel
theorem dX2_isDeadLetter_39 : decode cX2_isDeadLetter 39 = .ok (.invokevirtual 108, 3) := by decide +kernel
theorem dX2_isDeadLetter_42 : decode cX2_isDeadLetter 42 = .ok (.ifCond .eq 5, 3) := by decide +kernel
theorem dX2_isDeadLetter_45 : decode cX2_isDeadLetter 45 = .ok (.iconst 1, 1) := by decide +kernel
theorem dX2_isDeadLetter_46 : decode cX2_isDeadLetter 46 = .ok (.ireturn, 1) := by decide +kernel
theorem dX2_isDeadLetter_47 : decode cX2_isDeadLetter 47 = .ok (.iinc 2 1, 3) := by decide +kernel
theorem dX2_isDeadLetter_50 : decode cX2_isDeadLetter 50 = .ok (.goto (-48), 3) := by decide +kernel
theorem dX2_isDeadLetter_53 : decode cX2_isDeadLetter 53 = .ok (.iconst 0, 1) := by decide +kernel
theorem dX2_isDeadLetter_54 : decode cX2_isDeadLetter 54 = .ok (.ireturn, 1) := by decide +kernel
theorem dX2_sweepLetters_0 : decode cX2_sweepLetters 0 = .ok (.iconst 0, 1) := by decide +kernel
theorem dX2_sweepLetters_1 : decode cX2_sweepLetters 1 = .ok (.istore_n 1, 1) := by decide +kernel
theorem dX2_sweepLetters_2 : decode cX2_sweepLetters 2 = .ok (.aload_n 0, 1) := by decide +kernel
theorem dX2_sweepLetters_3 : decode cX2_sweepLetters 3 = .ok (.getfield 20, 3) := by decide +kernel
theorem dX2_sweepLetters_6 : decode cX2_sweepLetters 6 = .ok (.getfield 51, 3) := by decide +kernel
theorem dX2_sweepLetters_9 : decode cX2_sweepLetters 9 = .ok (.iconst 1, 1) := by decide +kernel
theorem dX2_sweepLetters_10 : decode cX2_sweepLetters 10 = .ok (.isub, 1) := by decide +kernel
theorem dX2_sweepLetters_11 : decode cX2_sweepLetters 11 = .ok (.istore_n 2, 1) := by decide +kernel
theorem dX2_sweepLetters_12 : decode cX2_sweepLetters 12 = .ok (.iload_n 2, 1) := by decide +kernel
theorem dX2_sweepLetters_13 : decode cX2_sweepLetters 13 = .ok (.ifCond .lt 28, 3) := by decide +kernel
theorem dX2_sweepLetters_16 : decode cX2_sweepLetters 16 = .ok (.aload_n 0, 1) := by decide +kernel
theorem dX2_sweepLetters_17 : decode cX2_sweepLetters 17 = .ok (.iload_n 2, 1) := by decide +kernel
theorem dX2_sweepLetters_18 : decode cX2_sweepLetters 18 = .ok (.invokevirtual 77, 3) := by decide +kernel
theorem dX2_sweepLetters_21 : decode cX2_sweepLetters 21 = .ok (.ifCond .eq 14, 3) := by decide +kernel
theorem dX2_sweepLetters_24 : decode cX2_sweepLetters 24 = .ok (.aload_n 0, 1) := by decide +kernel
theorem dX2_sweepLetters_25 : decode cX2_sweepLetters 25 = .ok (.getfield 20, 3) := by decide +kernel
theorem dX2_sweepLetters_28 : decode cX2_sweepLetters 28 = .ok (.iload_n 2, 1) := by decide +kernel
theorem dX2_sweepLetters_29 : decode cX2_sweepLetters 29 = .ok (.invokevirtual 97, 3) := by decide +kernel
theorem dX2_sweepLetters_32 : decode cX2_sweepLetters 32 = .ok (.iinc 1 1, 3) := by decide +kernel
theorem dX2_sweepLetters_35 : decode cX2_sweepLetters 35 = .ok (.iinc 2 (-1), 3) := by decide +kernel
theorem dX2_sweepLetters_38 : decode cX2_sweepLetters 38 = .ok (.goto (-26), 3) := by decide +kernel
theorem dX2_sweepLetters_41 : decode cX2_sweepLetters 41 = .ok (.iload_n 1, 1) := by decide +kernel
theorem dX2_sweepLetters_42 : decode cX2_sweepLetters 42 = .ok (.ireturn, 1) := by decide +kernel
theorem dX2_writePages_0 : decode cX2_writePages 0 = .ok (.aload_n 0, 1) := by decide +kernel
theorem dX2_writePages_1 : decode cX2_writePages 1 = .ok (.iload_n 1, 1) := by decide +kernel
theorem dX2_writePages_2 : decode cX2_writePages 2 = .ok (.invokevirtual 57, 3) := by decide +kernel
theorem dX2_writePages_5 : decode cX2_writePages 5 = .ok (.iload_n 2, 1) := by decide +kernel
theorem dX2_writePages_6 : decode cX2_writePages 6 = .ok (.invokevirtual 112, 3) := by decide +kernel
theorem dX2_writePages_9 : decode cX2_writePages 9 = .ok (.ireturn, 1) := by decide +kernel
theorem dX2_lose_0 : decode cX2_lose 0 = .ok (.iconst 0, 1) := by decide +kernel
theorem dX2_lose_1 : decode cX2_lose 1 = .ok (.istore_n 2, 1) := by decide +kernel
theorem dX2_lose_2 : decode cX2_lose 2 = .ok (.iload_n 2, 1) := by decide +kernel
theorem dX2_lose_3 : decode cX2_lose 3 = .ok (.aload_n 0, 1) := by decide +kernel
theorem dX2_lose_4 : decode cX2_lose 4 = .ok (.getfield 44, 3) := by decide +kernel
theorem dX2_lose_7 : decode cX2_lose 7 = .ok (.if_icmp .ge 25, 3) := by decide +kernel
theorem dX2_lose_10 : decode cX2_lose 10 = .ok (.aload_n 0, 1) := by decide +kernel
theorem dX2_lose_11 : decode cX2_lose 11 = .ok (.iload_n 2, 1) := by decide +kernel
theorem dX2_lose_12 : decode cX2_lose 12 = .ok (.invokevirtual 57, 3) := by decide +kernel
theorem dX2_lose_15 : decode cX2_lose 15 = .ok (.getfield 115, 3) := by decide +kernel
theorem dX2_lose_18 : decode cX2_lose 18 = .ok (.bipush 60, 2) := by decide +kernel
theorem dX2_lose_20 : decode cX2_lose 20 = .ok (.if_icmp .lt 6, 3) := by decide +kernel
theorem dX2_lose_23 : decode cX2_lose 23 = .ok (.bipush (-4), 2) := by decide +kernel
theorem dX2_lose_25 : decode cX2_lose 25 = .ok (.ireturn, 1) := by decide +kernel
theorem dX2_lose_26 : decode cX2_lose 26 = .ok (.iinc 2 1, 3) := by decide +kernel
theorem dX2_lose_29 : decode cX2_lose 29 = .ok (.goto (-27), 3) := by decide +kernel
theorem dX2_lose_32 : decode cX2_lose 32 = .ok (.aload_n 0, 1) := by decide +kernel
theorem dX2_lose_33 : decode cX2_lose 33 = .ok (.getfield 34, 3) := by decide +kernel
theorem dX2_lose_36 : decode cX2_lose 36 = .ok (.aload_n 0, 1) := by decide +kernel
theorem dX2_lose_37 : decode cX2_lose 37 = .ok (.iload_n 1, 1) := by decide +kernel
theorem dX2_lose_38 : decode cX2_lose 38 = .ok (.invokevirtual 118, 3) := by decide +kernel
theorem dX2_lose_41 : decode cX2_lose 41 = .ok (.iconst 0, 1) := by decide +kernel
theorem dX2_lose_42 : decode cX2_lose 42 = .ok (.istore_n 2, 1) := by decide +kernel
theorem dX2_lose_43 : decode cX2_lose 43 = .ok (.iload_n 2, 1) := by decide +kernel
theorem dX2_lose_44 : decode cX2_lose 44 = .ok (.aload_n 0, 1) := by decide +kernel
theorem dX2_lose_45 : decode cX2_lose 45 = .ok (.getfield 44, 3) := by decide +kernel
theorem dX2_lose_48 : decode cX2_lose 48 = .ok (.if_icmp .ge 55, 3) := by decide +kernel
theorem dX2_lose_51 : decode cX2_lose 51 = .ok (.aload_n 0, 1) := by decide +kernel
theorem dX2_lose_52 : decode cX2_lose 52 = .ok (.getfield 34, 3) := by decide +kernel
theorem dX2_lose_55 : decode cX2_lose 55 = .ok (.iload_n 2, 1) := by decide +kernel
theorem dX2_lose_56 : decode cX2_lose 56 = .ok (.invokevirtual 122, 3) := by decide +kernel
theorem dX2_lose_59 : decode cX2_lose 59 = .ok (.ifCond .ne 6, 3) := by decide +kernel
theorem dX2_lose_62 : decode cX2_lose 62 = .ok (.goto 35, 3) := by decide +kernel
theorem dX2_lose_65 : decode cX2_lose 65 = .ok (.aload_n 0, 1) := by decide +kernel
theorem dX2_lose_66 : decode cX2_lose 66 = .ok (.iload_n 2, 1) := by decide +kernel
theorem dX2_lose_67 : decode cX2_lose 67 = .ok (.invokevirtual 57, 3) := by decide +kernel
theorem dX2_lose_70 : decode cX2_lose 70 = .ok (.aload_n 0, 1) := by decide +kernel
theorem dX2_lose_71 : decode cX2_lose 71 = .ok (.getfield 34, 3) := by decide +kernel
theorem dX2_lose_74 : decode cX2_lose 74 = .ok (.iload_n 2, 1) := by decide +kernel
theorem dX2_lose_75 : decode cX2_lose 75 = .ok (.invokevirtual 125, 3) := by decide +kernel
theorem dX2_lose_78 : decode cX2_lose 78 = .ok (.invokevirtual 128, 3) := by decide +kernel
theorem dX2_lose_81 : decode cX2_lose 81 = .ok (.aload_n 0, 1) := by decide +kernel
theorem dX2_lose_82 : decode cX2_lose 82 = .ok (.getfield 27, 3) := by decide +kernel
theorem dX2_lose_85 : decode cX2_lose 85 = .ok (.iload_n 2, 1) := by decide +kernel
theorem dX2_lose_86 : decode cX2_lose 86 = .ok (.aload_n 0, 1) := by decide +kernel
theorem dX2_lose_87 : decode cX2_lose 87 = .ok (.getfield 34, 3) := by decide +kernel
theorem dX2_lose_90 : decode cX2_lose 90 = .ok (.iload_n 2, 1) := by decide +kernel
theorem dX2_lose_91 : decode cX2_lose 91 = .ok (.invokevirtual 125, 3) := by decide +kernel
theorem dX2_lose_94 : decode cX2_lose 94 = .ok (.invokevirtual 131, 3) := by decide +kernel
theorem dX2_lose_97 : decode cX2_lose 97 = .ok (.iinc 2 1, 3) := by decide +kernel
theorem dX2_lose_100 : decode cX2_lose 100 = .ok (.goto (-57), 3) := by decide +kernel
theorem dX2_lose_103 : decode cX2_lose 103 = .ok (.aload_n 0, 1) := by decide +kernel
theorem dX2_lose_104 : decode cX2_lose 104 = .ok (.dup, 1) := by decide +kernel
theorem dX2_lose_105 : decode cX2_lose 105 = .ok (.getfield 48, 3) := by decide +kernel
theorem dX2_lose_108 : decode cX2_lose 108 = .ok (.aload_n 0, 1) := by decide +kernel
theorem dX2_lose_109 : decode cX2_lose 109 = .ok (.getfield 34, 3) := by decide +kernel
theorem dX2_lose_112 : decode cX2_lose 112 = .ok (.invokevirtual 135, 3) := by decide +kernel
theorem dX2_lose_115 : decode cX2_lose 115 = .ok (.iadd, 1) := by decide +kernel
theorem dX2_lose_116 : decode cX2_lose 116 = .ok (.putfield 48, 3) := by decide +kernel
theorem dX2_lose_119 : decode cX2_lose 119 = .ok (.aload_n 0, 1) := by decide +kernel
theorem dX2_lose_120 : decode cX2_lose 120 = .ok (.getfield 34, 3) := by decide +kernel
theorem dX2_lose_123 : decode cX2_lose 123 = .ok (.invokevirtual 135, 3) := by decide +kernel
theorem dX2_lose_126 : decode cX2_lose 126 = .ok (.ireturn, 1) := by decide +kernel
theorem dX2_tellLoss_0 : decode cX2_tellLoss 0 = .ok (.aload_n 0, 1) := by decide +kernel
theorem dX2_tellLoss_1 : decode cX2_tellLoss 1 = .ok (.getfield 34, 3) := by decide +kernel
theorem dX2_tellLoss_4 : decode cX2_tellLoss 4 = .ok (.aload_n 0, 1) := by decide +kernel
theorem dX2_tellLoss_5 : decode cX2_tellLoss 5 = .ok (.iload_n 1, 1) := by decide +kernel
theorem dX2_tellLoss_6 : decode cX2_tellLoss 6 = .ok (.invokevirtual 118, 3) := by decide +kernel
theorem dX2_tellLoss_9 : decode cX2_tellLoss 9 = .ok (.iload_n 2, 1) := by decide +kernel
theorem dX2_tellLoss_10 : decode cX2_tellLoss 10 = .ok (.ifCond .ne 11, 3) := by decide +kernel
theorem dX2_tellLoss_13 : decode cX2_tellLoss 13 = .ok (.aload_n 0, 1) := by decide +kernel
theorem dX2_tellLoss_14 : decode cX2_tellLoss 14 = .ok (.getfield 34, 3) := by decide +kernel
theorem dX2_tellLoss_17 : decode cX2_tellLoss 17 = .ok (.invokevirtual 135, 3) := by decide +kernel
theorem dX2_tellLoss_20 : decode cX2_tellLoss 20 = .ok (.ireturn, 1) := by decide +kernel
theorem dX2_tellLoss_21 : decode cX2_tellLoss 21 = .ok (.iload_n 2, 1) := by decide +kernel
theorem dX2_tellLoss_22 : decode cX2_tellLoss 22 = .ok (.iconst 1, 1) := by decide +kernel
theorem dX2_tellLoss_23 : decode cX2_tellLoss 23 = .ok (.if_icmp .ne 11, 3) := by decide +kernel
theorem dX2_tellLoss_26 : decode cX2_tellLoss 26 = .ok (.aload_n 0, 1) := by decide +kernel
theorem dX2_tellLoss_27 : decode cX2_tellLoss 27 = .ok (.getfield 34, 3) := by decide +kernel
theorem dX2_tellLoss_30 : decode cX2_tellLoss 30 = .ok (.invokevirtual 139, 3) := by decide +kernel
theorem dX2_tellLoss_33 : decode cX2_tellLoss 33 = .ok (.ireturn, 1) := by decide +kernel
theorem dX2_tellLoss_34 : decode cX2_tellLoss 34 = .ok (.iconst 0, 1) := by decide +kernel
theorem dX2_tellLoss_35 : decode cX2_tellLoss 35 = .ok (.istore_n 3, 1) := by decide +kernel
theorem dX2_tellLoss_36 : decode cX2_tellLoss 36 = .ok (.iconst 0, 1) := by decide +kernel
theorem dX2_tellLoss_37 : decode cX2_tellLoss 37 = .ok (.istore 4, 2) := by decide +kernel
theorem dX2_tellLoss_39 : decode cX2_tellLoss 39 = .ok (.iload 4, 2) := by decide +kernel
theorem dX2_tellLoss_41 : decode cX2_tellLoss 41 = .ok (.aload_n 0, 1) := by decide +kernel
theorem dX2_tellLoss_42 : decode cX2_tellLoss 42 = .ok (.getfield 44, 3) := by decide +kernel
theorem dX2_tellLoss_45 : decode cX2_tellLoss 45 = .ok (.if_icmp .ge 30, 3) := by decide +kernel
theorem dX2_tellLoss_48 : decode cX2_tellLoss 48 = .ok (.iload_n 3, 1) := by decide +kernel
theorem dX2_tellLoss_49 : decode cX2_tellLoss 49 = .ok (.aload_n 0, 1) := by decide +kernel
theorem dX2_tellLoss_50 : decode cX2_tellLoss 50 = .ok (.getfield 27, 3) := by decide +kernel
theorem dX2_tellLoss_53 : decode cX2_tellLoss 53 = .ok (.iload 4, 2) := by decide +kernel
theorem dX2_tellLoss_55 : decode cX2_tellLoss 55 = .ok (.aload_n 0, 1) := by decide +kernel
theorem dX2_tellLoss_56 : decode cX2_tellLoss 56 = .ok (.getfield 34, 3) := by decide +kernel
theorem dX2_tellLoss_59 : decode cX2_tellLoss 59 = .ok (.iload 4, 2) := by decide +kernel
theorem dX2_tellLoss_61 : decode cX2_tellLoss 61 = .ok (.invokevirtual 125, 3) := by decide +kernel
theorem dX2_tellLoss_64 : decode cX2_tellLoss 64 = .ok (.invokevirtual 142, 3) := by decide +kernel
theorem dX2_tellLoss_67 : decode cX2_tellLoss 67 = .ok (.iadd, 1) := by decide +kernel
theorem dX2_tellLoss_68 : decode cX2_tellLoss 68 = .ok (.istore_n 3, 1) := by decide +kernel
theorem dX2_tellLoss_69 : decode cX2_tellLoss 69 = .ok (.iinc 4 1, 3) := by decide +kernel
theorem dX2_tellLoss_72 : decode cX2_tellLoss 72 = .ok (.goto (-33), 3) := by decide +kernel
theorem dX2_tellLoss_75 : decode cX2_tellLoss 75 = .ok (.iload_n 3, 1) := by decide +kernel
theorem dX2_tellLoss_76 : decode cX2_tellLoss 76 = .ok (.ireturn, 1) := by decide +kernel
theorem dX2_worstClerk_0 : decode cX2_worstClerk 0 = .ok (.iconst 0, 1) := by decide +kernel
theorem dX2_worstClerk_1 : decode cX2_worstClerk 1 = .ok (.istore_n 1, 1) := by decide +kernel
theorem dX2_worstClerk_2 : decode cX2_worstClerk 2 = .ok (.iconst 0, 1) := by decide +kernel
theorem dX2_worstClerk_3 : decode cX2_worstClerk 3 = .ok (.istore_n 2, 1) := by decide +kernel
theorem dX2_worstClerk_4 : decode cX2_worstClerk 4 = .ok (.iconst 0, 1) := by decide +kernel
theorem dX2_worstClerk_5 : decode cX2_worstClerk 5 = .ok (.istore_n 3, 1) := by decide +kernel
theorem dX2_worstClerk_6 : decode cX2_worstClerk 6 = .ok (.iload_n 3, 1) := by decide +kernel
theorem dX2_worstClerk_7 : decode cX2_worstClerk 7 = .ok (.aload_n 0, 1) := by decide +kernel
theorem dX2_worstClerk_8 : decode cX2_worstClerk 8 = .ok (.getfield 44, 3) := by decide +kernel
theorem dX2_worstClerk_11 : decode cX2_worstClerk 11 = .ok (.if_icmp .ge 28, 3) := by decide +kernel
theorem dX2_worstClerk_14 : decode cX2_worstClerk 14 = .ok (.aload_n 0, 1) := by decide +kernel
theorem dX2_worstClerk_15 : decode cX2_worstClerk 15 = .ok (.iload_n 3, 1) := by decide +kernel
theorem dX2_worstClerk_16 : decode cX2_worstClerk 16 = .ok (.iconst 0, 1) := by decide +kernel
theorem dX2_worstClerk_17 : decode cX2_worstClerk 17 = .ok (.invokevirtual 145, 3) := by decide +kernel
theorem dX2_worstClerk_20 : decode cX2_worstClerk 20 = .ok (.istore 4, 2) := by decide +kernel
theorem dX2_worstClerk_22 : decode cX2_worstClerk 22 = .ok (.iload 4, 2) := by decide +kernel
theorem dX2_worstClerk_24 : decode cX2_worstClerk 24 = .ok (.iload_n 2, 1) := by decide +kernel
theorem dX2_worstClerk_25 : decode cX2_worstClerk 25 = .ok (.if_icmp .le 8, 3) := by decide +kernel
theorem dX2_worstClerk_28 : decode cX2_worstClerk 28 = .ok (.iload_n 3, 1) := by decide +kernel
theorem dX2_worstClerk_29 : decode cX2_worstClerk 29 = .ok (.istore_n 1, 1) := by decide +kernel
theorem dX2_worstClerk_30 : decode cX2_worstClerk 30 = .ok (.iload 4, 2) := by decide +kernel
theorem dX2_worstClerk_32 : decode cX2_worstClerk 32 = .ok (.istore_n 2, 1) := by decide +kernel
theorem dX2_worstClerk_33 : decode cX2_worstClerk 33 = .ok (.iinc 3 1, 3) := by decide +kernel
theorem dX2_worstClerk_36 : decode cX2_worstClerk 36 = .ok (.goto (-30), 3) := by decide +kernel
theorem dX2_worstClerk_39 : decode cX2_worstClerk 39 = .ok (.iload_n 1, 1) := by decide +kernel
theorem dX2_worstClerk_40 : decode cX2_worstClerk 40 = .ok (.ireturn, 1) := by decide +kernel
theorem dX2_isWrittenBelow_0 : decode cX2_isWrittenBelow 0 = .ok (.iconst 0, 1) := by decide +kernel
theorem dX2_isWrittenBelow_1 : decode cX2_isWrittenBelow 1 = .ok (.istore_n 3, 1) := by decide +kernel
theorem dX2_isWrittenBelow_2 : decode cX2_isWrittenBelow 2 = .ok (.iload_n 3, 1) := by decide +kernel
theorem dX2_isWrittenBelow_3 : decode cX2_isWrittenBelow 3 = .ok (.aload_n 0, 1) := by decide +kernel
theorem dX2_isWrittenBelow_4 : decode cX2_isWrittenBelow 4 = .ok (.getfield 44, 3) := by decide +kernel
theorem dX2_isWrittenBelow_7 : decode cX2_isWrittenBelow 7 = .ok (.if_icmp .ge 35, 3) := by decide +kernel
theorem dX2_isWrittenBelow_10 : decode cX2_isWrittenBelow 10 = .ok (.aload_n 0, 1) := by decide +kernel
theorem dX2_isWrittenBelow_11 : decode cX2_isWrittenBelow 11 = .ok (.iload_n 1, 1) := by decide +kernel
theorem dX2_isWrittenBelow_12 : decode cX2_isWrittenBelow 12 = .ok (.invokevirtual 57, 3) := by decide +kernel
theorem dX2_isWrittenBelow_15 : decode cX2_isWrittenBelow 15 = .ok (.getfield 148, 3) := by decide +kernel
theorem dX2_isWrittenBelow_18 : decode cX2_isWrittenBelow 18 = .ok (.iload_n 2, 1) := by decide +kernel
theorem dX2_isWrittenBelow_19 : decode cX2_isWrittenBelow 19 = .ok (.iload_n 3, 1) := by decide +kernel
theorem dX2_isWrittenBelow_20 : decode cX2_isWrittenBelow 20 = .ok (.invokevirtual 105, 3) := by decide +kernel
theorem dX2_isWrittenBelow_23 : decode cX2_isWrittenBelow 23 = .ok (.aload_n 0, 1) := by decide +kernel
theorem dX2_isWrittenBelow_24 : decode cX2_isWrittenBelow 24 = .ok (.iload_n 3, 1) := by decide +kernel
theorem dX2_isWrittenBelow_25 : decode cX2_isWrittenBelow 25 = .ok (.invokevirtual 57, 3) := by decide +kernel
theorem dX2_isWrittenBelow_28 : decode cX2_isWrittenBelow 28 = .ok (.getfield 149, 3) := by decide +kernel
theorem dX2_isWrittenBelow_31 : decode cX2_isWrittenBelow 31 = .ok (.if_icmp .le 5, 3) := by decide +kernel
theorem dX2_isWrittenBelow_34 : decode cX2_isWrittenBelow 34 = .ok (.iconst 0, 1) := by decide +kernel
theorem dX2_isWrittenBelow_35 : decode cX2_isWrittenBelow 35 = .ok (.ireturn, 1) := by decide +kernel
theorem dX2_isWrittenBelow_36 : decode cX2_isWrittenBelow 36 = .ok (.iinc 3 1, 3) := by decide +kernel
theorem dX2_isWrittenBelow_39 : decode cX2_isWrittenBelow 39 = .ok (.goto (-37), 3) := by decide +kernel
theorem dX2_isWrittenBelow_42 : decode cX2_isWrittenBelow 42 = .ok (.iconst 1, 1) := by decide +kernel
theorem dX2_isWrittenBelow_43 : decode cX2_isWrittenBelow 43 = .ok (.ireturn, 1) := by decide +kernel
theorem dX2_firmPage_0 : decode cX2_firmPage 0 = .ok (.aload_n 0, 1) := by decide +kernel
theorem dX2_firmPage_1 : decode cX2_firmPage 1 = .ok (.iload_n 1, 1) := by decide +kernel
theorem dX2_firmPage_2 : decode cX2_firmPage 2 = .ok (.invokevirtual 57, 3) := by decide +kernel
theorem dX2_firmPage_5 : decode cX2_firmPage 5 = .ok (.getfield 152, 3) := by decide +kernel
theorem dX2_firmPage_8 : decode cX2_firmPage 8 = .ok (.istore_n 2, 1) := by decide +kernel
theorem dX2_firmPage_9 : decode cX2_firmPage 9 = .ok (.iload_n 2, 1) := by decide +kernel
theorem dX2_firmPage_10 : decode cX2_firmPage 10 = .ok (.ifCond .le 20, 3) := by decide +kernel
theorem dX2_firmPage_13 : decode cX2_firmPage 13 = .ok (.aload_n 0, 1) := by decide +kernel
theorem dX2_firmPage_14 : decode cX2_firmPage 14 = .ok (.iload_n 1, 1) := by decide +kernel
theorem dX2_firmPage_15 : decode cX2_firmPage 15 = .ok (.iload_n 2, 1) := by decide +kernel
theorem dX2_firmPage_16 : decode cX2_firmPage 16 = .ok (.invokevirtual 155, 3) := by decide +kernel
theorem dX2_firmPage_19 : decode cX2_firmPage 19 = .ok (.ifCond .eq 5, 3) := by decide +kernel
theorem dX2_firmPage_22 : decode cX2_firmPage 22 = .ok (.iload_n 2, 1) := by decide +kernel
theorem dX2_firmPage_23 : decode cX2_firmPage 23 = .ok (.ireturn, 1) := by decide +kernel
theorem dX2_firmPage_24 : decode cX2_firmPage 24 = .ok (.iinc 2 (-1), 3) := by decide +kernel
theorem dX2_firmPage_27 : decode cX2_firmPage 27 = .ok (.goto (-18), 3) := by decide +kernel
theorem dX2_firmPage_30 : decode cX2_firmPage 30 = .ok (.iconst 0, 1) := by decide +kernel
theorem dX2_firmPage_31 : decode cX2_firmPage 31 = .ok (.ireturn, 1) := by decide +kernel
theorem dX2_cutPages_0 : decode cX2_cutPages 0 = .ok (.aload_n 0, 1) := by decide +kernel
theorem dX2_cutPages_1 : decode cX2_cutPages 1 = .ok (.iload_n 1, 1) := by decide +kernel
theorem dX2_cutPages_2 : decode cX2_cutPages 2 = .ok (.invokevirtual 57, 3) := by decide +kernel
theorem dX2_cutPages_5 : decode cX2_cutPages 5 = .ok (.getfield 158, 3) := by decide +kernel
theorem dX2_cutPages_8 : decode cX2_cutPages 8 = .ok (.istore_n 2, 1) := by decide +kernel
theorem dX2_cutPages_9 : decode cX2_cutPages 9 = .ok (.aload_n 0, 1) := by decide +kernel
theorem dX2_cutPages_10 : decode cX2_cutPages 10 = .ok (.iload_n 1, 1) := by decide +kernel
theorem dX2_cutPages_11 : decode cX2_cutPages 11 = .ok (.invokevirtual 57, 3) := by decide +kernel
theorem dX2_cutPages_14 : decode cX2_cutPages 14 = .ok (.iload_n 2, 1) := by decide +kernel
theorem dX2_cutPages_15 : decode cX2_cutPages 15 = .ok (.aload_n 0, 1) := by decide +kernel
theorem dX2_cutPages_16 : decode cX2_cutPages 16 = .ok (.iload_n 1, 1) := by decide +kernel
theorem dX2_cutPages_17 : decode cX2_cutPages 17 = .ok (.invokevirtual 161, 3) := by decide +kernel
theorem dX2_cutPages_20 : decode cX2_cutPages 20 = .ok (.invokestatic 164, 3) := by decide +kernel
theorem dX2_cutPages_23 : decode cX2_cutPages 23 = .ok (.putfield 158, 3) := by decide +kernel
theorem dX2_cutPages_26 : decode cX2_cutPages 26 = .ok (.aload_n 0, 1) := by decide +kernel
theorem dX2_cutPages_27 : decode cX2_cutPages 27 = .ok (.iload_n 1, 1) := by decide +kernel
theorem dX2_cutPages_28 : decode cX2_cutPages 28 = .ok (.invokevirtual 57, 3) := by decide +kernel
theorem dX2_cutPages_31 : decode cX2_cutPages 31 = .ok (.getfield 158, 3) := by decide +kernel
theorem dX2_cutPages_34 : decode cX2_cutPages 34 = .ok (.iload_n 2, 1) := by decide +kernel
theorem dX2_cutPages_35 : decode cX2_cutPages 35 = .ok (.isub, 1) := by decide +kernel
theorem dX2_cutPages_36 : decode cX2_cutPages 36 = .ok (.ireturn, 1) := by decide +kernel
theorem dX2_cutAll_0 : decode cX2_cutAll 0 = .ok (.iconst 0, 1) := by decide +kernel
theorem dX2_cutAll_1 : decode cX2_cutAll 1 = .ok (.istore_n 1, 1) := by decide +kernel
theorem dX2_cutAll_2 : decode cX2_cutAll 2 = .ok (.iconst 0, 1) := by decide +kernel
theorem dX2_cutAll_3 : decode cX2_cutAll 3 = .ok (.istore_n 2, 1) := by decide +kernel
theorem dX2_cutAll_4 : decode cX2_cutAll 4 = .ok (.iload_n 2, 1) := by decide +kernel
theorem dX2_cutAll_5 : decode cX2_cutAll 5 = .ok (.aload_n 0, 1) := by decide +kernel
theorem dX2_cutAll_6 : decode cX2_cutAll 6 = .ok (.getfield 44, 3) := by decide +kernel
theorem dX2_cutAll_9 : decode cX2_cutAll 9 = .ok (.if_icmp .ge 17, 3) := by decide +kernel
theorem dX2_cutAll_12 : decode cX2_cutAll 12 = .ok (.iload_n 1, 1) := by decide +kernel
theorem dX2_cutAll_13 : decode cX2_cutAll 13 = .ok (.aload_n 0, 1) := by decide +kernel
theorem dX2_cutAll_14 : decode cX2_cutAll 14 = .ok (.iload_n 2, 1) := by decide +kernel
theorem dX2_cutAll_15 : decode cX2_cutAll 15 = .ok (.invokevirtual 169, 3) := by decide +kernel
theorem dX2_cutAll_18 : decode cX2_cutAll 18 = .ok (.iadd, 1) := by decide +kernel
theorem dX2_cutAll_19 : decode cX2_cutAll 19 = .ok (.istore_n 1, 1) := by decide +kernel
theorem dX2_cutAll_20 : decode cX2_cutAll 20 = .ok (.iinc 2 1, 3) := by decide +kernel
theorem dX2_cutAll_23 : decode cX2_cutAll 23 = .ok (.goto (-19), 3) := by decide +kernel
theorem dX2_cutAll_26 : decode cX2_cutAll 26 = .ok (.iload_n 1, 1) := by decide +kernel
theorem dX2_cutAll_27 : decode cX2_cutAll 27 = .ok (.ireturn, 1) := by decide +kernel
theorem dX2_addSaying_0 : decode cX2_addSaying 0 = .ok (.aload_n 0, 1) := by decide +kernel
theorem dX2_addSaying_1 : decode cX2_addSaying 1 = .ok (.getfield 27, 3) := by decide +kernel
theorem dX2_addSaying_4 : decode cX2_addSaying 4 = .ok (.getfield 172, 3) := by decide +kernel
theorem dX2_addSaying_7 : decode cX2_addSaying 7 = .ok (.bipush 30, 2) := by decide +kernel
theorem dX2_addSaying_9 : decode cX2_addSaying 9 = .ok (.if_icmp .lt 6, 3) := by decide +kernel
theorem dX2_addSaying_12 : decode cX2_addSaying 12 = .ok (.bipush (-4), 2) := by decide +kernel
theorem dX2_addSaying_14 : decode cX2_addSaying 14 = .ok (.ireturn, 1) := by decide +kernel
theorem dX2_addSaying_15 : decode cX2_addSaying 15 = .ok (.aload_n 0, 1) := by decide +kernel
theorem dX2_addSaying_16 : decode cX2_addSaying 16 = .ok (.getfield 27, 3) := by decide +kernel
theorem dX2_addSaying_19 : decode cX2_addSaying 19 = .ok (.iload_n 1, 1) := by decide +kernel
theorem dX2_addSaying_20 : decode cX2_addSaying 20 = .ok (.aload_n 0, 1) := by decide +kernel
theorem dX2_addSaying_21 : decode cX2_addSaying 21 = .ok (.iload_n 1, 1) := by decide +kernel
theorem dX2_addSaying_22 : decode cX2_addSaying 22 = .ok (.invokevirtual 57, 3) := by decide +kernel
theorem dX2_addSaying_25 : decode cX2_addSaying 25 = .ok (.getfield 152, 3) := by decide +kernel
theorem dX2_addSaying_28 : decode cX2_addSaying 28 = .ok (.invokevirtual 173, 3) := by decide +kernel
theorem dX2_addSaying_31 : decode cX2_addSaying 31 = .ok (.aload_n 0, 1) := by decide +kernel
theorem dX2_addSaying_32 : decode cX2_addSaying 32 = .ok (.getfield 27, 3) := by decide +kernel
theorem dX2_addSaying_35 : decode cX2_addSaying 35 = .ok (.invokevirtual 175, 3) := by decide +kernel
theorem dX2_addSaying_38 : decode cX2_addSaying 38 = .ok (.ireturn, 1) := by decide +kernel
theorem dX2_isSafe_0 : decode cX2_isSafe 0 = .ok (.aload_n 0, 1) := by decide +kernel
theorem dX2_isSafe_1 : decode cX2_isSafe 1 = .ok (.getfield 27, 3) := by decide +kernel
theorem dX2_isSafe_4 : decode cX2_isSafe 4 = .ok (.iload_n 1, 1) := by decide +kernel
theorem dX2_isSafe_5 : decode cX2_isSafe 5 = .ok (.invokevirtual 178, 3) := by decide +kernel
theorem dX2_isSafe_8 : decode cX2_isSafe 8 = .ok (.ifCond .eq 36, 3) := by decide +kernel
theorem dX2_isSafe_11 : decode cX2_isSafe 11 = .ok (.aload_n 0, 1) := by decide +kernel
theorem dX2_isSafe_12 : decode cX2_isSafe 12 = .ok (.aload_n 0, 1) := by decide +kernel
theorem dX2_isSafe_13 : decode cX2_isSafe 13 = .ok (.getfield 27, 3) := by decide +kernel
theorem dX2_isSafe_16 : decode cX2_isSafe 16 = .ok (.getfield 181, 3) := by decide +kernel
theorem dX2_isSafe_19 : decode cX2_isSafe 19 = .ok (.iload_n 1, 1) := by decide +kernel
theorem dX2_isSafe_20 : decode cX2_isSafe 20 = .ok (.invokestatic 85, 3) := by decide +kernel
theorem dX2_isSafe_23 : decode cX2_isSafe 23 = .ok (.aload_n 0, 1) := by decide +kernel
theorem dX2_isSafe_24 : decode cX2_isSafe 24 = .ok (.getfield 27, 3) := by decide +kernel
theorem dX2_isSafe_27 : decode cX2_isSafe 27 = .ok (.getfield 183, 3) := by decide +kernel
theorem dX2_isSafe_30 : decode cX2_isSafe 30 = .ok (.iload_n 1, 1) := by decide +kernel
theorem dX2_isSafe_31 : decode cX2_isSafe 31 = .ok (.invokestatic 85, 3) := by decide +kernel
theorem dX2_isSafe_34 : decode cX2_isSafe 34 = .ok (.invokevirtual 155, 3) := by decide +kernel
theorem dX2_isSafe_37 : decode cX2_isSafe 37 = .ok (.ifCond .eq 7, 3) := by decide +kernel
theorem dX2_isSafe_40 : decode cX2_isSafe 40 = .ok (.iconst 1, 1) := by decide +kernel
theorem dX2_isSafe_41 : decode cX2_isSafe 41 = .ok (.goto 4, 3) := by decide +kernel
theorem dX2_isSafe_44 : decode cX2_isSafe 44 = .ok (.iconst 0, 1) := by decide +kernel
theorem dX2_isSafe_45 : decode cX2_isSafe 45 = .ok (.ireturn, 1) := by decide +kernel
theorem dX2_releaseSafe_0 : decode cX2_releaseSafe 0 = .ok (.iconst 0, 1) := by decide +kernel
theorem dX2_releaseSafe_1 : decode cX2_releaseSafe 1 = .ok (.istore_n 1, 1) := by decide +kernel
theorem dX2_releaseSafe_2 : decode cX2_releaseSafe 2 = .ok (.iconst 0, 1) := by decide +kernel
theorem dX2_releaseSafe_3 : decode cX2_releaseSafe 3 = .ok (.istore_n 2, 1) := by decide +kernel
theorem dX2_releaseSafe_4 : decode cX2_releaseSafe 4 = .ok (.iload_n 2, 1) := by decide +kernel
theorem dX2_releaseSafe_5 : decode cX2_releaseSafe 5 = .ok (.bipush 30, 2) := by decide +kernel
theorem dX2_releaseSafe_7 : decode cX2_releaseSafe 7 = .ok (.if_icmp .ge 33, 3) := by decide +kernel
theorem dX2_releaseSafe_10 : decode cX2_releaseSafe 10 = .ok (.aload_n 0, 1) := by decide +kernel
theorem dX2_releaseSafe_11 : decode cX2_releaseSafe 11 = .ok (.invokevirtual 186, 3) := by decide +kernel
theorem dX2_releaseSafe_14 : decode cX2_releaseSafe 14 = .ok (.istore_n 3, 1) := by decide +kernel
theorem dX2_releaseSafe_15 : decode cX2_releaseSafe 15 = .ok (.iload_n 3, 1) := by decide +kernel
theorem dX2_releaseSafe_16 : decode cX2_releaseSafe 16 = .ok (.iconst (-1), 1) := by decide +kernel
theorem dX2_releaseSafe_17 : decode cX2_releaseSafe 17 = .ok (.if_icmp .ne 6, 3) := by decide +kernel
theorem dX2_releaseSafe_20 : decode cX2_releaseSafe 20 = .ok (.goto 20, 3) := by decide +kernel
theorem dX2_releaseSafe_23 : decode cX2_releaseSafe 23 = .ok (.aload_n 0, 1) := by decide +kernel
theorem dX2_releaseSafe_24 : decode cX2_releaseSafe 24 = .ok (.getfield 27, 3) := by decide +kernel
theorem dX2_releaseSafe_27 : decode cX2_releaseSafe 27 = .ok (.iload_n 3, 1) := by decide +kernel
theorem dX2_releaseSafe_28 : decode cX2_releaseSafe 28 = .ok (.invokevirtual 189, 3) := by decide +kernel
theorem dX2_releaseSafe_31 : decode cX2_releaseSafe 31 = .ok (.iinc 1 1, 3) := by decide +kernel
theorem dX2_releaseSafe_34 : decode cX2_releaseSafe 34 = .ok (.iinc 2 1, 3) := by decide +kernel
theorem dX2_releaseSafe_37 : decode cX2_releaseSafe 37 = .ok (.goto (-33), 3) := by decide +kernel
theorem dX2_releaseSafe_40 : decode cX2_releaseSafe 40 = .ok (.iload_n 1, 1) := by decide +kernel
theorem dX2_releaseSafe_41 : decode cX2_releaseSafe 41 = .ok (.ireturn, 1) := by decide +kernel
theorem dX2_nextSafe_0 : decode cX2_nextSafe 0 = .ok (.iconst (-1), 1) := by decide +kernel
theorem dX2_nextSafe_1 : decode cX2_nextSafe 1 = .ok (.istore_n 1, 1) := by decide +kernel
theorem dX2_nextSafe_2 : decode cX2_nextSafe 2 = .ok (.iconst 0, 1) := by decide +kernel
theorem dX2_nextSafe_3 : decode cX2_nextSafe 3 = .ok (.istore_n 2, 1) := by decide +kernel
theorem dX2_nextSafe_4 : decode cX2_nextSafe 4 = .ok (.iload_n 2, 1) := by decide +kernel
theorem dX2_nextSafe_5 : decode cX2_nextSafe 5 = .ok (.aload_n 0, 1) := by decide +kernel
theorem dX2_nextSafe_6 : decode cX2_nextSafe 6 = .ok (.getfield 27, 3) := by decide +kernel
theorem dX2_nextSafe_9 : decode cX2_nextSafe 9 = .ok (.getfield 172, 3) := by decide +kernel
theorem dX2_nextSafe_12 : decode cX2_nextSafe 12 = .ok (.if_icmp .ge 36, 3) := by decide +kernel
theorem dX2_nextSafe_15 : decode cX2_nextSafe 15 = .ok (.aload_n 0, 1) := by decide +kernel
theorem dX2_nextSafe_16 : decode cX2_nextSafe 16 = .ok (.iload_n 2, 1) := by decide +kernel
theorem dX2_nextSafe_17 : decode cX2_nextSafe 17 = .ok (.invokevirtual 192, 3) := by decide +kernel
theorem dX2_nextSafe_20 : decode cX2_nextSafe 20 = .ok (.ifCond .eq 22, 3) := by decide +kernel
theorem dX2_nextSafe_23 : decode cX2_nextSafe 23 = .ok (.iload_n 1, 1) := by decide +kernel
theorem dX2_nextSafe_24 : decode cX2_nextSafe 24 = .ok (.iconst (-1), 1) := by decide +kernel
theorem dX2_nextSafe_25 : decode cX2_nextSafe 25 = .ok (.if_icmp .eq 15, 3) := by decide +kernel
theorem dX2_nextSafe_28 : decode cX2_nextSafe 28 = .ok (.aload_n 0, 1) := by decide +kernel
theorem dX2_nextSafe_29 : decode cX2_nextSafe 29 = .ok (.getfield 27, 3) := by decide +kernel
theorem dX2_nextSafe_32 : decode cX2_nextSafe 32 = .ok (.iload_n 2, 1) := by decide +kernel
theorem dX2_nextSafe_33 : decode cX2_nextSafe 33 = .ok (.iload_n 1, 1) := by decide +kernel
theorem dX2_nextSafe_34 : decode cX2_nextSafe 34 = .ok (.invokevirtual 195, 3) := by decide +kernel
theorem dX2_nextSafe_37 : decode cX2_nextSafe 37 = .ok (.ifCond .eq 5, 3) := by decide +kernel
theorem dX2_nextSafe_40 : decode cX2_nextSafe 40 = .ok (.iload_n 2, 1) := by decide +kernel
theorem dX2_nextSafe_41 : decode cX2_nextSafe 41 = .ok (.istore_n 1, 1) := by decide +kernel
theorem dX2_nextSafe_42 : decode cX2_nextSafe 42 = .ok (.iinc 2 1, 3) := by decide +kernel
theorem dX2_nextSafe_45 : decode cX2_nextSafe 45 = .ok (.goto (-41), 3) := by decide +kernel
theorem dX2_nextSafe_48 : decode cX2_nextSafe 48 = .ok (.iload_n 1, 1) := by decide +kernel
theorem dX2_nextSafe_49 : decode cX2_nextSafe 49 = .ok (.ireturn, 1) := by decide +kernel
theorem dX2_tellClerk_0 : decode cX2_tellClerk 0 = .ok (.aload_n 0, 1) := by decide +kernel
theorem dX2_tellClerk_1 : decode cX2_tellClerk 1 = .ok (.iload_n 1, 1) := by decide +kernel
theorem dX2_tellClerk_2 : decode cX2_tellClerk 2 = .ok (.invokevirtual 57, 3) := by decide +kernel
theorem dX2_tellClerk_5 : decode cX2_tellClerk 5 = .ok (.astore_n 3, 1) := by decide +kernel
theorem dX2_tellClerk_6 : decode cX2_tellClerk 6 = .ok (.iload_n 2, 1) := by decide +kernel
theorem dX2_tellClerk_7 : decode cX2_tellClerk 7 = .ok (.tableswitch 81 0 6 #[41, 46, 51, 56, 62, 67, 72], 41) := by decide +kernel
theorem dX2_tellClerk_48 : decode cX2_tellClerk 48 = .ok (.aload_n 3, 1) := by decide +kernel
theorem dX2_tellClerk_49 : decode cX2_tellClerk 49 = .ok (.getfield 115, 3) := by decide +kernel
theorem dX2_tellClerk_52 : decode cX2_tellClerk 52 = .ok (.ireturn, 1) := by decide +kernel
theorem dX2_tellClerk_53 : decode cX2_tellClerk 53 = .ok (.aload_n 3, 1) := by decide +kernel
theorem dX2_tellClerk_54 : decode cX2_tellClerk 54 = .ok (.getfield 152, 3) := by decide +kernel
theorem dX2_tellClerk_57 : decode cX2_tellClerk 57 = .ok (.ireturn, 1) := by decide +kernel
theorem dX2_tellClerk_58 : decode cX2_tellClerk 58 = .ok (.aload_n 3, 1) := by decide +kernel
theorem dX2_tellClerk_59 : decode cX2_tellClerk 59 = .ok (.getfield 149, 3) := by decide +kernel
theorem dX2_tellClerk_62 : decode cX2_tellClerk 62 = .ok (.ireturn, 1) := by decide +kernel
theorem dX2_tellClerk_63 : decode cX2_tellClerk 63 = .ok (.aload_n 0, 1) := by decide +kernel
theorem dX2_tellClerk_64 : decode cX2_tellClerk 64 = .ok (.iload_n 1, 1) := by decide +kernel
theorem dX2_tellClerk_65 : decode cX2_tellClerk 65 = .ok (.invokevirtual 161, 3) := by decide +kernel
theorem dX2_tellClerk_68 : decode cX2_tellClerk 68 = .ok (.ireturn, 1) := by decide +kernel
theorem dX2_tellClerk_69 : decode cX2_tellClerk 69 = .ok (.aload_n 3, 1) := by decide +kernel
theorem dX2_tellClerk_70 : decode cX2_tellClerk 70 = .ok (.getfield 158, 3) := by decide +kernel
theorem dX2_tellClerk_73 : decode cX2_tellClerk 73 = .ok (.ireturn, 1) := by decide +kernel
theorem dX2_tellClerk_74 : decode cX2_tellClerk 74 = .ok (.aload_n 3, 1) := by decide +kernel
theorem dX2_tellClerk_75 : decode cX2_tellClerk 75 = .ok (.invokevirtual 198, 3) := by decide +kernel
theorem dX2_tellClerk_78 : decode cX2_tellClerk 78 = .ok (.ireturn, 1) := by decide +kernel
theorem dX2_tellClerk_79 : decode cX2_tellClerk 79 = .ok (.aload_n 0, 1) := by decide +kernel
theorem dX2_tellClerk_80 : decode cX2_tellClerk 80 = .ok (.getfield 20, 3) := by decide +kernel
theorem dX2_tellClerk_83 : decode cX2_tellClerk 83 = .ok (.iload_n 1, 1) := by decide +kernel
theorem dX2_tellClerk_84 : decode cX2_tellClerk 84 = .ok (.invokevirtual 201, 3) := by decide +kernel
theorem dX2_tellClerk_87 : decode cX2_tellClerk 87 = .ok (.ireturn, 1) := by decide +kernel
theorem dX2_tellClerk_88 : decode cX2_tellClerk 88 = .ok (.aload_n 0, 1) := by decide +kernel
theorem dX2_tellClerk_89 : decode cX2_tellClerk 89 = .ok (.getfield 27, 3) := by decide +kernel
theorem dX2_tellClerk_92 : decode cX2_tellClerk 92 = .ok (.iload_n 1, 1) := by decide +kernel
theorem dX2_tellClerk_93 : decode cX2_tellClerk 93 = .ok (.invokevirtual 204, 3) := by decide +kernel
theorem dX2_tellClerk_96 : decode cX2_tellClerk 96 = .ok (.ireturn, 1) := by decide +kernel
theorem dX2_tellPage_0 : decode cX2_tellPage 0 = .ok (.aload_n 0, 1) := by decide +kernel
theorem dX2_tellPage_1 : decode cX2_tellPage 1 = .ok (.iload_n 1, 1) := by decide +kernel
theorem dX2_tellPage_2 : decode cX2_tellPage 2 = .ok (.invokevirtual 57, 3) := by decide +kernel
theorem dX2_tellPage_5 : decode cX2_tellPage 5 = .ok (.astore 5, 2) := by decide +kernel
theorem dX2_tellPage_7 : decode cX2_tellPage 7 = .ok (.aload 5, 2) := by decide +kernel
theorem dX2_tellPage_9 : decode cX2_tellPage 9 = .ok (.iload_n 2, 1) := by decide +kernel
theorem dX2_tellPage_10 : decode cX2_tellPage 10 = .ok (.invokevirtual 207, 3) := by decide +kernel
theorem dX2_tellPage_13 : decode cX2_tellPage 13 = .ok (.ifCond .ne 6, 3) := by decide +kernel
theorem dX2_tellPage_16 : decode cX2_tellPage 16 = .ok (.bipush (-3), 2) := by decide +kernel
