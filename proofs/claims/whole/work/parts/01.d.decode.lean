theorem dX8_init_1 : decode cX8_init 1 = .ok (.invokespecial 3, 3) := by decide +kernel
theorem dX8_init_4 : decode cX8_init 4 = .ok (.aload_n 0, 1) := by decide +kernel
theorem dX8_init_5 : decode cX8_init 5 = .ok (.bipush 120, 2) := by decide +kernel
theorem dX8_init_7 : decode cX8_init 7 = .ok (.newarray .int, 2) := by decide +kernel
theorem dX8_init_9 : decode cX8_init 9 = .ok (.putfield 9, 3) := by decide +kernel
theorem dX8_init_12 : decode cX8_init 12 = .ok (.return_, 1) := by decide +kernel
theorem dX8_add_0 : decode cX8_add 0 = .ok (.aload_n 0, 1) := by decide +kernel
theorem dX8_add_1 : decode cX8_add 1 = .ok (.getfield 15, 3) := by decide +kernel
theorem dX8_add_4 : decode cX8_add 4 = .ok (.bipush 120, 2) := by decide +kernel
theorem dX8_add_6 : decode cX8_add 6 = .ok (.if_icmp .lt 6, 3) := by decide +kernel
theorem dX8_add_9 : decode cX8_add 9 = .ok (.bipush (-4), 2) := by decide +kernel
theorem dX8_add_11 : decode cX8_add 11 = .ok (.ireturn, 1) := by decide +kernel
theorem dX8_add_12 : decode cX8_add 12 = .ok (.aload_n 0, 1) := by decide +kernel
theorem dX8_add_13 : decode cX8_add 13 = .ok (.getfield 9, 3) := by decide +kernel
theorem dX8_add_16 : decode cX8_add 16 = .ok (.aload_n 0, 1) := by decide +kernel
theorem dX8_add_17 : decode cX8_add 17 = .ok (.getfield 15, 3) := by decide +kernel
theorem dX8_add_20 : decode cX8_add 20 = .ok (.iload_n 1, 1) := by decide +kernel
theorem dX8_add_21 : decode cX8_add 21 = .ok (.invokestatic 19, 3) := by decide +kernel
theorem dX8_add_24 : decode cX8_add 24 = .ok (.aload_n 0, 1) := by decide +kernel
theorem dX8_add_25 : decode cX8_add 25 = .ok (.dup, 1) := by decide +kernel
theorem dX8_add_26 : decode cX8_add 26 = .ok (.getfield 15, 3) := by decide +kernel
theorem dX8_add_29 : decode cX8_add 29 = .ok (.iconst 1, 1) := by decide +kernel
theorem dX8_add_30 : decode cX8_add 30 = .ok (.iadd, 1) := by decide +kernel
theorem dX8_add_31 : decode cX8_add 31 = .ok (.putfield 15, 3) := by decide +kernel
theorem dX8_add_34 : decode cX8_add 34 = .ok (.aload_n 0, 1) := by decide +kernel
theorem dX8_add_35 : decode cX8_add 35 = .ok (.getfield 15, 3) := by decide +kernel
theorem dX8_add_38 : decode cX8_add 38 = .ok (.ireturn, 1) := by decide +kernel
theorem dX8_empty_0 : decode cX8_empty 0 = .ok (.aload_n 0, 1) := by decide +kernel
theorem dX8_empty_1 : decode cX8_empty 1 = .ok (.getfield 15, 3) := by decide +kernel
theorem dX8_empty_4 : decode cX8_empty 4 = .ok (.istore_n 1, 1) := by decide +kernel
theorem dX8_empty_5 : decode cX8_empty 5 = .ok (.aload_n 0, 1) := by decide +kernel
theorem dX8_empty_6 : decode cX8_empty 6 = .ok (.iconst 0, 1) := by decide +kernel
theorem dX8_empty_7 : decode cX8_empty 7 = .ok (.putfield 15, 3) := by decide +kernel
theorem dX8_empty_10 : decode cX8_empty 10 = .ok (.iload_n 1, 1) := by decide +kernel
theorem dX8_empty_11 : decode cX8_empty 11 = .ok (.ireturn, 1) := by decide +kernel
theorem dX8_byteAt_0 : decode cX8_byteAt 0 = .ok (.iload_n 1, 1) := by decide +kernel
theorem dX8_byteAt_1 : decode cX8_byteAt 1 = .ok (.ifCond .lt 22, 3) := by decide +kernel
theorem dX8_byteAt_4 : decode cX8_byteAt 4 = .ok (.iload_n 1, 1) := by decide +kernel
theorem dX8_byteAt_5 : decode cX8_byteAt 5 = .ok (.aload_n 0, 1) := by decide +kernel
theorem dX8_byteAt_6 : decode cX8_byteAt 6 = .ok (.getfield 15, 3) := by decide +kernel
theorem dX8_byteAt_9 : decode cX8_byteAt 9 = .ok (.if_icmp .ge 14, 3) := by decide +kernel
theorem dX8_byteAt_12 : decode cX8_byteAt 12 = .ok (.aload_n 0, 1) := by decide +kernel
theorem dX8_byteAt_13 : decode cX8_byteAt 13 = .ok (.getfield 9, 3) := by decide +kernel
theorem dX8_byteAt_16 : decode cX8_byteAt 16 = .ok (.iload_n 1, 1) := by decide +kernel
theorem dX8_byteAt_17 : decode cX8_byteAt 17 = .ok (.invokestatic 23, 3) := by decide +kernel
theorem dX8_byteAt_20 : decode cX8_byteAt 20 = .ok (.goto 4, 3) := by decide +kernel
theorem dX8_byteAt_23 : decode cX8_byteAt 23 = .ok (.iconst (-1), 1) := by decide +kernel
theorem dX8_byteAt_24 : decode cX8_byteAt 24 = .ok (.ireturn, 1) := by decide +kernel
theorem dX9_init_0 : decode cX9_init 0 = .ok (.aload_n 0, 1) := by decide +kernel
theorem dX9_init_1 : decode cX9_init 1 = .ok (.invokespecial 3, 3) := by decide +kernel
theorem dX9_init_4 : decode cX9_init 4 = .ok (.aload_n 0, 1) := by decide +kernel
theorem dX9_init_5 : decode cX9_init 5 = .ok (.new 9, 3) := by decide +kernel
theorem dX9_init_8 : decode cX9_init 8 = .ok (.dup, 1) := by decide +kernel
theorem dX9_init_9 : decode cX9_init 9 = .ok (.invokespecial 11, 3) := by decide +kernel
theorem dX9_init_12 : decode cX9_init 12 = .ok (.putfield 12, 3) := by decide +kernel
theorem dX9_init_15 : decode cX9_init 15 = .ok (.aload_n 0, 1) := by decide +kernel
theorem dX9_init_16 : decode cX9_init 16 = .ok (.new 16, 3) := by decide +kernel
theorem dX9_init_19 : decode cX9_init 19 = .ok (.dup, 1) := by decide +kernel
theorem dX9_init_20 : decode cX9_init 20 = .ok (.invokespecial 18, 3) := by decide +kernel
theorem dX9_init_23 : decode cX9_init 23 = .ok (.putfield 19, 3) := by decide +kernel
theorem dX9_init_26 : decode cX9_init 26 = .ok (.aload_n 0, 1) := by decide +kernel
theorem dX9_init_27 : decode cX9_init 27 = .ok (.new 23, 3) := by decide +kernel
theorem dX9_init_30 : decode cX9_init 30 = .ok (.dup, 1) := by decide +kernel
theorem dX9_init_31 : decode cX9_init 31 = .ok (.invokespecial 25, 3) := by decide +kernel
theorem dX9_init_34 : decode cX9_init 34 = .ok (.putfield 26, 3) := by decide +kernel
theorem dX9_init_37 : decode cX9_init 37 = .ok (.aload_n 0, 1) := by decide +kernel
theorem dX9_init_38 : decode cX9_init 38 = .ok (.new 30, 3) := by decide +kernel
theorem dX9_init_41 : decode cX9_init 41 = .ok (.dup, 1) := by decide +kernel
theorem dX9_init_42 : decode cX9_init 42 = .ok (.invokespecial 32, 3) := by decide +kernel
theorem dX9_init_45 : decode cX9_init 45 = .ok (.putfield 33, 3) := by decide +kernel
theorem dX9_init_48 : decode cX9_init 48 = .ok (.return_, 1) := by decide +kernel
theorem dX9_clerks_0 : decode cX9_clerks 0 = .ok (.iload_n 1, 1) := by decide +kernel
theorem dX9_clerks_1 : decode cX9_clerks 1 = .ok (.iconst 2, 1) := by decide +kernel
theorem dX9_clerks_2 : decode cX9_clerks 2 = .ok (.iconst 5, 1) := by decide +kernel
theorem dX9_clerks_3 : decode cX9_clerks 3 = .ok (.invokestatic 37, 3) := by decide +kernel
theorem dX9_clerks_6 : decode cX9_clerks 6 = .ok (.ifCond .ne 13, 3) := by decide +kernel
theorem dX9_clerks_9 : decode cX9_clerks 9 = .ok (.aload_n 0, 1) := by decide +kernel
theorem dX9_clerks_10 : decode cX9_clerks 10 = .ok (.getfield 33, 3) := by decide +kernel
theorem dX9_clerks_13 : decode cX9_clerks 13 = .ok (.bipush (-2), 2) := by decide +kernel
theorem dX9_clerks_15 : decode cX9_clerks 15 = .ok (.invokevirtual 41, 3) := by decide +kernel
theorem dX9_clerks_18 : decode cX9_clerks 18 = .ok (.ireturn, 1) := by decide +kernel
theorem dX9_clerks_19 : decode cX9_clerks 19 = .ok (.aload_n 0, 1) := by decide +kernel
theorem dX9_clerks_20 : decode cX9_clerks 20 = .ok (.getfield 12, 3) := by decide +kernel
theorem dX9_clerks_23 : decode cX9_clerks 23 = .ok (.getfield 45, 3) := by decide +kernel
theorem dX9_clerks_26 : decode cX9_clerks 26 = .ok (.istore_n 2, 1) := by decide +kernel
theorem dX9_clerks_27 : decode cX9_clerks 27 = .ok (.aload_n 0, 1) := by decide +kernel
theorem dX9_clerks_28 : decode cX9_clerks 28 = .ok (.getfield 12, 3) := by decide +kernel
theorem dX9_clerks_31 : decode cX9_clerks 31 = .ok (.iload_n 1, 1) := by decide +kernel
theorem dX9_clerks_32 : decode cX9_clerks 32 = .ok (.invokevirtual 49, 3) := by decide +kernel
theorem dX9_clerks_35 : decode cX9_clerks 35 = .ok (.iload_n 2, 1) := by decide +kernel
theorem dX9_clerks_36 : decode cX9_clerks 36 = .ok (.ireturn, 1) := by decide +kernel
theorem dX9_work_0 : decode cX9_work 0 = .ok (.aload_n 0, 1) := by decide +kernel
theorem dX9_work_1 : decode cX9_work 1 = .ok (.getfield 12, 3) := by decide +kernel
theorem dX9_work_4 : decode cX9_work 4 = .ok (.iload_n 1, 1) := by decide +kernel
theorem dX9_work_5 : decode cX9_work 5 = .ok (.invokevirtual 53, 3) := by decide +kernel
theorem dX9_work_8 : decode cX9_work 8 = .ok (.ifCond .eq 18, 3) := by decide +kernel
theorem dX9_work_11 : decode cX9_work 11 = .ok (.iload_n 2, 1) := by decide +kernel
theorem dX9_work_12 : decode cX9_work 12 = .ok (.iconst 0, 1) := by decide +kernel
theorem dX9_work_13 : decode cX9_work 13 = .ok (.sipush 999, 3) := by decide +kernel
theorem dX9_work_16 : decode cX9_work 16 = .ok (.invokestatic 37, 3) := by decide +kernel
theorem dX9_work_19 : decode cX9_work 19 = .ok (.ifCond .eq 7, 3) := by decide +kernel
theorem dX9_work_22 : decode cX9_work 22 = .ok (.iconst 1, 1) := by decide +kernel
theorem dX9_work_23 : decode cX9_work 23 = .ok (.goto 4, 3) := by decide +kernel
theorem dX9_work_26 : decode cX9_work 26 = .ok (.iconst 0, 1) := by decide +kernel
theorem dX9_work_27 : decode cX9_work 27 = .ok (.istore_n 3, 1) := by decide +kernel
theorem dX9_work_28 : decode cX9_work 28 = .ok (.aload_n 0, 1) := by decide +kernel
theorem dX9_work_29 : decode cX9_work 29 = .ok (.getfield 33, 3) := by decide +kernel
theorem dX9_work_32 : decode cX9_work 32 = .ok (.iload_n 3, 1) := by decide +kernel
theorem dX9_work_33 : decode cX9_work 33 = .ok (.ifCond .eq 15, 3) := by decide +kernel
theorem dX9_work_36 : decode cX9_work 36 = .ok (.aload_n 0, 1) := by decide +kernel
theorem dX9_work_37 : decode cX9_work 37 = .ok (.getfield 12, 3) := by decide +kernel
theorem dX9_work_40 : decode cX9_work 40 = .ok (.iload_n 1, 1) := by decide +kernel
theorem dX9_work_41 : decode cX9_work 41 = .ok (.iload_n 2, 1) := by decide +kernel
theorem dX9_work_42 : decode cX9_work 42 = .ok (.invokevirtual 57, 3) := by decide +kernel
theorem dX9_work_45 : decode cX9_work 45 = .ok (.goto 5, 3) := by decide +kernel
theorem dX9_work_48 : decode cX9_work 48 = .ok (.bipush (-2), 2) := by decide +kernel
theorem dX9_work_50 : decode cX9_work 50 = .ok (.invokevirtual 41, 3) := by decide +kernel
theorem dX9_work_53 : decode cX9_work 53 = .ok (.ireturn, 1) := by decide +kernel
theorem dX9_send_0 : decode cX9_send 0 = .ok (.aload_n 0, 1) := by decide +kernel
theorem dX9_send_1 : decode cX9_send 1 = .ok (.getfield 12, 3) := by decide +kernel
theorem dX9_send_4 : decode cX9_send 4 = .ok (.iload_n 1, 1) := by decide +kernel
theorem dX9_send_5 : decode cX9_send 5 = .ok (.invokevirtual 53, 3) := by decide +kernel
theorem dX9_send_8 : decode cX9_send 8 = .ok (.ifCond .eq 23, 3) := by decide +kernel
theorem dX9_send_11 : decode cX9_send 11 = .ok (.aload_n 0, 1) := by decide +kernel
theorem dX9_send_12 : decode cX9_send 12 = .ok (.getfield 12, 3) := by decide +kernel
theorem dX9_send_15 : decode cX9_send 15 = .ok (.iload_n 2, 1) := by decide +kernel
theorem dX9_send_16 : decode cX9_send 16 = .ok (.invokevirtual 53, 3) := by decide +kernel
theorem dX9_send_19 : decode cX9_send 19 = .ok (.ifCond .eq 12, 3) := by decide +kernel
theorem dX9_send_22 : decode cX9_send 22 = .ok (.iload_n 1, 1) := by decide +kernel
theorem dX9_send_23 : decode cX9_send 23 = .ok (.iload_n 2, 1) := by decide +kernel
theorem dX9_send_24 : decode cX9_send 24 = .ok (.if_icmp .eq 7, 3) := by decide +kernel
theorem dX9_send_27 : decode cX9_send 27 = .ok (.iconst 1, 1) := by decide +kernel
theorem dX9_send_28 : decode cX9_send 28 = .ok (.goto 4, 3) := by decide +kernel
theorem dX9_send_31 : decode cX9_send 31 = .ok (.iconst 0, 1) := by decide +kernel
theorem dX9_send_32 : decode cX9_send 32 = .ok (.istore_n 3, 1) := by decide +kernel
theorem dX9_send_33 : decode cX9_send 33 = .ok (.aload_n 0, 1) := by decide +kernel
theorem dX9_send_34 : decode cX9_send 34 = .ok (.getfield 33, 3) := by decide +kernel
theorem dX9_send_37 : decode cX9_send 37 = .ok (.iload_n 3, 1) := by decide +kernel
theorem dX9_send_38 : decode cX9_send 38 = .ok (.ifCond .eq 15, 3) := by decide +kernel
theorem dX9_send_41 : decode cX9_send 41 = .ok (.aload_n 0, 1) := by decide +kernel
theorem dX9_send_42 : decode cX9_send 42 = .ok (.getfield 12, 3) := by decide +kernel
theorem dX9_send_45 : decode cX9_send 45 = .ok (.iload_n 1, 1) := by decide +kernel
theorem dX9_send_46 : decode cX9_send 46 = .ok (.iload_n 2, 1) := by decide +kernel
theorem dX9_send_47 : decode cX9_send 47 = .ok (.invokevirtual 61, 3) := by decide +kernel
theorem dX9_send_50 : decode cX9_send 50 = .ok (.goto 5, 3) := by decide +kernel
theorem dX9_send_53 : decode cX9_send 53 = .ok (.bipush (-2), 2) := by decide +kernel
theorem dX9_send_55 : decode cX9_send 55 = .ok (.invokevirtual 41, 3) := by decide +kernel
theorem dX9_send_58 : decode cX9_send 58 = .ok (.ireturn, 1) := by decide +kernel
theorem dX9_get_0 : decode cX9_get 0 = .ok (.aload_n 0, 1) := by decide +kernel
theorem dX9_get_1 : decode cX9_get 1 = .ok (.getfield 12, 3) := by decide +kernel
theorem dX9_get_4 : decode cX9_get 4 = .ok (.iload_n 1, 1) := by decide +kernel
theorem dX9_get_5 : decode cX9_get 5 = .ok (.invokevirtual 53, 3) := by decide +kernel
theorem dX9_get_8 : decode cX9_get 8 = .ok (.ifCond .eq 11, 3) := by decide +kernel
theorem dX9_get_11 : decode cX9_get 11 = .ok (.iload_n 2, 1) := by decide +kernel
theorem dX9_get_12 : decode cX9_get 12 = .ok (.ifCond .lt 7, 3) := by decide +kernel
theorem dX9_get_15 : decode cX9_get 15 = .ok (.iconst 1, 1) := by decide +kernel
theorem dX9_get_16 : decode cX9_get 16 = .ok (.goto 4, 3) := by decide +kernel
theorem dX9_get_19 : decode cX9_get 19 = .ok (.iconst 0, 1) := by decide +kernel
theorem dX9_get_20 : decode cX9_get 20 = .ok (.istore_n 3, 1) := by decide +kernel
theorem dX9_get_21 : decode cX9_get 21 = .ok (.aload_n 0, 1) := by decide +kernel
theorem dX9_get_22 : decode cX9_get 22 = .ok (.getfield 33, 3) := by decide +kernel
theorem dX9_get_25 : decode cX9_get 25 = .ok (.iload_n 3, 1) := by decide +kernel
theorem dX9_get_26 : decode cX9_get 26 = .ok (.ifCond .eq 15, 3) := by decide +kernel
theorem dX9_get_29 : decode cX9_get 29 = .ok (.aload_n 0, 1) := by decide +kernel
theorem dX9_get_30 : decode cX9_get 30 = .ok (.getfield 12, 3) := by decide +kernel
theorem dX9_get_33 : decode cX9_get 33 = .ok (.iload_n 1, 1) := by decide +kernel
theorem dX9_get_34 : decode cX9_get 34 = .ok (.iload_n 2, 1) := by decide +kernel
theorem dX9_get_35 : decode cX9_get 35 = .ok (.invokevirtual 64, 3) := by decide +kernel
theorem dX9_get_38 : decode cX9_get 38 = .ok (.goto 5, 3) := by decide +kernel
theorem dX9_get_41 : decode cX9_get 41 = .ok (.bipush (-2), 2) := by decide +kernel
theorem dX9_get_43 : decode cX9_get 43 = .ok (.invokevirtual 41, 3) := by decide +kernel
theorem dX9_get_46 : decode cX9_get 46 = .ok (.ireturn, 1) := by decide +kernel
theorem dX9_writes_0 : decode cX9_writes 0 = .ok (.aload_n 0, 1) := by decide +kernel
theorem dX9_writes_1 : decode cX9_writes 1 = .ok (.getfield 12, 3) := by decide +kernel
theorem dX9_writes_4 : decode cX9_writes 4 = .ok (.iload_n 1, 1) := by decide +kernel
theorem dX9_writes_5 : decode cX9_writes 5 = .ok (.invokevirtual 53, 3) := by decide +kernel
theorem dX9_writes_8 : decode cX9_writes 8 = .ok (.ifCond .eq 17, 3) := by decide +kernel
theorem dX9_writes_11 : decode cX9_writes 11 = .ok (.iload_n 2, 1) := by decide +kernel
theorem dX9_writes_12 : decode cX9_writes 12 = .ok (.iconst 1, 1) := by decide +kernel
theorem dX9_writes_13 : decode cX9_writes 13 = .ok (.bipush 24, 2) := by decide +kernel
theorem dX9_writes_15 : decode cX9_writes 15 = .ok (.invokestatic 37, 3) := by decide +kernel
theorem dX9_writes_18 : decode cX9_writes 18 = .ok (.ifCond .eq 7, 3) := by decide +kernel
theorem dX9_writes_21 : decode cX9_writes 21 = .ok (.iconst 1, 1) := by decide +kernel
theorem dX9_writes_22 : decode cX9_writes 22 = .ok (.goto 4, 3) := by decide +kernel
theorem dX9_writes_25 : decode cX9_writes 25 = .ok (.iconst 0, 1) := by decide +kernel
theorem dX9_writes_26 : decode cX9_writes 26 = .ok (.istore_n 3, 1) := by decide +kernel
theorem dX9_writes_27 : decode cX9_writes 27 = .ok (.aload_n 0, 1) := by decide +kernel
theorem dX9_writes_28 : decode cX9_writes 28 = .ok (.getfield 33, 3) := by decide +kernel
theorem dX9_writes_31 : decode cX9_writes 31 = .ok (.iload_n 3, 1) := by decide +kernel
theorem dX9_writes_32 : decode cX9_writes 32 = .ok (.ifCond .eq 15, 3) := by decide +kernel
theorem dX9_writes_35 : decode cX9_writes 35 = .ok (.aload_n 0, 1) := by decide +kernel
theorem dX9_writes_36 : decode cX9_writes 36 = .ok (.getfield 12, 3) := by decide +kernel
theorem dX9_writes_39 : decode cX9_writes 39 = .ok (.iload_n 1, 1) := by decide +kernel
theorem dX9_writes_40 : decode cX9_writes 40 = .ok (.iload_n 2, 1) := by decide +kernel
theorem dX9_writes_41 : decode cX9_writes 41 = .ok (.invokevirtual 67, 3) := by decide +kernel
theorem dX9_writes_44 : decode cX9_writes 44 = .ok (.goto 5, 3) := by decide +kernel
theorem dX9_writes_47 : decode cX9_writes 47 = .ok (.bipush (-2), 2) := by decide +kernel
theorem dX9_writes_49 : decode cX9_writes 49 = .ok (.invokevirtual 41, 3) := by decide +kernel
theorem dX9_writes_52 : decode cX9_writes 52 = .ok (.ireturn, 1) := by decide +kernel
theorem dX9_loses_0 : decode cX9_loses 0 = .ok (.aload_n 0, 1) := by decide +kernel
theorem dX9_loses_1 : decode cX9_loses 1 = .ok (.getfield 33, 3) := by decide +kernel
theorem dX9_loses_4 : decode cX9_loses 4 = .ok (.aload_n 0, 1) := by decide +kernel
theorem dX9_loses_5 : decode cX9_loses 5 = .ok (.getfield 12, 3) := by decide +kernel
theorem dX9_loses_8 : decode cX9_loses 8 = .ok (.iload_n 1, 1) := by decide +kernel
theorem dX9_loses_9 : decode cX9_loses 9 = .ok (.invokevirtual 53, 3) := by decide +kernel
theorem dX9_loses_12 : decode cX9_loses 12 = .ok (.ifCond .eq 14, 3) := by decide +kernel
theorem dX9_loses_15 : decode cX9_loses 15 = .ok (.aload_n 0, 1) := by decide +kernel
theorem dX9_loses_16 : decode cX9_loses 16 = .ok (.getfield 12, 3) := by decide +kernel
theorem dX9_loses_19 : decode cX9_loses 19 = .ok (.iload_n 1, 1) := by decide +kernel
theorem dX9_loses_20 : decode cX9_loses 20 = .ok (.invokevirtual 70, 3) := by decide +kernel
theorem dX9_loses_23 : decode cX9_loses 23 = .ok (.goto 5, 3) := by decide +kernel
theorem dX9_loses_26 : decode cX9_loses 26 = .ok (.bipush (-2), 2) := by decide +kernel
theorem dX9_loses_28 : decode cX9_loses 28 = .ok (.invokevirtual 41, 3) := by decide +kernel
theorem dX9_loses_31 : decode cX9_loses 31 = .ok (.ireturn, 1) := by decide +kernel
theorem dX9_draw_0 : decode cX9_draw 0 = .ok (.iload_n 1, 1) := by decide +kernel
theorem dX9_draw_1 : decode cX9_draw 1 = .ok (.iconst 0, 1) := by decide +kernel
theorem dX9_draw_2 : decode cX9_draw 2 = .ok (.ldc 73, 2) := by decide +kernel
theorem dX9_draw_4 : decode cX9_draw 4 = .ok (.invokestatic 37, 3) := by decide +kernel
theorem dX9_draw_7 : decode cX9_draw 7 = .ok (.ifCond .eq 17, 3) := by decide +kernel
theorem dX9_draw_10 : decode cX9_draw 10 = .ok (.iload_n 2, 1) := by decide +kernel
theorem dX9_draw_11 : decode cX9_draw 11 = .ok (.iconst 1, 1) := by decide +kernel
theorem dX9_draw_12 : decode cX9_draw 12 = .ok (.bipush 60, 2) := by decide +kernel
theorem dX9_draw_14 : decode cX9_draw 14 = .ok (.invokestatic 37, 3) := by decide +kernel
theorem dX9_draw_17 : decode cX9_draw 17 = .ok (.ifCond .eq 7, 3) := by decide +kernel
theorem dX9_draw_20 : decode cX9_draw 20 = .ok (.iconst 1, 1) := by decide +kernel
theorem dX9_draw_21 : decode cX9_draw 21 = .ok (.goto 4, 3) := by decide +kernel
theorem dX9_draw_24 : decode cX9_draw 24 = .ok (.iconst 0, 1) := by decide +kernel
theorem dX9_draw_25 : decode cX9_draw 25 = .ok (.istore_n 3, 1) := by decide +kernel
theorem dX9_draw_26 : decode cX9_draw 26 = .ok (.iload_n 3, 1) := by decide +kernel
theorem dX9_draw_27 : decode cX9_draw 27 = .ok (.ifCond .ne 13, 3) := by decide +kernel
theorem dX9_draw_30 : decode cX9_draw 30 = .ok (.aload_n 0, 1) := by decide +kernel
theorem dX9_draw_31 : decode cX9_draw 31 = .ok (.getfield 33, 3) := by decide +kernel
theorem dX9_draw_34 : decode cX9_draw 34 = .ok (.bipush (-2), 2) := by decide +kernel
theorem dX9_draw_36 : decode cX9_draw 36 = .ok (.invokevirtual 41, 3) := by decide +kernel
theorem dX9_draw_39 : decode cX9_draw 39 = .ok (.ireturn, 1) := by decide +kernel
theorem dX9_draw_40 : decode cX9_draw 40 = .ok (.aload_n 0, 1) := by decide +kernel
theorem dX9_draw_41 : decode cX9_draw 41 = .ok (.getfield 12, 3) := by decide +kernel
theorem dX9_draw_44 : decode cX9_draw 44 = .ok (.aload_n 0, 1) := by decide +kernel
theorem dX9_draw_45 : decode cX9_draw 45 = .ok (.getfield 12, 3) := by decide +kernel
theorem dX9_draw_48 : decode cX9_draw 48 = .ok (.getfield 45, 3) := by decide +kernel
theorem dX9_draw_51 : decode cX9_draw 51 = .ok (.invokevirtual 49, 3) := by decide +kernel
theorem dX9_draw_54 : decode cX9_draw 54 = .ok (.iload_n 1, 1) := by decide +kernel
theorem dX9_draw_55 : decode cX9_draw 55 = .ok (.i2l, 1) := by decide +kernel
theorem dX9_draw_56 : decode cX9_draw 56 = .ok (.lstore 4, 2) := by decide +kernel
theorem dX9_draw_58 : decode cX9_draw 58 = .ok (.iconst 0, 1) := by decide +kernel
theorem dX9_draw_59 : decode cX9_draw 59 = .ok (.istore 6, 2) := by decide +kernel
theorem dX9_draw_61 : decode cX9_draw 61 = .ok (.iconst 0, 1) := by decide +kernel
theorem dX9_draw_62 : decode cX9_draw 62 = .ok (.istore 7, 2) := by decide +kernel
theorem dX9_draw_64 : decode cX9_draw 64 = .ok (.iload 7, 2) := by decide +kernel
theorem dX9_draw_66 : decode cX9_draw 66 = .ok (.iload_n 2, 1) := by decide +kernel
theorem dX9_draw_67 : decode cX9_draw 67 = .ok (.if_icmp .ge 43, 3) := by decide +kernel
theorem dX9_draw_70 : decode cX9_draw 70 = .ok (.lload 4, 2) := by decide +kernel
theorem dX9_draw_72 : decode cX9_draw 72 = .ok (.ldc2_w 74, 3) := by decide +kernel
theorem dX9_draw_75 : decode cX9_draw 75 = .ok (.lmul, 1) := by decide +kernel
theorem dX9_draw_76 : decode cX9_draw 76 = .ok (.ldc2_w 76, 3) := by decide +kernel
theorem dX9_draw_79 : decode cX9_draw 79 = .ok (.ladd, 1) := by decide +kernel
theorem dX9_draw_80 : decode cX9_draw 80 = .ok (.ldc2_w 78, 3) := by decide +kernel
theorem dX9_draw_83 : decode cX9_draw 83 = .ok (.lrem, 1) := by decide +kernel
theorem dX9_draw_84 : decode cX9_draw 84 = .ok (.lstore 4, 2) := by decide +kernel
theorem dX9_draw_86 : decode cX9_draw 86 = .ok (.aload_n 0, 1) := by decide +kernel
theorem dX9_draw_87 : decode cX9_draw 87 = .ok (.getfield 12, 3) := by decide +kernel
theorem dX9_draw_90 : decode cX9_draw 90 = .ok (.lload 4, 2) := by decide +kernel
theorem dX9_draw_92 : decode cX9_draw 92 = .ok (.invokevirtual 80, 3) := by decide +kernel
theorem dX9_draw_95 : decode cX9_draw 95 = .ok (.invokestatic 84, 3) := by decide +kernel
theorem dX9_draw_98 : decode cX9_draw 98 = .ok (.ifCond .eq 6, 3) := by decide +kernel
theorem dX9_draw_101 : decode cX9_draw 101 = .ok (.iinc 6 1, 3) := by decide +kernel
theorem dX9_draw_104 : decode cX9_draw 104 = .ok (.iinc 7 1, 3) := by decide +kernel
theorem dX9_draw_107 : decode cX9_draw 107 = .ok (.goto (-43), 3) := by decide +kernel
theorem dX9_draw_110 : decode cX9_draw 110 = .ok (.iload 6, 2) := by decide +kernel
theorem dX9_draw_112 : decode cX9_draw 112 = .ok (.ireturn, 1) := by decide +kernel
theorem dX9_of_0 : decode cX9_of 0 = .ok (.aload_n 0, 1) := by decide +kernel
theorem dX9_of_1 : decode cX9_of 1 = .ok (.getfield 12, 3) := by decide +kernel
theorem dX9_of_4 : decode cX9_of 4 = .ok (.iload_n 1, 1) := by decide +kernel
theorem dX9_of_5 : decode cX9_of 5 = .ok (.invokevirtual 53, 3) := by decide +kernel
theorem dX9_of_8 : decode cX9_of 8 = .ok (.ifCond .eq 17, 3) := by decide +kernel
theorem dX9_of_11 : decode cX9_of 11 = .ok (.iload_n 2, 1) := by decide +kernel
theorem dX9_of_12 : decode cX9_of 12 = .ok (.iconst 0, 1) := by decide +kernel
theorem dX9_of_13 : decode cX9_of 13 = .ok (.bipush 7, 2) := by decide +kernel
theorem dX9_of_15 : decode cX9_of 15 = .ok (.invokestatic 37, 3) := by decide +kernel
theorem dX9_of_18 : decode cX9_of 18 = .ok (.ifCond .eq 7, 3) := by decide +kernel
theorem dX9_of_21 : decode cX9_of 21 = .ok (.iconst 1, 1) := by decide +kernel
theorem dX9_of_22 : decode cX9_of 22 = .ok (.goto 4, 3) := by decide +kernel
theorem dX9_of_25 : decode cX9_of 25 = .ok (.iconst 0, 1) := by decide +kernel
theorem dX9_of_26 : decode cX9_of 26 = .ok (.istore_n 3, 1) := by decide +kernel
theorem dX9_of_27 : decode cX9_of 27 = .ok (.aload_n 0, 1) := by decide +kernel
theorem dX9_of_28 : decode cX9_of 28 = .ok (.getfield 33, 3) := by decide +kernel
theorem dX9_of_31 : decode cX9_of 31 = .ok (.iload_n 3, 1) := by decide +kernel
theorem dX9_of_32 : decode cX9_of 32 = .ok (.ifCond .eq 15, 3) := by decide +kernel
theorem dX9_of_35 : decode cX9_of 35 = .ok (.aload_n 0, 1) := by decide +kernel
theorem dX9_of_36 : decode cX9_of 36 = .ok (.getfield 12, 3) := by decide +kernel
theorem dX9_of_39 : decode cX9_of 39 = .ok (.iload_n 1, 1) := by decide +kernel
theorem dX9_of_40 : decode cX9_of 40 = .ok (.iload_n 2, 1) := by decide +kernel
theorem dX9_of_41 : decode cX9_of 41 = .ok (.invokevirtual 87, 3) := by decide +kernel
theorem dX9_of_44 : decode cX9_of 44 = .ok (.goto 5, 3) := by decide +kernel
theorem dX9_of_47 : decode cX9_of 47 = .ok (.bipush (-2), 2) := by decide +kernel
theorem dX9_of_49 : decode cX9_of 49 = .ok (.invokevirtual 41, 3) := by decide +kernel
theorem dX9_of_52 : decode cX9_of 52 = .ok (.ireturn, 1) := by decide +kernel
theorem dX9_page_0 : decode cX9_page 0 = .ok (.aload_n 0, 1) := by decide +kernel
theorem dX9_page_1 : decode cX9_page 1 = .ok (.getfield 12, 3) := by decide +kernel
theorem dX9_page_4 : decode cX9_page 4 = .ok (.iload_n 1, 1) := by decide +kernel
theorem dX9_page_5 : decode cX9_page 5 = .ok (.invokevirtual 53, 3) := by decide +kernel
theorem dX9_page_8 : decode cX9_page 8 = .ok (.ifCond .eq 32, 3) := by decide +kernel
theorem dX9_page_11 : decode cX9_page 11 = .ok (.iload_n 2, 1) := by decide +kernel
theorem dX9_page_12 : decode cX9_page 12 = .ok (.ifCond .lt 28, 3) := by decide +kernel
theorem dX9_page_15 : decode cX9_page 15 = .ok (.aload_n 0, 1) := by decide +kernel
theorem dX9_page_16 : decode cX9_page 16 = .ok (.getfield 12, 3) := by decide +kernel
theorem dX9_page_19 : decode cX9_page 19 = .ok (.iload_n 3, 1) := by decide +kernel
theorem dX9_page_20 : decode cX9_page 20 = .ok (.invokevirtual 53, 3) := by decide +kernel
theorem dX9_page_23 : decode cX9_page 23 = .ok (.ifCond .eq 17, 3) := by decide +kernel
theorem dX9_page_26 : decode cX9_page 26 = .ok (.iload 4, 2) := by decide +kernel
theorem dX9_page_28 : decode cX9_page 28 = .ok (.iconst 0, 1) := by decide +kernel
theorem dX9_page_29 : decode cX9_page 29 = .ok (.iconst 3, 1) := by decide +kernel
theorem dX9_page_30 : decode cX9_page 30 = .ok (.invokestatic 37, 3) := by decide +kernel
theorem dX9_page_33 : decode cX9_page 33 = .ok (.ifCond .eq 7, 3) := by decide +kernel
theorem dX9_page_36 : decode cX9_page 36 = .ok (.iconst 1, 1) := by decide +kernel
theorem dX9_page_37 : decode cX9_page 37 = .ok (.goto 4, 3) := by decide +kernel
theorem dX9_page_40 : decode cX9_page 40 = .ok (.iconst 0, 1) := by decide +kernel
theorem dX9_page_41 : decode cX9_page 41 = .ok (.istore 5, 2) := by decide +kernel
theorem dX9_page_43 : decode cX9_page 43 = .ok (.aload_n 0, 1) := by decide +kernel
theorem dX9_page_44 : decode cX9_page 44 = .ok (.getfield 33, 3) := by decide +kernel
theorem dX9_page_47 : decode cX9_page 47 = .ok (.iload 5, 2) := by decide +kernel
theorem dX9_page_49 : decode cX9_page 49 = .ok (.ifCond .eq 18, 3) := by decide +kernel
theorem dX9_page_52 : decode cX9_page 52 = .ok (.aload_n 0, 1) := by decide +kernel
theorem dX9_page_53 : decode cX9_page 53 = .ok (.getfield 12, 3) := by decide +kernel
theorem dX9_page_56 : decode cX9_page 56 = .ok (.iload_n 1, 1) := by decide +kernel
theorem dX9_page_57 : decode cX9_page 57 = .ok (.iload_n 2, 1) := by decide +kernel
theorem dX9_page_58 : decode cX9_page 58 = .ok (.iload_n 3, 1) := by decide +kernel
theorem dX9_page_59 : decode cX9_page 59 = .ok (.iload 4, 2) := by decide +kernel
theorem dX9_page_61 : decode cX9_page 61 = .ok (.invokevirtual 90, 3) := by decide +kernel
theorem dX9_page_64 : decode cX9_page 64 = .ok (.goto 5, 3) := by decide +kernel
theorem dX9_page_67 : decode cX9_page 67 = .ok (.bipush (-2), 2) := by decide +kernel
theorem dX9_page_69 : decode cX9_page 69 = .ok (.invokevirtual 41, 3) := by decide +kernel
theorem dX9_page_72 : decode cX9_page 72 = .ok (.ireturn, 1) := by decide +kernel
theorem dX9_dead_0 : decode cX9_dead 0 = .ok (.aload_n 0, 1) := by decide +kernel
theorem dX9_dead_1 : decode cX9_dead 1 = .ok (.getfield 12, 3) := by decide +kernel
theorem dX9_dead_4 : decode cX9_dead 4 = .ok (.iload_n 1, 1) := by decide +kernel
theorem dX9_dead_5 : decode cX9_dead 5 = .ok (.invokevirtual 53, 3) := by decide +kernel
theorem dX9_dead_8 : decode cX9_dead 8 = .ok (.ifCond .eq 27, 3) := by decide +kernel
theorem dX9_dead_11 : decode cX9_dead 11 = .ok (.iload_n 2, 1) := by decide +kernel
theorem dX9_dead_12 : decode cX9_dead 12 = .ok (.iconst 0, 1) := by decide +kernel
theorem dX9_dead_13 : decode cX9_dead 13 = .ok (.bipush 99, 2) := by decide +kernel
theorem dX9_dead_15 : decode cX9_dead 15 = .ok (.invokestatic 37, 3) := by decide +kernel
theorem dX9_dead_18 : decode cX9_dead 18 = .ok (.ifCond .eq 17, 3) := by decide +kernel
theorem dX9_dead_21 : decode cX9_dead 21 = .ok (.iload_n 3, 1) := by decide +kernel
theorem dX9_dead_22 : decode cX9_dead 22 = .ok (.iconst 0, 1) := by decide +kernel
theorem dX9_dead_23 : decode cX9_dead 23 = .ok (.bipush 99, 2) := by decide +kernel
theorem dX9_dead_25 : decode cX9_dead 25 = .ok (.invokestatic 37, 3) := by decide +kernel
theorem dX9_dead_28 : decode cX9_dead 28 = .ok (.ifCond .eq 7, 3) := by decide +kernel
theorem dX9_dead_31 : decode cX9_dead 31 = .ok (.iconst 1, 1) := by decide +kernel
theorem dX9_dead_32 : decode cX9_dead 32 = .ok (.goto 4, 3) := by decide +kernel
theorem dX9_dead_35 : decode cX9_dead 35 = .ok (.iconst 0, 1) := by decide +kernel
theorem dX9_dead_36 : decode cX9_dead 36 = .ok (.istore 4, 2) := by decide +kernel
theorem dX9_dead_38 : decode cX9_dead 38 = .ok (.iload 4, 2) := by decide +kernel
theorem dX9_dead_40 : decode cX9_dead 40 = .ok (.ifCond .ne 13, 3) := by decide +kernel
theorem dX9_dead_43 : decode cX9_dead 43 = .ok (.aload_n 0, 1) := by decide +kernel
theorem dX9_dead_44 : decode cX9_dead 44 = .ok (.getfield 33, 3) := by decide +kernel
theorem dX9_dead_47 : decode cX9_dead 47 = .ok (.bipush (-2), 2) := by decide +kernel
theorem dX9_dead_49 : decode cX9_dead 49 = .ok (.invokevirtual 41, 3) := by decide +kernel
theorem dX9_dead_52 : decode cX9_dead 52 = .ok (.ireturn, 1) := by decide +kernel
theorem dX9_dead_53 : decode cX9_dead 53 = .ok (.aload_n 0, 1) := by decide +kernel
theorem dX9_dead_54 : decode cX9_dead 54 = .ok (.getfield 12, 3) := by decide +kernel
theorem dX9_dead_57 : decode cX9_dead 57 = .ok (.iload_n 1, 1) := by decide +kernel
theorem dX9_dead_58 : decode cX9_dead 58 = .ok (.invokevirtual 94, 3) := by decide +kernel
theorem dX9_dead_61 : decode cX9_dead 61 = .ok (.iload_n 2, 1) := by decide +kernel
theorem dX9_dead_62 : decode cX9_dead 62 = .ok (.iload_n 3, 1) := by decide +kernel
theorem dX9_dead_63 : decode cX9_dead 63 = .ok (.invokevirtual 98, 3) := by decide +kernel
theorem dX9_dead_66 : decode cX9_dead 66 = .ok (.ifCond .eq 7, 3) := by decide +kernel
theorem dX9_dead_69 : decode cX9_dead 69 = .ok (.iconst 1, 1) := by decide +kernel
theorem dX9_dead_70 : decode cX9_dead 70 = .ok (.goto 4, 3) := by decide +kernel
theorem dX9_dead_73 : decode cX9_dead 73 = .ok (.iconst 0, 1) := by decide +kernel
theorem dX9_dead_74 : decode cX9_dead 74 = .ok (.ireturn, 1) := by decide +kernel
theorem dX9_end_0 : decode cX9_end 0 = .ok (.aload_n 0, 1) := by decide +kernel
theorem dX9_end_1 : decode cX9_end 1 = .ok (.getfield 12, 3) := by decide +kernel
theorem dX9_end_4 : decode cX9_end 4 = .ok (.iload_n 1, 1) := by decide +kernel
theorem dX9_end_5 : decode cX9_end 5 = .ok (.invokevirtual 53, 3) := by decide +kernel
theorem dX9_end_8 : decode cX9_end 8 = .ok (.ifCond .eq 17, 3) := by decide +kernel
theorem dX9_end_11 : decode cX9_end 11 = .ok (.iload_n 2, 1) := by decide +kernel
theorem dX9_end_12 : decode cX9_end 12 = .ok (.iconst 0, 1) := by decide +kernel
theorem dX9_end_13 : decode cX9_end 13 = .ok (.bipush 99, 2) := by decide +kernel
theorem dX9_end_15 : decode cX9_end 15 = .ok (.invokestatic 37, 3) := by decide +kernel
theorem dX9_end_18 : decode cX9_end 18 = .ok (.ifCond .eq 7, 3) := by decide +kernel
theorem dX9_end_21 : decode cX9_end 21 = .ok (.iconst 1, 1) := by decide +kernel
theorem dX9_end_22 : decode cX9_end 22 = .ok (.goto 4, 3) := by decide +kernel
theorem dX9_end_25 : decode cX9_end 25 = .ok (.iconst 0, 1) := by decide +kernel
theorem dX9_end_26 : decode cX9_end 26 = .ok (.istore_n 3, 1) := by decide +kernel
theorem dX9_end_27 : decode cX9_end 27 = .ok (.aload_n 0, 1) := by decide +kernel
theorem dX9_end_28 : decode cX9_end 28 = .ok (.getfield 33, 3) := by decide +kernel
theorem dX9_end_31 : decode cX9_end 31 = .ok (.iload_n 3, 1) := by decide +kernel
theorem dX9_end_32 : decode cX9_end 32 = .ok (.ifCond .eq 18, 3) := by decide +kernel
theorem dX9_end_35 : decode cX9_end 35 = .ok (.aload_n 0, 1) := by decide +kernel
theorem dX9_end_36 : decode cX9_end 36 = .ok (.getfield 12, 3) := by decide +kernel
theorem dX9_end_39 : decode cX9_end 39 = .ok (.iload_n 1, 1) := by decide +kernel
theorem dX9_end_40 : decode cX9_end 40 = .ok (.invokevirtual 94, 3) := by decide +kernel
theorem dX9_end_43 : decode cX9_end 43 = .ok (.iload_n 2, 1) := by decide +kernel
theorem dX9_end_44 : decode cX9_end 44 = .ok (.invokevirtual 104, 3) := by decide +kernel
theorem dX9_end_47 : decode cX9_end 47 = .ok (.goto 5, 3) := by decide +kernel
theorem dX9_end_50 : decode cX9_end 50 = .ok (.bipush (-2), 2) := by decide +kernel
theorem dX9_end_52 : decode cX9_end 52 = .ok (.invokevirtual 41, 3) := by decide +kernel
theorem dX9_end_55 : decode cX9_end 55 = .ok (.ireturn, 1) := by decide +kernel
theorem dX9_letter_0 : decode cX9_letter 0 = .ok (.aload_n 0, 1) := by decide +kernel
theorem dX9_letter_1 : decode cX9_letter 1 = .ok (.getfield 12, 3) := by decide +kernel
theorem dX9_letter_4 : decode cX9_letter 4 = .ok (.iload_n 1, 1) := by decide +kernel
theorem dX9_letter_5 : decode cX9_letter 5 = .ok (.invokevirtual 53, 3) := by decide +kernel
theorem dX9_letter_8 : decode cX9_letter 8 = .ok (.ifCond .eq 20, 3) := by decide +kernel
theorem dX9_letter_11 : decode cX9_letter 11 = .ok (.iload_n 2, 1) := by decide +kernel
theorem dX9_letter_12 : decode cX9_letter 12 = .ok (.ifCond .lt 16, 3) := by decide +kernel
theorem dX9_letter_15 : decode cX9_letter 15 = .ok (.iload_n 3, 1) := by decide +kernel
theorem dX9_letter_16 : decode cX9_letter 16 = .ok (.iconst 0, 1) := by decide +kernel
theorem dX9_letter_17 : decode cX9_letter 17 = .ok (.iconst 3, 1) := by decide +kernel
theorem dX9_letter_18 : decode cX9_letter 18 = .ok (.invokestatic 37, 3) := by decide +kernel
theorem dX9_letter_21 : decode cX9_letter 21 = .ok (.ifCond .eq 7, 3) := by decide +kernel
theorem dX9_letter_24 : decode cX9_letter 24 = .ok (.iconst 1, 1) := by decide +kernel
theorem dX9_letter_25 : decode cX9_letter 25 = .ok (.goto 4, 3) := by decide +kernel
theorem dX9_letter_28 : decode cX9_letter 28 = .ok (.iconst 0, 1) := by decide +kernel
theorem dX9_letter_29 : decode cX9_letter 29 = .ok (.istore 4, 2) := by decide +kernel
theorem dX9_letter_31 : decode cX9_letter 31 = .ok (.aload_n 0, 1) := by decide +kernel
theorem dX9_letter_32 : decode cX9_letter 32 = .ok (.getfield 33, 3) := by decide +kernel
theorem dX9_letter_35 : decode cX9_letter 35 = .ok (.iload 4, 2) := by decide +kernel
theorem dX9_letter_37 : decode cX9_letter 37 = .ok (.ifCond .eq 16, 3) := by decide +kernel
theorem dX9_letter_40 : decode cX9_letter 40 = .ok (.aload_n 0, 1) := by decide +kernel
theorem dX9_letter_41 : decode cX9_letter 41 = .ok (.getfield 12, 3) := by decide +kernel
theorem dX9_letter_44 : decode cX9_letter 44 = .ok (.iload_n 1, 1) := by decide +kernel
theorem dX9_letter_45 : decode cX9_letter 45 = .ok (.iload_n 2, 1) := by decide +kernel
theorem dX9_letter_46 : decode cX9_letter 46 = .ok (.iload_n 3, 1) := by decide +kernel
theorem dX9_letter_47 : decode cX9_letter 47 = .ok (.invokevirtual 107, 3) := by decide +kernel
theorem dX9_letter_50 : decode cX9_letter 50 = .ok (.goto 5, 3) := by decide +kernel
theorem dX9_letter_53 : decode cX9_letter 53 = .ok (.bipush (-2), 2) := by decide +kernel
theorem dX9_letter_55 : decode cX9_letter 55 = .ok (.invokevirtual 41, 3) := by decide +kernel
theorem dX9_letter_58 : decode cX9_letter 58 = .ok (.ireturn, 1) := by decide +kernel
theorem dX9_sweeps_0 : decode cX9_sweeps 0 = .ok (.aload_n 0, 1) := by decide +kernel
theorem dX9_sweeps_1 : decode cX9_sweeps 1 = .ok (.getfield 12, 3) := by decide +kernel
theorem dX9_sweeps_4 : decode cX9_sweeps 4 = .ok (.invokevirtual 111, 3) := by decide +kernel
theorem dX9_sweeps_7 : decode cX9_sweeps 7 = .ok (.ireturn, 1) := by decide +kernel
theorem dX9_says_0 : decode cX9_says 0 = .ok (.aload_n 0, 1) := by decide +kernel
theorem dX9_says_1 : decode cX9_says 1 = .ok (.getfield 33, 3) := by decide +kernel
theorem dX9_says_4 : decode cX9_says 4 = .ok (.aload_n 0, 1) := by decide +kernel
theorem dX9_says_5 : decode cX9_says 5 = .ok (.getfield 12, 3) := by decide +kernel
theorem dX9_says_8 : decode cX9_says 8 = .ok (.iload_n 1, 1) := by decide +kernel
theorem dX9_says_9 : decode cX9_says 9 = .ok (.invokevirtual 53, 3) := by decide +kernel
theorem dX9_says_12 : decode cX9_says 12 = .ok (.ifCond .eq 14, 3) := by decide +kernel
theorem dX9_says_15 : decode cX9_says 15 = .ok (.aload_n 0, 1) := by decide +kernel
theorem dX9_says_16 : decode cX9_says 16 = .ok (.getfield 12, 3) := by decide +kernel
theorem dX9_says_19 : decode cX9_says 19 = .ok (.iload_n 1, 1) := by decide +kernel
theorem dX9_says_20 : decode cX9_says 20 = .ok (.invokevirtual 115, 3) := by decide +kernel
theorem dX9_says_23 : decode cX9_says 23 = .ok (.goto 5, 3) := by decide +kernel
theorem dX9_says_26 : decode cX9_says 26 = .ok (.bipush (-2), 2) := by decide +kernel
theorem dX9_says_28 : decode cX9_says 28 = .ok (.invokevirtual 41, 3) := by decide +kernel
theorem dX9_says_31 : decode cX9_says 31 = .ok (.ireturn, 1) := by decide +kernel
theorem dX9_release_0 : decode cX9_release 0 = .ok (.aload_n 0, 1) := by decide +kernel
theorem dX9_release_1 : decode cX9_release 1 = .ok (.getfield 12, 3) := by decide +kernel
theorem dX9_release_4 : decode cX9_release 4 = .ok (.invokevirtual 118, 3) := by decide +kernel
theorem dX9_release_7 : decode cX9_release 7 = .ok (.ireturn, 1) := by decide +kernel
theorem dX9_saying_0 : decode cX9_saying 0 = .ok (.iload_n 1, 1) := by decide +kernel
theorem dX9_saying_1 : decode cX9_saying 1 = .ok (.ifCond .lt 16, 3) := by decide +kernel
theorem dX9_saying_4 : decode cX9_saying 4 = .ok (.iload_n 2, 1) := by decide +kernel
theorem dX9_saying_5 : decode cX9_saying 5 = .ok (.iconst 0, 1) := by decide +kernel
theorem dX9_saying_6 : decode cX9_saying 6 = .ok (.iconst 3, 1) := by decide +kernel
theorem dX9_saying_7 : decode cX9_saying 7 = .ok (.invokestatic 37, 3) := by decide +kernel
theorem dX9_saying_10 : decode cX9_saying 10 = .ok (.ifCond .eq 7, 3) := by decide +kernel
theorem dX9_saying_13 : decode cX9_saying 13 = .ok (.iconst 1, 1) := by decide +kernel
theorem dX9_saying_14 : decode cX9_saying 14 = .ok (.goto 4, 3) := by decide +kernel
theorem dX9_saying_17 : decode cX9_saying 17 = .ok (.iconst 0, 1) := by decide +kernel
theorem dX9_saying_18 : decode cX9_saying 18 = .ok (.istore_n 3, 1) := by decide +kernel
theorem dX9_saying_19 : decode cX9_saying 19 = .ok (.aload_n 0, 1) := by decide +kernel
theorem dX9_saying_20 : decode cX9_saying 20 = .ok (.getfield 33, 3) := by decide +kernel
theorem dX9_saying_23 : decode cX9_saying 23 = .ok (.iload_n 3, 1) := by decide +kernel
theorem dX9_saying_24 : decode cX9_saying 24 = .ok (.ifCond .eq 15, 3) := by decide +kernel
theorem dX9_saying_27 : decode cX9_saying 27 = .ok (.aload_n 0, 1) := by decide +kernel
theorem dX9_saying_28 : decode cX9_saying 28 = .ok (.getfield 12, 3) := by decide +kernel
theorem dX9_saying_31 : decode cX9_saying 31 = .ok (.iload_n 1, 1) := by decide +kernel
theorem dX9_saying_32 : decode cX9_saying 32 = .ok (.iload_n 2, 1) := by decide +kernel
theorem dX9_saying_33 : decode cX9_saying 33 = .ok (.invokevirtual 121, 3) := by decide +kernel
theorem dX9_saying_36 : decode cX9_saying 36 = .ok (.goto 5, 3) := by decide +kernel
theorem dX9_saying_39 : decode cX9_saying 39 = .ok (.bipush (-2), 2) := by decide +kernel
theorem dX9_saying_41 : decode cX9_saying 41 = .ok (.invokevirtual 41, 3) := by decide +kernel
theorem dX9_saying_44 : decode cX9_saying 44 = .ok (.ireturn, 1) := by decide +kernel
theorem dX9_released_0 : decode cX9_released 0 = .ok (.aload_n 0, 1) := by decide +kernel
theorem dX9_released_1 : decode cX9_released 1 = .ok (.getfield 33, 3) := by decide +kernel
theorem dX9_released_4 : decode cX9_released 4 = .ok (.iload_n 1, 1) := by decide +kernel
theorem dX9_released_5 : decode cX9_released 5 = .ok (.ifCond .lt 17, 3) := by decide +kernel
theorem dX9_released_8 : decode cX9_released 8 = .ok (.aload_n 0, 1) := by decide +kernel
theorem dX9_released_9 : decode cX9_released 9 = .ok (.getfield 12, 3) := by decide +kernel
theorem dX9_released_12 : decode cX9_released 12 = .ok (.getfield 124, 3) := by decide +kernel
theorem dX9_released_15 : decode cX9_released 15 = .ok (.iload_n 1, 1) := by decide +kernel
theorem dX9_released_16 : decode cX9_released 16 = .ok (.invokevirtual 128, 3) := by decide +kernel
theorem dX9_released_19 : decode cX9_released 19 = .ok (.goto 5, 3) := by decide +kernel
theorem dX9_released_22 : decode cX9_released 22 = .ok (.bipush (-2), 2) := by decide +kernel
theorem dX9_released_24 : decode cX9_released 24 = .ok (.invokevirtual 41, 3) := by decide +kernel
theorem dX9_released_27 : decode cX9_released 27 = .ok (.ireturn, 1) := by decide +kernel
theorem dX9_cuts_0 : decode cX9_cuts 0 = .ok (.aload_n 0, 1) := by decide +kernel
theorem dX9_cuts_1 : decode cX9_cuts 1 = .ok (.getfield 33, 3) := by decide +kernel
theorem dX9_cuts_4 : decode cX9_cuts 4 = .ok (.aload_n 0, 1) := by decide +kernel
theorem dX9_cuts_5 : decode cX9_cuts 5 = .ok (.getfield 12, 3) := by decide +kernel
theorem dX9_cuts_8 : decode cX9_cuts 8 = .ok (.iload_n 1, 1) := by decide +kernel
theorem dX9_cuts_9 : decode cX9_cuts 9 = .ok (.invokevirtual 53, 3) := by decide +kernel
theorem dX9_cuts_12 : decode cX9_cuts 12 = .ok (.ifCond .eq 14, 3) := by decide +kernel
theorem dX9_cuts_15 : decode cX9_cuts 15 = .ok (.aload_n 0, 1) := by decide +kernel
theorem dX9_cuts_16 : decode cX9_cuts 16 = .ok (.getfield 12, 3) := by decide +kernel
theorem dX9_cuts_19 : decode cX9_cuts 19 = .ok (.iload_n 1, 1) := by decide +kernel
theorem dX9_cuts_20 : decode cX9_cuts 20 = .ok (.invokevirtual 133, 3) := by decide +kernel
theorem dX9_cuts_23 : decode cX9_cuts 23 = .ok (.goto 5, 3) := by decide +kernel
theorem dX9_cuts_26 : decode cX9_cuts 26 = .ok (.bipush (-2), 2) := by decide +kernel
theorem dX9_cuts_28 : decode cX9_cuts 28 = .ok (.invokevirtual 41, 3) := by decide +kernel
theorem dX9_cuts_31 : decode cX9_cuts 31 = .ok (.ireturn, 1) := by decide +kernel
theorem dX9_would_0 : decode cX9_would 0 = .ok (.aload_n 0, 1) := by decide +kernel
theorem dX9_would_1 : decode cX9_would 1 = .ok (.getfield 12, 3) := by decide +kernel
theorem dX9_would_4 : decode cX9_would 4 = .ok (.iload_n 1, 1) := by decide +kernel
theorem dX9_would_5 : decode cX9_would 5 = .ok (.invokevirtual 53, 3) := by decide +kernel
theorem dX9_would_8 : decode cX9_would 8 = .ok (.ifCond .eq 16, 3) := by decide +kernel
theorem dX9_would_11 : decode cX9_would 11 = .ok (.iload_n 2, 1) := by decide +kernel
theorem dX9_would_12 : decode cX9_would 12 = .ok (.iconst 0, 1) := by decide +kernel
theorem dX9_would_13 : decode cX9_would 13 = .ok (.iconst 2, 1) := by decide +kernel
theorem dX9_would_14 : decode cX9_would 14 = .ok (.invokestatic 37, 3) := by decide +kernel
theorem dX9_would_17 : decode cX9_would 17 = .ok (.ifCond .eq 7, 3) := by decide +kernel
theorem dX9_would_20 : decode cX9_would 20 = .ok (.iconst 1, 1) := by decide +kernel
theorem dX9_would_21 : decode cX9_would 21 = .ok (.goto 4, 3) := by decide +kernel
theorem dX9_would_24 : decode cX9_would 24 = .ok (.iconst 0, 1) := by decide +kernel
theorem dX9_would_25 : decode cX9_would 25 = .ok (.istore_n 3, 1) := by decide +kernel
theorem dX9_would_26 : decode cX9_would 26 = .ok (.aload_n 0, 1) := by decide +kernel
theorem dX9_would_27 : decode cX9_would 27 = .ok (.getfield 33, 3) := by decide +kernel
theorem dX9_would_30 : decode cX9_would 30 = .ok (.iload_n 3, 1) := by decide +kernel
theorem dX9_would_31 : decode cX9_would 31 = .ok (.ifCond .eq 15, 3) := by decide +kernel
theorem dX9_would_34 : decode cX9_would 34 = .ok (.aload_n 0, 1) := by decide +kernel
theorem dX9_would_35 : decode cX9_would 35 = .ok (.getfield 12, 3) := by decide +kernel
theorem dX9_would_38 : decode cX9_would 38 = .ok (.iload_n 1, 1) := by decide +kernel
theorem dX9_would_39 : decode cX9_would 39 = .ok (.iload_n 2, 1) := by decide +kernel
theorem dX9_would_40 : decode cX9_would 40 = .ok (.invokevirtual 136, 3) := by decide +kernel
theorem dX9_would_43 : decode cX9_would 43 = .ok (.goto 5, 3) := by decide +kernel
theorem dX9_would_46 : decode cX9_would 46 = .ok (.bipush (-2), 2) := by decide +kernel
theorem dX9_would_48 : decode cX9_would 48 = .ok (.invokevirtual 41, 3) := by decide +kernel
theorem dX9_would_51 : decode cX9_would 51 = .ok (.ireturn, 1) := by decide +kernel
theorem dX9_worst_0 : decode cX9_worst 0 = .ok (.iload_n 1, 1) := by decide +kernel
theorem dX9_worst_1 : decode cX9_worst 1 = .ok (.iconst 0, 1) := by decide +kernel
theorem dX9_worst_2 : decode cX9_worst 2 = .ok (.iconst 1, 1) := by decide +kernel
theorem dX9_worst_3 : decode cX9_worst 3 = .ok (.invokestatic 37, 3) := by decide +kernel
theorem dX9_worst_6 : decode cX9_worst 6 = .ok (.ifCond .ne 13, 3) := by decide +kernel
theorem dX9_worst_9 : decode cX9_worst 9 = .ok (.aload_n 0, 1) := by decide +kernel
theorem dX9_worst_10 : decode cX9_worst 10 = .ok (.getfield 33, 3) := by decide +kernel
theorem dX9_worst_13 : decode cX9_worst 13 = .ok (.bipush (-2), 2) := by decide +kernel
theorem dX9_worst_15 : decode cX9_worst 15 = .ok (.invokevirtual 41, 3) := by decide +kernel
theorem dX9_worst_18 : decode cX9_worst 18 = .ok (.ireturn, 1) := by decide +kernel
theorem dX9_worst_19 : decode cX9_worst 19 = .ok (.aload_n 0, 1) := by decide +kernel
theorem dX9_worst_20 : decode cX9_worst 20 = .ok (.getfield 12, 3) := by decide +kernel
theorem dX9_worst_23 : decode cX9_worst 23 = .ok (.invokevirtual 139, 3) := by decide +kernel
theorem dX9_worst_26 : decode cX9_worst 26 = .ok (.istore_n 2, 1) := by decide +kernel
theorem dX9_worst_27 : decode cX9_worst 27 = .ok (.iload_n 1, 1) := by decide +kernel
theorem dX9_worst_28 : decode cX9_worst 28 = .ok (.ifCond .ne 7, 3) := by decide +kernel
theorem dX9_worst_31 : decode cX9_worst 31 = .ok (.iload_n 2, 1) := by decide +kernel
theorem dX9_worst_32 : decode cX9_worst 32 = .ok (.goto 12, 3) := by decide +kernel
theorem dX9_worst_35 : decode cX9_worst 35 = .ok (.aload_n 0, 1) := by decide +kernel
theorem dX9_worst_36 : decode cX9_worst 36 = .ok (.getfield 12, 3) := by decide +kernel
theorem dX9_worst_39 : decode cX9_worst 39 = .ok (.iload_n 2, 1) := by decide +kernel
theorem dX9_worst_40 : decode cX9_worst 40 = .ok (.iconst 0, 1) := by decide +kernel
theorem dX9_worst_41 : decode cX9_worst 41 = .ok (.invokevirtual 136, 3) := by decide +kernel
theorem dX9_worst_44 : decode cX9_worst 44 = .ok (.ireturn, 1) := by decide +kernel
theorem dX9_type_0 : decode cX9_type 0 = .ok (.aload_n 0, 1) := by decide +kernel
theorem dX9_type_1 : decode cX9_type 1 = .ok (.getfield 33, 3) := by decide +kernel
theorem dX9_type_4 : decode cX9_type 4 = .ok (.iload_n 1, 1) := by decide +kernel
theorem dX9_type_5 : decode cX9_type 5 = .ok (.iconst 0, 1) := by decide +kernel
theorem dX9_type_6 : decode cX9_type 6 = .ok (.bipush 127, 2) := by decide +kernel
theorem dX9_type_8 : decode cX9_type 8 = .ok (.invokestatic 37, 3) := by decide +kernel
theorem dX9_type_11 : decode cX9_type 11 = .ok (.ifCond .eq 14, 3) := by decide +kernel
theorem dX9_type_14 : decode cX9_type 14 = .ok (.aload_n 0, 1) := by decide +kernel
theorem dX9_type_15 : decode cX9_type 15 = .ok (.getfield 19, 3) := by decide +kernel
theorem dX9_type_18 : decode cX9_type 18 = .ok (.iload_n 1, 1) := by decide +kernel
theorem dX9_type_19 : decode cX9_type 19 = .ok (.invokevirtual 142, 3) := by decide +kernel
theorem dX9_type_22 : decode cX9_type 22 = .ok (.goto 5, 3) := by decide +kernel
theorem dX9_type_25 : decode cX9_type 25 = .ok (.bipush (-2), 2) := by decide +kernel
theorem dX9_type_27 : decode cX9_type 27 = .ok (.invokevirtual 41, 3) := by decide +kernel
theorem dX9_type_30 : decode cX9_type 30 = .ok (.ireturn, 1) := by decide +kernel
theorem dX9_clear_0 : decode cX9_clear 0 = .ok (.aload_n 0, 1) := by decide +kernel
theorem dX9_clear_1 : decode cX9_clear 1 = .ok (.getfield 19, 3) := by decide +kernel
theorem dX9_clear_4 : decode cX9_clear 4 = .ok (.invokevirtual 145, 3) := by decide +kernel
theorem dX9_clear_7 : decode cX9_clear 7 = .ok (.ireturn, 1) := by decide +kernel
theorem dX9_does_0 : decode cX9_does 0 = .ok (.aload_n 0, 1) := by decide +kernel
theorem dX9_does_1 : decode cX9_does 1 = .ok (.getfield 26, 3) := by decide +kernel
theorem dX9_does_4 : decode cX9_does 4 = .ok (.aload_n 0, 1) := by decide +kernel
theorem dX9_does_5 : decode cX9_does 5 = .ok (.getfield 19, 3) := by decide +kernel
theorem dX9_does_8 : decode cX9_does 8 = .ok (.aload_n 0, 1) := by decide +kernel
theorem dX9_does_9 : decode cX9_does 9 = .ok (.getfield 12, 3) := by decide +kernel
theorem dX9_does_12 : decode cX9_does 12 = .ok (.getfield 45, 3) := by decide +kernel
theorem dX9_does_15 : decode cX9_does 15 = .ok (.invokevirtual 148, 3) := by decide +kernel
theorem dX9_does_18 : decode cX9_does 18 = .ok (.istore_n 1, 1) := by decide +kernel
theorem dX9_does_19 : decode cX9_does 19 = .ok (.iload_n 1, 1) := by decide +kernel
theorem dX9_does_20 : decode cX9_does 20 = .ok (.iconst (-1), 1) := by decide +kernel
theorem dX9_does_21 : decode cX9_does 21 = .ok (.if_icmp .eq 8, 3) := by decide +kernel
theorem dX9_does_24 : decode cX9_does 24 = .ok (.bipush (-10), 2) := by decide +kernel
theorem dX9_does_26 : decode cX9_does 26 = .ok (.iload_n 1, 1) := by decide +kernel
theorem dX9_does_27 : decode cX9_does 27 = .ok (.isub, 1) := by decide +kernel
theorem dX9_does_28 : decode cX9_does 28 = .ok (.ireturn, 1) := by decide +kernel
theorem dX9_does_29 : decode cX9_does 29 = .ok (.iconst 0, 1) := by decide +kernel
theorem dX9_does_30 : decode cX9_does 30 = .ok (.istore_n 2, 1) := by decide +kernel
theorem dX9_does_31 : decode cX9_does 31 = .ok (.iconst 0, 1) := by decide +kernel
theorem dX9_does_32 : decode cX9_does 32 = .ok (.istore_n 3, 1) := by decide +kernel
theorem dX9_does_33 : decode cX9_does 33 = .ok (.iload_n 3, 1) := by decide +kernel
theorem dX9_does_34 : decode cX9_does 34 = .ok (.aload_n 0, 1) := by decide +kernel
theorem dX9_does_35 : decode cX9_does 35 = .ok (.getfield 26, 3) := by decide +kernel
theorem dX9_does_38 : decode cX9_does 38 = .ok (.getfield 152, 3) := by decide +kernel
theorem dX9_does_41 : decode cX9_does 41 = .ok (.if_icmp .ge 62, 3) := by decide +kernel
theorem dX9_does_44 : decode cX9_does 44 = .ok (.aload_n 0, 1) := by decide +kernel
theorem dX9_does_45 : decode cX9_does 45 = .ok (.getfield 12, 3) := by decide +kernel
theorem dX9_does_48 : decode cX9_does 48 = .ok (.aload_n 0, 1) := by decide +kernel
theorem dX9_does_49 : decode cX9_does 49 = .ok (.getfield 26, 3) := by decide +kernel
theorem dX9_does_52 : decode cX9_does 52 = .ok (.getfield 155, 3) := by decide +kernel
theorem dX9_does_55 : decode cX9_does 55 = .ok (.iload_n 3, 1) := by decide +kernel
theorem dX9_does_56 : decode cX9_does 56 = .ok (.invokestatic 159, 3) := by decide +kernel
theorem dX9_does_59 : decode cX9_does 59 = .ok (.aload_n 0, 1) := by decide +kernel
theorem dX9_does_60 : decode cX9_does 60 = .ok (.getfield 26, 3) := by decide +kernel
theorem dX9_does_63 : decode cX9_does 63 = .ok (.getfield 163, 3) := by decide +kernel
theorem dX9_does_66 : decode cX9_does 66 = .ok (.iload_n 3, 1) := by decide +kernel
theorem dX9_does_67 : decode cX9_does 67 = .ok (.invokestatic 159, 3) := by decide +kernel
theorem dX9_does_70 : decode cX9_does 70 = .ok (.aload_n 0, 1) := by decide +kernel
theorem dX9_does_71 : decode cX9_does 71 = .ok (.getfield 26, 3) := by decide +kernel
theorem dX9_does_74 : decode cX9_does 74 = .ok (.getfield 166, 3) := by decide +kernel
theorem dX9_does_77 : decode cX9_does 77 = .ok (.iload_n 3, 1) := by decide +kernel
theorem dX9_does_78 : decode cX9_does 78 = .ok (.invokestatic 159, 3) := by decide +kernel
theorem dX9_does_81 : decode cX9_does 81 = .ok (.invokevirtual 169, 3) := by decide +kernel
theorem dX9_does_84 : decode cX9_does 84 = .ok (.istore 4, 2) := by decide +kernel
theorem dX9_does_86 : decode cX9_does 86 = .ok (.iload 4, 2) := by decide +kernel
theorem dX9_does_88 : decode cX9_does 88 = .ok (.invokestatic 84, 3) := by decide +kernel
theorem dX9_does_91 : decode cX9_does 91 = .ok (.ifCond .eq 6, 3) := by decide +kernel
theorem dX9_does_94 : decode cX9_does 94 = .ok (.iinc 2 1, 3) := by decide +kernel
theorem dX9_does_97 : decode cX9_does 97 = .ok (.iinc 3 1, 3) := by decide +kernel
theorem dX9_does_100 : decode cX9_does 100 = .ok (.goto (-67), 3) := by decide +kernel
theorem dX9_does_103 : decode cX9_does 103 = .ok (.iload_n 2, 1) := by decide +kernel
theorem dX9_does_104 : decode cX9_does 104 = .ok (.ireturn, 1) := by decide +kernel
theorem dX9_told_0 : decode cX9_told 0 = .ok (.aload_n 0, 1) := by decide +kernel
theorem dX9_told_1 : decode cX9_told 1 = .ok (.getfield 33, 3) := by decide +kernel
theorem dX9_told_4 : decode cX9_told 4 = .ok (.iload_n 1, 1) := by decide +kernel
theorem dX9_told_5 : decode cX9_told 5 = .ok (.iconst 0, 1) := by decide +kernel
theorem dX9_told_6 : decode cX9_told 6 = .ok (.bipush 9, 2) := by decide +kernel
theorem dX9_told_8 : decode cX9_told 8 = .ok (.invokestatic 37, 3) := by decide +kernel
theorem dX9_told_11 : decode cX9_told 11 = .ok (.ifCond .eq 11, 3) := by decide +kernel
theorem dX9_told_14 : decode cX9_told 14 = .ok (.aload_n 0, 1) := by decide +kernel
theorem dX9_told_15 : decode cX9_told 15 = .ok (.iload_n 1, 1) := by decide +kernel
theorem dX9_told_16 : decode cX9_told 16 = .ok (.invokevirtual 172, 3) := by decide +kernel
theorem dX9_told_19 : decode cX9_told 19 = .ok (.goto 5, 3) := by decide +kernel
theorem dX9_told_22 : decode cX9_told 22 = .ok (.bipush (-2), 2) := by decide +kernel
theorem dX9_told_24 : decode cX9_told 24 = .ok (.invokevirtual 41, 3) := by decide +kernel
theorem dX9_told_27 : decode cX9_told 27 = .ok (.ireturn, 1) := by decide +kernel
theorem dX9_digest_0 : decode cX9_digest 0 = .ok (.ldc2_w 175, 3) := by decide +kernel
theorem dX9_digest_3 : decode cX9_digest 3 = .ok (.lstore_n 1, 1) := by decide +kernel
theorem dX9_digest_4 : decode cX9_digest 4 = .ok (.iconst 0, 1) := by decide +kernel
theorem dX9_digest_5 : decode cX9_digest 5 = .ok (.istore_n 3, 1) := by decide +kernel
theorem dX9_digest_6 : decode cX9_digest 6 = .ok (.iload_n 3, 1) := by decide +kernel
theorem dX9_digest_7 : decode cX9_digest 7 = .ok (.bipush 10, 2) := by decide +kernel
theorem dX9_digest_9 : decode cX9_digest 9 = .ok (.if_icmp .ge 22, 3) := by decide +kernel
theorem dX9_digest_12 : decode cX9_digest 12 = .ok (.ldc2_w 177, 3) := by decide +kernel
theorem dX9_digest_15 : decode cX9_digest 15 = .ok (.lload_n 1, 1) := by decide +kernel
theorem dX9_digest_16 : decode cX9_digest 16 = .ok (.lmul, 1) := by decide +kernel
theorem dX9_digest_17 : decode cX9_digest 17 = .ok (.aload_n 0, 1) := by decide +kernel
theorem dX9_digest_18 : decode cX9_digest 18 = .ok (.iload_n 3, 1) := by decide +kernel
theorem dX9_digest_19 : decode cX9_digest 19 = .ok (.invokevirtual 172, 3) := by decide +kernel
theorem dX9_digest_22 : decode cX9_digest 22 = .ok (.i2l, 1) := by decide +kernel
theorem dX9_digest_23 : decode cX9_digest 23 = .ok (.ladd, 1) := by decide +kernel
theorem dX9_digest_24 : decode cX9_digest 24 = .ok (.lstore_n 1, 1) := by decide +kernel
theorem dX9_digest_25 : decode cX9_digest 25 = .ok (.iinc 3 1, 3) := by decide +kernel
theorem dX9_digest_28 : decode cX9_digest 28 = .ok (.goto (-22), 3) := by decide +kernel
theorem dX9_digest_31 : decode cX9_digest 31 = .ok (.iconst 0, 1) := by decide +kernel
theorem dX9_digest_32 : decode cX9_digest 32 = .ok (.istore_n 3, 1) := by decide +kernel
theorem dX9_digest_33 : decode cX9_digest 33 = .ok (.iload_n 3, 1) := by decide +kernel
theorem dX9_digest_34 : decode cX9_digest 34 = .ok (.aload_n 0, 1) := by decide +kernel
theorem dX9_digest_35 : decode cX9_digest 35 = .ok (.getfield 12, 3) := by decide +kernel
theorem dX9_digest_38 : decode cX9_digest 38 = .ok (.getfield 45, 3) := by decide +kernel
theorem dX9_digest_41 : decode cX9_digest 41 = .ok (.if_icmp .ge 43, 3) := by decide +kernel
theorem dX9_digest_44 : decode cX9_digest 44 = .ok (.iconst 0, 1) := by decide +kernel
theorem dX9_digest_45 : decode cX9_digest 45 = .ok (.istore 4, 2) := by decide +kernel
theorem dX9_digest_47 : decode cX9_digest 47 = .ok (.iload 4, 2) := by decide +kernel
theorem dX9_digest_49 : decode cX9_digest 49 = .ok (.bipush 8, 2) := by decide +kernel
theorem dX9_digest_51 : decode cX9_digest 51 = .ok (.if_icmp .ge 27, 3) := by decide +kernel
theorem dX9_digest_54 : decode cX9_digest 54 = .ok (.ldc2_w 177, 3) := by decide +kernel
theorem dX9_digest_57 : decode cX9_digest 57 = .ok (.lload_n 1, 1) := by decide +kernel
theorem dX9_digest_58 : decode cX9_digest 58 = .ok (.lmul, 1) := by decide +kernel
theorem dX9_digest_59 : decode cX9_digest 59 = .ok (.aload_n 0, 1) := by decide +kernel
theorem dX9_digest_60 : decode cX9_digest 60 = .ok (.getfield 12, 3) := by decide +kernel
theorem dX9_digest_63 : decode cX9_digest 63 = .ok (.iload_n 3, 1) := by decide +kernel
theorem dX9_digest_64 : decode cX9_digest 64 = .ok (.iload 4, 2) := by decide +kernel
theorem dX9_digest_66 : decode cX9_digest 66 = .ok (.invokevirtual 87, 3) := by decide +kernel
theorem dX9_digest_69 : decode cX9_digest 69 = .ok (.i2l, 1) := by decide +kernel
theorem dX9_digest_70 : decode cX9_digest 70 = .ok (.ladd, 1) := by decide +kernel
theorem dX9_digest_71 : decode cX9_digest 71 = .ok (.lstore_n 1, 1) := by decide +kernel
theorem dX9_digest_72 : decode cX9_digest 72 = .ok (.iinc 4 1, 3) := by decide +kernel
theorem dX9_digest_75 : decode cX9_digest 75 = .ok (.goto (-28), 3) := by decide +kernel
theorem dX9_digest_78 : decode cX9_digest 78 = .ok (.iinc 3 1, 3) := by decide +kernel
theorem dX9_digest_81 : decode cX9_digest 81 = .ok (.goto (-48), 3) := by decide +kernel
theorem dX9_digest_84 : decode cX9_digest 84 = .ok (.iconst 0, 1) := by decide +kernel
theorem dX9_digest_85 : decode cX9_digest 85 = .ok (.istore_n 3, 1) := by decide +kernel
theorem dX9_digest_86 : decode cX9_digest 86 = .ok (.iload_n 3, 1) := by decide +kernel
theorem dX9_digest_87 : decode cX9_digest 87 = .ok (.aload_n 0, 1) := by decide +kernel
theorem dX9_digest_88 : decode cX9_digest 88 = .ok (.getfield 12, 3) := by decide +kernel
theorem dX9_digest_91 : decode cX9_digest 91 = .ok (.getfield 124, 3) := by decide +kernel
theorem dX9_digest_94 : decode cX9_digest 94 = .ok (.getfield 179, 3) := by decide +kernel
theorem dX9_digest_97 : decode cX9_digest 97 = .ok (.if_icmp .ge 42, 3) := by decide +kernel
theorem dX9_digest_100 : decode cX9_digest 100 = .ok (.iconst 0, 1) := by decide +kernel
theorem dX9_digest_101 : decode cX9_digest 101 = .ok (.istore 4, 2) := by decide +kernel
theorem dX9_digest_103 : decode cX9_digest 103 = .ok (.iload 4, 2) := by decide +kernel
theorem dX9_digest_105 : decode cX9_digest 105 = .ok (.iconst 4, 1) := by decide +kernel
theorem dX9_digest_106 : decode cX9_digest 106 = .ok (.if_icmp .ge 27, 3) := by decide +kernel
theorem dX9_digest_109 : decode cX9_digest 109 = .ok (.ldc2_w 177, 3) := by decide +kernel
theorem dX9_digest_112 : decode cX9_digest 112 = .ok (.lload_n 1, 1) := by decide +kernel
theorem dX9_digest_113 : decode cX9_digest 113 = .ok (.lmul, 1) := by decide +kernel
theorem dX9_digest_114 : decode cX9_digest 114 = .ok (.aload_n 0, 1) := by decide +kernel
theorem dX9_digest_115 : decode cX9_digest 115 = .ok (.getfield 12, 3) := by decide +kernel
theorem dX9_digest_118 : decode cX9_digest 118 = .ok (.iload_n 3, 1) := by decide +kernel
theorem dX9_digest_119 : decode cX9_digest 119 = .ok (.iload 4, 2) := by decide +kernel
theorem dX9_digest_121 : decode cX9_digest 121 = .ok (.invokevirtual 121, 3) := by decide +kernel
theorem dX9_digest_124 : decode cX9_digest 124 = .ok (.i2l, 1) := by decide +kernel
theorem dX9_digest_125 : decode cX9_digest 125 = .ok (.ladd, 1) := by decide +kernel
theorem dX9_digest_126 : decode cX9_digest 126 = .ok (.lstore_n 1, 1) := by decide +kernel
theorem dX9_digest_127 : decode cX9_digest 127 = .ok (.iinc 4 1, 3) := by decide +kernel
theorem dX9_digest_130 : decode cX9_digest 130 = .ok (.goto (-27), 3) := by decide +kernel
theorem dX9_digest_133 : decode cX9_digest 133 = .ok (.iinc 3 1, 3) := by decide +kernel
theorem dX9_digest_136 : decode cX9_digest 136 = .ok (.goto (-50), 3) := by decide +kernel
theorem dX9_digest_139 : decode cX9_digest 139 = .ok (.lload_n 1, 1) := by decide +kernel
theorem dX9_digest_140 : decode cX9_digest 140 = .ok (.lreturn, 1) := by decide +kernel
theorem dX9_tell_0 : decode cX9_tell 0 = .ok (.iload_n 1, 1) := by decide +kernel
theorem dX9_tell_1 : decode cX9_tell 1 = .ok (.tableswitch 135 0 8 #[51, 59, 67, 75, 83, 91, 102, 113, 124], 51) := by decide +kernel
theorem dX9_tell_52 : decode cX9_tell 52 = .ok (.aload_n 0, 1) := by decide +kernel
theorem dX9_tell_53 : decode cX9_tell 53 = .ok (.getfield 33, 3) := by decide +kernel
theorem dX9_tell_56 : decode cX9_tell 56 = .ok (.getfield 180, 3) := by decide +kernel
theorem dX9_tell_59 : decode cX9_tell 59 = .ok (.ireturn, 1) := by decide +kernel
theorem dX9_tell_60 : decode cX9_tell 60 = .ok (.aload_n 0, 1) := by decide +kernel
theorem dX9_tell_61 : decode cX9_tell 61 = .ok (.getfield 33, 3) := by decide +kernel
theorem dX9_tell_64 : decode cX9_tell 64 = .ok (.getfield 183, 3) := by decide +kernel
theorem dX9_tell_67 : decode cX9_tell 67 = .ok (.ireturn, 1) := by decide +kernel
theorem dX9_tell_68 : decode cX9_tell 68 = .ok (.aload_n 0, 1) := by decide +kernel
theorem dX9_tell_69 : decode cX9_tell 69 = .ok (.getfield 33, 3) := by decide +kernel
theorem dX9_tell_72 : decode cX9_tell 72 = .ok (.getfield 186, 3) := by decide +kernel
theorem dX9_tell_75 : decode cX9_tell 75 = .ok (.ireturn, 1) := by decide +kernel
theorem dX9_tell_76 : decode cX9_tell 76 = .ok (.aload_n 0, 1) := by decide +kernel
theorem dX9_tell_77 : decode cX9_tell 77 = .ok (.getfield 19, 3) := by decide +kernel
theorem dX9_tell_80 : decode cX9_tell 80 = .ok (.getfield 189, 3) := by decide +kernel
theorem dX9_tell_83 : decode cX9_tell 83 = .ok (.ireturn, 1) := by decide +kernel
theorem dX9_tell_84 : decode cX9_tell 84 = .ok (.aload_n 0, 1) := by decide +kernel
theorem dX9_tell_85 : decode cX9_tell 85 = .ok (.getfield 12, 3) := by decide +kernel
theorem dX9_tell_88 : decode cX9_tell 88 = .ok (.getfield 45, 3) := by decide +kernel
theorem dX9_tell_91 : decode cX9_tell 91 = .ok (.ireturn, 1) := by decide +kernel
theorem dX9_tell_92 : decode cX9_tell 92 = .ok (.aload_n 0, 1) := by decide +kernel
theorem dX9_tell_93 : decode cX9_tell 93 = .ok (.getfield 12, 3) := by decide +kernel
theorem dX9_tell_96 : decode cX9_tell 96 = .ok (.getfield 192, 3) := by decide +kernel
theorem dX9_tell_99 : decode cX9_tell 99 = .ok (.getfield 196, 3) := by decide +kernel
theorem dX9_tell_102 : decode cX9_tell 102 = .ok (.ireturn, 1) := by decide +kernel
theorem dX9_tell_103 : decode cX9_tell 103 = .ok (.aload_n 0, 1) := by decide +kernel
theorem dX9_tell_104 : decode cX9_tell 104 = .ok (.getfield 12, 3) := by decide +kernel
theorem dX9_tell_107 : decode cX9_tell 107 = .ok (.getfield 124, 3) := by decide +kernel
theorem dX9_tell_110 : decode cX9_tell 110 = .ok (.getfield 179, 3) := by decide +kernel
theorem dX9_tell_113 : decode cX9_tell 113 = .ok (.ireturn, 1) := by decide +kernel
theorem dX9_tell_114 : decode cX9_tell 114 = .ok (.aload_n 0, 1) := by decide +kernel
theorem dX9_tell_115 : decode cX9_tell 115 = .ok (.getfield 12, 3) := by decide +kernel
theorem dX9_tell_118 : decode cX9_tell 118 = .ok (.getfield 124, 3) := by decide +kernel
theorem dX9_tell_121 : decode cX9_tell 121 = .ok (.invokevirtual 199, 3) := by decide +kernel
theorem dX9_tell_124 : decode cX9_tell 124 = .ok (.ireturn, 1) := by decide +kernel
theorem dX9_tell_125 : decode cX9_tell 125 = .ok (.aload_n 0, 1) := by decide +kernel
theorem dX9_tell_126 : decode cX9_tell 126 = .ok (.getfield 12, 3) := by decide +kernel
theorem dX9_tell_129 : decode cX9_tell 129 = .ok (.getfield 124, 3) := by decide +kernel
theorem dX9_tell_132 : decode cX9_tell 132 = .ok (.getfield 202, 3) := by decide +kernel
theorem dX9_tell_135 : decode cX9_tell 135 = .ok (.ireturn, 1) := by decide +kernel
theorem dX9_tell_136 : decode cX9_tell 136 = .ok (.aload_n 0, 1) := by decide +kernel
theorem dX9_tell_137 : decode cX9_tell 137 = .ok (.getfield 12, 3) := by decide +kernel
theorem dX9_tell_140 : decode cX9_tell 140 = .ok (.getfield 205, 3) := by decide +kernel
theorem dX9_tell_143 : decode cX9_tell 143 = .ok (.ireturn, 1) := by decide +kernel
theorem dX9_within_0 : decode cX9_within 0 = .ok (.iload_n 0, 1) := by decide +kernel
theorem dX9_within_1 : decode cX9_within 1 = .ok (.iload_n 1, 1) := by decide +kernel
theorem dX9_within_2 : decode cX9_within 2 = .ok (.if_icmp .lt 12, 3) := by decide +kernel
theorem dX9_within_5 : decode cX9_within 5 = .ok (.iload_n 0, 1) := by decide +kernel
theorem dX9_within_6 : decode cX9_within 6 = .ok (.iload_n 2, 1) := by decide +kernel
theorem dX9_within_7 : decode cX9_within 7 = .ok (.if_icmp .gt 7, 3) := by decide +kernel
theorem dX9_within_10 : decode cX9_within 10 = .ok (.iconst 1, 1) := by decide +kernel
theorem dX9_within_11 : decode cX9_within 11 = .ok (.goto 4, 3) := by decide +kernel
theorem dX9_within_14 : decode cX9_within 14 = .ok (.iconst 0, 1) := by decide +kernel
theorem dX9_within_15 : decode cX9_within 15 = .ok (.ireturn, 1) := by decide +kernel
theorem dX9_isDone_0 : decode cX9_isDone 0 = .ok (.iload_n 0, 1) := by decide +kernel
theorem dX9_isDone_1 : decode cX9_isDone 1 = .ok (.iconst (-1), 1) := by decide +kernel
theorem dX9_isDone_2 : decode cX9_isDone 2 = .ok (.if_icmp .lt 7, 3) := by decide +kernel
theorem dX9_isDone_5 : decode cX9_isDone 5 = .ok (.iconst 1, 1) := by decide +kernel
theorem dX9_isDone_6 : decode cX9_isDone 6 = .ok (.goto 4, 3) := by decide +kernel
theorem dX9_isDone_9 : decode cX9_isDone 9 = .ok (.iconst 0, 1) := by decide +kernel
theorem dX9_isDone_10 : decode cX9_isDone 10 = .ok (.ireturn, 1) := by decide +kernel
theorem dX9_at_0 : decode cX9_at 0 = .ok (.iload_n 1, 1) := by decide +kernel
theorem dX9_at_1 : decode cX9_at 1 = .ok (.ifCond .lt 15, 3) := by decide +kernel
theorem dX9_at_4 : decode cX9_at 4 = .ok (.iload_n 1, 1) := by decide +kernel
theorem dX9_at_5 : decode cX9_at 5 = .ok (.aload_n 0, 1) := by decide +kernel
theorem dX9_at_6 : decode cX9_at 6 = .ok (.arraylength, 1) := by decide +kernel
theorem dX9_at_7 : decode cX9_at 7 = .ok (.if_icmp .ge 9, 3) := by decide +kernel
theorem dX9_at_10 : decode cX9_at 10 = .ok (.aload_n 0, 1) := by decide +kernel
theorem dX9_at_11 : decode cX9_at 11 = .ok (.iload_n 1, 1) := by decide +kernel
theorem dX9_at_12 : decode cX9_at 12 = .ok (.iaload, 1) := by decide +kernel
theorem dX9_at_13 : decode cX9_at 13 = .ok (.goto 4, 3) := by decide +kernel
theorem dX9_at_16 : decode cX9_at 16 = .ok (.iconst 0, 1) := by decide +kernel
theorem dX9_at_17 : decode cX9_at 17 = .ok (.ireturn, 1) := by decide +kernel
theorem dX9_put_0 : decode cX9_put 0 = .ok (.iload_n 1, 1) := by decide +kernel
theorem dX9_put_1 : decode cX9_put 1 = .ok (.ifCond .lt 13, 3) := by decide +kernel
theorem dX9_put_4 : decode cX9_put 4 = .ok (.iload_n 1, 1) := by decide +kernel
theorem dX9_put_5 : decode cX9_put 5 = .ok (.aload_n 0, 1) := by decide +kernel
theorem dX9_put_6 : decode cX9_put 6 = .ok (.arraylength, 1) := by decide +kernel
theorem dX9_put_7 : decode cX9_put 7 = .ok (.if_icmp .ge 7, 3) := by decide +kernel
theorem dX9_put_10 : decode cX9_put 10 = .ok (.aload_n 0, 1) := by decide +kernel
theorem dX9_put_11 : decode cX9_put 11 = .ok (.iload_n 1, 1) := by decide +kernel
theorem dX9_put_12 : decode cX9_put 12 = .ok (.iload_n 2, 1) := by decide +kernel
theorem dX9_put_13 : decode cX9_put 13 = .ok (.iastore, 1) := by decide +kernel
theorem dX9_put_14 : decode cX9_put 14 = .ok (.return_, 1) := by decide +kernel
theorem dX9_leftOver_0 : decode cX9_leftOver 0 = .ok (.iload_n 2, 1) := by decide +kernel
theorem dX9_leftOver_1 : decode cX9_leftOver 1 = .ok (.ifCond .le 11, 3) := by decide +kernel
theorem dX9_leftOver_4 : decode cX9_leftOver 4 = .ok (.lload_n 0, 1) := by decide +kernel
theorem dX9_leftOver_5 : decode cX9_leftOver 5 = .ok (.iload_n 2, 1) := by decide +kernel
theorem dX9_leftOver_6 : decode cX9_leftOver 6 = .ok (.i2l, 1) := by decide +kernel
theorem dX9_leftOver_7 : decode cX9_leftOver 7 = .ok (.lrem, 1) := by decide +kernel
theorem dX9_leftOver_8 : decode cX9_leftOver 8 = .ok (.l2i, 1) := by decide +kernel
theorem dX9_leftOver_9 : decode cX9_leftOver 9 = .ok (.goto 4, 3) := by decide +kernel
theorem dX9_leftOver_12 : decode cX9_leftOver 12 = .ok (.iconst 0, 1) := by decide +kernel
theorem dX9_leftOver_13 : decode cX9_leftOver 13 = .ok (.ireturn, 1) := by decide +kernel
theorem dX10_init_0 : decode cX10_init 0 = .ok (.aload_n 0, 1) := by decide +kernel
theorem dX10_init_1 : decode cX10_init 1 = .ok (.invokespecial 1, 3) := by decide +kernel
theorem dX10_init_4 : decode cX10_init 4 = .ok (.aload_n 0, 1) := by decide +kernel
theorem dX10_init_5 : decode cX10_init 5 = .ok (.iconst 3, 1) := by decide +kernel
theorem dX10_init_6 : decode cX10_init 6 = .ok (.putfield 7, 3) := by decide +kernel
theorem dX10_init_9 : decode cX10_init 9 = .ok (.aload_n 0, 1) := by decide +kernel
theorem dX10_init_10 : decode cX10_init 10 = .ok (.iconst 5, 1) := by decide +kernel
theorem dX10_init_11 : decode cX10_init 11 = .ok (.newarray .int, 2) := by decide +kernel
theorem dX10_init_13 : decode cX10_init 13 = .ok (.putfield 13, 3) := by decide +kernel
theorem dX10_init_16 : decode cX10_init 16 = .ok (.aload_n 0, 1) := by decide +kernel
theorem dX10_init_17 : decode cX10_init 17 = .ok (.iconst 5, 1) := by decide +kernel
theorem dX10_init_18 : decode cX10_init 18 = .ok (.newarray .int, 2) := by decide +kernel
theorem dX10_init_20 : decode cX10_init 20 = .ok (.putfield 17, 3) := by decide +kernel
theorem dX10_init_23 : decode cX10_init 23 = .ok (.aload_n 0, 1) := by decide +kernel
theorem dX10_init_24 : decode cX10_init 24 = .ok (.iconst 5, 1) := by decide +kernel
theorem dX10_init_25 : decode cX10_init 25 = .ok (.newarray .int, 2) := by decide +kernel
theorem dX10_init_27 : decode cX10_init 27 = .ok (.putfield 20, 3) := by decide +kernel
theorem dX10_init_30 : decode cX10_init 30 = .ok (.aload_n 0, 1) := by decide +kernel
theorem dX10_init_31 : decode cX10_init 31 = .ok (.iconst 5, 1) := by decide +kernel
theorem dX10_init_32 : decode cX10_init 32 = .ok (.newarray .int, 2) := by decide +kernel
theorem dX10_init_34 : decode cX10_init 34 = .ok (.putfield 23, 3) := by decide +kernel
theorem dX10_init_37 : decode cX10_init 37 = .ok (.aload_n 0, 1) := by decide +kernel
theorem dX10_init_38 : decode cX10_init 38 = .ok (.sipush 640, 3) := by decide +kernel
theorem dX10_init_41 : decode cX10_init 41 = .ok (.newarray .int, 2) := by decide +kernel
theorem dX10_init_43 : decode cX10_init 43 = .ok (.putfield 26, 3) := by decide +kernel
theorem dX10_init_46 : decode cX10_init 46 = .ok (.aload_n 0, 1) := by decide +kernel
theorem dX10_init_47 : decode cX10_init 47 = .ok (.bipush 120, 2) := by decide +kernel
theorem dX10_init_49 : decode cX10_init 49 = .ok (.newarray .int, 2) := by decide +kernel
theorem dX10_init_51 : decode cX10_init 51 = .ok (.putfield 29, 3) := by decide +kernel
theorem dX10_init_54 : decode cX10_init 54 = .ok (.aload_n 0, 1) := by decide +kernel
theorem dX10_init_55 : decode cX10_init 55 = .ok (.bipush 120, 2) := by decide +kernel
theorem dX10_init_57 : decode cX10_init 57 = .ok (.newarray .int, 2) := by decide +kernel
theorem dX10_init_59 : decode cX10_init 59 = .ok (.putfield 32, 3) := by decide +kernel
theorem dX10_init_62 : decode cX10_init 62 = .ok (.aload_n 0, 1) := by decide +kernel
theorem dX10_init_63 : decode cX10_init 63 = .ok (.sipush 600, 3) := by decide +kernel
theorem dX10_init_66 : decode cX10_init 66 = .ok (.newarray .int, 2) := by decide +kernel
theorem dX10_init_68 : decode cX10_init 68 = .ok (.putfield 35, 3) := by decide +kernel
theorem dX10_init_71 : decode cX10_init 71 = .ok (.aload_n 0, 1) := by decide +kernel
theorem dX10_init_72 : decode cX10_init 72 = .ok (.sipush 600, 3) := by decide +kernel
theorem dX10_init_75 : decode cX10_init 75 = .ok (.newarray .int, 2) := by decide +kernel
theorem dX10_init_77 : decode cX10_init 77 = .ok (.putfield 38, 3) := by decide +kernel
theorem dX10_init_80 : decode cX10_init 80 = .ok (.aload_n 0, 1) := by decide +kernel
theorem dX10_init_81 : decode cX10_init 81 = .ok (.sipush 520, 3) := by decide +kernel
theorem dX10_init_84 : decode cX10_init 84 = .ok (.newarray .int, 2) := by decide +kernel
theorem dX10_init_86 : decode cX10_init 86 = .ok (.putfield 41, 3) := by decide +kernel
theorem dX10_init_89 : decode cX10_init 89 = .ok (.aload_n 0, 1) := by decide +kernel
theorem dX10_init_90 : decode cX10_init 90 = .ok (.bipush 90, 2) := by decide +kernel
theorem dX10_init_92 : decode cX10_init 92 = .ok (.newarray .int, 2) := by decide +kernel
theorem dX10_init_94 : decode cX10_init 94 = .ok (.putfield 44, 3) := by decide +kernel
theorem dX10_init_97 : decode cX10_init 97 = .ok (.aload_n 0, 1) := by decide +kernel
theorem dX10_init_98 : decode cX10_init 98 = .ok (.bipush 30, 2) := by decide +kernel
theorem dX10_init_100 : decode cX10_init 100 = .ok (.newarray .int, 2) := by decide +kernel
theorem dX10_init_102 : decode cX10_init 102 = .ok (.putfield 47, 3) := by decide +kernel
theorem dX10_init_105 : decode cX10_init 105 = .ok (.aload_n 0, 1) := by decide +kernel
theorem dX10_init_106 : decode cX10_init 106 = .ok (.iconst 3, 1) := by decide +kernel
theorem dX10_init_107 : decode cX10_init 107 = .ok (.newarray .int, 2) := by decide +kernel
theorem dX10_init_109 : decode cX10_init 109 = .ok (.putfield 50, 3) := by decide +kernel
theorem dX10_init_112 : decode cX10_init 112 = .ok (.aload_n 0, 1) := by decide +kernel
theorem dX10_init_113 : decode cX10_init 113 = .ok (.bipush 15, 2) := by decide +kernel
theorem dX10_init_115 : decode cX10_init 115 = .ok (.newarray .int, 2) := by decide +kernel
theorem dX10_init_117 : decode cX10_init 117 = .ok (.putfield 53, 3) := by decide +kernel
theorem dX10_init_120 : decode cX10_init 120 = .ok (.aload_n 0, 1) := by decide +kernel
theorem dX10_init_121 : decode cX10_init 121 = .ok (.bipush 120, 2) := by decide +kernel
theorem dX10_init_123 : decode cX10_init 123 = .ok (.newarray .int, 2) := by decide +kernel
theorem dX10_init_125 : decode cX10_init 125 = .ok (.putfield 56, 3) := by decide +kernel
theorem dX10_init_128 : decode cX10_init 128 = .ok (.return_, 1) := by decide +kernel
theorem dX10_in_0 : decode cX10_in 0 = .ok (.lload_n 0, 1) := by decide +kernel
theorem dX10_in_1 : decode cX10_in 1 = .ok (.lload_n 2, 1) := by decide +kernel
theorem dX10_in_2 : decode cX10_in 2 = .ok (.lcmp, 1) := by decide +kernel
theorem dX10_in_3 : decode cX10_in 3 = .ok (.ifCond .lt 14, 3) := by decide +kernel
theorem dX10_in_6 : decode cX10_in 6 = .ok (.lload_n 0, 1) := by decide +kernel
theorem dX10_in_7 : decode cX10_in 7 = .ok (.lload 4, 2) := by decide +kernel
theorem dX10_in_9 : decode cX10_in 9 = .ok (.lcmp, 1) := by decide +kernel
theorem dX10_in_10 : decode cX10_in 10 = .ok (.ifCond .gt 7, 3) := by decide +kernel
theorem dX10_in_13 : decode cX10_in 13 = .ok (.iconst 1, 1) := by decide +kernel
theorem dX10_in_14 : decode cX10_in 14 = .ok (.goto 4, 3) := by decide +kernel
theorem dX10_in_17 : decode cX10_in 17 = .ok (.iconst 0, 1) := by decide +kernel
theorem dX10_in_18 : decode cX10_in 18 = .ok (.ireturn, 1) := by decide +kernel
theorem dX10_bad_0 : decode cX10_bad 0 = .ok (.aload_n 0, 1) := by decide +kernel
theorem dX10_bad_1 : decode cX10_bad 1 = .ok (.getfield 50, 3) := by decide +kernel
theorem dX10_bad_4 : decode cX10_bad 4 = .ok (.iconst 0, 1) := by decide +kernel
theorem dX10_bad_5 : decode cX10_bad 5 = .ok (.dup2, 1) := by decide +kernel
theorem dX10_bad_6 : decode cX10_bad 6 = .ok (.iaload, 1) := by decide +kernel
theorem dX10_bad_7 : decode cX10_bad 7 = .ok (.iconst 1, 1) := by decide +kernel
theorem dX10_bad_8 : decode cX10_bad 8 = .ok (.iadd, 1) := by decide +kernel
theorem dX10_bad_9 : decode cX10_bad 9 = .ok (.iastore, 1) := by decide +kernel
theorem dX10_bad_10 : decode cX10_bad 10 = .ok (.bipush (-2), 2) := by decide +kernel
theorem dX10_bad_12 : decode cX10_bad 12 = .ok (.ireturn, 1) := by decide +kernel
theorem dX10_no_0 : decode cX10_no 0 = .ok (.aload_n 0, 1) := by decide +kernel
theorem dX10_no_1 : decode cX10_no 1 = .ok (.getfield 50, 3) := by decide +kernel
theorem dX10_no_4 : decode cX10_no 4 = .ok (.iconst 1, 1) := by decide +kernel
theorem dX10_no_5 : decode cX10_no 5 = .ok (.dup2, 1) := by decide +kernel
theorem dX10_no_6 : decode cX10_no 6 = .ok (.iaload, 1) := by decide +kernel
theorem dX10_no_7 : decode cX10_no 7 = .ok (.iconst 1, 1) := by decide +kernel
theorem dX10_no_8 : decode cX10_no 8 = .ok (.iadd, 1) := by decide +kernel
theorem dX10_no_9 : decode cX10_no 9 = .ok (.iastore, 1) := by decide +kernel
theorem dX10_no_10 : decode cX10_no 10 = .ok (.bipush (-3), 2) := by decide +kernel
theorem dX10_no_12 : decode cX10_no 12 = .ok (.ireturn, 1) := by decide +kernel
theorem dX10_full_0 : decode cX10_full 0 = .ok (.aload_n 0, 1) := by decide +kernel
theorem dX10_full_1 : decode cX10_full 1 = .ok (.getfield 50, 3) := by decide +kernel
theorem dX10_full_4 : decode cX10_full 4 = .ok (.iconst 2, 1) := by decide +kernel
theorem dX10_full_5 : decode cX10_full 5 = .ok (.dup2, 1) := by decide +kernel
theorem dX10_full_6 : decode cX10_full 6 = .ok (.iaload, 1) := by decide +kernel
theorem dX10_full_7 : decode cX10_full 7 = .ok (.iconst 1, 1) := by decide +kernel
theorem dX10_full_8 : decode cX10_full 8 = .ok (.iadd, 1) := by decide +kernel
theorem dX10_full_9 : decode cX10_full 9 = .ok (.iastore, 1) := by decide +kernel
theorem dX10_full_10 : decode cX10_full 10 = .ok (.bipush (-4), 2) := by decide +kernel
theorem dX10_full_12 : decode cX10_full 12 = .ok (.ireturn, 1) := by decide +kernel
theorem dX10_tells_0 : decode cX10_tells 0 = .ok (.aload_n 0, 1) := by decide +kernel
theorem dX10_tells_1 : decode cX10_tells 1 = .ok (.getfield 50, 3) := by decide +kernel
theorem dX10_tells_4 : decode cX10_tells 4 = .ok (.iconst 2, 1) := by decide +kernel
theorem dX10_tells_5 : decode cX10_tells 5 = .ok (.dup2, 1) := by decide +kernel
theorem dX10_tells_6 : decode cX10_tells 6 = .ok (.iaload, 1) := by decide +kernel
theorem dX10_tells_7 : decode cX10_tells 7 = .ok (.iload_n 1, 1) := by decide +kernel
theorem dX10_tells_8 : decode cX10_tells 8 = .ok (.bipush (-4), 2) := by decide +kernel
theorem dX10_tells_10 : decode cX10_tells 10 = .ok (.if_icmp .ne 7, 3) := by decide +kernel
theorem dX10_tells_13 : decode cX10_tells 13 = .ok (.iconst 1, 1) := by decide +kernel
theorem dX10_tells_14 : decode cX10_tells 14 = .ok (.goto 4, 3) := by decide +kernel
theorem dX10_tells_17 : decode cX10_tells 17 = .ok (.iconst 0, 1) := by decide +kernel
theorem dX10_tells_18 : decode cX10_tells 18 = .ok (.iadd, 1) := by decide +kernel
theorem dX10_tells_19 : decode cX10_tells 19 = .ok (.iastore, 1) := by decide +kernel
theorem dX10_tells_20 : decode cX10_tells 20 = .ok (.iload_n 1, 1) := by decide +kernel
theorem dX10_tells_21 : decode cX10_tells 21 = .ok (.ireturn, 1) := by decide +kernel
theorem dX10_isClerk_0 : decode cX10_isClerk 0 = .ok (.iload_n 1, 1) := by decide +kernel
theorem dX10_isClerk_1 : decode cX10_isClerk 1 = .ok (.i2l, 1) := by decide +kernel
theorem dX10_isClerk_2 : decode cX10_isClerk 2 = .ok (.lconst 0, 1) := by decide +kernel
theorem dX10_isClerk_3 : decode cX10_isClerk 3 = .ok (.aload_n 0, 1) := by decide +kernel
theorem dX10_isClerk_4 : decode cX10_isClerk 4 = .ok (.getfield 7, 3) := by decide +kernel
theorem dX10_isClerk_7 : decode cX10_isClerk 7 = .ok (.iconst 1, 1) := by decide +kernel
theorem dX10_isClerk_8 : decode cX10_isClerk 8 = .ok (.isub, 1) := by decide +kernel
theorem dX10_isClerk_9 : decode cX10_isClerk 9 = .ok (.i2l, 1) := by decide +kernel
theorem dX10_isClerk_10 : decode cX10_isClerk 10 = .ok (.invokestatic 59, 3) := by decide +kernel
theorem dX10_isClerk_13 : decode cX10_isClerk 13 = .ok (.ireturn, 1) := by decide +kernel
theorem dX10_pageOf_0 : decode cX10_pageOf 0 = .ok (.bipush 24, 2) := by decide +kernel
theorem dX10_pageOf_2 : decode cX10_pageOf 2 = .ok (.iload_n 0, 1) := by decide +kernel
theorem dX10_pageOf_3 : decode cX10_pageOf 3 = .ok (.imul, 1) := by decide +kernel
theorem dX10_pageOf_4 : decode cX10_pageOf 4 = .ok (.iload_n 1, 1) := by decide +kernel
theorem dX10_pageOf_5 : decode cX10_pageOf 5 = .ok (.iadd, 1) := by decide +kernel
theorem dX10_pageOf_6 : decode cX10_pageOf 6 = .ok (.ireturn, 1) := by decide +kernel
theorem dX10_restOf_0 : decode cX10_restOf 0 = .ok (.iconst 5, 1) := by decide +kernel
theorem dX10_restOf_1 : decode cX10_restOf 1 = .ok (.iload_n 0, 1) := by decide +kernel
theorem dX10_restOf_2 : decode cX10_restOf 2 = .ok (.iload_n 1, 1) := by decide +kernel
theorem dX10_restOf_3 : decode cX10_restOf 3 = .ok (.invokestatic 63, 3) := by decide +kernel
theorem dX10_restOf_6 : decode cX10_restOf 6 = .ok (.imul, 1) := by decide +kernel
theorem dX10_restOf_7 : decode cX10_restOf 7 = .ok (.iload_n 2, 1) := by decide +kernel
theorem dX10_restOf_8 : decode cX10_restOf 8 = .ok (.iadd, 1) := by decide +kernel
theorem dX10_restOf_9 : decode cX10_restOf 9 = .ok (.ireturn, 1) := by decide +kernel
theorem dX10_begins_0 : decode cX10_begins 0 = .ok (.iconst 0, 1) := by decide +kernel
theorem dX10_begins_1 : decode cX10_begins 1 = .ok (.istore_n 1, 1) := by decide +kernel
theorem dX10_begins_2 : decode cX10_begins 2 = .ok (.iload_n 1, 1) := by decide +kernel
theorem dX10_begins_3 : decode cX10_begins 3 = .ok (.iconst 5, 1) := by decide +kernel
theorem dX10_begins_4 : decode cX10_begins 4 = .ok (.if_icmp .ge 96, 3) := by decide +kernel
theorem dX10_begins_7 : decode cX10_begins 7 = .ok (.aload_n 0, 1) := by decide +kernel
theorem dX10_begins_8 : decode cX10_begins 8 = .ok (.getfield 13, 3) := by decide +kernel
theorem dX10_begins_11 : decode cX10_begins 11 = .ok (.iload_n 1, 1) := by decide +kernel
theorem dX10_begins_12 : decode cX10_begins 12 = .ok (.iconst 0, 1) := by decide +kernel
theorem dX10_begins_13 : decode cX10_begins 13 = .ok (.iastore, 1) := by decide +kernel
theorem dX10_begins_14 : decode cX10_begins 14 = .ok (.aload_n 0, 1) := by decide +kernel
theorem dX10_begins_15 : decode cX10_begins 15 = .ok (.getfield 17, 3) := by decide +kernel
theorem dX10_begins_18 : decode cX10_begins 18 = .ok (.iload_n 1, 1) := by decide +kernel
theorem dX10_begins_19 : decode cX10_begins 19 = .ok (.iconst 0, 1) := by decide +kernel
theorem dX10_begins_20 : decode cX10_begins 20 = .ok (.iastore, 1) := by decide +kernel
theorem dX10_begins_21 : decode cX10_begins 21 = .ok (.aload_n 0, 1) := by decide +kernel
theorem dX10_begins_22 : decode cX10_begins 22 = .ok (.getfield 20, 3) := by decide +kernel
theorem dX10_begins_25 : decode cX10_begins 25 = .ok (.iload_n 1, 1) := by decide +kernel
theorem dX10_begins_26 : decode cX10_begins 26 = .ok (.iconst 0, 1) := by decide +kernel
theorem dX10_begins_27 : decode cX10_begins 27 = .ok (.iastore, 1) := by decide +kernel
theorem dX10_begins_28 : decode cX10_begins 28 = .ok (.aload_n 0, 1) := by decide +kernel
theorem dX10_begins_29 : decode cX10_begins 29 = .ok (.getfield 23, 3) := by decide +kernel
theorem dX10_begins_32 : decode cX10_begins 32 = .ok (.iload_n 1, 1) := by decide +kernel
theorem dX10_begins_33 : decode cX10_begins 33 = .ok (.iconst 0, 1) := by decide +kernel
theorem dX10_begins_34 : decode cX10_begins 34 = .ok (.iastore, 1) := by decide +kernel
theorem dX10_begins_35 : decode cX10_begins 35 = .ok (.aload_n 0, 1) := by decide +kernel
theorem dX10_begins_36 : decode cX10_begins 36 = .ok (.getfield 29, 3) := by decide +kernel
theorem dX10_begins_39 : decode cX10_begins 39 = .ok (.iload_n 1, 1) := by decide +kernel
theorem dX10_begins_40 : decode cX10_begins 40 = .ok (.iconst 0, 1) := by decide +kernel
theorem dX10_begins_41 : decode cX10_begins 41 = .ok (.invokestatic 63, 3) := by decide +kernel
theorem dX10_begins_44 : decode cX10_begins 44 = .ok (.iconst 0, 1) := by decide +kernel
theorem dX10_begins_45 : decode cX10_begins 45 = .ok (.iastore, 1) := by decide +kernel
theorem dX10_begins_46 : decode cX10_begins 46 = .ok (.aload_n 0, 1) := by decide +kernel
theorem dX10_begins_47 : decode cX10_begins 47 = .ok (.getfield 32, 3) := by decide +kernel
theorem dX10_begins_50 : decode cX10_begins 50 = .ok (.iload_n 1, 1) := by decide +kernel
theorem dX10_begins_51 : decode cX10_begins 51 = .ok (.iconst 0, 1) := by decide +kernel
theorem dX10_begins_52 : decode cX10_begins 52 = .ok (.invokestatic 63, 3) := by decide +kernel
theorem dX10_begins_55 : decode cX10_begins 55 = .ok (.iconst 0, 1) := by decide +kernel
theorem dX10_begins_56 : decode cX10_begins 56 = .ok (.iastore, 1) := by decide +kernel
theorem dX10_begins_57 : decode cX10_begins 57 = .ok (.iconst 0, 1) := by decide +kernel
theorem dX10_begins_58 : decode cX10_begins 58 = .ok (.istore_n 2, 1) := by decide +kernel
theorem dX10_begins_59 : decode cX10_begins 59 = .ok (.iload_n 2, 1) := by decide +kernel
