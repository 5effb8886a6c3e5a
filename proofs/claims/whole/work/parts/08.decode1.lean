-- printed by the claim's program: decode rows
theorem dX0_init_0 : decode cX0_init 0 = .ok (.aload_n 0, 1) := by decide +kernel
theorem dX0_init_1 : decode cX0_init 1 = .ok (.invokespecial 3, 3) := by decide +kernel
theorem dX0_init_4 : decode cX0_init 4 = .ok (.aload_n 0, 1) := by decide +kernel
theorem dX0_init_5 : decode cX0_init 5 = .ok (.bipush (-9), 2) := by decide +kernel
theorem dX0_init_7 : decode cX0_init 7 = .ok (.putfield 9, 3) := by decide +kernel
theorem dX0_init_10 : decode cX0_init 10 = .ok (.aload_n 0, 1) := by decide +kernel
theorem dX0_init_11 : decode cX0_init 11 = .ok (.sipush 300, 3) := by decide +kernel
theorem dX0_init_14 : decode cX0_init 14 = .ok (.newarray .int, 2) := by decide +kernel
theorem dX0_init_16 : decode cX0_init 16 = .ok (.putfield 15, 3) := by decide +kernel
theorem dX0_init_19 : decode cX0_init 19 = .ok (.aload_n 0, 1) := by decide +kernel
theorem dX0_init_20 : decode cX0_init 20 = .ok (.bipush 8, 2) := by decide +kernel
theorem dX0_init_22 : decode cX0_init 22 = .ok (.newarray .int, 2) := by decide +kernel
theorem dX0_init_24 : decode cX0_init 24 = .ok (.putfield 19, 3) := by decide +kernel
theorem dX0_init_27 : decode cX0_init 27 = .ok (.aload_n 0, 1) := by decide +kernel
theorem dX0_init_28 : decode cX0_init 28 = .ok (.sipush 168, 3) := by decide +kernel
theorem dX0_init_31 : decode cX0_init 31 = .ok (.newarray .int, 2) := by decide +kernel
theorem dX0_init_33 : decode cX0_init 33 = .ok (.putfield 22, 3) := by decide +kernel
theorem dX0_init_36 : decode cX0_init 36 = .ok (.aload_n 0, 1) := by decide +kernel
theorem dX0_init_37 : decode cX0_init 37 = .ok (.sipush 168, 3) := by decide +kernel
theorem dX0_init_40 : decode cX0_init 40 = .ok (.newarray .int, 2) := by decide +kernel
theorem dX0_init_42 : decode cX0_init 42 = .ok (.putfield 25, 3) := by decide +kernel
theorem dX0_init_45 : decode cX0_init 45 = .ok (.return_, 1) := by decide +kernel
theorem dX0_clear_0 : decode cX0_clear 0 = .ok (.aload_n 0, 1) := by decide +kernel
theorem dX0_clear_1 : decode cX0_clear 1 = .ok (.iconst 0, 1) := by decide +kernel
theorem dX0_clear_2 : decode cX0_clear 2 = .ok (.putfield 28, 3) := by decide +kernel
theorem dX0_clear_5 : decode cX0_clear 5 = .ok (.aload_n 0, 1) := by decide +kernel
theorem dX0_clear_6 : decode cX0_clear 6 = .ok (.getfield 25, 3) := by decide +kernel
theorem dX0_clear_9 : decode cX0_clear 9 = .ok (.iconst 0, 1) := by decide +kernel
theorem dX0_clear_10 : decode cX0_clear 10 = .ok (.invokestatic 31, 3) := by decide +kernel
theorem dX0_clear_13 : decode cX0_clear 13 = .ok (.return_, 1) := by decide +kernel
theorem dX0_keepBytes_0 : decode cX0_keepBytes 0 = .ok (.aload_n 1, 1) := by decide +kernel
theorem dX0_keepBytes_1 : decode cX0_keepBytes 1 = .ok (.iconst 0, 1) := by decide +kernel
theorem dX0_keepBytes_2 : decode cX0_keepBytes 2 = .ok (.aload_n 0, 1) := by decide +kernel
theorem dX0_keepBytes_3 : decode cX0_keepBytes 3 = .ok (.getfield 15, 3) := by decide +kernel
theorem dX0_keepBytes_6 : decode cX0_keepBytes 6 = .ok (.iconst 0, 1) := by decide +kernel
theorem dX0_keepBytes_7 : decode cX0_keepBytes 7 = .ok (.iload_n 2, 1) := by decide +kernel
theorem dX0_keepBytes_8 : decode cX0_keepBytes 8 = .ok (.invokestatic 37, 3) := by decide +kernel
theorem dX0_keepBytes_11 : decode cX0_keepBytes 11 = .ok (.aload_n 0, 1) := by decide +kernel
theorem dX0_keepBytes_12 : decode cX0_keepBytes 12 = .ok (.iload_n 2, 1) := by decide +kernel
theorem dX0_keepBytes_13 : decode cX0_keepBytes 13 = .ok (.putfield 43, 3) := by decide +kernel
theorem dX0_keepBytes_16 : decode cX0_keepBytes 16 = .ok (.return_, 1) := by decide +kernel
theorem dX0_startRecord_0 : decode cX0_startRecord 0 = .ok (.aload_n 0, 1) := by decide +kernel
theorem dX0_startRecord_1 : decode cX0_startRecord 1 = .ok (.getfield 19, 3) := by decide +kernel
theorem dX0_startRecord_4 : decode cX0_startRecord 4 = .ok (.aload_n 0, 1) := by decide +kernel
theorem dX0_startRecord_5 : decode cX0_startRecord 5 = .ok (.getfield 28, 3) := by decide +kernel
theorem dX0_startRecord_8 : decode cX0_startRecord 8 = .ok (.iload_n 1, 1) := by decide +kernel
theorem dX0_startRecord_9 : decode cX0_startRecord 9 = .ok (.iastore, 1) := by decide +kernel
theorem dX0_startRecord_10 : decode cX0_startRecord 10 = .ok (.aload_n 0, 1) := by decide +kernel
theorem dX0_startRecord_11 : decode cX0_startRecord 11 = .ok (.dup, 1) := by decide +kernel
theorem dX0_startRecord_12 : decode cX0_startRecord 12 = .ok (.getfield 28, 3) := by decide +kernel
theorem dX0_startRecord_15 : decode cX0_startRecord 15 = .ok (.iconst 1, 1) := by decide +kernel
theorem dX0_startRecord_16 : decode cX0_startRecord 16 = .ok (.iadd, 1) := by decide +kernel
theorem dX0_startRecord_17 : decode cX0_startRecord 17 = .ok (.putfield 28, 3) := by decide +kernel
theorem dX0_startRecord_20 : decode cX0_startRecord 20 = .ok (.aload_n 0, 1) := by decide +kernel
theorem dX0_startRecord_21 : decode cX0_startRecord 21 = .ok (.getfield 28, 3) := by decide +kernel
theorem dX0_startRecord_24 : decode cX0_startRecord 24 = .ok (.iconst 1, 1) := by decide +kernel
theorem dX0_startRecord_25 : decode cX0_startRecord 25 = .ok (.isub, 1) := by decide +kernel
theorem dX0_startRecord_26 : decode cX0_startRecord 26 = .ok (.ireturn, 1) := by decide +kernel
theorem dX0_putItem_0 : decode cX0_putItem 0 = .ok (.aload_n 0, 1) := by decide +kernel
theorem dX0_putItem_1 : decode cX0_putItem 1 = .ok (.getfield 22, 3) := by decide +kernel
theorem dX0_putItem_4 : decode cX0_putItem 4 = .ok (.iload_n 1, 1) := by decide +kernel
theorem dX0_putItem_5 : decode cX0_putItem 5 = .ok (.iload_n 2, 1) := by decide +kernel
theorem dX0_putItem_6 : decode cX0_putItem 6 = .ok (.invokestatic 46, 3) := by decide +kernel
theorem dX0_putItem_9 : decode cX0_putItem 9 = .ok (.iload_n 3, 1) := by decide +kernel
theorem dX0_putItem_10 : decode cX0_putItem 10 = .ok (.iastore, 1) := by decide +kernel
theorem dX0_putItem_11 : decode cX0_putItem 11 = .ok (.aload_n 0, 1) := by decide +kernel
theorem dX0_putItem_12 : decode cX0_putItem 12 = .ok (.getfield 25, 3) := by decide +kernel
theorem dX0_putItem_15 : decode cX0_putItem 15 = .ok (.iload_n 1, 1) := by decide +kernel
theorem dX0_putItem_16 : decode cX0_putItem 16 = .ok (.iload_n 2, 1) := by decide +kernel
theorem dX0_putItem_17 : decode cX0_putItem 17 = .ok (.invokestatic 46, 3) := by decide +kernel
theorem dX0_putItem_20 : decode cX0_putItem 20 = .ok (.iload 4, 2) := by decide +kernel
theorem dX0_putItem_22 : decode cX0_putItem 22 = .ok (.iastore, 1) := by decide +kernel
theorem dX0_putItem_23 : decode cX0_putItem 23 = .ok (.return_, 1) := by decide +kernel
theorem dX0_sizeOf_0 : decode cX0_sizeOf 0 = .ok (.aload_n 0, 1) := by decide +kernel
theorem dX0_sizeOf_1 : decode cX0_sizeOf 1 = .ok (.getfield 25, 3) := by decide +kernel
theorem dX0_sizeOf_4 : decode cX0_sizeOf 4 = .ok (.iload_n 1, 1) := by decide +kernel
theorem dX0_sizeOf_5 : decode cX0_sizeOf 5 = .ok (.iload_n 2, 1) := by decide +kernel
theorem dX0_sizeOf_6 : decode cX0_sizeOf 6 = .ok (.invokestatic 46, 3) := by decide +kernel
theorem dX0_sizeOf_9 : decode cX0_sizeOf 9 = .ok (.iaload, 1) := by decide +kernel
theorem dX0_sizeOf_10 : decode cX0_sizeOf 10 = .ok (.ireturn, 1) := by decide +kernel
theorem dX0_beginOf_0 : decode cX0_beginOf 0 = .ok (.aload_n 0, 1) := by decide +kernel
theorem dX0_beginOf_1 : decode cX0_beginOf 1 = .ok (.iload_n 1, 1) := by decide +kernel
theorem dX0_beginOf_2 : decode cX0_beginOf 2 = .ok (.iload_n 2, 1) := by decide +kernel
theorem dX0_beginOf_3 : decode cX0_beginOf 3 = .ok (.invokevirtual 50, 3) := by decide +kernel
theorem dX0_beginOf_6 : decode cX0_beginOf 6 = .ok (.ifCond .ne 8, 3) := by decide +kernel
theorem dX0_beginOf_9 : decode cX0_beginOf 9 = .ok (.bipush (-9), 2) := by decide +kernel
theorem dX0_beginOf_11 : decode cX0_beginOf 11 = .ok (.goto 13, 3) := by decide +kernel
theorem dX0_beginOf_14 : decode cX0_beginOf 14 = .ok (.aload_n 0, 1) := by decide +kernel
theorem dX0_beginOf_15 : decode cX0_beginOf 15 = .ok (.getfield 22, 3) := by decide +kernel
theorem dX0_beginOf_18 : decode cX0_beginOf 18 = .ok (.iload_n 1, 1) := by decide +kernel
theorem dX0_beginOf_19 : decode cX0_beginOf 19 = .ok (.iload_n 2, 1) := by decide +kernel
theorem dX0_beginOf_20 : decode cX0_beginOf 20 = .ok (.invokestatic 46, 3) := by decide +kernel
theorem dX0_beginOf_23 : decode cX0_beginOf 23 = .ok (.iaload, 1) := by decide +kernel
theorem dX0_beginOf_24 : decode cX0_beginOf 24 = .ok (.ireturn, 1) := by decide +kernel
theorem dX0_bytesOf_0 : decode cX0_bytesOf 0 = .ok (.iload_n 1, 1) := by decide +kernel
theorem dX0_bytesOf_1 : decode cX0_bytesOf 1 = .ok (.iconst 1, 1) := by decide +kernel
theorem dX0_bytesOf_2 : decode cX0_bytesOf 2 = .ok (.iadd, 1) := by decide +kernel
theorem dX0_bytesOf_3 : decode cX0_bytesOf 3 = .ok (.aload_n 0, 1) := by decide +kernel
theorem dX0_bytesOf_4 : decode cX0_bytesOf 4 = .ok (.getfield 28, 3) := by decide +kernel
theorem dX0_bytesOf_7 : decode cX0_bytesOf 7 = .ok (.if_icmp .ge 14, 3) := by decide +kernel
theorem dX0_bytesOf_10 : decode cX0_bytesOf 10 = .ok (.aload_n 0, 1) := by decide +kernel
theorem dX0_bytesOf_11 : decode cX0_bytesOf 11 = .ok (.getfield 19, 3) := by decide +kernel
theorem dX0_bytesOf_14 : decode cX0_bytesOf 14 = .ok (.iload_n 1, 1) := by decide +kernel
theorem dX0_bytesOf_15 : decode cX0_bytesOf 15 = .ok (.iconst 1, 1) := by decide +kernel
theorem dX0_bytesOf_16 : decode cX0_bytesOf 16 = .ok (.iadd, 1) := by decide +kernel
theorem dX0_bytesOf_17 : decode cX0_bytesOf 17 = .ok (.iaload, 1) := by decide +kernel
theorem dX0_bytesOf_18 : decode cX0_bytesOf 18 = .ok (.goto 7, 3) := by decide +kernel
theorem dX0_bytesOf_21 : decode cX0_bytesOf 21 = .ok (.aload_n 0, 1) := by decide +kernel
theorem dX0_bytesOf_22 : decode cX0_bytesOf 22 = .ok (.getfield 43, 3) := by decide +kernel
theorem dX0_bytesOf_25 : decode cX0_bytesOf 25 = .ok (.istore_n 2, 1) := by decide +kernel
theorem dX0_bytesOf_26 : decode cX0_bytesOf 26 = .ok (.iload_n 2, 1) := by decide +kernel
theorem dX0_bytesOf_27 : decode cX0_bytesOf 27 = .ok (.aload_n 0, 1) := by decide +kernel
theorem dX0_bytesOf_28 : decode cX0_bytesOf 28 = .ok (.getfield 19, 3) := by decide +kernel
theorem dX0_bytesOf_31 : decode cX0_bytesOf 31 = .ok (.iload_n 1, 1) := by decide +kernel
theorem dX0_bytesOf_32 : decode cX0_bytesOf 32 = .ok (.iaload, 1) := by decide +kernel
theorem dX0_bytesOf_33 : decode cX0_bytesOf 33 = .ok (.isub, 1) := by decide +kernel
theorem dX0_bytesOf_34 : decode cX0_bytesOf 34 = .ok (.ireturn, 1) := by decide +kernel
theorem dX0_bytesWithout_0 : decode cX0_bytesWithout 0 = .ok (.iconst 0, 1) := by decide +kernel
theorem dX0_bytesWithout_1 : decode cX0_bytesWithout 1 = .ok (.istore_n 2, 1) := by decide +kernel
theorem dX0_bytesWithout_2 : decode cX0_bytesWithout 2 = .ok (.iconst 0, 1) := by decide +kernel
theorem dX0_bytesWithout_3 : decode cX0_bytesWithout 3 = .ok (.istore_n 3, 1) := by decide +kernel
theorem dX0_bytesWithout_4 : decode cX0_bytesWithout 4 = .ok (.iload_n 3, 1) := by decide +kernel
theorem dX0_bytesWithout_5 : decode cX0_bytesWithout 5 = .ok (.aload_n 0, 1) := by decide +kernel
theorem dX0_bytesWithout_6 : decode cX0_bytesWithout 6 = .ok (.getfield 28, 3) := by decide +kernel
theorem dX0_bytesWithout_9 : decode cX0_bytesWithout 9 = .ok (.if_icmp .ge 25, 3) := by decide +kernel
theorem dX0_bytesWithout_12 : decode cX0_bytesWithout 12 = .ok (.iload_n 1, 1) := by decide +kernel
theorem dX0_bytesWithout_13 : decode cX0_bytesWithout 13 = .ok (.iload_n 3, 1) := by decide +kernel
theorem dX0_bytesWithout_14 : decode cX0_bytesWithout 14 = .ok (.ishr, 1) := by decide +kernel
theorem dX0_bytesWithout_15 : decode cX0_bytesWithout 15 = .ok (.iconst 1, 1) := by decide +kernel
theorem dX0_bytesWithout_16 : decode cX0_bytesWithout 16 = .ok (.iand, 1) := by decide +kernel
theorem dX0_bytesWithout_17 : decode cX0_bytesWithout 17 = .ok (.ifCond .ne 11, 3) := by decide +kernel
theorem dX0_bytesWithout_20 : decode cX0_bytesWithout 20 = .ok (.iload_n 2, 1) := by decide +kernel
theorem dX0_bytesWithout_21 : decode cX0_bytesWithout 21 = .ok (.aload_n 0, 1) := by decide +kernel
theorem dX0_bytesWithout_22 : decode cX0_bytesWithout 22 = .ok (.iload_n 3, 1) := by decide +kernel
theorem dX0_bytesWithout_23 : decode cX0_bytesWithout 23 = .ok (.invokevirtual 53, 3) := by decide +kernel
theorem dX0_bytesWithout_26 : decode cX0_bytesWithout 26 = .ok (.iadd, 1) := by decide +kernel
theorem dX0_bytesWithout_27 : decode cX0_bytesWithout 27 = .ok (.istore_n 2, 1) := by decide +kernel
theorem dX0_bytesWithout_28 : decode cX0_bytesWithout 28 = .ok (.iinc 3 1, 3) := by decide +kernel
theorem dX0_bytesWithout_31 : decode cX0_bytesWithout 31 = .ok (.goto (-27), 3) := by decide +kernel
theorem dX0_bytesWithout_34 : decode cX0_bytesWithout 34 = .ok (.iload_n 2, 1) := by decide +kernel
theorem dX0_bytesWithout_35 : decode cX0_bytesWithout 35 = .ok (.ireturn, 1) := by decide +kernel
theorem dX0_joined_0 : decode cX0_joined 0 = .ok (.lconst 0, 1) := by decide +kernel
theorem dX0_joined_1 : decode cX0_joined 1 = .ok (.lstore_n 3, 1) := by decide +kernel
theorem dX0_joined_2 : decode cX0_joined 2 = .ok (.iload_n 1, 1) := by decide +kernel
theorem dX0_joined_3 : decode cX0_joined 3 = .ok (.istore 5, 2) := by decide +kernel
theorem dX0_joined_5 : decode cX0_joined 5 = .ok (.iload 5, 2) := by decide +kernel
theorem dX0_joined_7 : decode cX0_joined 7 = .ok (.iload_n 1, 1) := by decide +kernel
theorem dX0_joined_8 : decode cX0_joined 8 = .ok (.iload_n 2, 1) := by decide +kernel
theorem dX0_joined_9 : decode cX0_joined 9 = .ok (.iadd, 1) := by decide +kernel
theorem dX0_joined_10 : decode cX0_joined 10 = .ok (.if_icmp .ge 32, 3) := by decide +kernel
theorem dX0_joined_13 : decode cX0_joined 13 = .ok (.iload 5, 2) := by decide +kernel
theorem dX0_joined_15 : decode cX0_joined 15 = .ok (.aload_n 0, 1) := by decide +kernel
theorem dX0_joined_16 : decode cX0_joined 16 = .ok (.getfield 43, 3) := by decide +kernel
theorem dX0_joined_19 : decode cX0_joined 19 = .ok (.if_icmp .ge 23, 3) := by decide +kernel
theorem dX0_joined_22 : decode cX0_joined 22 = .ok (.lload_n 3, 1) := by decide +kernel
theorem dX0_joined_23 : decode cX0_joined 23 = .ok (.bipush 8, 2) := by decide +kernel
theorem dX0_joined_25 : decode cX0_joined 25 = .ok (.lshl, 1) := by decide +kernel
theorem dX0_joined_26 : decode cX0_joined 26 = .ok (.aload_n 0, 1) := by decide +kernel
theorem dX0_joined_27 : decode cX0_joined 27 = .ok (.getfield 15, 3) := by decide +kernel
theorem dX0_joined_30 : decode cX0_joined 30 = .ok (.iload 5, 2) := by decide +kernel
theorem dX0_joined_32 : decode cX0_joined 32 = .ok (.iaload, 1) := by decide +kernel
theorem dX0_joined_33 : decode cX0_joined 33 = .ok (.i2l, 1) := by decide +kernel
theorem dX0_joined_34 : decode cX0_joined 34 = .ok (.lor, 1) := by decide +kernel
theorem dX0_joined_35 : decode cX0_joined 35 = .ok (.lstore_n 3, 1) := by decide +kernel
theorem dX0_joined_36 : decode cX0_joined 36 = .ok (.iinc 5 1, 3) := by decide +kernel
theorem dX0_joined_39 : decode cX0_joined 39 = .ok (.goto (-34), 3) := by decide +kernel
theorem dX0_joined_42 : decode cX0_joined 42 = .ok (.lload_n 3, 1) := by decide +kernel
theorem dX0_joined_43 : decode cX0_joined 43 = .ok (.lreturn, 1) := by decide +kernel
theorem dX0_slot_0 : decode cX0_slot 0 = .ok (.iload_n 0, 1) := by decide +kernel
theorem dX0_slot_1 : decode cX0_slot 1 = .ok (.bipush 21, 2) := by decide +kernel
theorem dX0_slot_3 : decode cX0_slot 3 = .ok (.imul, 1) := by decide +kernel
theorem dX0_slot_4 : decode cX0_slot 4 = .ok (.iload_n 1, 1) := by decide +kernel
theorem dX0_slot_5 : decode cX0_slot 5 = .ok (.iadd, 1) := by decide +kernel
theorem dX0_slot_6 : decode cX0_slot 6 = .ok (.iconst 1, 1) := by decide +kernel
theorem dX0_slot_7 : decode cX0_slot 7 = .ok (.isub, 1) := by decide +kernel
theorem dX0_slot_8 : decode cX0_slot 8 = .ok (.ireturn, 1) := by decide +kernel
theorem dX1_init_0 : decode cX1_init 0 = .ok (.aload_n 0, 1) := by decide +kernel
theorem dX1_init_1 : decode cX1_init 1 = .ok (.invokespecial 3, 3) := by decide +kernel
theorem dX1_init_4 : decode cX1_init 4 = .ok (.aload_n 0, 1) := by decide +kernel
theorem dX1_init_5 : decode cX1_init 5 = .ok (.iload_n 1, 1) := by decide +kernel
theorem dX1_init_6 : decode cX1_init 6 = .ok (.putfield 9, 3) := by decide +kernel
theorem dX1_init_9 : decode cX1_init 9 = .ok (.aload_n 0, 1) := by decide +kernel
theorem dX1_init_10 : decode cX1_init 10 = .ok (.bipush 22, 2) := by decide +kernel
theorem dX1_init_12 : decode cX1_init 12 = .ok (.newarray .int, 2) := by decide +kernel
theorem dX1_init_14 : decode cX1_init 14 = .ok (.putfield 15, 3) := by decide +kernel
theorem dX1_init_17 : decode cX1_init 17 = .ok (.aload_n 0, 1) := by decide +kernel
theorem dX1_init_18 : decode cX1_init 18 = .ok (.bipush 22, 2) := by decide +kernel
theorem dX1_init_20 : decode cX1_init 20 = .ok (.newarray .int, 2) := by decide +kernel
theorem dX1_init_22 : decode cX1_init 22 = .ok (.putfield 19, 3) := by decide +kernel
theorem dX1_init_25 : decode cX1_init 25 = .ok (.aload_n 0, 1) := by decide +kernel
theorem dX1_init_26 : decode cX1_init 26 = .ok (.sipush 308, 3) := by decide +kernel
theorem dX1_init_29 : decode cX1_init 29 = .ok (.newarray .int, 2) := by decide +kernel
theorem dX1_init_31 : decode cX1_init 31 = .ok (.putfield 22, 3) := by decide +kernel
theorem dX1_init_34 : decode cX1_init 34 = .ok (.aload_n 0, 1) := by decide +kernel
theorem dX1_init_35 : decode cX1_init 35 = .ok (.getfield 15, 3) := by decide +kernel
theorem dX1_init_38 : decode cX1_init 38 = .ok (.bipush (-9), 2) := by decide +kernel
theorem dX1_init_40 : decode cX1_init 40 = .ok (.invokestatic 25, 3) := by decide +kernel
theorem dX1_init_43 : decode cX1_init 43 = .ok (.return_, 1) := by decide +kernel
theorem dX1_putItem_0 : decode cX1_putItem 0 = .ok (.aload_n 0, 1) := by decide +kernel
theorem dX1_putItem_1 : decode cX1_putItem 1 = .ok (.getfield 15, 3) := by decide +kernel
theorem dX1_putItem_4 : decode cX1_putItem 4 = .ok (.iload_n 1, 1) := by decide +kernel
theorem dX1_putItem_5 : decode cX1_putItem 5 = .ok (.iload_n 2, 1) := by decide +kernel
theorem dX1_putItem_6 : decode cX1_putItem 6 = .ok (.iconst (-1), 1) := by decide +kernel
theorem dX1_putItem_7 : decode cX1_putItem 7 = .ok (.if_icmp .ne 8, 3) := by decide +kernel
theorem dX1_putItem_10 : decode cX1_putItem 10 = .ok (.bipush (-9), 2) := by decide +kernel
theorem dX1_putItem_12 : decode cX1_putItem 12 = .ok (.goto 4, 3) := by decide +kernel
theorem dX1_putItem_15 : decode cX1_putItem 15 = .ok (.iload_n 2, 1) := by decide +kernel
theorem dX1_putItem_16 : decode cX1_putItem 16 = .ok (.iastore, 1) := by decide +kernel
theorem dX1_putItem_17 : decode cX1_putItem 17 = .ok (.aload_n 0, 1) := by decide +kernel
theorem dX1_putItem_18 : decode cX1_putItem 18 = .ok (.getfield 19, 3) := by decide +kernel
theorem dX1_putItem_21 : decode cX1_putItem 21 = .ok (.iload_n 1, 1) := by decide +kernel
theorem dX1_putItem_22 : decode cX1_putItem 22 = .ok (.iload_n 2, 1) := by decide +kernel
theorem dX1_putItem_23 : decode cX1_putItem 23 = .ok (.ifCond .eq 8, 3) := by decide +kernel
theorem dX1_putItem_26 : decode cX1_putItem 26 = .ok (.iload_n 2, 1) := by decide +kernel
theorem dX1_putItem_27 : decode cX1_putItem 27 = .ok (.iconst 2, 1) := by decide +kernel
theorem dX1_putItem_28 : decode cX1_putItem 28 = .ok (.if_icmp .ne 7, 3) := by decide +kernel
theorem dX1_putItem_31 : decode cX1_putItem 31 = .ok (.iload_n 3, 1) := by decide +kernel
theorem dX1_putItem_32 : decode cX1_putItem 32 = .ok (.goto 4, 3) := by decide +kernel
theorem dX1_putItem_35 : decode cX1_putItem 35 = .ok (.iconst 0, 1) := by decide +kernel
theorem dX1_putItem_36 : decode cX1_putItem 36 = .ok (.iastore, 1) := by decide +kernel
theorem dX1_putItem_37 : decode cX1_putItem 37 = .ok (.aload_n 0, 1) := by decide +kernel
theorem dX1_putItem_38 : decode cX1_putItem 38 = .ok (.getfield 22, 3) := by decide +kernel
theorem dX1_putItem_41 : decode cX1_putItem 41 = .ok (.iload_n 1, 1) := by decide +kernel
theorem dX1_putItem_42 : decode cX1_putItem 42 = .ok (.bipush 14, 2) := by decide +kernel
theorem dX1_putItem_44 : decode cX1_putItem 44 = .ok (.imul, 1) := by decide +kernel
theorem dX1_putItem_45 : decode cX1_putItem 45 = .ok (.iload_n 1, 1) := by decide +kernel
theorem dX1_putItem_46 : decode cX1_putItem 46 = .ok (.iconst 1, 1) := by decide +kernel
theorem dX1_putItem_47 : decode cX1_putItem 47 = .ok (.iadd, 1) := by decide +kernel
theorem dX1_putItem_48 : decode cX1_putItem 48 = .ok (.bipush 14, 2) := by decide +kernel
theorem dX1_putItem_50 : decode cX1_putItem 50 = .ok (.imul, 1) := by decide +kernel
theorem dX1_putItem_51 : decode cX1_putItem 51 = .ok (.iconst 0, 1) := by decide +kernel
theorem dX1_putItem_52 : decode cX1_putItem 52 = .ok (.invokestatic 31, 3) := by decide +kernel
theorem dX1_putItem_55 : decode cX1_putItem 55 = .ok (.return_, 1) := by decide +kernel
theorem dX1_isFixed_0 : decode cX1_isFixed 0 = .ok (.aload_n 0, 1) := by decide +kernel
theorem dX1_isFixed_1 : decode cX1_isFixed 1 = .ok (.getfield 15, 3) := by decide +kernel
theorem dX1_isFixed_4 : decode cX1_isFixed 4 = .ok (.iload_n 1, 1) := by decide +kernel
theorem dX1_isFixed_5 : decode cX1_isFixed 5 = .ok (.iaload, 1) := by decide +kernel
theorem dX1_isFixed_6 : decode cX1_isFixed 6 = .ok (.ifCond .ne 17, 3) := by decide +kernel
theorem dX1_isFixed_9 : decode cX1_isFixed 9 = .ok (.aload_n 0, 1) := by decide +kernel
theorem dX1_isFixed_10 : decode cX1_isFixed 10 = .ok (.getfield 19, 3) := by decide +kernel
theorem dX1_isFixed_13 : decode cX1_isFixed 13 = .ok (.iload_n 1, 1) := by decide +kernel
theorem dX1_isFixed_14 : decode cX1_isFixed 14 = .ok (.iaload, 1) := by decide +kernel
theorem dX1_isFixed_15 : decode cX1_isFixed 15 = .ok (.iload_n 2, 1) := by decide +kernel
theorem dX1_isFixed_16 : decode cX1_isFixed 16 = .ok (.if_icmp .ne 7, 3) := by decide +kernel
theorem dX1_isFixed_19 : decode cX1_isFixed 19 = .ok (.iconst 1, 1) := by decide +kernel
theorem dX1_isFixed_20 : decode cX1_isFixed 20 = .ok (.goto 4, 3) := by decide +kernel
theorem dX1_isFixed_23 : decode cX1_isFixed 23 = .ok (.iconst 0, 1) := by decide +kernel
theorem dX1_isFixed_24 : decode cX1_isFixed 24 = .ok (.ireturn, 1) := by decide +kernel
theorem dX1_tellsTrack_0 : decode cX1_tellsTrack 0 = .ok (.aload_n 0, 1) := by decide +kernel
theorem dX1_tellsTrack_1 : decode cX1_tellsTrack 1 = .ok (.aload_n 0, 1) := by decide +kernel
theorem dX1_tellsTrack_2 : decode cX1_tellsTrack 2 = .ok (.getfield 34, 3) := by decide +kernel
theorem dX1_tellsTrack_5 : decode cX1_tellsTrack 5 = .ok (.iconst 2, 1) := by decide +kernel
theorem dX1_tellsTrack_6 : decode cX1_tellsTrack 6 = .ok (.invokevirtual 37, 3) := by decide +kernel
theorem dX1_tellsTrack_9 : decode cX1_tellsTrack 9 = .ok (.ifCond .eq 19, 3) := by decide +kernel
theorem dX1_tellsTrack_12 : decode cX1_tellsTrack 12 = .ok (.aload_n 0, 1) := by decide +kernel
theorem dX1_tellsTrack_13 : decode cX1_tellsTrack 13 = .ok (.aload_n 0, 1) := by decide +kernel
theorem dX1_tellsTrack_14 : decode cX1_tellsTrack 14 = .ok (.getfield 41, 3) := by decide +kernel
theorem dX1_tellsTrack_17 : decode cX1_tellsTrack 17 = .ok (.iconst 4, 1) := by decide +kernel
theorem dX1_tellsTrack_18 : decode cX1_tellsTrack 18 = .ok (.invokevirtual 37, 3) := by decide +kernel
theorem dX1_tellsTrack_21 : decode cX1_tellsTrack 21 = .ok (.ifCond .eq 7, 3) := by decide +kernel
theorem dX1_tellsTrack_24 : decode cX1_tellsTrack 24 = .ok (.iconst 1, 1) := by decide +kernel
theorem dX1_tellsTrack_25 : decode cX1_tellsTrack 25 = .ok (.goto 4, 3) := by decide +kernel
theorem dX1_tellsTrack_28 : decode cX1_tellsTrack 28 = .ok (.iconst 0, 1) := by decide +kernel
theorem dX1_tellsTrack_29 : decode cX1_tellsTrack 29 = .ok (.ireturn, 1) := by decide +kernel
theorem dX1_partBytes_0 : decode cX1_partBytes 0 = .ok (.aload_n 0, 1) := by decide +kernel
theorem dX1_partBytes_1 : decode cX1_partBytes 1 = .ok (.getfield 22, 3) := by decide +kernel
theorem dX1_partBytes_4 : decode cX1_partBytes 4 = .ok (.iload_n 1, 1) := by decide +kernel
theorem dX1_partBytes_5 : decode cX1_partBytes 5 = .ok (.bipush 14, 2) := by decide +kernel
theorem dX1_partBytes_7 : decode cX1_partBytes 7 = .ok (.imul, 1) := by decide +kernel
theorem dX1_partBytes_8 : decode cX1_partBytes 8 = .ok (.iload_n 2, 1) := by decide +kernel
theorem dX1_partBytes_9 : decode cX1_partBytes 9 = .ok (.iadd, 1) := by decide +kernel
theorem dX1_partBytes_10 : decode cX1_partBytes 10 = .ok (.iaload, 1) := by decide +kernel
theorem dX1_partBytes_11 : decode cX1_partBytes 11 = .ok (.ireturn, 1) := by decide +kernel
theorem dX1_putPart_0 : decode cX1_putPart 0 = .ok (.aload_n 0, 1) := by decide +kernel
theorem dX1_putPart_1 : decode cX1_putPart 1 = .ok (.getfield 22, 3) := by decide +kernel
theorem dX1_putPart_4 : decode cX1_putPart 4 = .ok (.iload_n 1, 1) := by decide +kernel
theorem dX1_putPart_5 : decode cX1_putPart 5 = .ok (.bipush 14, 2) := by decide +kernel
theorem dX1_putPart_7 : decode cX1_putPart 7 = .ok (.imul, 1) := by decide +kernel
theorem dX1_putPart_8 : decode cX1_putPart 8 = .ok (.iload_n 2, 1) := by decide +kernel
theorem dX1_putPart_9 : decode cX1_putPart 9 = .ok (.iadd, 1) := by decide +kernel
theorem dX1_putPart_10 : decode cX1_putPart 10 = .ok (.iload_n 3, 1) := by decide +kernel
theorem dX1_putPart_11 : decode cX1_putPart 11 = .ok (.iastore, 1) := by decide +kernel
theorem dX1_putPart_12 : decode cX1_putPart 12 = .ok (.return_, 1) := by decide +kernel
theorem dX2_init_0 : decode cX2_init 0 = .ok (.aload_n 0, 1) := by decide +kernel
theorem dX2_init_1 : decode cX2_init 1 = .ok (.invokespecial 3, 3) := by decide +kernel
theorem dX2_init_4 : decode cX2_init 4 = .ok (.aload_n 0, 1) := by decide +kernel
theorem dX2_init_5 : decode cX2_init 5 = .ok (.bipush (-9), 2) := by decide +kernel
theorem dX2_init_7 : decode cX2_init 7 = .ok (.putfield 9, 3) := by decide +kernel
theorem dX2_init_10 : decode cX2_init 10 = .ok (.aload_n 0, 1) := by decide +kernel
theorem dX2_init_11 : decode cX2_init 11 = .ok (.sipush 1218, 3) := by decide +kernel
theorem dX2_init_14 : decode cX2_init 14 = .ok (.newarray .int, 2) := by decide +kernel
theorem dX2_init_16 : decode cX2_init 16 = .ok (.putfield 15, 3) := by decide +kernel
theorem dX2_init_19 : decode cX2_init 19 = .ok (.aload_n 0, 1) := by decide +kernel
theorem dX2_init_20 : decode cX2_init 20 = .ok (.bipush 22, 2) := by decide +kernel
theorem dX2_init_22 : decode cX2_init 22 = .ok (.newarray .int, 2) := by decide +kernel
theorem dX2_init_24 : decode cX2_init 24 = .ok (.putfield 19, 3) := by decide +kernel
theorem dX2_init_27 : decode cX2_init 27 = .ok (.return_, 1) := by decide +kernel
theorem dX2_rowOf_0 : decode cX2_rowOf 0 = .ok (.iload_n 0, 1) := by decide +kernel
theorem dX2_rowOf_1 : decode cX2_rowOf 1 = .ok (.iconst 1, 1) := by decide +kernel
theorem dX2_rowOf_2 : decode cX2_rowOf 2 = .ok (.isub, 1) := by decide +kernel
theorem dX2_rowOf_3 : decode cX2_rowOf 3 = .ok (.bipush 58, 2) := by decide +kernel
theorem dX2_rowOf_5 : decode cX2_rowOf 5 = .ok (.imul, 1) := by decide +kernel
theorem dX2_rowOf_6 : decode cX2_rowOf 6 = .ok (.ireturn, 1) := by decide +kernel
theorem dX2_startFor_0 : decode cX2_startFor 0 = .ok (.aload_n 0, 1) := by decide +kernel
theorem dX2_startFor_1 : decode cX2_startFor 1 = .ok (.iload_n 1, 1) := by decide +kernel
theorem dX2_startFor_2 : decode cX2_startFor 2 = .ok (.putfield 9, 3) := by decide +kernel
theorem dX2_startFor_5 : decode cX2_startFor 5 = .ok (.aload_n 0, 1) := by decide +kernel
theorem dX2_startFor_6 : decode cX2_startFor 6 = .ok (.getfield 19, 3) := by decide +kernel
theorem dX2_startFor_9 : decode cX2_startFor 9 = .ok (.iconst 0, 1) := by decide +kernel
theorem dX2_startFor_10 : decode cX2_startFor 10 = .ok (.invokestatic 22, 3) := by decide +kernel
theorem dX2_startFor_13 : decode cX2_startFor 13 = .ok (.return_, 1) := by decide +kernel
theorem dX2_putItem_0 : decode cX2_putItem 0 = .ok (.iload_n 3, 1) := by decide +kernel
theorem dX2_putItem_1 : decode cX2_putItem 1 = .ok (.bipush 58, 2) := by decide +kernel
theorem dX2_putItem_3 : decode cX2_putItem 3 = .ok (.if_icmp .gt 24, 3) := by decide +kernel
theorem dX2_putItem_6 : decode cX2_putItem 6 = .ok (.aload_n 2, 1) := by decide +kernel
theorem dX2_putItem_7 : decode cX2_putItem 7 = .ok (.iconst 0, 1) := by decide +kernel
theorem dX2_putItem_8 : decode cX2_putItem 8 = .ok (.aload_n 0, 1) := by decide +kernel
theorem dX2_putItem_9 : decode cX2_putItem 9 = .ok (.getfield 15, 3) := by decide +kernel
theorem dX2_putItem_12 : decode cX2_putItem 12 = .ok (.iload_n 1, 1) := by decide +kernel
theorem dX2_putItem_13 : decode cX2_putItem 13 = .ok (.invokestatic 28, 3) := by decide +kernel
theorem dX2_putItem_16 : decode cX2_putItem 16 = .ok (.iload_n 3, 1) := by decide +kernel
theorem dX2_putItem_17 : decode cX2_putItem 17 = .ok (.invokestatic 32, 3) := by decide +kernel
theorem dX2_putItem_20 : decode cX2_putItem 20 = .ok (.aload_n 0, 1) := by decide +kernel
theorem dX2_putItem_21 : decode cX2_putItem 21 = .ok (.getfield 19, 3) := by decide +kernel
theorem dX2_putItem_24 : decode cX2_putItem 24 = .ok (.iload_n 1, 1) := by decide +kernel
theorem dX2_putItem_25 : decode cX2_putItem 25 = .ok (.iload_n 3, 1) := by decide +kernel
theorem dX2_putItem_26 : decode cX2_putItem 26 = .ok (.iastore, 1) := by decide +kernel
theorem dX2_putItem_27 : decode cX2_putItem 27 = .ok (.return_, 1) := by decide +kernel
theorem dX2_lastPlace_0 : decode cX2_lastPlace 0 = .ok (.bipush 21, 2) := by decide +kernel
theorem dX2_lastPlace_2 : decode cX2_lastPlace 2 = .ok (.istore_n 1, 1) := by decide +kernel
theorem dX2_lastPlace_3 : decode cX2_lastPlace 3 = .ok (.iload_n 1, 1) := by decide +kernel
theorem dX2_lastPlace_4 : decode cX2_lastPlace 4 = .ok (.iconst 1, 1) := by decide +kernel
theorem dX2_lastPlace_5 : decode cX2_lastPlace 5 = .ok (.if_icmp .lt 20, 3) := by decide +kernel
theorem dX2_lastPlace_8 : decode cX2_lastPlace 8 = .ok (.aload_n 0, 1) := by decide +kernel
theorem dX2_lastPlace_9 : decode cX2_lastPlace 9 = .ok (.getfield 19, 3) := by decide +kernel
theorem dX2_lastPlace_12 : decode cX2_lastPlace 12 = .ok (.iload_n 1, 1) := by decide +kernel
theorem dX2_lastPlace_13 : decode cX2_lastPlace 13 = .ok (.iaload, 1) := by decide +kernel
theorem dX2_lastPlace_14 : decode cX2_lastPlace 14 = .ok (.ifCond .eq 5, 3) := by decide +kernel
theorem dX2_lastPlace_17 : decode cX2_lastPlace 17 = .ok (.iload_n 1, 1) := by decide +kernel
theorem dX2_lastPlace_18 : decode cX2_lastPlace 18 = .ok (.ireturn, 1) := by decide +kernel
theorem dX2_lastPlace_19 : decode cX2_lastPlace 19 = .ok (.iinc 1 (-1), 3) := by decide +kernel
theorem dX2_lastPlace_22 : decode cX2_lastPlace 22 = .ok (.goto (-19), 3) := by decide +kernel
theorem dX2_lastPlace_25 : decode cX2_lastPlace 25 = .ok (.iconst 0, 1) := by decide +kernel
theorem dX2_lastPlace_26 : decode cX2_lastPlace 26 = .ok (.ireturn, 1) := by decide +kernel
theorem dX2_itemBytes_0 : decode cX2_itemBytes 0 = .ok (.iconst 0, 1) := by decide +kernel
theorem dX2_itemBytes_1 : decode cX2_itemBytes 1 = .ok (.istore_n 1, 1) := by decide +kernel
theorem dX2_itemBytes_2 : decode cX2_itemBytes 2 = .ok (.iconst 1, 1) := by decide +kernel
theorem dX2_itemBytes_3 : decode cX2_itemBytes 3 = .ok (.istore_n 2, 1) := by decide +kernel
theorem dX2_itemBytes_4 : decode cX2_itemBytes 4 = .ok (.iload_n 2, 1) := by decide +kernel
theorem dX2_itemBytes_5 : decode cX2_itemBytes 5 = .ok (.bipush 21, 2) := by decide +kernel
theorem dX2_itemBytes_7 : decode cX2_itemBytes 7 = .ok (.if_icmp .gt 18, 3) := by decide +kernel
theorem dX2_itemBytes_10 : decode cX2_itemBytes 10 = .ok (.iload_n 1, 1) := by decide +kernel
theorem dX2_itemBytes_11 : decode cX2_itemBytes 11 = .ok (.aload_n 0, 1) := by decide +kernel
theorem dX2_itemBytes_12 : decode cX2_itemBytes 12 = .ok (.getfield 19, 3) := by decide +kernel
theorem dX2_itemBytes_15 : decode cX2_itemBytes 15 = .ok (.iload_n 2, 1) := by decide +kernel
theorem dX2_itemBytes_16 : decode cX2_itemBytes 16 = .ok (.iaload, 1) := by decide +kernel
theorem dX2_itemBytes_17 : decode cX2_itemBytes 17 = .ok (.iadd, 1) := by decide +kernel
theorem dX2_itemBytes_18 : decode cX2_itemBytes 18 = .ok (.istore_n 1, 1) := by decide +kernel
theorem dX2_itemBytes_19 : decode cX2_itemBytes 19 = .ok (.iinc 2 1, 3) := by decide +kernel
theorem dX2_itemBytes_22 : decode cX2_itemBytes 22 = .ok (.goto (-18), 3) := by decide +kernel
theorem dX2_itemBytes_25 : decode cX2_itemBytes 25 = .ok (.iload_n 1, 1) := by decide +kernel
theorem dX2_itemBytes_26 : decode cX2_itemBytes 26 = .ok (.ireturn, 1) := by decide +kernel
theorem dX2_bitsByte_0 : decode cX2_bitsByte 0 = .ok (.iconst 0, 1) := by decide +kernel
theorem dX2_bitsByte_1 : decode cX2_bitsByte 1 = .ok (.istore_n 3, 1) := by decide +kernel
theorem dX2_bitsByte_2 : decode cX2_bitsByte 2 = .ok (.iconst 1, 1) := by decide +kernel
theorem dX2_bitsByte_3 : decode cX2_bitsByte 3 = .ok (.istore 4, 2) := by decide +kernel
theorem dX2_bitsByte_5 : decode cX2_bitsByte 5 = .ok (.iload 4, 2) := by decide +kernel
theorem dX2_bitsByte_7 : decode cX2_bitsByte 7 = .ok (.bipush 7, 2) := by decide +kernel
theorem dX2_bitsByte_9 : decode cX2_bitsByte 9 = .ok (.if_icmp .gt 45, 3) := by decide +kernel
theorem dX2_bitsByte_12 : decode cX2_bitsByte 12 = .ok (.iload_n 1, 1) := by decide +kernel
theorem dX2_bitsByte_13 : decode cX2_bitsByte 13 = .ok (.bipush 7, 2) := by decide +kernel
theorem dX2_bitsByte_15 : decode cX2_bitsByte 15 = .ok (.imul, 1) := by decide +kernel
theorem dX2_bitsByte_16 : decode cX2_bitsByte 16 = .ok (.iload 4, 2) := by decide +kernel
theorem dX2_bitsByte_18 : decode cX2_bitsByte 18 = .ok (.iadd, 1) := by decide +kernel
theorem dX2_bitsByte_19 : decode cX2_bitsByte 19 = .ok (.istore 5, 2) := by decide +kernel
theorem dX2_bitsByte_21 : decode cX2_bitsByte 21 = .ok (.iload_n 3, 1) := by decide +kernel
theorem dX2_bitsByte_22 : decode cX2_bitsByte 22 = .ok (.iconst 1, 1) := by decide +kernel
theorem dX2_bitsByte_23 : decode cX2_bitsByte 23 = .ok (.ishl, 1) := by decide +kernel
theorem dX2_bitsByte_24 : decode cX2_bitsByte 24 = .ok (.iload 5, 2) := by decide +kernel
theorem dX2_bitsByte_26 : decode cX2_bitsByte 26 = .ok (.bipush 21, 2) := by decide +kernel
theorem dX2_bitsByte_28 : decode cX2_bitsByte 28 = .ok (.if_icmp .gt 17, 3) := by decide +kernel
theorem dX2_bitsByte_31 : decode cX2_bitsByte 31 = .ok (.aload_n 0, 1) := by decide +kernel
theorem dX2_bitsByte_32 : decode cX2_bitsByte 32 = .ok (.getfield 19, 3) := by decide +kernel
theorem dX2_bitsByte_35 : decode cX2_bitsByte 35 = .ok (.iload 5, 2) := by decide +kernel
theorem dX2_bitsByte_37 : decode cX2_bitsByte 37 = .ok (.iaload, 1) := by decide +kernel
theorem dX2_bitsByte_38 : decode cX2_bitsByte 38 = .ok (.ifCond .eq 7, 3) := by decide +kernel
theorem dX2_bitsByte_41 : decode cX2_bitsByte 41 = .ok (.iconst 1, 1) := by decide +kernel
theorem dX2_bitsByte_42 : decode cX2_bitsByte 42 = .ok (.goto 4, 3) := by decide +kernel
theorem dX2_bitsByte_45 : decode cX2_bitsByte 45 = .ok (.iconst 0, 1) := by decide +kernel
theorem dX2_bitsByte_46 : decode cX2_bitsByte 46 = .ok (.ior, 1) := by decide +kernel
theorem dX2_bitsByte_47 : decode cX2_bitsByte 47 = .ok (.istore_n 3, 1) := by decide +kernel
theorem dX2_bitsByte_48 : decode cX2_bitsByte 48 = .ok (.iinc 4 1, 3) := by decide +kernel
theorem dX2_bitsByte_51 : decode cX2_bitsByte 51 = .ok (.goto (-46), 3) := by decide +kernel
theorem dX2_bitsByte_54 : decode cX2_bitsByte 54 = .ok (.iload_n 3, 1) := by decide +kernel
theorem dX2_bitsByte_55 : decode cX2_bitsByte 55 = .ok (.iconst 1, 1) := by decide +kernel
theorem dX2_bitsByte_56 : decode cX2_bitsByte 56 = .ok (.ishl, 1) := by decide +kernel
theorem dX2_bitsByte_57 : decode cX2_bitsByte 57 = .ok (.iload_n 2, 1) := by decide +kernel
theorem dX2_bitsByte_58 : decode cX2_bitsByte 58 = .ok (.ifCond .eq 7, 3) := by decide +kernel
theorem dX2_bitsByte_61 : decode cX2_bitsByte 61 = .ok (.iconst 0, 1) := by decide +kernel
theorem dX2_bitsByte_62 : decode cX2_bitsByte 62 = .ok (.goto 4, 3) := by decide +kernel
theorem dX2_bitsByte_65 : decode cX2_bitsByte 65 = .ok (.iconst 1, 1) := by decide +kernel
theorem dX2_bitsByte_66 : decode cX2_bitsByte 66 = .ok (.ior, 1) := by decide +kernel
theorem dX2_bitsByte_67 : decode cX2_bitsByte 67 = .ok (.ireturn, 1) := by decide +kernel
theorem dX3_init_0 : decode cX3_init 0 = .ok (.aload_n 0, 1) := by decide +kernel
theorem dX3_init_1 : decode cX3_init 1 = .ok (.invokespecial 3, 3) := by decide +kernel
theorem dX3_init_4 : decode cX3_init 4 = .ok (.aload_n 0, 1) := by decide +kernel
theorem dX3_init_5 : decode cX3_init 5 = .ok (.aload_n 1, 1) := by decide +kernel
theorem dX3_init_6 : decode cX3_init 6 = .ok (.getfield 9, 3) := by decide +kernel
theorem dX3_init_9 : decode cX3_init 9 = .ok (.putfield 15, 3) := by decide +kernel
theorem dX3_init_12 : decode cX3_init 12 = .ok (.return_, 1) := by decide +kernel
theorem dX3_start_0 : decode cX3_start 0 = .ok (.aload_n 0, 1) := by decide +kernel
theorem dX3_start_1 : decode cX3_start 1 = .ok (.iconst 0, 1) := by decide +kernel
theorem dX3_start_2 : decode cX3_start 2 = .ok (.putfield 18, 3) := by decide +kernel
theorem dX3_start_5 : decode cX3_start 5 = .ok (.aload_n 0, 1) := by decide +kernel
theorem dX3_start_6 : decode cX3_start 6 = .ok (.iload_n 1, 1) := by decide +kernel
theorem dX3_start_7 : decode cX3_start 7 = .ok (.putfield 22, 3) := by decide +kernel
theorem dX3_start_10 : decode cX3_start 10 = .ok (.aload_n 0, 1) := by decide +kernel
theorem dX3_start_11 : decode cX3_start 11 = .ok (.iconst 0, 1) := by decide +kernel
theorem dX3_start_12 : decode cX3_start 12 = .ok (.putfield 25, 3) := by decide +kernel
theorem dX3_start_15 : decode cX3_start 15 = .ok (.return_, 1) := by decide +kernel
theorem dX3_hasMore_0 : decode cX3_hasMore 0 = .ok (.aload_n 0, 1) := by decide +kernel
theorem dX3_hasMore_1 : decode cX3_hasMore 1 = .ok (.getfield 25, 3) := by decide +kernel
theorem dX3_hasMore_4 : decode cX3_hasMore 4 = .ok (.ifCond .ne 18, 3) := by decide +kernel
theorem dX3_hasMore_7 : decode cX3_hasMore 7 = .ok (.aload_n 0, 1) := by decide +kernel
theorem dX3_hasMore_8 : decode cX3_hasMore 8 = .ok (.getfield 18, 3) := by decide +kernel
theorem dX3_hasMore_11 : decode cX3_hasMore 11 = .ok (.aload_n 0, 1) := by decide +kernel
theorem dX3_hasMore_12 : decode cX3_hasMore 12 = .ok (.getfield 22, 3) := by decide +kernel
theorem dX3_hasMore_15 : decode cX3_hasMore 15 = .ok (.if_icmp .ge 7, 3) := by decide +kernel
theorem dX3_hasMore_18 : decode cX3_hasMore 18 = .ok (.iconst 1, 1) := by decide +kernel
theorem dX3_hasMore_19 : decode cX3_hasMore 19 = .ok (.goto 4, 3) := by decide +kernel
theorem dX3_hasMore_22 : decode cX3_hasMore 22 = .ok (.iconst 0, 1) := by decide +kernel
theorem dX3_hasMore_23 : decode cX3_hasMore 23 = .ok (.ireturn, 1) := by decide +kernel
theorem dX3_fail_0 : decode cX3_fail 0 = .ok (.aload_n 0, 1) := by decide +kernel
theorem dX3_fail_1 : decode cX3_fail 1 = .ok (.getfield 25, 3) := by decide +kernel
theorem dX3_fail_4 : decode cX3_fail 4 = .ok (.ifCond .ne 13, 3) := by decide +kernel
theorem dX3_fail_7 : decode cX3_fail 7 = .ok (.aload_n 0, 1) := by decide +kernel
theorem dX3_fail_8 : decode cX3_fail 8 = .ok (.iload_n 1, 1) := by decide +kernel
theorem dX3_fail_9 : decode cX3_fail 9 = .ok (.putfield 25, 3) := by decide +kernel
theorem dX3_fail_12 : decode cX3_fail 12 = .ok (.aload_n 0, 1) := by decide +kernel
theorem dX3_fail_13 : decode cX3_fail 13 = .ok (.iload_n 2, 1) := by decide +kernel
theorem dX3_fail_14 : decode cX3_fail 14 = .ok (.putfield 28, 3) := by decide +kernel
theorem dX3_fail_17 : decode cX3_fail 17 = .ok (.return_, 1) := by decide +kernel
theorem dX3_passRecord_0 : decode cX3_passRecord 0 = .ok (.aload_n 0, 1) := by decide +kernel
theorem dX3_passRecord_1 : decode cX3_passRecord 1 = .ok (.getfield 18, 3) := by decide +kernel
theorem dX3_passRecord_4 : decode cX3_passRecord 4 = .ok (.istore_n 2, 1) := by decide +kernel
theorem dX3_passRecord_5 : decode cX3_passRecord 5 = .ok (.aload_n 0, 1) := by decide +kernel
theorem dX3_passRecord_6 : decode cX3_passRecord 6 = .ok (.iconst 3, 1) := by decide +kernel
theorem dX3_passRecord_7 : decode cX3_passRecord 7 = .ok (.invokevirtual 31, 3) := by decide +kernel
theorem dX3_passRecord_10 : decode cX3_passRecord 10 = .ok (.istore_n 3, 1) := by decide +kernel
theorem dX3_passRecord_11 : decode cX3_passRecord 11 = .ok (.aload_n 0, 1) := by decide +kernel
theorem dX3_passRecord_12 : decode cX3_passRecord 12 = .ok (.iload_n 2, 1) := by decide +kernel
theorem dX3_passRecord_13 : decode cX3_passRecord 13 = .ok (.iload_n 3, 1) := by decide +kernel
theorem dX3_passRecord_14 : decode cX3_passRecord 14 = .ok (.invokevirtual 35, 3) := by decide +kernel
theorem dX3_passRecord_17 : decode cX3_passRecord 17 = .ok (.aload_n 1, 1) := by decide +kernel
theorem dX3_passRecord_18 : decode cX3_passRecord 18 = .ok (.iload_n 2, 1) := by decide +kernel
theorem dX3_passRecord_19 : decode cX3_passRecord 19 = .ok (.invokevirtual 39, 3) := by decide +kernel
theorem dX3_passRecord_22 : decode cX3_passRecord 22 = .ok (.istore 4, 2) := by decide +kernel
theorem dX3_passRecord_24 : decode cX3_passRecord 24 = .ok (.iconst 0, 1) := by decide +kernel
theorem dX3_passRecord_25 : decode cX3_passRecord 25 = .ok (.istore 5, 2) := by decide +kernel
theorem dX3_passRecord_27 : decode cX3_passRecord 27 = .ok (.iload 5, 2) := by decide +kernel
theorem dX3_passRecord_29 : decode cX3_passRecord 29 = .ok (.iload_n 3, 1) := by decide +kernel
theorem dX3_passRecord_30 : decode cX3_passRecord 30 = .ok (.if_icmp .ge 62, 3) := by decide +kernel
theorem dX3_passRecord_33 : decode cX3_passRecord 33 = .ok (.aload_n 0, 1) := by decide +kernel
theorem dX3_passRecord_34 : decode cX3_passRecord 34 = .ok (.getfield 25, 3) := by decide +kernel
theorem dX3_passRecord_37 : decode cX3_passRecord 37 = .ok (.ifCond .ne 55, 3) := by decide +kernel
theorem dX3_passRecord_40 : decode cX3_passRecord 40 = .ok (.aload_n 0, 1) := by decide +kernel
theorem dX3_passRecord_41 : decode cX3_passRecord 41 = .ok (.getfield 15, 3) := by decide +kernel
theorem dX3_passRecord_44 : decode cX3_passRecord 44 = .ok (.iload_n 2, 1) := by decide +kernel
theorem dX3_passRecord_45 : decode cX3_passRecord 45 = .ok (.iload 5, 2) := by decide +kernel
theorem dX3_passRecord_47 : decode cX3_passRecord 47 = .ok (.invokestatic 44, 3) := by decide +kernel
theorem dX3_passRecord_50 : decode cX3_passRecord 50 = .ok (.ifCond .eq 36, 3) := by decide +kernel
theorem dX3_passRecord_53 : decode cX3_passRecord 53 = .ok (.aload_n 0, 1) := by decide +kernel
theorem dX3_passRecord_54 : decode cX3_passRecord 54 = .ok (.getfield 18, 3) := by decide +kernel
theorem dX3_passRecord_57 : decode cX3_passRecord 57 = .ok (.istore 6, 2) := by decide +kernel
theorem dX3_passRecord_59 : decode cX3_passRecord 59 = .ok (.aload_n 0, 1) := by decide +kernel
theorem dX3_passRecord_60 : decode cX3_passRecord 60 = .ok (.iload 5, 2) := by decide +kernel
theorem dX3_passRecord_62 : decode cX3_passRecord 62 = .ok (.iconst 1, 1) := by decide +kernel
theorem dX3_passRecord_63 : decode cX3_passRecord 63 = .ok (.iadd, 1) := by decide +kernel
theorem dX3_passRecord_64 : decode cX3_passRecord 64 = .ok (.invokevirtual 48, 3) := by decide +kernel
theorem dX3_passRecord_67 : decode cX3_passRecord 67 = .ok (.aload_n 1, 1) := by decide +kernel
theorem dX3_passRecord_68 : decode cX3_passRecord 68 = .ok (.iload 4, 2) := by decide +kernel
theorem dX3_passRecord_70 : decode cX3_passRecord 70 = .ok (.iload 5, 2) := by decide +kernel
theorem dX3_passRecord_72 : decode cX3_passRecord 72 = .ok (.iconst 1, 1) := by decide +kernel
theorem dX3_passRecord_73 : decode cX3_passRecord 73 = .ok (.iadd, 1) := by decide +kernel
theorem dX3_passRecord_74 : decode cX3_passRecord 74 = .ok (.iload 6, 2) := by decide +kernel
theorem dX3_passRecord_76 : decode cX3_passRecord 76 = .ok (.aload_n 0, 1) := by decide +kernel
theorem dX3_passRecord_77 : decode cX3_passRecord 77 = .ok (.getfield 18, 3) := by decide +kernel
theorem dX3_passRecord_80 : decode cX3_passRecord 80 = .ok (.iload 6, 2) := by decide +kernel
theorem dX3_passRecord_82 : decode cX3_passRecord 82 = .ok (.isub, 1) := by decide +kernel
theorem dX3_passRecord_83 : decode cX3_passRecord 83 = .ok (.invokevirtual 52, 3) := by decide +kernel
theorem dX3_passRecord_86 : decode cX3_passRecord 86 = .ok (.iinc 5 1, 3) := by decide +kernel
theorem dX3_passRecord_89 : decode cX3_passRecord 89 = .ok (.goto (-62), 3) := by decide +kernel
theorem dX3_passRecord_92 : decode cX3_passRecord 92 = .ok (.return_, 1) := by decide +kernel
theorem dX3_refuseRecord_0 : decode cX3_refuseRecord 0 = .ok (.aload_n 0, 1) := by decide +kernel
theorem dX3_refuseRecord_1 : decode cX3_refuseRecord 1 = .ok (.getfield 15, 3) := by decide +kernel
theorem dX3_refuseRecord_4 : decode cX3_refuseRecord 4 = .ok (.aload_n 0, 1) := by decide +kernel
theorem dX3_refuseRecord_5 : decode cX3_refuseRecord 5 = .ok (.getfield 18, 3) := by decide +kernel
theorem dX3_refuseRecord_8 : decode cX3_refuseRecord 8 = .ok (.iaload, 1) := by decide +kernel
theorem dX3_refuseRecord_9 : decode cX3_refuseRecord 9 = .ok (.istore_n 1, 1) := by decide +kernel
theorem dX3_refuseRecord_10 : decode cX3_refuseRecord 10 = .ok (.iload_n 1, 1) := by decide +kernel
theorem dX3_refuseRecord_11 : decode cX3_refuseRecord 11 = .ok (.ifCond .ne 12, 3) := by decide +kernel
theorem dX3_refuseRecord_14 : decode cX3_refuseRecord 14 = .ok (.aload_n 0, 1) := by decide +kernel
theorem dX3_refuseRecord_15 : decode cX3_refuseRecord 15 = .ok (.iconst 4, 1) := by decide +kernel
theorem dX3_refuseRecord_16 : decode cX3_refuseRecord 16 = .ok (.aload_n 0, 1) := by decide +kernel
theorem dX3_refuseRecord_17 : decode cX3_refuseRecord 17 = .ok (.getfield 18, 3) := by decide +kernel
theorem dX3_refuseRecord_20 : decode cX3_refuseRecord 20 = .ok (.invokevirtual 56, 3) := by decide +kernel
theorem dX3_refuseRecord_23 : decode cX3_refuseRecord 23 = .ok (.aload_n 0, 1) := by decide +kernel
theorem dX3_refuseRecord_24 : decode cX3_refuseRecord 24 = .ok (.aload_n 0, 1) := by decide +kernel
theorem dX3_refuseRecord_25 : decode cX3_refuseRecord 25 = .ok (.getfield 18, 3) := by decide +kernel
theorem dX3_refuseRecord_28 : decode cX3_refuseRecord 28 = .ok (.bipush 7, 2) := by decide +kernel
theorem dX3_refuseRecord_30 : decode cX3_refuseRecord 30 = .ok (.invokevirtual 35, 3) := by decide +kernel
theorem dX3_refuseRecord_33 : decode cX3_refuseRecord 33 = .ok (.aload_n 0, 1) := by decide +kernel
theorem dX3_refuseRecord_34 : decode cX3_refuseRecord 34 = .ok (.bipush 8, 2) := by decide +kernel
theorem dX3_refuseRecord_36 : decode cX3_refuseRecord 36 = .ok (.aload_n 0, 1) := by decide +kernel
theorem dX3_refuseRecord_37 : decode cX3_refuseRecord 37 = .ok (.getfield 18, 3) := by decide +kernel
theorem dX3_refuseRecord_40 : decode cX3_refuseRecord 40 = .ok (.invokevirtual 56, 3) := by decide +kernel
theorem dX3_refuseRecord_43 : decode cX3_refuseRecord 43 = .ok (.return_, 1) := by decide +kernel
theorem dX3_passItem_0 : decode cX3_passItem 0 = .ok (.aload_n 0, 1) := by decide +kernel
theorem dX3_passItem_1 : decode cX3_passItem 1 = .ok (.getfield 59, 3) := by decide +kernel
theorem dX3_passItem_4 : decode cX3_passItem 4 = .ok (.getfield 63, 3) := by decide +kernel
theorem dX3_passItem_7 : decode cX3_passItem 7 = .ok (.iload_n 1, 1) := by decide +kernel
theorem dX3_passItem_8 : decode cX3_passItem 8 = .ok (.iaload, 1) := by decide +kernel
theorem dX3_passItem_9 : decode cX3_passItem 9 = .ok (.tableswitch 78 0 3 #[31, 47, 54, 70], 31) := by decide +kernel
theorem dX3_passItem_40 : decode cX3_passItem 40 = .ok (.aload_n 0, 1) := by decide +kernel
theorem dX3_passItem_41 : decode cX3_passItem 41 = .ok (.aload_n 0, 1) := by decide +kernel
theorem dX3_passItem_42 : decode cX3_passItem 42 = .ok (.getfield 59, 3) := by decide +kernel
theorem dX3_passItem_45 : decode cX3_passItem 45 = .ok (.getfield 68, 3) := by decide +kernel
theorem dX3_passItem_48 : decode cX3_passItem 48 = .ok (.iload_n 1, 1) := by decide +kernel
theorem dX3_passItem_49 : decode cX3_passItem 49 = .ok (.iaload, 1) := by decide +kernel
theorem dX3_passItem_50 : decode cX3_passItem 50 = .ok (.invokevirtual 71, 3) := by decide +kernel
theorem dX3_passItem_53 : decode cX3_passItem 53 = .ok (.goto 34, 3) := by decide +kernel
theorem dX3_passItem_56 : decode cX3_passItem 56 = .ok (.aload_n 0, 1) := by decide +kernel
theorem dX3_passItem_57 : decode cX3_passItem 57 = .ok (.invokevirtual 74, 3) := by decide +kernel
theorem dX3_passItem_60 : decode cX3_passItem 60 = .ok (.goto 27, 3) := by decide +kernel
theorem dX3_passItem_63 : decode cX3_passItem 63 = .ok (.aload_n 0, 1) := by decide +kernel
theorem dX3_passItem_64 : decode cX3_passItem 64 = .ok (.aload_n 0, 1) := by decide +kernel
theorem dX3_passItem_65 : decode cX3_passItem 65 = .ok (.getfield 59, 3) := by decide +kernel
theorem dX3_passItem_68 : decode cX3_passItem 68 = .ok (.getfield 68, 3) := by decide +kernel
theorem dX3_passItem_71 : decode cX3_passItem 71 = .ok (.iload_n 1, 1) := by decide +kernel
theorem dX3_passItem_72 : decode cX3_passItem 72 = .ok (.iaload, 1) := by decide +kernel
theorem dX3_passItem_73 : decode cX3_passItem 73 = .ok (.invokevirtual 77, 3) := by decide +kernel
theorem dX3_passItem_76 : decode cX3_passItem 76 = .ok (.goto 11, 3) := by decide +kernel
theorem dX3_passItem_79 : decode cX3_passItem 79 = .ok (.aload_n 0, 1) := by decide +kernel
theorem dX3_passItem_80 : decode cX3_passItem 80 = .ok (.iload_n 1, 1) := by decide +kernel
theorem dX3_passItem_81 : decode cX3_passItem 81 = .ok (.invokevirtual 80, 3) := by decide +kernel
theorem dX3_passItem_84 : decode cX3_passItem 84 = .ok (.goto 3, 3) := by decide +kernel
theorem dX3_passItem_87 : decode cX3_passItem 87 = .ok (.return_, 1) := by decide +kernel
theorem dX3_pass_0 : decode cX3_pass 0 = .ok (.iload_n 1, 1) := by decide +kernel
theorem dX3_pass_1 : decode cX3_pass 1 = .ok (.aload_n 0, 1) := by decide +kernel
theorem dX3_pass_2 : decode cX3_pass 2 = .ok (.getfield 22, 3) := by decide +kernel
theorem dX3_pass_5 : decode cX3_pass 5 = .ok (.aload_n 0, 1) := by decide +kernel
theorem dX3_pass_6 : decode cX3_pass 6 = .ok (.getfield 18, 3) := by decide +kernel
theorem dX3_pass_9 : decode cX3_pass 9 = .ok (.isub, 1) := by decide +kernel
theorem dX3_pass_10 : decode cX3_pass 10 = .ok (.if_icmp .le 15, 3) := by decide +kernel
theorem dX3_pass_13 : decode cX3_pass 13 = .ok (.aload_n 0, 1) := by decide +kernel
theorem dX3_pass_14 : decode cX3_pass 14 = .ok (.iconst 3, 1) := by decide +kernel
theorem dX3_pass_15 : decode cX3_pass 15 = .ok (.aload_n 0, 1) := by decide +kernel
theorem dX3_pass_16 : decode cX3_pass 16 = .ok (.getfield 22, 3) := by decide +kernel
theorem dX3_pass_19 : decode cX3_pass 19 = .ok (.invokevirtual 56, 3) := by decide +kernel
theorem dX3_pass_22 : decode cX3_pass 22 = .ok (.goto 13, 3) := by decide +kernel
theorem dX3_pass_25 : decode cX3_pass 25 = .ok (.aload_n 0, 1) := by decide +kernel
theorem dX3_pass_26 : decode cX3_pass 26 = .ok (.dup, 1) := by decide +kernel
theorem dX3_pass_27 : decode cX3_pass 27 = .ok (.getfield 18, 3) := by decide +kernel
theorem dX3_pass_30 : decode cX3_pass 30 = .ok (.iload_n 1, 1) := by decide +kernel
theorem dX3_pass_31 : decode cX3_pass 31 = .ok (.iadd, 1) := by decide +kernel
theorem dX3_pass_32 : decode cX3_pass 32 = .ok (.putfield 18, 3) := by decide +kernel
theorem dX3_pass_35 : decode cX3_pass 35 = .ok (.return_, 1) := by decide +kernel
theorem dX3_passGoing_0 : decode cX3_passGoing 0 = .ok (.iconst 0, 1) := by decide +kernel
theorem dX3_passGoing_1 : decode cX3_passGoing 1 = .ok (.istore_n 1, 1) := by decide +kernel
theorem dX3_passGoing_2 : decode cX3_passGoing 2 = .ok (.iload_n 1, 1) := by decide +kernel
theorem dX3_passGoing_3 : decode cX3_passGoing 3 = .ok (.bipush 6, 2) := by decide +kernel
theorem dX3_passGoing_5 : decode cX3_passGoing 5 = .ok (.if_icmp .ge 86, 3) := by decide +kernel
theorem dX3_passGoing_8 : decode cX3_passGoing 8 = .ok (.aload_n 0, 1) := by decide +kernel
theorem dX3_passGoing_9 : decode cX3_passGoing 9 = .ok (.getfield 18, 3) := by decide +kernel
theorem dX3_passGoing_12 : decode cX3_passGoing 12 = .ok (.aload_n 0, 1) := by decide +kernel
theorem dX3_passGoing_13 : decode cX3_passGoing 13 = .ok (.getfield 22, 3) := by decide +kernel
theorem dX3_passGoing_16 : decode cX3_passGoing 16 = .ok (.if_icmp .lt 13, 3) := by decide +kernel
theorem dX3_passGoing_19 : decode cX3_passGoing 19 = .ok (.aload_n 0, 1) := by decide +kernel
theorem dX3_passGoing_20 : decode cX3_passGoing 20 = .ok (.iconst 3, 1) := by decide +kernel
theorem dX3_passGoing_21 : decode cX3_passGoing 21 = .ok (.aload_n 0, 1) := by decide +kernel
theorem dX3_passGoing_22 : decode cX3_passGoing 22 = .ok (.getfield 22, 3) := by decide +kernel
theorem dX3_passGoing_25 : decode cX3_passGoing 25 = .ok (.invokevirtual 56, 3) := by decide +kernel
theorem dX3_passGoing_28 : decode cX3_passGoing 28 = .ok (.return_, 1) := by decide +kernel
theorem dX3_passGoing_29 : decode cX3_passGoing 29 = .ok (.aload_n 0, 1) := by decide +kernel
theorem dX3_passGoing_30 : decode cX3_passGoing 30 = .ok (.getfield 15, 3) := by decide +kernel
theorem dX3_passGoing_33 : decode cX3_passGoing 33 = .ok (.aload_n 0, 1) := by decide +kernel
theorem dX3_passGoing_34 : decode cX3_passGoing 34 = .ok (.getfield 18, 3) := by decide +kernel
theorem dX3_passGoing_37 : decode cX3_passGoing 37 = .ok (.iaload, 1) := by decide +kernel
theorem dX3_passGoing_38 : decode cX3_passGoing 38 = .ok (.iconst 1, 1) := by decide +kernel
theorem dX3_passGoing_39 : decode cX3_passGoing 39 = .ok (.iand, 1) := by decide +kernel
theorem dX3_passGoing_40 : decode cX3_passGoing 40 = .ok (.iconst 1, 1) := by decide +kernel
theorem dX3_passGoing_41 : decode cX3_passGoing 41 = .ok (.if_icmp .ne 7, 3) := by decide +kernel
theorem dX3_passGoing_44 : decode cX3_passGoing 44 = .ok (.iconst 1, 1) := by decide +kernel
theorem dX3_passGoing_45 : decode cX3_passGoing 45 = .ok (.goto 4, 3) := by decide +kernel
theorem dX3_passGoing_48 : decode cX3_passGoing 48 = .ok (.iconst 0, 1) := by decide +kernel
theorem dX3_passGoing_49 : decode cX3_passGoing 49 = .ok (.istore_n 2, 1) := by decide +kernel
theorem dX3_passGoing_50 : decode cX3_passGoing 50 = .ok (.iload_n 2, 1) := by decide +kernel
theorem dX3_passGoing_51 : decode cX3_passGoing 51 = .ok (.ifCond .eq 19, 3) := by decide +kernel
theorem dX3_passGoing_54 : decode cX3_passGoing 54 = .ok (.iload_n 1, 1) := by decide +kernel
theorem dX3_passGoing_55 : decode cX3_passGoing 55 = .ok (.iconst 5, 1) := by decide +kernel
theorem dX3_passGoing_56 : decode cX3_passGoing 56 = .ok (.if_icmp .ne 14, 3) := by decide +kernel
theorem dX3_passGoing_59 : decode cX3_passGoing 59 = .ok (.aload_n 0, 1) := by decide +kernel
theorem dX3_passGoing_60 : decode cX3_passGoing 60 = .ok (.bipush 7, 2) := by decide +kernel
theorem dX3_passGoing_62 : decode cX3_passGoing 62 = .ok (.aload_n 0, 1) := by decide +kernel
theorem dX3_passGoing_63 : decode cX3_passGoing 63 = .ok (.getfield 18, 3) := by decide +kernel
theorem dX3_passGoing_66 : decode cX3_passGoing 66 = .ok (.invokevirtual 56, 3) := by decide +kernel
theorem dX3_passGoing_69 : decode cX3_passGoing 69 = .ok (.return_, 1) := by decide +kernel
theorem dX3_passGoing_70 : decode cX3_passGoing 70 = .ok (.aload_n 0, 1) := by decide +kernel
theorem dX3_passGoing_71 : decode cX3_passGoing 71 = .ok (.dup, 1) := by decide +kernel
theorem dX3_passGoing_72 : decode cX3_passGoing 72 = .ok (.getfield 18, 3) := by decide +kernel
theorem dX3_passGoing_75 : decode cX3_passGoing 75 = .ok (.iconst 1, 1) := by decide +kernel
theorem dX3_passGoing_76 : decode cX3_passGoing 76 = .ok (.iadd, 1) := by decide +kernel
theorem dX3_passGoing_77 : decode cX3_passGoing 77 = .ok (.putfield 18, 3) := by decide +kernel
theorem dX3_passGoing_80 : decode cX3_passGoing 80 = .ok (.iload_n 2, 1) := by decide +kernel
theorem dX3_passGoing_81 : decode cX3_passGoing 81 = .ok (.ifCond .ne 4, 3) := by decide +kernel
theorem dX3_passGoing_84 : decode cX3_passGoing 84 = .ok (.return_, 1) := by decide +kernel
theorem dX3_passGoing_85 : decode cX3_passGoing 85 = .ok (.iinc 1 1, 3) := by decide +kernel
theorem dX3_passGoing_88 : decode cX3_passGoing 88 = .ok (.goto (-86), 3) := by decide +kernel
theorem dX3_passGoing_91 : decode cX3_passGoing 91 = .ok (.return_, 1) := by decide +kernel
theorem dX3_passAgain_0 : decode cX3_passAgain 0 = .ok (.aload_n 0, 1) := by decide +kernel
theorem dX3_passAgain_1 : decode cX3_passAgain 1 = .ok (.getfield 18, 3) := by decide +kernel
theorem dX3_passAgain_4 : decode cX3_passAgain 4 = .ok (.aload_n 0, 1) := by decide +kernel
theorem dX3_passAgain_5 : decode cX3_passAgain 5 = .ok (.getfield 22, 3) := by decide +kernel
theorem dX3_passAgain_8 : decode cX3_passAgain 8 = .ok (.if_icmp .lt 13, 3) := by decide +kernel
theorem dX3_passAgain_11 : decode cX3_passAgain 11 = .ok (.aload_n 0, 1) := by decide +kernel
theorem dX3_passAgain_12 : decode cX3_passAgain 12 = .ok (.iconst 3, 1) := by decide +kernel
theorem dX3_passAgain_13 : decode cX3_passAgain 13 = .ok (.aload_n 0, 1) := by decide +kernel
theorem dX3_passAgain_14 : decode cX3_passAgain 14 = .ok (.getfield 22, 3) := by decide +kernel
theorem dX3_passAgain_17 : decode cX3_passAgain 17 = .ok (.invokevirtual 56, 3) := by decide +kernel
theorem dX3_passAgain_20 : decode cX3_passAgain 20 = .ok (.return_, 1) := by decide +kernel
theorem dX3_passAgain_21 : decode cX3_passAgain 21 = .ok (.aload_n 0, 1) := by decide +kernel
theorem dX3_passAgain_22 : decode cX3_passAgain 22 = .ok (.getfield 15, 3) := by decide +kernel
theorem dX3_passAgain_25 : decode cX3_passAgain 25 = .ok (.aload_n 0, 1) := by decide +kernel
theorem dX3_passAgain_26 : decode cX3_passAgain 26 = .ok (.getfield 18, 3) := by decide +kernel
theorem dX3_passAgain_29 : decode cX3_passAgain 29 = .ok (.iaload, 1) := by decide +kernel
theorem dX3_passAgain_30 : decode cX3_passAgain 30 = .ok (.istore_n 2, 1) := by decide +kernel
theorem dX3_passAgain_31 : decode cX3_passAgain 31 = .ok (.iload_n 2, 1) := by decide +kernel
theorem dX3_passAgain_32 : decode cX3_passAgain 32 = .ok (.iconst 1, 1) := by decide +kernel
theorem dX3_passAgain_33 : decode cX3_passAgain 33 = .ok (.if_icmp .lt 8, 3) := by decide +kernel
theorem dX3_passAgain_36 : decode cX3_passAgain 36 = .ok (.iload_n 2, 1) := by decide +kernel
theorem dX3_passAgain_37 : decode cX3_passAgain 37 = .ok (.iconst 5, 1) := by decide +kernel
theorem dX3_passAgain_38 : decode cX3_passAgain 38 = .ok (.if_icmp .le 14, 3) := by decide +kernel
theorem dX3_passAgain_41 : decode cX3_passAgain 41 = .ok (.aload_n 0, 1) := by decide +kernel
theorem dX3_passAgain_42 : decode cX3_passAgain 42 = .ok (.bipush 6, 2) := by decide +kernel
theorem dX3_passAgain_44 : decode cX3_passAgain 44 = .ok (.aload_n 0, 1) := by decide +kernel
theorem dX3_passAgain_45 : decode cX3_passAgain 45 = .ok (.getfield 18, 3) := by decide +kernel
theorem dX3_passAgain_48 : decode cX3_passAgain 48 = .ok (.invokevirtual 56, 3) := by decide +kernel
theorem dX3_passAgain_51 : decode cX3_passAgain 51 = .ok (.return_, 1) := by decide +kernel
theorem dX3_passAgain_52 : decode cX3_passAgain 52 = .ok (.aload_n 0, 1) := by decide +kernel
theorem dX3_passAgain_53 : decode cX3_passAgain 53 = .ok (.dup, 1) := by decide +kernel
theorem dX3_passAgain_54 : decode cX3_passAgain 54 = .ok (.getfield 18, 3) := by decide +kernel
theorem dX3_passAgain_57 : decode cX3_passAgain 57 = .ok (.iconst 1, 1) := by decide +kernel
theorem dX3_passAgain_58 : decode cX3_passAgain 58 = .ok (.iadd, 1) := by decide +kernel
theorem dX3_passAgain_59 : decode cX3_passAgain 59 = .ok (.putfield 18, 3) := by decide +kernel
theorem dX3_passAgain_62 : decode cX3_passAgain 62 = .ok (.aload_n 0, 1) := by decide +kernel
theorem dX3_passAgain_63 : decode cX3_passAgain 63 = .ok (.iload_n 2, 1) := by decide +kernel
theorem dX3_passAgain_64 : decode cX3_passAgain 64 = .ok (.iload_n 1, 1) := by decide +kernel
theorem dX3_passAgain_65 : decode cX3_passAgain 65 = .ok (.imul, 1) := by decide +kernel
theorem dX3_passAgain_66 : decode cX3_passAgain 66 = .ok (.invokevirtual 71, 3) := by decide +kernel
theorem dX3_passAgain_69 : decode cX3_passAgain 69 = .ok (.return_, 1) := by decide +kernel
theorem dX3_passMade_0 : decode cX3_passMade 0 = .ok (.aload_n 0, 1) := by decide +kernel
theorem dX3_passMade_1 : decode cX3_passMade 1 = .ok (.getfield 18, 3) := by decide +kernel
theorem dX3_passMade_4 : decode cX3_passMade 4 = .ok (.istore_n 2, 1) := by decide +kernel
theorem dX3_passMade_5 : decode cX3_passMade 5 = .ok (.aload_n 0, 1) := by decide +kernel
theorem dX3_passMade_6 : decode cX3_passMade 6 = .ok (.iconst 2, 1) := by decide +kernel
theorem dX3_passMade_7 : decode cX3_passMade 7 = .ok (.invokevirtual 31, 3) := by decide +kernel
theorem dX3_passMade_10 : decode cX3_passMade 10 = .ok (.istore_n 3, 1) := by decide +kernel
theorem dX3_passMade_11 : decode cX3_passMade 11 = .ok (.iconst 0, 1) := by decide +kernel
theorem dX3_passMade_12 : decode cX3_passMade 12 = .ok (.istore 4, 2) := by decide +kernel
theorem dX3_passMade_14 : decode cX3_passMade 14 = .ok (.iload 4, 2) := by decide +kernel
theorem dX3_passMade_16 : decode cX3_passMade 16 = .ok (.iload_n 3, 1) := by decide +kernel
theorem dX3_passMade_17 : decode cX3_passMade 17 = .ok (.if_icmp .ge 54, 3) := by decide +kernel
theorem dX3_passMade_20 : decode cX3_passMade 20 = .ok (.aload_n 0, 1) := by decide +kernel
theorem dX3_passMade_21 : decode cX3_passMade 21 = .ok (.getfield 25, 3) := by decide +kernel
theorem dX3_passMade_24 : decode cX3_passMade 24 = .ok (.ifCond .ne 47, 3) := by decide +kernel
theorem dX3_passMade_27 : decode cX3_passMade 27 = .ok (.aload_n 0, 1) := by decide +kernel
theorem dX3_passMade_28 : decode cX3_passMade 28 = .ok (.getfield 15, 3) := by decide +kernel
theorem dX3_passMade_31 : decode cX3_passMade 31 = .ok (.iload_n 2, 1) := by decide +kernel
theorem dX3_passMade_32 : decode cX3_passMade 32 = .ok (.iload 4, 2) := by decide +kernel
theorem dX3_passMade_34 : decode cX3_passMade 34 = .ok (.invokestatic 44, 3) := by decide +kernel
theorem dX3_passMade_37 : decode cX3_passMade 37 = .ok (.ifCond .eq 28, 3) := by decide +kernel
theorem dX3_passMade_40 : decode cX3_passMade 40 = .ok (.aload_n 0, 1) := by decide +kernel
theorem dX3_passMade_41 : decode cX3_passMade 41 = .ok (.getfield 59, 3) := by decide +kernel
theorem dX3_passMade_44 : decode cX3_passMade 44 = .ok (.iload_n 1, 1) := by decide +kernel
theorem dX3_passMade_45 : decode cX3_passMade 45 = .ok (.iload 4, 2) := by decide +kernel
theorem dX3_passMade_47 : decode cX3_passMade 47 = .ok (.invokevirtual 83, 3) := by decide +kernel
theorem dX3_passMade_50 : decode cX3_passMade 50 = .ok (.ifCond .ne 15, 3) := by decide +kernel
theorem dX3_passMade_53 : decode cX3_passMade 53 = .ok (.aload_n 0, 1) := by decide +kernel
theorem dX3_passMade_54 : decode cX3_passMade 54 = .ok (.iconst 5, 1) := by decide +kernel
theorem dX3_passMade_55 : decode cX3_passMade 55 = .ok (.iload_n 2, 1) := by decide +kernel
theorem dX3_passMade_56 : decode cX3_passMade 56 = .ok (.iload 4, 2) := by decide +kernel
theorem dX3_passMade_58 : decode cX3_passMade 58 = .ok (.bipush 7, 2) := by decide +kernel
theorem dX3_passMade_60 : decode cX3_passMade 60 = .ok (.idiv, 1) := by decide +kernel
theorem dX3_passMade_61 : decode cX3_passMade 61 = .ok (.iadd, 1) := by decide +kernel
theorem dX3_passMade_62 : decode cX3_passMade 62 = .ok (.invokevirtual 56, 3) := by decide +kernel
theorem dX3_passMade_65 : decode cX3_passMade 65 = .ok (.iinc 4 1, 3) := by decide +kernel
theorem dX3_passMade_68 : decode cX3_passMade 68 = .ok (.goto (-54), 3) := by decide +kernel
theorem dX3_passMade_71 : decode cX3_passMade 71 = .ok (.iconst 0, 1) := by decide +kernel
theorem dX3_passMade_72 : decode cX3_passMade 72 = .ok (.istore 4, 2) := by decide +kernel
theorem dX3_passMade_74 : decode cX3_passMade 74 = .ok (.iload 4, 2) := by decide +kernel
