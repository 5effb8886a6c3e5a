-- printed by the claim's program: decode rows
theorem dX8_isFixed_10 : decode cX8_isFixed 10 = .ok (.iaload, 1) := by decide +kernel
theorem dX8_isFixed_11 : decode cX8_isFixed 11 = .ok (.ifCond .ne 22, 3) := by decide +kernel
theorem dX8_isFixed_14 : decode cX8_isFixed 14 = .ok (.aload_n 0, 1) := by decide +kernel
theorem dX8_isFixed_15 : decode cX8_isFixed 15 = .ok (.getfield 16, 3) := by decide +kernel
theorem dX8_isFixed_18 : decode cX8_isFixed 18 = .ok (.bipush 22, 2) := by decide +kernel
theorem dX8_isFixed_20 : decode cX8_isFixed 20 = .ok (.iload_n 1, 1) := by decide +kernel
theorem dX8_isFixed_21 : decode cX8_isFixed 21 = .ok (.imul, 1) := by decide +kernel
theorem dX8_isFixed_22 : decode cX8_isFixed 22 = .ok (.iload_n 2, 1) := by decide +kernel
theorem dX8_isFixed_23 : decode cX8_isFixed 23 = .ok (.iadd, 1) := by decide +kernel
theorem dX8_isFixed_24 : decode cX8_isFixed 24 = .ok (.iaload, 1) := by decide +kernel
theorem dX8_isFixed_25 : decode cX8_isFixed 25 = .ok (.iload_n 3, 1) := by decide +kernel
theorem dX8_isFixed_26 : decode cX8_isFixed 26 = .ok (.if_icmp .ne 7, 3) := by decide +kernel
theorem dX8_isFixed_29 : decode cX8_isFixed 29 = .ok (.iconst 1, 1) := by decide +kernel
theorem dX8_isFixed_30 : decode cX8_isFixed 30 = .ok (.goto 4, 3) := by decide +kernel
theorem dX8_isFixed_33 : decode cX8_isFixed 33 = .ok (.iconst 0, 1) := by decide +kernel
theorem dX8_isFixed_34 : decode cX8_isFixed 34 = .ok (.ireturn, 1) := by decide +kernel
theorem dX8_tells_0 : decode cX8_tells 0 = .ok (.aload_n 0, 1) := by decide +kernel
theorem dX8_tells_1 : decode cX8_tells 1 = .ok (.iload_n 1, 1) := by decide +kernel
theorem dX8_tells_2 : decode cX8_tells 2 = .ok (.invokevirtual 120, 3) := by decide +kernel
theorem dX8_tells_5 : decode cX8_tells 5 = .ok (.ifCond .eq 37, 3) := by decide +kernel
theorem dX8_tells_8 : decode cX8_tells 8 = .ok (.iload_n 2, 1) := by decide +kernel
theorem dX8_tells_9 : decode cX8_tells 9 = .ok (.invokestatic 124, 3) := by decide +kernel
theorem dX8_tells_12 : decode cX8_tells 12 = .ok (.ifCond .eq 30, 3) := by decide +kernel
theorem dX8_tells_15 : decode cX8_tells 15 = .ok (.iload_n 3, 1) := by decide +kernel
theorem dX8_tells_16 : decode cX8_tells 16 = .ok (.invokestatic 124, 3) := by decide +kernel
theorem dX8_tells_19 : decode cX8_tells 19 = .ok (.ifCond .eq 23, 3) := by decide +kernel
theorem dX8_tells_22 : decode cX8_tells 22 = .ok (.aload_n 0, 1) := by decide +kernel
theorem dX8_tells_23 : decode cX8_tells 23 = .ok (.iload_n 1, 1) := by decide +kernel
theorem dX8_tells_24 : decode cX8_tells 24 = .ok (.iload_n 2, 1) := by decide +kernel
theorem dX8_tells_25 : decode cX8_tells 25 = .ok (.iconst 2, 1) := by decide +kernel
theorem dX8_tells_26 : decode cX8_tells 26 = .ok (.invokevirtual 130, 3) := by decide +kernel
theorem dX8_tells_29 : decode cX8_tells 29 = .ok (.ifCond .eq 13, 3) := by decide +kernel
theorem dX8_tells_32 : decode cX8_tells 32 = .ok (.aload_n 0, 1) := by decide +kernel
theorem dX8_tells_33 : decode cX8_tells 33 = .ok (.iload_n 1, 1) := by decide +kernel
theorem dX8_tells_34 : decode cX8_tells 34 = .ok (.iload_n 3, 1) := by decide +kernel
theorem dX8_tells_35 : decode cX8_tells 35 = .ok (.iconst 4, 1) := by decide +kernel
theorem dX8_tells_36 : decode cX8_tells 36 = .ok (.invokevirtual 130, 3) := by decide +kernel
theorem dX8_tells_39 : decode cX8_tells 39 = .ok (.ifCond .ne 5, 3) := by decide +kernel
theorem dX8_tells_42 : decode cX8_tells 42 = .ok (.iconst (-1), 1) := by decide +kernel
theorem dX8_tells_43 : decode cX8_tells 43 = .ok (.ireturn, 1) := by decide +kernel
theorem dX8_tells_44 : decode cX8_tells 44 = .ok (.aload_n 0, 1) := by decide +kernel
theorem dX8_tells_45 : decode cX8_tells 45 = .ok (.getfield 22, 3) := by decide +kernel
theorem dX8_tells_48 : decode cX8_tells 48 = .ok (.iload_n 1, 1) := by decide +kernel
theorem dX8_tells_49 : decode cX8_tells 49 = .ok (.iload_n 2, 1) := by decide +kernel
theorem dX8_tells_50 : decode cX8_tells 50 = .ok (.iastore, 1) := by decide +kernel
theorem dX8_tells_51 : decode cX8_tells 51 = .ok (.aload_n 0, 1) := by decide +kernel
theorem dX8_tells_52 : decode cX8_tells 52 = .ok (.getfield 25, 3) := by decide +kernel
theorem dX8_tells_55 : decode cX8_tells 55 = .ok (.iload_n 1, 1) := by decide +kernel
theorem dX8_tells_56 : decode cX8_tells 56 = .ok (.iload_n 3, 1) := by decide +kernel
theorem dX8_tells_57 : decode cX8_tells 57 = .ok (.iastore, 1) := by decide +kernel
theorem dX8_tells_58 : decode cX8_tells 58 = .ok (.iconst 1, 1) := by decide +kernel
theorem dX8_tells_59 : decode cX8_tells 59 = .ok (.ireturn, 1) := by decide +kernel
theorem dX8_table_0 : decode cX8_table 0 = .ok (.aload_n 0, 1) := by decide +kernel
theorem dX8_table_1 : decode cX8_table 1 = .ok (.iload_n 1, 1) := by decide +kernel
theorem dX8_table_2 : decode cX8_table 2 = .ok (.invokevirtual 120, 3) := by decide +kernel
theorem dX8_table_5 : decode cX8_table 5 = .ok (.ifCond .eq 20, 3) := by decide +kernel
theorem dX8_table_8 : decode cX8_table 8 = .ok (.iload_n 2, 1) := by decide +kernel
theorem dX8_table_9 : decode cX8_table 9 = .ok (.invokestatic 124, 3) := by decide +kernel
theorem dX8_table_12 : decode cX8_table 12 = .ok (.ifCond .eq 13, 3) := by decide +kernel
theorem dX8_table_15 : decode cX8_table 15 = .ok (.iload_n 3, 1) := by decide +kernel
theorem dX8_table_16 : decode cX8_table 16 = .ok (.iconst 0, 1) := by decide +kernel
theorem dX8_table_17 : decode cX8_table 17 = .ok (.bipush 15, 2) := by decide +kernel
theorem dX8_table_19 : decode cX8_table 19 = .ok (.invokestatic 105, 3) := by decide +kernel
theorem dX8_table_22 : decode cX8_table 22 = .ok (.ifCond .ne 5, 3) := by decide +kernel
theorem dX8_table_25 : decode cX8_table 25 = .ok (.iconst (-1), 1) := by decide +kernel
theorem dX8_table_26 : decode cX8_table 26 = .ok (.ireturn, 1) := by decide +kernel
theorem dX8_table_27 : decode cX8_table 27 = .ok (.bipush 22, 2) := by decide +kernel
theorem dX8_table_29 : decode cX8_table 29 = .ok (.iload_n 1, 1) := by decide +kernel
theorem dX8_table_30 : decode cX8_table 30 = .ok (.imul, 1) := by decide +kernel
theorem dX8_table_31 : decode cX8_table 31 = .ok (.iload_n 2, 1) := by decide +kernel
theorem dX8_table_32 : decode cX8_table 32 = .ok (.iadd, 1) := by decide +kernel
theorem dX8_table_33 : decode cX8_table 33 = .ok (.istore 4, 2) := by decide +kernel
theorem dX8_table_35 : decode cX8_table 35 = .ok (.iload_n 3, 1) := by decide +kernel
theorem dX8_table_36 : decode cX8_table 36 = .ok (.ifCond .ne 13, 3) := by decide +kernel
theorem dX8_table_39 : decode cX8_table 39 = .ok (.aload_n 0, 1) := by decide +kernel
theorem dX8_table_40 : decode cX8_table 40 = .ok (.getfield 13, 3) := by decide +kernel
theorem dX8_table_43 : decode cX8_table 43 = .ok (.iload 4, 2) := by decide +kernel
theorem dX8_table_45 : decode cX8_table 45 = .ok (.iaload, 1) := by decide +kernel
theorem dX8_table_46 : decode cX8_table 46 = .ok (.goto 32, 3) := by decide +kernel
theorem dX8_table_49 : decode cX8_table 49 = .ok (.iload_n 3, 1) := by decide +kernel
theorem dX8_table_50 : decode cX8_table 50 = .ok (.iconst 1, 1) := by decide +kernel
theorem dX8_table_51 : decode cX8_table 51 = .ok (.if_icmp .ne 13, 3) := by decide +kernel
theorem dX8_table_54 : decode cX8_table 54 = .ok (.aload_n 0, 1) := by decide +kernel
theorem dX8_table_55 : decode cX8_table 55 = .ok (.getfield 16, 3) := by decide +kernel
theorem dX8_table_58 : decode cX8_table 58 = .ok (.iload 4, 2) := by decide +kernel
theorem dX8_table_60 : decode cX8_table 60 = .ok (.iaload, 1) := by decide +kernel
theorem dX8_table_61 : decode cX8_table 61 = .ok (.goto 17, 3) := by decide +kernel
theorem dX8_table_64 : decode cX8_table 64 = .ok (.aload_n 0, 1) := by decide +kernel
theorem dX8_table_65 : decode cX8_table 65 = .ok (.getfield 19, 3) := by decide +kernel
theorem dX8_table_68 : decode cX8_table 68 = .ok (.bipush 14, 2) := by decide +kernel
theorem dX8_table_70 : decode cX8_table 70 = .ok (.iload 4, 2) := by decide +kernel
theorem dX8_table_72 : decode cX8_table 72 = .ok (.imul, 1) := by decide +kernel
theorem dX8_table_73 : decode cX8_table 73 = .ok (.iload_n 3, 1) := by decide +kernel
theorem dX8_table_74 : decode cX8_table 74 = .ok (.iadd, 1) := by decide +kernel
theorem dX8_table_75 : decode cX8_table 75 = .ok (.iconst 2, 1) := by decide +kernel
theorem dX8_table_76 : decode cX8_table 76 = .ok (.isub, 1) := by decide +kernel
theorem dX8_table_77 : decode cX8_table 77 = .ok (.iaload, 1) := by decide +kernel
theorem dX8_table_78 : decode cX8_table 78 = .ok (.ireturn, 1) := by decide +kernel
theorem dX8_feed_0 : decode cX8_feed 0 = .ok (.iload_n 3, 1) := by decide +kernel
theorem dX8_feed_1 : decode cX8_feed 1 = .ok (.iconst 1, 1) := by decide +kernel
theorem dX8_feed_2 : decode cX8_feed 2 = .ok (.bipush 8, 2) := by decide +kernel
theorem dX8_feed_4 : decode cX8_feed 4 = .ok (.invokestatic 105, 3) := by decide +kernel
theorem dX8_feed_7 : decode cX8_feed 7 = .ok (.ifCond .ne 5, 3) := by decide +kernel
theorem dX8_feed_10 : decode cX8_feed 10 = .ok (.iconst (-1), 1) := by decide +kernel
theorem dX8_feed_11 : decode cX8_feed 11 = .ok (.ireturn, 1) := by decide +kernel
theorem dX8_feed_12 : decode cX8_feed 12 = .ok (.aload_n 0, 1) := by decide +kernel
theorem dX8_feed_13 : decode cX8_feed 13 = .ok (.getfield 133, 3) := by decide +kernel
theorem dX8_feed_16 : decode cX8_feed 16 = .ok (.iload_n 3, 1) := by decide +kernel
theorem dX8_feed_17 : decode cX8_feed 17 = .ok (.iadd, 1) := by decide +kernel
theorem dX8_feed_18 : decode cX8_feed 18 = .ok (.sipush 300, 3) := by decide +kernel
theorem dX8_feed_21 : decode cX8_feed 21 = .ok (.if_icmp .le 6, 3) := by decide +kernel
theorem dX8_feed_24 : decode cX8_feed 24 = .ok (.bipush (-3), 2) := by decide +kernel
theorem dX8_feed_26 : decode cX8_feed 26 = .ok (.ireturn, 1) := by decide +kernel
theorem dX8_feed_27 : decode cX8_feed 27 = .ok (.iload_n 3, 1) := by decide +kernel
theorem dX8_feed_28 : decode cX8_feed 28 = .ok (.iconst 1, 1) := by decide +kernel
theorem dX8_feed_29 : decode cX8_feed 29 = .ok (.isub, 1) := by decide +kernel
theorem dX8_feed_30 : decode cX8_feed 30 = .ok (.istore 4, 2) := by decide +kernel
theorem dX8_feed_32 : decode cX8_feed 32 = .ok (.iload 4, 2) := by decide +kernel
theorem dX8_feed_34 : decode cX8_feed 34 = .ok (.ifCond .lt 40, 3) := by decide +kernel
theorem dX8_feed_37 : decode cX8_feed 37 = .ok (.aload_n 0, 1) := by decide +kernel
theorem dX8_feed_38 : decode cX8_feed 38 = .ok (.getfield 28, 3) := by decide +kernel
theorem dX8_feed_41 : decode cX8_feed 41 = .ok (.aload_n 0, 1) := by decide +kernel
theorem dX8_feed_42 : decode cX8_feed 42 = .ok (.getfield 133, 3) := by decide +kernel
theorem dX8_feed_45 : decode cX8_feed 45 = .ok (.lload_n 1, 1) := by decide +kernel
theorem dX8_feed_46 : decode cX8_feed 46 = .ok (.bipush 8, 2) := by decide +kernel
theorem dX8_feed_48 : decode cX8_feed 48 = .ok (.iload 4, 2) := by decide +kernel
theorem dX8_feed_50 : decode cX8_feed 50 = .ok (.imul, 1) := by decide +kernel
theorem dX8_feed_51 : decode cX8_feed 51 = .ok (.lshr, 1) := by decide +kernel
theorem dX8_feed_52 : decode cX8_feed 52 = .ok (.l2i, 1) := by decide +kernel
theorem dX8_feed_53 : decode cX8_feed 53 = .ok (.sipush 255, 3) := by decide +kernel
theorem dX8_feed_56 : decode cX8_feed 56 = .ok (.iand, 1) := by decide +kernel
theorem dX8_feed_57 : decode cX8_feed 57 = .ok (.iastore, 1) := by decide +kernel
theorem dX8_feed_58 : decode cX8_feed 58 = .ok (.aload_n 0, 1) := by decide +kernel
theorem dX8_feed_59 : decode cX8_feed 59 = .ok (.dup, 1) := by decide +kernel
theorem dX8_feed_60 : decode cX8_feed 60 = .ok (.getfield 133, 3) := by decide +kernel
theorem dX8_feed_63 : decode cX8_feed 63 = .ok (.iconst 1, 1) := by decide +kernel
theorem dX8_feed_64 : decode cX8_feed 64 = .ok (.iadd, 1) := by decide +kernel
theorem dX8_feed_65 : decode cX8_feed 65 = .ok (.putfield 133, 3) := by decide +kernel
theorem dX8_feed_68 : decode cX8_feed 68 = .ok (.iinc 4 (-1), 3) := by decide +kernel
theorem dX8_feed_71 : decode cX8_feed 71 = .ok (.goto (-39), 3) := by decide +kernel
theorem dX8_feed_74 : decode cX8_feed 74 = .ok (.aload_n 0, 1) := by decide +kernel
theorem dX8_feed_75 : decode cX8_feed 75 = .ok (.getfield 133, 3) := by decide +kernel
theorem dX8_feed_78 : decode cX8_feed 78 = .ok (.ireturn, 1) := by decide +kernel
theorem dX8_tear_0 : decode cX8_tear 0 = .ok (.aload_n 0, 1) := by decide +kernel
theorem dX8_tear_1 : decode cX8_tear 1 = .ok (.getfield 133, 3) := by decide +kernel
theorem dX8_tear_4 : decode cX8_tear 4 = .ok (.istore_n 1, 1) := by decide +kernel
theorem dX8_tear_5 : decode cX8_tear 5 = .ok (.aload_n 0, 1) := by decide +kernel
theorem dX8_tear_6 : decode cX8_tear 6 = .ok (.iconst 0, 1) := by decide +kernel
theorem dX8_tear_7 : decode cX8_tear 7 = .ok (.putfield 133, 3) := by decide +kernel
theorem dX8_tear_10 : decode cX8_tear 10 = .ok (.iload_n 1, 1) := by decide +kernel
theorem dX8_tear_11 : decode cX8_tear 11 = .ok (.ireturn, 1) := by decide +kernel
theorem dX8_tape_0 : decode cX8_tape 0 = .ok (.iload_n 1, 1) := by decide +kernel
theorem dX8_tape_1 : decode cX8_tape 1 = .ok (.iconst 0, 1) := by decide +kernel
theorem dX8_tape_2 : decode cX8_tape 2 = .ok (.aload_n 0, 1) := by decide +kernel
theorem dX8_tape_3 : decode cX8_tape 3 = .ok (.getfield 133, 3) := by decide +kernel
theorem dX8_tape_6 : decode cX8_tape 6 = .ok (.iconst 1, 1) := by decide +kernel
theorem dX8_tape_7 : decode cX8_tape 7 = .ok (.isub, 1) := by decide +kernel
theorem dX8_tape_8 : decode cX8_tape 8 = .ok (.invokestatic 105, 3) := by decide +kernel
theorem dX8_tape_11 : decode cX8_tape 11 = .ok (.ifCond .eq 12, 3) := by decide +kernel
theorem dX8_tape_14 : decode cX8_tape 14 = .ok (.aload_n 0, 1) := by decide +kernel
theorem dX8_tape_15 : decode cX8_tape 15 = .ok (.getfield 28, 3) := by decide +kernel
theorem dX8_tape_18 : decode cX8_tape 18 = .ok (.iload_n 1, 1) := by decide +kernel
theorem dX8_tape_19 : decode cX8_tape 19 = .ok (.iaload, 1) := by decide +kernel
theorem dX8_tape_20 : decode cX8_tape 20 = .ok (.goto 5, 3) := by decide +kernel
theorem dX8_tape_23 : decode cX8_tape 23 = .ok (.bipush (-9), 2) := by decide +kernel
theorem dX8_tape_25 : decode cX8_tape 25 = .ok (.ireturn, 1) := by decide +kernel
theorem dX8_fails_0 : decode cX8_fails 0 = .ok (.aload_n 0, 1) := by decide +kernel
theorem dX8_fails_1 : decode cX8_fails 1 = .ok (.getfield 136, 3) := by decide +kernel
theorem dX8_fails_4 : decode cX8_fails 4 = .ok (.ifCond .ne 13, 3) := by decide +kernel
theorem dX8_fails_7 : decode cX8_fails 7 = .ok (.aload_n 0, 1) := by decide +kernel
theorem dX8_fails_8 : decode cX8_fails 8 = .ok (.iload_n 1, 1) := by decide +kernel
theorem dX8_fails_9 : decode cX8_fails 9 = .ok (.putfield 136, 3) := by decide +kernel
theorem dX8_fails_12 : decode cX8_fails 12 = .ok (.aload_n 0, 1) := by decide +kernel
theorem dX8_fails_13 : decode cX8_fails 13 = .ok (.iload_n 2, 1) := by decide +kernel
theorem dX8_fails_14 : decode cX8_fails 14 = .ok (.putfield 139, 3) := by decide +kernel
theorem dX8_fails_17 : decode cX8_fails 17 = .ok (.return_, 1) := by decide +kernel
theorem dX8_needs_0 : decode cX8_needs 0 = .ok (.aload_n 0, 1) := by decide +kernel
theorem dX8_needs_1 : decode cX8_needs 1 = .ok (.getfield 136, 3) := by decide +kernel
theorem dX8_needs_4 : decode cX8_needs 4 = .ok (.ifCond .ne 25, 3) := by decide +kernel
theorem dX8_needs_7 : decode cX8_needs 7 = .ok (.aload_n 0, 1) := by decide +kernel
theorem dX8_needs_8 : decode cX8_needs 8 = .ok (.getfield 142, 3) := by decide +kernel
theorem dX8_needs_11 : decode cX8_needs 11 = .ok (.iload_n 1, 1) := by decide +kernel
theorem dX8_needs_12 : decode cX8_needs 12 = .ok (.iadd, 1) := by decide +kernel
theorem dX8_needs_13 : decode cX8_needs 13 = .ok (.aload_n 0, 1) := by decide +kernel
theorem dX8_needs_14 : decode cX8_needs 14 = .ok (.getfield 145, 3) := by decide +kernel
theorem dX8_needs_17 : decode cX8_needs 17 = .ok (.if_icmp .le 12, 3) := by decide +kernel
theorem dX8_needs_20 : decode cX8_needs 20 = .ok (.aload_n 0, 1) := by decide +kernel
theorem dX8_needs_21 : decode cX8_needs 21 = .ok (.iconst 3, 1) := by decide +kernel
theorem dX8_needs_22 : decode cX8_needs 22 = .ok (.aload_n 0, 1) := by decide +kernel
theorem dX8_needs_23 : decode cX8_needs 23 = .ok (.getfield 145, 3) := by decide +kernel
theorem dX8_needs_26 : decode cX8_needs 26 = .ok (.invokevirtual 148, 3) := by decide +kernel
theorem dX8_needs_29 : decode cX8_needs 29 = .ok (.aload_n 0, 1) := by decide +kernel
theorem dX8_needs_30 : decode cX8_needs 30 = .ok (.dup, 1) := by decide +kernel
theorem dX8_needs_31 : decode cX8_needs 31 = .ok (.getfield 142, 3) := by decide +kernel
theorem dX8_needs_34 : decode cX8_needs 34 = .ok (.aload_n 0, 1) := by decide +kernel
theorem dX8_needs_35 : decode cX8_needs 35 = .ok (.getfield 136, 3) := by decide +kernel
theorem dX8_needs_38 : decode cX8_needs 38 = .ok (.ifCond .ne 7, 3) := by decide +kernel
theorem dX8_needs_41 : decode cX8_needs 41 = .ok (.iload_n 1, 1) := by decide +kernel
theorem dX8_needs_42 : decode cX8_needs 42 = .ok (.goto 4, 3) := by decide +kernel
theorem dX8_needs_45 : decode cX8_needs 45 = .ok (.iconst 0, 1) := by decide +kernel
theorem dX8_needs_46 : decode cX8_needs 46 = .ok (.iadd, 1) := by decide +kernel
theorem dX8_needs_47 : decode cX8_needs 47 = .ok (.putfield 142, 3) := by decide +kernel
theorem dX8_needs_50 : decode cX8_needs 50 = .ok (.return_, 1) := by decide +kernel
theorem dX8_takes_0 : decode cX8_takes 0 = .ok (.aload_n 0, 1) := by decide +kernel
theorem dX8_takes_1 : decode cX8_takes 1 = .ok (.iconst 1, 1) := by decide +kernel
theorem dX8_takes_2 : decode cX8_takes 2 = .ok (.invokevirtual 152, 3) := by decide +kernel
theorem dX8_takes_5 : decode cX8_takes 5 = .ok (.aload_n 0, 1) := by decide +kernel
theorem dX8_takes_6 : decode cX8_takes 6 = .ok (.getfield 136, 3) := by decide +kernel
theorem dX8_takes_9 : decode cX8_takes 9 = .ok (.ifCond .ne 17, 3) := by decide +kernel
theorem dX8_takes_12 : decode cX8_takes 12 = .ok (.aload_n 0, 1) := by decide +kernel
theorem dX8_takes_13 : decode cX8_takes 13 = .ok (.getfield 28, 3) := by decide +kernel
theorem dX8_takes_16 : decode cX8_takes 16 = .ok (.aload_n 0, 1) := by decide +kernel
theorem dX8_takes_17 : decode cX8_takes 17 = .ok (.getfield 142, 3) := by decide +kernel
theorem dX8_takes_20 : decode cX8_takes 20 = .ok (.iconst 1, 1) := by decide +kernel
theorem dX8_takes_21 : decode cX8_takes 21 = .ok (.isub, 1) := by decide +kernel
theorem dX8_takes_22 : decode cX8_takes 22 = .ok (.iaload, 1) := by decide +kernel
theorem dX8_takes_23 : decode cX8_takes 23 = .ok (.goto 4, 3) := by decide +kernel
theorem dX8_takes_26 : decode cX8_takes 26 = .ok (.iconst 0, 1) := by decide +kernel
theorem dX8_takes_27 : decode cX8_takes 27 = .ok (.ireturn, 1) := by decide +kernel
theorem dX8_isEmptyByte_0 : decode cX8_isEmptyByte 0 = .ok (.iload_n 1, 1) := by decide +kernel
theorem dX8_isEmptyByte_1 : decode cX8_isEmptyByte 1 = .ok (.sipush 254, 3) := by decide +kernel
theorem dX8_isEmptyByte_4 : decode cX8_isEmptyByte 4 = .ok (.iand, 1) := by decide +kernel
theorem dX8_isEmptyByte_5 : decode cX8_isEmptyByte 5 = .ok (.ifCond .ne 7, 3) := by decide +kernel
theorem dX8_isEmptyByte_8 : decode cX8_isEmptyByte 8 = .ok (.iconst 1, 1) := by decide +kernel
theorem dX8_isEmptyByte_9 : decode cX8_isEmptyByte 9 = .ok (.goto 4, 3) := by decide +kernel
theorem dX8_isEmptyByte_12 : decode cX8_isEmptyByte 12 = .ok (.iconst 0, 1) := by decide +kernel
theorem dX8_isEmptyByte_13 : decode cX8_isEmptyByte 13 = .ok (.ireturn, 1) := by decide +kernel
theorem dX8_readBits_0 : decode cX8_readBits 0 = .ok (.aload_n 0, 1) := by decide +kernel
theorem dX8_readBits_1 : decode cX8_readBits 1 = .ok (.aload_n 0, 1) := by decide +kernel
theorem dX8_readBits_2 : decode cX8_readBits 2 = .ok (.getfield 142, 3) := by decide +kernel
theorem dX8_readBits_5 : decode cX8_readBits 5 = .ok (.putfield 156, 3) := by decide +kernel
theorem dX8_readBits_8 : decode cX8_readBits 8 = .ok (.aload_n 0, 1) := by decide +kernel
theorem dX8_readBits_9 : decode cX8_readBits 9 = .ok (.iconst 0, 1) := by decide +kernel
theorem dX8_readBits_10 : decode cX8_readBits 10 = .ok (.putfield 159, 3) := by decide +kernel
theorem dX8_readBits_13 : decode cX8_readBits 13 = .ok (.iconst 1, 1) := by decide +kernel
theorem dX8_readBits_14 : decode cX8_readBits 14 = .ok (.istore_n 2, 1) := by decide +kernel
theorem dX8_readBits_15 : decode cX8_readBits 15 = .ok (.iconst 0, 1) := by decide +kernel
theorem dX8_readBits_16 : decode cX8_readBits 16 = .ok (.istore_n 3, 1) := by decide +kernel
theorem dX8_readBits_17 : decode cX8_readBits 17 = .ok (.iload_n 3, 1) := by decide +kernel
theorem dX8_readBits_18 : decode cX8_readBits 18 = .ok (.bipush 22, 2) := by decide +kernel
theorem dX8_readBits_20 : decode cX8_readBits 20 = .ok (.if_icmp .ge 16, 3) := by decide +kernel
theorem dX8_readBits_23 : decode cX8_readBits 23 = .ok (.aload_n 0, 1) := by decide +kernel
theorem dX8_readBits_24 : decode cX8_readBits 24 = .ok (.getfield 52, 3) := by decide +kernel
theorem dX8_readBits_27 : decode cX8_readBits 27 = .ok (.iload_n 3, 1) := by decide +kernel
theorem dX8_readBits_28 : decode cX8_readBits 28 = .ok (.iconst 0, 1) := by decide +kernel
theorem dX8_readBits_29 : decode cX8_readBits 29 = .ok (.bastore, 1) := by decide +kernel
theorem dX8_readBits_30 : decode cX8_readBits 30 = .ok (.iinc 3 1, 3) := by decide +kernel
theorem dX8_readBits_33 : decode cX8_readBits 33 = .ok (.goto (-16), 3) := by decide +kernel
theorem dX8_readBits_36 : decode cX8_readBits 36 = .ok (.iload_n 2, 1) := by decide +kernel
theorem dX8_readBits_37 : decode cX8_readBits 37 = .ok (.ifCond .eq 139, 3) := by decide +kernel
theorem dX8_readBits_40 : decode cX8_readBits 40 = .ok (.aload_n 0, 1) := by decide +kernel
theorem dX8_readBits_41 : decode cX8_readBits 41 = .ok (.getfield 136, 3) := by decide +kernel
theorem dX8_readBits_44 : decode cX8_readBits 44 = .ok (.ifCond .ne 132, 3) := by decide +kernel
theorem dX8_readBits_47 : decode cX8_readBits 47 = .ok (.aload_n 0, 1) := by decide +kernel
theorem dX8_readBits_48 : decode cX8_readBits 48 = .ok (.getfield 142, 3) := by decide +kernel
theorem dX8_readBits_51 : decode cX8_readBits 51 = .ok (.istore_n 3, 1) := by decide +kernel
theorem dX8_readBits_52 : decode cX8_readBits 52 = .ok (.aload_n 0, 1) := by decide +kernel
theorem dX8_readBits_53 : decode cX8_readBits 53 = .ok (.invokevirtual 162, 3) := by decide +kernel
theorem dX8_readBits_56 : decode cX8_readBits 56 = .ok (.istore 4, 2) := by decide +kernel
theorem dX8_readBits_58 : decode cX8_readBits 58 = .ok (.aload_n 0, 1) := by decide +kernel
theorem dX8_readBits_59 : decode cX8_readBits 59 = .ok (.getfield 136, 3) := by decide +kernel
theorem dX8_readBits_62 : decode cX8_readBits 62 = .ok (.ifCond .ne 111, 3) := by decide +kernel
theorem dX8_readBits_65 : decode cX8_readBits 65 = .ok (.iload 4, 2) := by decide +kernel
theorem dX8_readBits_67 : decode cX8_readBits 67 = .ok (.iconst 1, 1) := by decide +kernel
theorem dX8_readBits_68 : decode cX8_readBits 68 = .ok (.iand, 1) := by decide +kernel
theorem dX8_readBits_69 : decode cX8_readBits 69 = .ok (.iconst 1, 1) := by decide +kernel
theorem dX8_readBits_70 : decode cX8_readBits 70 = .ok (.if_icmp .ne 7, 3) := by decide +kernel
theorem dX8_readBits_73 : decode cX8_readBits 73 = .ok (.iconst 1, 1) := by decide +kernel
theorem dX8_readBits_74 : decode cX8_readBits 74 = .ok (.goto 4, 3) := by decide +kernel
theorem dX8_readBits_77 : decode cX8_readBits 77 = .ok (.iconst 0, 1) := by decide +kernel
theorem dX8_readBits_78 : decode cX8_readBits 78 = .ok (.istore_n 2, 1) := by decide +kernel
theorem dX8_readBits_79 : decode cX8_readBits 79 = .ok (.aload_n 0, 1) := by decide +kernel
theorem dX8_readBits_80 : decode cX8_readBits 80 = .ok (.dup, 1) := by decide +kernel
theorem dX8_readBits_81 : decode cX8_readBits 81 = .ok (.getfield 159, 3) := by decide +kernel
theorem dX8_readBits_84 : decode cX8_readBits 84 = .ok (.iconst 1, 1) := by decide +kernel
theorem dX8_readBits_85 : decode cX8_readBits 85 = .ok (.iadd, 1) := by decide +kernel
theorem dX8_readBits_86 : decode cX8_readBits 86 = .ok (.putfield 159, 3) := by decide +kernel
theorem dX8_readBits_89 : decode cX8_readBits 89 = .ok (.iload_n 2, 1) := by decide +kernel
theorem dX8_readBits_90 : decode cX8_readBits 90 = .ok (.ifCond .eq 11, 3) := by decide +kernel
theorem dX8_readBits_93 : decode cX8_readBits 93 = .ok (.aload_n 0, 1) := by decide +kernel
theorem dX8_readBits_94 : decode cX8_readBits 94 = .ok (.getfield 159, 3) := by decide +kernel
theorem dX8_readBits_97 : decode cX8_readBits 97 = .ok (.iload_n 1, 1) := by decide +kernel
theorem dX8_readBits_98 : decode cX8_readBits 98 = .ok (.if_icmp .eq 16, 3) := by decide +kernel
theorem dX8_readBits_101 : decode cX8_readBits 101 = .ok (.iload_n 2, 1) := by decide +kernel
theorem dX8_readBits_102 : decode cX8_readBits 102 = .ok (.ifCond .ne 18, 3) := by decide +kernel
theorem dX8_readBits_105 : decode cX8_readBits 105 = .ok (.aload_n 0, 1) := by decide +kernel
theorem dX8_readBits_106 : decode cX8_readBits 106 = .ok (.iload 4, 2) := by decide +kernel
theorem dX8_readBits_108 : decode cX8_readBits 108 = .ok (.invokevirtual 166, 3) := by decide +kernel
theorem dX8_readBits_111 : decode cX8_readBits 111 = .ok (.ifCond .eq 9, 3) := by decide +kernel
theorem dX8_readBits_114 : decode cX8_readBits 114 = .ok (.aload_n 0, 1) := by decide +kernel
theorem dX8_readBits_115 : decode cX8_readBits 115 = .ok (.iconst 4, 1) := by decide +kernel
theorem dX8_readBits_116 : decode cX8_readBits 116 = .ok (.iload_n 3, 1) := by decide +kernel
theorem dX8_readBits_117 : decode cX8_readBits 117 = .ok (.invokevirtual 148, 3) := by decide +kernel
theorem dX8_readBits_120 : decode cX8_readBits 120 = .ok (.iconst 0, 1) := by decide +kernel
theorem dX8_readBits_121 : decode cX8_readBits 121 = .ok (.istore 5, 2) := by decide +kernel
theorem dX8_readBits_123 : decode cX8_readBits 123 = .ok (.iload 5, 2) := by decide +kernel
theorem dX8_readBits_125 : decode cX8_readBits 125 = .ok (.bipush 7, 2) := by decide +kernel
theorem dX8_readBits_127 : decode cX8_readBits 127 = .ok (.if_icmp .ge 46, 3) := by decide +kernel
theorem dX8_readBits_130 : decode cX8_readBits 130 = .ok (.aload_n 0, 1) := by decide +kernel
theorem dX8_readBits_131 : decode cX8_readBits 131 = .ok (.getfield 52, 3) := by decide +kernel
theorem dX8_readBits_134 : decode cX8_readBits 134 = .ok (.bipush 7, 2) := by decide +kernel
theorem dX8_readBits_136 : decode cX8_readBits 136 = .ok (.aload_n 0, 1) := by decide +kernel
theorem dX8_readBits_137 : decode cX8_readBits 137 = .ok (.getfield 159, 3) := by decide +kernel
theorem dX8_readBits_140 : decode cX8_readBits 140 = .ok (.imul, 1) := by decide +kernel
theorem dX8_readBits_141 : decode cX8_readBits 141 = .ok (.bipush 6, 2) := by decide +kernel
theorem dX8_readBits_143 : decode cX8_readBits 143 = .ok (.isub, 1) := by decide +kernel
theorem dX8_readBits_144 : decode cX8_readBits 144 = .ok (.iload 5, 2) := by decide +kernel
theorem dX8_readBits_146 : decode cX8_readBits 146 = .ok (.iadd, 1) := by decide +kernel
theorem dX8_readBits_147 : decode cX8_readBits 147 = .ok (.iload 4, 2) := by decide +kernel
theorem dX8_readBits_149 : decode cX8_readBits 149 = .ok (.bipush 7, 2) := by decide +kernel
theorem dX8_readBits_151 : decode cX8_readBits 151 = .ok (.iload 5, 2) := by decide +kernel
theorem dX8_readBits_153 : decode cX8_readBits 153 = .ok (.isub, 1) := by decide +kernel
theorem dX8_readBits_154 : decode cX8_readBits 154 = .ok (.ishr, 1) := by decide +kernel
theorem dX8_readBits_155 : decode cX8_readBits 155 = .ok (.iconst 1, 1) := by decide +kernel
theorem dX8_readBits_156 : decode cX8_readBits 156 = .ok (.iand, 1) := by decide +kernel
theorem dX8_readBits_157 : decode cX8_readBits 157 = .ok (.iconst 1, 1) := by decide +kernel
theorem dX8_readBits_158 : decode cX8_readBits 158 = .ok (.if_icmp .ne 7, 3) := by decide +kernel
theorem dX8_readBits_161 : decode cX8_readBits 161 = .ok (.iconst 1, 1) := by decide +kernel
theorem dX8_readBits_162 : decode cX8_readBits 162 = .ok (.goto 4, 3) := by decide +kernel
theorem dX8_readBits_165 : decode cX8_readBits 165 = .ok (.iconst 0, 1) := by decide +kernel
theorem dX8_readBits_166 : decode cX8_readBits 166 = .ok (.bastore, 1) := by decide +kernel
theorem dX8_readBits_167 : decode cX8_readBits 167 = .ok (.iinc 5 1, 3) := by decide +kernel
theorem dX8_readBits_170 : decode cX8_readBits 170 = .ok (.goto (-47), 3) := by decide +kernel
theorem dX8_readBits_173 : decode cX8_readBits 173 = .ok (.goto (-137), 3) := by decide +kernel
theorem dX8_readBits_176 : decode cX8_readBits 176 = .ok (.return_, 1) := by decide +kernel
theorem dX8_readMade_0 : decode cX8_readMade 0 = .ok (.aload_n 0, 1) := by decide +kernel
theorem dX8_readMade_1 : decode cX8_readMade 1 = .ok (.iconst 2, 1) := by decide +kernel
theorem dX8_readMade_2 : decode cX8_readMade 2 = .ok (.invokevirtual 169, 3) := by decide +kernel
theorem dX8_readMade_5 : decode cX8_readMade 5 = .ok (.iconst 0, 1) := by decide +kernel
theorem dX8_readMade_6 : decode cX8_readMade 6 = .ok (.istore_n 3, 1) := by decide +kernel
theorem dX8_readMade_7 : decode cX8_readMade 7 = .ok (.iload_n 3, 1) := by decide +kernel
theorem dX8_readMade_8 : decode cX8_readMade 8 = .ok (.bipush 14, 2) := by decide +kernel
theorem dX8_readMade_10 : decode cX8_readMade 10 = .ok (.if_icmp .ge 53, 3) := by decide +kernel
theorem dX8_readMade_13 : decode cX8_readMade 13 = .ok (.aload_n 0, 1) := by decide +kernel
theorem dX8_readMade_14 : decode cX8_readMade 14 = .ok (.getfield 52, 3) := by decide +kernel
theorem dX8_readMade_17 : decode cX8_readMade 17 = .ok (.iload_n 3, 1) := by decide +kernel
theorem dX8_readMade_18 : decode cX8_readMade 18 = .ok (.iconst 1, 1) := by decide +kernel
theorem dX8_readMade_19 : decode cX8_readMade 19 = .ok (.iadd, 1) := by decide +kernel
theorem dX8_readMade_20 : decode cX8_readMade 20 = .ok (.baload, 1) := by decide +kernel
theorem dX8_readMade_21 : decode cX8_readMade 21 = .ok (.ifCond .eq 36, 3) := by decide +kernel
theorem dX8_readMade_24 : decode cX8_readMade 24 = .ok (.aload_n 0, 1) := by decide +kernel
theorem dX8_readMade_25 : decode cX8_readMade 25 = .ok (.getfield 19, 3) := by decide +kernel
theorem dX8_readMade_28 : decode cX8_readMade 28 = .ok (.bipush 14, 2) := by decide +kernel
theorem dX8_readMade_30 : decode cX8_readMade 30 = .ok (.bipush 22, 2) := by decide +kernel
theorem dX8_readMade_32 : decode cX8_readMade 32 = .ok (.iload_n 1, 1) := by decide +kernel
theorem dX8_readMade_33 : decode cX8_readMade 33 = .ok (.imul, 1) := by decide +kernel
theorem dX8_readMade_34 : decode cX8_readMade 34 = .ok (.iload_n 2, 1) := by decide +kernel
theorem dX8_readMade_35 : decode cX8_readMade 35 = .ok (.iadd, 1) := by decide +kernel
theorem dX8_readMade_36 : decode cX8_readMade 36 = .ok (.imul, 1) := by decide +kernel
theorem dX8_readMade_37 : decode cX8_readMade 37 = .ok (.iload_n 3, 1) := by decide +kernel
theorem dX8_readMade_38 : decode cX8_readMade 38 = .ok (.iadd, 1) := by decide +kernel
theorem dX8_readMade_39 : decode cX8_readMade 39 = .ok (.iaload, 1) := by decide +kernel
theorem dX8_readMade_40 : decode cX8_readMade 40 = .ok (.ifCond .ne 17, 3) := by decide +kernel
theorem dX8_readMade_43 : decode cX8_readMade 43 = .ok (.aload_n 0, 1) := by decide +kernel
theorem dX8_readMade_44 : decode cX8_readMade 44 = .ok (.iconst 5, 1) := by decide +kernel
theorem dX8_readMade_45 : decode cX8_readMade 45 = .ok (.aload_n 0, 1) := by decide +kernel
theorem dX8_readMade_46 : decode cX8_readMade 46 = .ok (.getfield 156, 3) := by decide +kernel
theorem dX8_readMade_49 : decode cX8_readMade 49 = .ok (.iload_n 3, 1) := by decide +kernel
theorem dX8_readMade_50 : decode cX8_readMade 50 = .ok (.bipush 7, 2) := by decide +kernel
theorem dX8_readMade_52 : decode cX8_readMade 52 = .ok (.idiv, 1) := by decide +kernel
theorem dX8_readMade_53 : decode cX8_readMade 53 = .ok (.iadd, 1) := by decide +kernel
theorem dX8_readMade_54 : decode cX8_readMade 54 = .ok (.invokevirtual 148, 3) := by decide +kernel
theorem dX8_readMade_57 : decode cX8_readMade 57 = .ok (.iinc 3 1, 3) := by decide +kernel
theorem dX8_readMade_60 : decode cX8_readMade 60 = .ok (.goto (-53), 3) := by decide +kernel
theorem dX8_readMade_63 : decode cX8_readMade 63 = .ok (.iconst 0, 1) := by decide +kernel
theorem dX8_readMade_64 : decode cX8_readMade 64 = .ok (.istore_n 3, 1) := by decide +kernel
theorem dX8_readMade_65 : decode cX8_readMade 65 = .ok (.iload_n 3, 1) := by decide +kernel
theorem dX8_readMade_66 : decode cX8_readMade 66 = .ok (.bipush 14, 2) := by decide +kernel
theorem dX8_readMade_68 : decode cX8_readMade 68 = .ok (.if_icmp .ge 40, 3) := by decide +kernel
theorem dX8_readMade_71 : decode cX8_readMade 71 = .ok (.aload_n 0, 1) := by decide +kernel
theorem dX8_readMade_72 : decode cX8_readMade 72 = .ok (.getfield 52, 3) := by decide +kernel
theorem dX8_readMade_75 : decode cX8_readMade 75 = .ok (.iload_n 3, 1) := by decide +kernel
theorem dX8_readMade_76 : decode cX8_readMade 76 = .ok (.iconst 1, 1) := by decide +kernel
theorem dX8_readMade_77 : decode cX8_readMade 77 = .ok (.iadd, 1) := by decide +kernel
theorem dX8_readMade_78 : decode cX8_readMade 78 = .ok (.baload, 1) := by decide +kernel
theorem dX8_readMade_79 : decode cX8_readMade 79 = .ok (.ifCond .eq 23, 3) := by decide +kernel
theorem dX8_readMade_82 : decode cX8_readMade 82 = .ok (.aload_n 0, 1) := by decide +kernel
theorem dX8_readMade_83 : decode cX8_readMade 83 = .ok (.aload_n 0, 1) := by decide +kernel
theorem dX8_readMade_84 : decode cX8_readMade 84 = .ok (.getfield 19, 3) := by decide +kernel
theorem dX8_readMade_87 : decode cX8_readMade 87 = .ok (.bipush 14, 2) := by decide +kernel
theorem dX8_readMade_89 : decode cX8_readMade 89 = .ok (.bipush 22, 2) := by decide +kernel
theorem dX8_readMade_91 : decode cX8_readMade 91 = .ok (.iload_n 1, 1) := by decide +kernel
theorem dX8_readMade_92 : decode cX8_readMade 92 = .ok (.imul, 1) := by decide +kernel
theorem dX8_readMade_93 : decode cX8_readMade 93 = .ok (.iload_n 2, 1) := by decide +kernel
theorem dX8_readMade_94 : decode cX8_readMade 94 = .ok (.iadd, 1) := by decide +kernel
theorem dX8_readMade_95 : decode cX8_readMade 95 = .ok (.imul, 1) := by decide +kernel
theorem dX8_readMade_96 : decode cX8_readMade 96 = .ok (.iload_n 3, 1) := by decide +kernel
theorem dX8_readMade_97 : decode cX8_readMade 97 = .ok (.iadd, 1) := by decide +kernel
theorem dX8_readMade_98 : decode cX8_readMade 98 = .ok (.iaload, 1) := by decide +kernel
theorem dX8_readMade_99 : decode cX8_readMade 99 = .ok (.invokevirtual 152, 3) := by decide +kernel
theorem dX8_readMade_102 : decode cX8_readMade 102 = .ok (.iinc 3 1, 3) := by decide +kernel
theorem dX8_readMade_105 : decode cX8_readMade 105 = .ok (.goto (-40), 3) := by decide +kernel
theorem dX8_readMade_108 : decode cX8_readMade 108 = .ok (.return_, 1) := by decide +kernel
theorem dX8_readGoing_0 : decode cX8_readGoing 0 = .ok (.iconst 0, 1) := by decide +kernel
theorem dX8_readGoing_1 : decode cX8_readGoing 1 = .ok (.istore_n 1, 1) := by decide +kernel
theorem dX8_readGoing_2 : decode cX8_readGoing 2 = .ok (.iconst 1, 1) := by decide +kernel
theorem dX8_readGoing_3 : decode cX8_readGoing 3 = .ok (.istore_n 2, 1) := by decide +kernel
theorem dX8_readGoing_4 : decode cX8_readGoing 4 = .ok (.iload_n 2, 1) := by decide +kernel
theorem dX8_readGoing_5 : decode cX8_readGoing 5 = .ok (.ifCond .eq 54, 3) := by decide +kernel
theorem dX8_readGoing_8 : decode cX8_readGoing 8 = .ok (.aload_n 0, 1) := by decide +kernel
theorem dX8_readGoing_9 : decode cX8_readGoing 9 = .ok (.getfield 136, 3) := by decide +kernel
theorem dX8_readGoing_12 : decode cX8_readGoing 12 = .ok (.ifCond .ne 47, 3) := by decide +kernel
theorem dX8_readGoing_15 : decode cX8_readGoing 15 = .ok (.aload_n 0, 1) := by decide +kernel
theorem dX8_readGoing_16 : decode cX8_readGoing 16 = .ok (.invokevirtual 162, 3) := by decide +kernel
theorem dX8_readGoing_19 : decode cX8_readGoing 19 = .ok (.iconst 1, 1) := by decide +kernel
theorem dX8_readGoing_20 : decode cX8_readGoing 20 = .ok (.iand, 1) := by decide +kernel
theorem dX8_readGoing_21 : decode cX8_readGoing 21 = .ok (.iconst 1, 1) := by decide +kernel
theorem dX8_readGoing_22 : decode cX8_readGoing 22 = .ok (.if_icmp .ne 7, 3) := by decide +kernel
theorem dX8_readGoing_25 : decode cX8_readGoing 25 = .ok (.iconst 1, 1) := by decide +kernel
theorem dX8_readGoing_26 : decode cX8_readGoing 26 = .ok (.goto 4, 3) := by decide +kernel
theorem dX8_readGoing_29 : decode cX8_readGoing 29 = .ok (.iconst 0, 1) := by decide +kernel
theorem dX8_readGoing_30 : decode cX8_readGoing 30 = .ok (.istore_n 2, 1) := by decide +kernel
theorem dX8_readGoing_31 : decode cX8_readGoing 31 = .ok (.iinc 1 1, 3) := by decide +kernel
theorem dX8_readGoing_34 : decode cX8_readGoing 34 = .ok (.iload_n 2, 1) := by decide +kernel
theorem dX8_readGoing_35 : decode cX8_readGoing 35 = .ok (.ifCond .eq (-31), 3) := by decide +kernel
theorem dX8_readGoing_38 : decode cX8_readGoing 38 = .ok (.iload_n 1, 1) := by decide +kernel
theorem dX8_readGoing_39 : decode cX8_readGoing 39 = .ok (.bipush 6, 2) := by decide +kernel
theorem dX8_readGoing_41 : decode cX8_readGoing 41 = .ok (.if_icmp .ne (-37), 3) := by decide +kernel
theorem dX8_readGoing_44 : decode cX8_readGoing 44 = .ok (.aload_n 0, 1) := by decide +kernel
theorem dX8_readGoing_45 : decode cX8_readGoing 45 = .ok (.bipush 7, 2) := by decide +kernel
theorem dX8_readGoing_47 : decode cX8_readGoing 47 = .ok (.aload_n 0, 1) := by decide +kernel
theorem dX8_readGoing_48 : decode cX8_readGoing 48 = .ok (.getfield 142, 3) := by decide +kernel
theorem dX8_readGoing_51 : decode cX8_readGoing 51 = .ok (.iconst 1, 1) := by decide +kernel
theorem dX8_readGoing_52 : decode cX8_readGoing 52 = .ok (.isub, 1) := by decide +kernel
theorem dX8_readGoing_53 : decode cX8_readGoing 53 = .ok (.invokevirtual 148, 3) := by decide +kernel
theorem dX8_readGoing_56 : decode cX8_readGoing 56 = .ok (.goto (-52), 3) := by decide +kernel
theorem dX8_readGoing_59 : decode cX8_readGoing 59 = .ok (.return_, 1) := by decide +kernel
theorem dX8_readItem_0 : decode cX8_readItem 0 = .ok (.aload_n 0, 1) := by decide +kernel
theorem dX8_readItem_1 : decode cX8_readItem 1 = .ok (.getfield 16, 3) := by decide +kernel
theorem dX8_readItem_4 : decode cX8_readItem 4 = .ok (.bipush 22, 2) := by decide +kernel
theorem dX8_readItem_6 : decode cX8_readItem 6 = .ok (.iload_n 1, 1) := by decide +kernel
theorem dX8_readItem_7 : decode cX8_readItem 7 = .ok (.imul, 1) := by decide +kernel
theorem dX8_readItem_8 : decode cX8_readItem 8 = .ok (.iload_n 2, 1) := by decide +kernel
theorem dX8_readItem_9 : decode cX8_readItem 9 = .ok (.iadd, 1) := by decide +kernel
theorem dX8_readItem_10 : decode cX8_readItem 10 = .ok (.iaload, 1) := by decide +kernel
theorem dX8_readItem_11 : decode cX8_readItem 11 = .ok (.istore_n 3, 1) := by decide +kernel
theorem dX8_readItem_12 : decode cX8_readItem 12 = .ok (.aload_n 0, 1) := by decide +kernel
theorem dX8_readItem_13 : decode cX8_readItem 13 = .ok (.getfield 13, 3) := by decide +kernel
theorem dX8_readItem_16 : decode cX8_readItem 16 = .ok (.bipush 22, 2) := by decide +kernel
theorem dX8_readItem_18 : decode cX8_readItem 18 = .ok (.iload_n 1, 1) := by decide +kernel
theorem dX8_readItem_19 : decode cX8_readItem 19 = .ok (.imul, 1) := by decide +kernel
theorem dX8_readItem_20 : decode cX8_readItem 20 = .ok (.iload_n 2, 1) := by decide +kernel
theorem dX8_readItem_21 : decode cX8_readItem 21 = .ok (.iadd, 1) := by decide +kernel
theorem dX8_readItem_22 : decode cX8_readItem 22 = .ok (.iaload, 1) := by decide +kernel
theorem dX8_readItem_23 : decode cX8_readItem 23 = .ok (.tableswitch 86 0 2 #[25, 33, 40], 25) := by decide +kernel
theorem dX8_readItem_48 : decode cX8_readItem 48 = .ok (.aload_n 0, 1) := by decide +kernel
theorem dX8_readItem_49 : decode cX8_readItem 49 = .ok (.iload_n 3, 1) := by decide +kernel
theorem dX8_readItem_50 : decode cX8_readItem 50 = .ok (.invokevirtual 152, 3) := by decide +kernel
theorem dX8_readItem_53 : decode cX8_readItem 53 = .ok (.goto 62, 3) := by decide +kernel
theorem dX8_readItem_56 : decode cX8_readItem 56 = .ok (.aload_n 0, 1) := by decide +kernel
theorem dX8_readItem_57 : decode cX8_readItem 57 = .ok (.invokevirtual 172, 3) := by decide +kernel
theorem dX8_readItem_60 : decode cX8_readItem 60 = .ok (.goto 55, 3) := by decide +kernel
theorem dX8_readItem_63 : decode cX8_readItem 63 = .ok (.aload_n 0, 1) := by decide +kernel
theorem dX8_readItem_64 : decode cX8_readItem 64 = .ok (.invokevirtual 162, 3) := by decide +kernel
theorem dX8_readItem_67 : decode cX8_readItem 67 = .ok (.istore 4, 2) := by decide +kernel
theorem dX8_readItem_69 : decode cX8_readItem 69 = .ok (.aload_n 0, 1) := by decide +kernel
theorem dX8_readItem_70 : decode cX8_readItem 70 = .ok (.getfield 136, 3) := by decide +kernel
theorem dX8_readItem_73 : decode cX8_readItem 73 = .ok (.ifCond .ne 25, 3) := by decide +kernel
theorem dX8_readItem_76 : decode cX8_readItem 76 = .ok (.iload 4, 2) := by decide +kernel
theorem dX8_readItem_78 : decode cX8_readItem 78 = .ok (.iconst 1, 1) := by decide +kernel
theorem dX8_readItem_79 : decode cX8_readItem 79 = .ok (.iconst 5, 1) := by decide +kernel
theorem dX8_readItem_80 : decode cX8_readItem 80 = .ok (.invokestatic 105, 3) := by decide +kernel
theorem dX8_readItem_83 : decode cX8_readItem 83 = .ok (.ifCond .ne 15, 3) := by decide +kernel
theorem dX8_readItem_86 : decode cX8_readItem 86 = .ok (.aload_n 0, 1) := by decide +kernel
theorem dX8_readItem_87 : decode cX8_readItem 87 = .ok (.bipush 6, 2) := by decide +kernel
theorem dX8_readItem_89 : decode cX8_readItem 89 = .ok (.aload_n 0, 1) := by decide +kernel
theorem dX8_readItem_90 : decode cX8_readItem 90 = .ok (.getfield 142, 3) := by decide +kernel
theorem dX8_readItem_93 : decode cX8_readItem 93 = .ok (.iconst 1, 1) := by decide +kernel
theorem dX8_readItem_94 : decode cX8_readItem 94 = .ok (.isub, 1) := by decide +kernel
theorem dX8_readItem_95 : decode cX8_readItem 95 = .ok (.invokevirtual 148, 3) := by decide +kernel
theorem dX8_readItem_98 : decode cX8_readItem 98 = .ok (.aload_n 0, 1) := by decide +kernel
theorem dX8_readItem_99 : decode cX8_readItem 99 = .ok (.iload 4, 2) := by decide +kernel
theorem dX8_readItem_101 : decode cX8_readItem 101 = .ok (.iload_n 3, 1) := by decide +kernel
theorem dX8_readItem_102 : decode cX8_readItem 102 = .ok (.imul, 1) := by decide +kernel
theorem dX8_readItem_103 : decode cX8_readItem 103 = .ok (.invokevirtual 152, 3) := by decide +kernel
theorem dX8_readItem_106 : decode cX8_readItem 106 = .ok (.goto 9, 3) := by decide +kernel
theorem dX8_readItem_109 : decode cX8_readItem 109 = .ok (.aload_n 0, 1) := by decide +kernel
theorem dX8_readItem_110 : decode cX8_readItem 110 = .ok (.iload_n 1, 1) := by decide +kernel
theorem dX8_readItem_111 : decode cX8_readItem 111 = .ok (.iload_n 2, 1) := by decide +kernel
theorem dX8_readItem_112 : decode cX8_readItem 112 = .ok (.invokevirtual 175, 3) := by decide +kernel
theorem dX8_readItem_115 : decode cX8_readItem 115 = .ok (.return_, 1) := by decide +kernel
theorem dX8_readRecord_0 : decode cX8_readRecord 0 = .ok (.aload_n 0, 1) := by decide +kernel
theorem dX8_readRecord_1 : decode cX8_readRecord 1 = .ok (.getfield 142, 3) := by decide +kernel
theorem dX8_readRecord_4 : decode cX8_readRecord 4 = .ok (.istore_n 2, 1) := by decide +kernel
theorem dX8_readRecord_5 : decode cX8_readRecord 5 = .ok (.aload_n 0, 1) := by decide +kernel
theorem dX8_readRecord_6 : decode cX8_readRecord 6 = .ok (.iconst 3, 1) := by decide +kernel
theorem dX8_readRecord_7 : decode cX8_readRecord 7 = .ok (.invokevirtual 169, 3) := by decide +kernel
theorem dX8_readRecord_10 : decode cX8_readRecord 10 = .ok (.aload_n 0, 1) := by decide +kernel
theorem dX8_readRecord_11 : decode cX8_readRecord 11 = .ok (.getfield 178, 3) := by decide +kernel
theorem dX8_readRecord_14 : decode cX8_readRecord 14 = .ok (.bipush 8, 2) := by decide +kernel
theorem dX8_readRecord_16 : decode cX8_readRecord 16 = .ok (.if_icmp .ne 7, 3) := by decide +kernel
theorem dX8_readRecord_19 : decode cX8_readRecord 19 = .ok (.iconst 1, 1) := by decide +kernel
theorem dX8_readRecord_20 : decode cX8_readRecord 20 = .ok (.goto 4, 3) := by decide +kernel
theorem dX8_readRecord_23 : decode cX8_readRecord 23 = .ok (.iconst 0, 1) := by decide +kernel
theorem dX8_readRecord_24 : decode cX8_readRecord 24 = .ok (.istore_n 3, 1) := by decide +kernel
theorem dX8_readRecord_25 : decode cX8_readRecord 25 = .ok (.iload_n 3, 1) := by decide +kernel
theorem dX8_readRecord_26 : decode cX8_readRecord 26 = .ok (.ifCond .eq 28, 3) := by decide +kernel
theorem dX8_readRecord_29 : decode cX8_readRecord 29 = .ok (.aload_n 0, 1) := by decide +kernel
theorem dX8_readRecord_30 : decode cX8_readRecord 30 = .ok (.getfield 136, 3) := by decide +kernel
theorem dX8_readRecord_33 : decode cX8_readRecord 33 = .ok (.ifCond .eq 21, 3) := by decide +kernel
theorem dX8_readRecord_36 : decode cX8_readRecord 36 = .ok (.aload_n 0, 1) := by decide +kernel
theorem dX8_readRecord_37 : decode cX8_readRecord 37 = .ok (.getfield 139, 3) := by decide +kernel
theorem dX8_readRecord_40 : decode cX8_readRecord 40 = .ok (.iload_n 2, 1) := by decide +kernel
theorem dX8_readRecord_41 : decode cX8_readRecord 41 = .ok (.if_icmp .le 13, 3) := by decide +kernel
theorem dX8_readRecord_44 : decode cX8_readRecord 44 = .ok (.aload_n 0, 1) := by decide +kernel
theorem dX8_readRecord_45 : decode cX8_readRecord 45 = .ok (.iconst 0, 1) := by decide +kernel
theorem dX8_readRecord_46 : decode cX8_readRecord 46 = .ok (.putfield 136, 3) := by decide +kernel
theorem dX8_readRecord_49 : decode cX8_readRecord 49 = .ok (.aload_n 0, 1) := by decide +kernel
theorem dX8_readRecord_50 : decode cX8_readRecord 50 = .ok (.iconst 1, 1) := by decide +kernel
theorem dX8_readRecord_51 : decode cX8_readRecord 51 = .ok (.putfield 159, 3) := by decide +kernel
theorem dX8_readRecord_54 : decode cX8_readRecord 54 = .ok (.iconst 1, 1) := by decide +kernel
theorem dX8_readRecord_55 : decode cX8_readRecord 55 = .ok (.istore 4, 2) := by decide +kernel
theorem dX8_readRecord_57 : decode cX8_readRecord 57 = .ok (.iload 4, 2) := by decide +kernel
theorem dX8_readRecord_59 : decode cX8_readRecord 59 = .ok (.bipush 21, 2) := by decide +kernel
theorem dX8_readRecord_61 : decode cX8_readRecord 61 = .ok (.if_icmp .gt 75, 3) := by decide +kernel
theorem dX8_readRecord_64 : decode cX8_readRecord 64 = .ok (.aload_n 0, 1) := by decide +kernel
theorem dX8_readRecord_65 : decode cX8_readRecord 65 = .ok (.getfield 96, 3) := by decide +kernel
theorem dX8_readRecord_68 : decode cX8_readRecord 68 = .ok (.iload 4, 2) := by decide +kernel
theorem dX8_readRecord_70 : decode cX8_readRecord 70 = .ok (.aload_n 0, 1) := by decide +kernel
theorem dX8_readRecord_71 : decode cX8_readRecord 71 = .ok (.getfield 52, 3) := by decide +kernel
theorem dX8_readRecord_74 : decode cX8_readRecord 74 = .ok (.iload 4, 2) := by decide +kernel
theorem dX8_readRecord_76 : decode cX8_readRecord 76 = .ok (.baload, 1) := by decide +kernel
theorem dX8_readRecord_77 : decode cX8_readRecord 77 = .ok (.bastore, 1) := by decide +kernel
theorem dX8_readRecord_78 : decode cX8_readRecord 78 = .ok (.aload_n 0, 1) := by decide +kernel
theorem dX8_readRecord_79 : decode cX8_readRecord 79 = .ok (.getfield 52, 3) := by decide +kernel
theorem dX8_readRecord_82 : decode cX8_readRecord 82 = .ok (.iload 4, 2) := by decide +kernel
theorem dX8_readRecord_84 : decode cX8_readRecord 84 = .ok (.baload, 1) := by decide +kernel
theorem dX8_readRecord_85 : decode cX8_readRecord 85 = .ok (.ifCond .eq 45, 3) := by decide +kernel
theorem dX8_readRecord_88 : decode cX8_readRecord 88 = .ok (.aload_n 0, 1) := by decide +kernel
theorem dX8_readRecord_89 : decode cX8_readRecord 89 = .ok (.getfield 13, 3) := by decide +kernel
theorem dX8_readRecord_92 : decode cX8_readRecord 92 = .ok (.bipush 22, 2) := by decide +kernel
theorem dX8_readRecord_94 : decode cX8_readRecord 94 = .ok (.iload_n 1, 1) := by decide +kernel
theorem dX8_readRecord_95 : decode cX8_readRecord 95 = .ok (.imul, 1) := by decide +kernel
theorem dX8_readRecord_96 : decode cX8_readRecord 96 = .ok (.iload 4, 2) := by decide +kernel
theorem dX8_readRecord_98 : decode cX8_readRecord 98 = .ok (.iadd, 1) := by decide +kernel
theorem dX8_readRecord_99 : decode cX8_readRecord 99 = .ok (.iaload, 1) := by decide +kernel
theorem dX8_readRecord_100 : decode cX8_readRecord 100 = .ok (.bipush (-9), 2) := by decide +kernel
theorem dX8_readRecord_102 : decode cX8_readRecord 102 = .ok (.if_icmp .ne 28, 3) := by decide +kernel
theorem dX8_readRecord_105 : decode cX8_readRecord 105 = .ok (.iload_n 3, 1) := by decide +kernel
theorem dX8_readRecord_106 : decode cX8_readRecord 106 = .ok (.ifCond .eq 10, 3) := by decide +kernel
theorem dX8_readRecord_109 : decode cX8_readRecord 109 = .ok (.iload 4, 2) := by decide +kernel
theorem dX8_readRecord_111 : decode cX8_readRecord 111 = .ok (.bipush 8, 2) := by decide +kernel
theorem dX8_readRecord_113 : decode cX8_readRecord 113 = .ok (.if_icmp .ge 17, 3) := by decide +kernel
theorem dX8_readRecord_116 : decode cX8_readRecord 116 = .ok (.aload_n 0, 1) := by decide +kernel
theorem dX8_readRecord_117 : decode cX8_readRecord 117 = .ok (.iconst 5, 1) := by decide +kernel
theorem dX8_readRecord_118 : decode cX8_readRecord 118 = .ok (.iload_n 2, 1) := by decide +kernel
theorem dX8_readRecord_119 : decode cX8_readRecord 119 = .ok (.iload 4, 2) := by decide +kernel
theorem dX8_readRecord_121 : decode cX8_readRecord 121 = .ok (.iconst 1, 1) := by decide +kernel
theorem dX8_readRecord_122 : decode cX8_readRecord 122 = .ok (.isub, 1) := by decide +kernel
theorem dX8_readRecord_123 : decode cX8_readRecord 123 = .ok (.bipush 7, 2) := by decide +kernel
theorem dX8_readRecord_125 : decode cX8_readRecord 125 = .ok (.idiv, 1) := by decide +kernel
theorem dX8_readRecord_126 : decode cX8_readRecord 126 = .ok (.iadd, 1) := by decide +kernel
theorem dX8_readRecord_127 : decode cX8_readRecord 127 = .ok (.invokevirtual 148, 3) := by decide +kernel
theorem dX8_readRecord_130 : decode cX8_readRecord 130 = .ok (.iinc 4 1, 3) := by decide +kernel
theorem dX8_readRecord_133 : decode cX8_readRecord 133 = .ok (.goto (-76), 3) := by decide +kernel
theorem dX8_readRecord_136 : decode cX8_readRecord 136 = .ok (.iload_n 3, 1) := by decide +kernel
theorem dX8_readRecord_137 : decode cX8_readRecord 137 = .ok (.ifCond .eq 10, 3) := by decide +kernel
theorem dX8_readRecord_140 : decode cX8_readRecord 140 = .ok (.aload_n 0, 1) := by decide +kernel
theorem dX8_readRecord_141 : decode cX8_readRecord 141 = .ok (.bipush 8, 2) := by decide +kernel
theorem dX8_readRecord_143 : decode cX8_readRecord 143 = .ok (.iload_n 2, 1) := by decide +kernel
theorem dX8_readRecord_144 : decode cX8_readRecord 144 = .ok (.invokevirtual 148, 3) := by decide +kernel
theorem dX8_readRecord_147 : decode cX8_readRecord 147 = .ok (.aload_n 0, 1) := by decide +kernel
theorem dX8_readRecord_148 : decode cX8_readRecord 148 = .ok (.getfield 136, 3) := by decide +kernel
theorem dX8_readRecord_151 : decode cX8_readRecord 151 = .ok (.ifCond .eq 4, 3) := by decide +kernel
theorem dX8_readRecord_154 : decode cX8_readRecord 154 = .ok (.return_, 1) := by decide +kernel
theorem dX8_readRecord_155 : decode cX8_readRecord 155 = .ok (.aload_n 0, 1) := by decide +kernel
theorem dX8_readRecord_156 : decode cX8_readRecord 156 = .ok (.getfield 43, 3) := by decide +kernel
theorem dX8_readRecord_159 : decode cX8_readRecord 159 = .ok (.aload_n 0, 1) := by decide +kernel
theorem dX8_readRecord_160 : decode cX8_readRecord 160 = .ok (.getfield 178, 3) := by decide +kernel
theorem dX8_readRecord_163 : decode cX8_readRecord 163 = .ok (.iload_n 2, 1) := by decide +kernel
theorem dX8_readRecord_164 : decode cX8_readRecord 164 = .ok (.iastore, 1) := by decide +kernel
theorem dX8_readRecord_165 : decode cX8_readRecord 165 = .ok (.iconst 1, 1) := by decide +kernel
theorem dX8_readRecord_166 : decode cX8_readRecord 166 = .ok (.istore 4, 2) := by decide +kernel
theorem dX8_readRecord_168 : decode cX8_readRecord 168 = .ok (.iload 4, 2) := by decide +kernel
theorem dX8_readRecord_170 : decode cX8_readRecord 170 = .ok (.bipush 21, 2) := by decide +kernel
theorem dX8_readRecord_172 : decode cX8_readRecord 172 = .ok (.if_icmp .gt 68, 3) := by decide +kernel
theorem dX8_readRecord_175 : decode cX8_readRecord 175 = .ok (.bipush 22, 2) := by decide +kernel
theorem dX8_readRecord_177 : decode cX8_readRecord 177 = .ok (.aload_n 0, 1) := by decide +kernel
theorem dX8_readRecord_178 : decode cX8_readRecord 178 = .ok (.getfield 178, 3) := by decide +kernel
theorem dX8_readRecord_181 : decode cX8_readRecord 181 = .ok (.imul, 1) := by decide +kernel
theorem dX8_readRecord_182 : decode cX8_readRecord 182 = .ok (.iload 4, 2) := by decide +kernel
theorem dX8_readRecord_184 : decode cX8_readRecord 184 = .ok (.iadd, 1) := by decide +kernel
theorem dX8_readRecord_185 : decode cX8_readRecord 185 = .ok (.istore 5, 2) := by decide +kernel
theorem dX8_readRecord_187 : decode cX8_readRecord 187 = .ok (.aload_n 0, 1) := by decide +kernel
theorem dX8_readRecord_188 : decode cX8_readRecord 188 = .ok (.getfield 46, 3) := by decide +kernel
theorem dX8_readRecord_191 : decode cX8_readRecord 191 = .ok (.iload 5, 2) := by decide +kernel
theorem dX8_readRecord_193 : decode cX8_readRecord 193 = .ok (.aload_n 0, 1) := by decide +kernel
theorem dX8_readRecord_194 : decode cX8_readRecord 194 = .ok (.getfield 142, 3) := by decide +kernel
theorem dX8_readRecord_197 : decode cX8_readRecord 197 = .ok (.iastore, 1) := by decide +kernel
theorem dX8_readRecord_198 : decode cX8_readRecord 198 = .ok (.aload_n 0, 1) := by decide +kernel
theorem dX8_readRecord_199 : decode cX8_readRecord 199 = .ok (.getfield 96, 3) := by decide +kernel
theorem dX8_readRecord_202 : decode cX8_readRecord 202 = .ok (.iload 4, 2) := by decide +kernel
theorem dX8_readRecord_204 : decode cX8_readRecord 204 = .ok (.baload, 1) := by decide +kernel
theorem dX8_readRecord_205 : decode cX8_readRecord 205 = .ok (.ifCond .eq 10, 3) := by decide +kernel
theorem dX8_readRecord_208 : decode cX8_readRecord 208 = .ok (.aload_n 0, 1) := by decide +kernel
theorem dX8_readRecord_209 : decode cX8_readRecord 209 = .ok (.iload_n 1, 1) := by decide +kernel
theorem dX8_readRecord_210 : decode cX8_readRecord 210 = .ok (.iload 4, 2) := by decide +kernel
theorem dX8_readRecord_212 : decode cX8_readRecord 212 = .ok (.invokevirtual 181, 3) := by decide +kernel
theorem dX8_readRecord_215 : decode cX8_readRecord 215 = .ok (.aload_n 0, 1) := by decide +kernel
theorem dX8_readRecord_216 : decode cX8_readRecord 216 = .ok (.getfield 49, 3) := by decide +kernel
theorem dX8_readRecord_219 : decode cX8_readRecord 219 = .ok (.iload 5, 2) := by decide +kernel
theorem dX8_readRecord_221 : decode cX8_readRecord 221 = .ok (.aload_n 0, 1) := by decide +kernel
theorem dX8_readRecord_222 : decode cX8_readRecord 222 = .ok (.getfield 142, 3) := by decide +kernel
theorem dX8_readRecord_225 : decode cX8_readRecord 225 = .ok (.aload_n 0, 1) := by decide +kernel
theorem dX8_readRecord_226 : decode cX8_readRecord 226 = .ok (.getfield 46, 3) := by decide +kernel
theorem dX8_readRecord_229 : decode cX8_readRecord 229 = .ok (.iload 5, 2) := by decide +kernel
theorem dX8_readRecord_231 : decode cX8_readRecord 231 = .ok (.iaload, 1) := by decide +kernel
theorem dX8_readRecord_232 : decode cX8_readRecord 232 = .ok (.isub, 1) := by decide +kernel
theorem dX8_readRecord_233 : decode cX8_readRecord 233 = .ok (.iastore, 1) := by decide +kernel
theorem dX8_readRecord_234 : decode cX8_readRecord 234 = .ok (.iinc 4 1, 3) := by decide +kernel
theorem dX8_readRecord_237 : decode cX8_readRecord 237 = .ok (.goto (-69), 3) := by decide +kernel
theorem dX8_readRecord_240 : decode cX8_readRecord 240 = .ok (.aload_n 0, 1) := by decide +kernel
theorem dX8_readRecord_241 : decode cX8_readRecord 241 = .ok (.dup, 1) := by decide +kernel
theorem dX8_readRecord_242 : decode cX8_readRecord 242 = .ok (.getfield 178, 3) := by decide +kernel
theorem dX8_readRecord_245 : decode cX8_readRecord 245 = .ok (.iconst 1, 1) := by decide +kernel
theorem dX8_readRecord_246 : decode cX8_readRecord 246 = .ok (.iadd, 1) := by decide +kernel
theorem dX8_readRecord_247 : decode cX8_readRecord 247 = .ok (.putfield 178, 3) := by decide +kernel
theorem dX8_readRecord_250 : decode cX8_readRecord 250 = .ok (.aload_n 0, 1) := by decide +kernel
theorem dX8_readRecord_251 : decode cX8_readRecord 251 = .ok (.getfield 43, 3) := by decide +kernel
theorem dX8_readRecord_254 : decode cX8_readRecord 254 = .ok (.aload_n 0, 1) := by decide +kernel
theorem dX8_readRecord_255 : decode cX8_readRecord 255 = .ok (.getfield 178, 3) := by decide +kernel
theorem dX8_readRecord_258 : decode cX8_readRecord 258 = .ok (.aload_n 0, 1) := by decide +kernel
theorem dX8_readRecord_259 : decode cX8_readRecord 259 = .ok (.getfield 142, 3) := by decide +kernel
theorem dX8_readRecord_262 : decode cX8_readRecord 262 = .ok (.iastore, 1) := by decide +kernel
theorem dX8_readRecord_263 : decode cX8_readRecord 263 = .ok (.return_, 1) := by decide +kernel
theorem dX8_readBlock_0 : decode cX8_readBlock 0 = .ok (.aload_n 0, 1) := by decide +kernel
theorem dX8_readBlock_1 : decode cX8_readBlock 1 = .ok (.aload_n 0, 1) := by decide +kernel
theorem dX8_readBlock_2 : decode cX8_readBlock 2 = .ok (.getfield 28, 3) := by decide +kernel
theorem dX8_readBlock_5 : decode cX8_readBlock 5 = .ok (.iconst 0, 1) := by decide +kernel
theorem dX8_readBlock_6 : decode cX8_readBlock 6 = .ok (.iaload, 1) := by decide +kernel
theorem dX8_readBlock_7 : decode cX8_readBlock 7 = .ok (.invokevirtual 109, 3) := by decide +kernel
theorem dX8_readBlock_10 : decode cX8_readBlock 10 = .ok (.istore_n 1, 1) := by decide +kernel
theorem dX8_readBlock_11 : decode cX8_readBlock 11 = .ok (.iload_n 1, 1) := by decide +kernel
theorem dX8_readBlock_12 : decode cX8_readBlock 12 = .ok (.ifCond .ge 9, 3) := by decide +kernel
theorem dX8_readBlock_15 : decode cX8_readBlock 15 = .ok (.aload_n 0, 1) := by decide +kernel
theorem dX8_readBlock_16 : decode cX8_readBlock 16 = .ok (.iconst 1, 1) := by decide +kernel
theorem dX8_readBlock_17 : decode cX8_readBlock 17 = .ok (.iconst 0, 1) := by decide +kernel
theorem dX8_readBlock_18 : decode cX8_readBlock 18 = .ok (.invokevirtual 148, 3) := by decide +kernel
theorem dX8_readBlock_21 : decode cX8_readBlock 21 = .ok (.aload_n 0, 1) := by decide +kernel
theorem dX8_readBlock_22 : decode cX8_readBlock 22 = .ok (.getfield 133, 3) := by decide +kernel
theorem dX8_readBlock_25 : decode cX8_readBlock 25 = .ok (.iconst 3, 1) := by decide +kernel
theorem dX8_readBlock_26 : decode cX8_readBlock 26 = .ok (.if_icmp .ge 7, 3) := by decide +kernel
theorem dX8_readBlock_29 : decode cX8_readBlock 29 = .ok (.iconst 0, 1) := by decide +kernel
theorem dX8_readBlock_30 : decode cX8_readBlock 30 = .ok (.goto 19, 3) := by decide +kernel
theorem dX8_readBlock_33 : decode cX8_readBlock 33 = .ok (.aload_n 0, 1) := by decide +kernel
theorem dX8_readBlock_34 : decode cX8_readBlock 34 = .ok (.getfield 28, 3) := by decide +kernel
theorem dX8_readBlock_37 : decode cX8_readBlock 37 = .ok (.iconst 1, 1) := by decide +kernel
theorem dX8_readBlock_38 : decode cX8_readBlock 38 = .ok (.iaload, 1) := by decide +kernel
theorem dX8_readBlock_39 : decode cX8_readBlock 39 = .ok (.bipush 8, 2) := by decide +kernel
theorem dX8_readBlock_41 : decode cX8_readBlock 41 = .ok (.ishl, 1) := by decide +kernel
theorem dX8_readBlock_42 : decode cX8_readBlock 42 = .ok (.aload_n 0, 1) := by decide +kernel
theorem dX8_readBlock_43 : decode cX8_readBlock 43 = .ok (.getfield 28, 3) := by decide +kernel
theorem dX8_readBlock_46 : decode cX8_readBlock 46 = .ok (.iconst 2, 1) := by decide +kernel
theorem dX8_readBlock_47 : decode cX8_readBlock 47 = .ok (.iaload, 1) := by decide +kernel
theorem dX8_readBlock_48 : decode cX8_readBlock 48 = .ok (.ior, 1) := by decide +kernel
theorem dX8_readBlock_49 : decode cX8_readBlock 49 = .ok (.istore_n 2, 1) := by decide +kernel
theorem dX8_readBlock_50 : decode cX8_readBlock 50 = .ok (.iload_n 2, 1) := by decide +kernel
theorem dX8_readBlock_51 : decode cX8_readBlock 51 = .ok (.iconst 4, 1) := by decide +kernel
theorem dX8_readBlock_52 : decode cX8_readBlock 52 = .ok (.if_icmp .lt 11, 3) := by decide +kernel
theorem dX8_readBlock_55 : decode cX8_readBlock 55 = .ok (.iload_n 2, 1) := by decide +kernel
theorem dX8_readBlock_56 : decode cX8_readBlock 56 = .ok (.aload_n 0, 1) := by decide +kernel
theorem dX8_readBlock_57 : decode cX8_readBlock 57 = .ok (.getfield 133, 3) := by decide +kernel
theorem dX8_readBlock_60 : decode cX8_readBlock 60 = .ok (.if_icmp .le 9, 3) := by decide +kernel
theorem dX8_readBlock_63 : decode cX8_readBlock 63 = .ok (.aload_n 0, 1) := by decide +kernel
theorem dX8_readBlock_64 : decode cX8_readBlock 64 = .ok (.iconst 2, 1) := by decide +kernel
theorem dX8_readBlock_65 : decode cX8_readBlock 65 = .ok (.iconst 1, 1) := by decide +kernel
theorem dX8_readBlock_66 : decode cX8_readBlock 66 = .ok (.invokevirtual 148, 3) := by decide +kernel
theorem dX8_readBlock_69 : decode cX8_readBlock 69 = .ok (.aload_n 0, 1) := by decide +kernel
theorem dX8_readBlock_70 : decode cX8_readBlock 70 = .ok (.iconst 3, 1) := by decide +kernel
theorem dX8_readBlock_71 : decode cX8_readBlock 71 = .ok (.putfield 142, 3) := by decide +kernel
theorem dX8_readBlock_74 : decode cX8_readBlock 74 = .ok (.aload_n 0, 1) := by decide +kernel
theorem dX8_readBlock_75 : decode cX8_readBlock 75 = .ok (.iload_n 2, 1) := by decide +kernel
theorem dX8_readBlock_76 : decode cX8_readBlock 76 = .ok (.putfield 145, 3) := by decide +kernel
theorem dX8_readBlock_79 : decode cX8_readBlock 79 = .ok (.aload_n 0, 1) := by decide +kernel
theorem dX8_readBlock_80 : decode cX8_readBlock 80 = .ok (.iconst 0, 1) := by decide +kernel
theorem dX8_readBlock_81 : decode cX8_readBlock 81 = .ok (.putfield 178, 3) := by decide +kernel
theorem dX8_readBlock_84 : decode cX8_readBlock 84 = .ok (.aload_n 0, 1) := by decide +kernel
theorem dX8_readBlock_85 : decode cX8_readBlock 85 = .ok (.getfield 136, 3) := by decide +kernel
theorem dX8_readBlock_88 : decode cX8_readBlock 88 = .ok (.ifCond .ne 22, 3) := by decide +kernel
theorem dX8_readBlock_91 : decode cX8_readBlock 91 = .ok (.aload_n 0, 1) := by decide +kernel
theorem dX8_readBlock_92 : decode cX8_readBlock 92 = .ok (.getfield 142, 3) := by decide +kernel
theorem dX8_readBlock_95 : decode cX8_readBlock 95 = .ok (.aload_n 0, 1) := by decide +kernel
theorem dX8_readBlock_96 : decode cX8_readBlock 96 = .ok (.getfield 145, 3) := by decide +kernel
theorem dX8_readBlock_99 : decode cX8_readBlock 99 = .ok (.if_icmp .ge 11, 3) := by decide +kernel
theorem dX8_readBlock_102 : decode cX8_readBlock 102 = .ok (.aload_n 0, 1) := by decide +kernel
theorem dX8_readBlock_103 : decode cX8_readBlock 103 = .ok (.iload_n 1, 1) := by decide +kernel
theorem dX8_readBlock_104 : decode cX8_readBlock 104 = .ok (.invokevirtual 184, 3) := by decide +kernel
theorem dX8_readBlock_107 : decode cX8_readBlock 107 = .ok (.goto (-23), 3) := by decide +kernel
theorem dX8_readBlock_110 : decode cX8_readBlock 110 = .ok (.iload_n 1, 1) := by decide +kernel
theorem dX8_readBlock_111 : decode cX8_readBlock 111 = .ok (.ireturn, 1) := by decide +kernel
theorem dX8_read_0 : decode cX8_read 0 = .ok (.aload_n 0, 1) := by decide +kernel
theorem dX8_read_1 : decode cX8_read 1 = .ok (.getfield 133, 3) := by decide +kernel
theorem dX8_read_4 : decode cX8_read 4 = .ok (.ifCond .ne 6, 3) := by decide +kernel
theorem dX8_read_7 : decode cX8_read 7 = .ok (.bipush (-2), 2) := by decide +kernel
theorem dX8_read_9 : decode cX8_read 9 = .ok (.ireturn, 1) := by decide +kernel
theorem dX8_read_10 : decode cX8_read 10 = .ok (.aload_n 0, 1) := by decide +kernel
theorem dX8_read_11 : decode cX8_read 11 = .ok (.iconst 0, 1) := by decide +kernel
theorem dX8_read_12 : decode cX8_read 12 = .ok (.putfield 136, 3) := by decide +kernel
theorem dX8_read_15 : decode cX8_read 15 = .ok (.aload_n 0, 1) := by decide +kernel
theorem dX8_read_16 : decode cX8_read 16 = .ok (.invokevirtual 187, 3) := by decide +kernel
