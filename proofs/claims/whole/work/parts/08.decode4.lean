-- printed by the claim's program: decode rows
theorem dX7_count_82 : decode cX7_count 82 = .ok (.getfield 18, 3) := by decide +kernel
theorem dX7_count_85 : decode cX7_count 85 = .ok (.getfield 114, 3) := by decide +kernel
theorem dX7_count_88 : decode cX7_count 88 = .ok (.ireturn, 1) := by decide +kernel
theorem dX7_count_89 : decode cX7_count 89 = .ok (.aload_n 0, 1) := by decide +kernel
theorem dX7_count_90 : decode cX7_count 90 = .ok (.getfield 148, 3) := by decide +kernel
theorem dX7_count_93 : decode cX7_count 93 = .ok (.ireturn, 1) := by decide +kernel
theorem dX7_count_94 : decode cX7_count 94 = .ok (.iconst (-1), 1) := by decide +kernel
theorem dX7_count_95 : decode cX7_count 95 = .ok (.ireturn, 1) := by decide +kernel
theorem dX7_categoryAt_0 : decode cX7_categoryAt 0 = .ok (.iload_n 1, 1) := by decide +kernel
theorem dX7_categoryAt_1 : decode cX7_categoryAt 1 = .ok (.ifCond .lt 11, 3) := by decide +kernel
theorem dX7_categoryAt_4 : decode cX7_categoryAt 4 = .ok (.iload_n 1, 1) := by decide +kernel
theorem dX7_categoryAt_5 : decode cX7_categoryAt 5 = .ok (.aload_n 0, 1) := by decide +kernel
theorem dX7_categoryAt_6 : decode cX7_categoryAt 6 = .ok (.getfield 59, 3) := by decide +kernel
theorem dX7_categoryAt_9 : decode cX7_categoryAt 9 = .ok (.if_icmp .lt 7, 3) := by decide +kernel
theorem dX7_categoryAt_12 : decode cX7_categoryAt 12 = .ok (.aconst_null, 1) := by decide +kernel
theorem dX7_categoryAt_13 : decode cX7_categoryAt 13 = .ok (.goto 9, 3) := by decide +kernel
theorem dX7_categoryAt_16 : decode cX7_categoryAt 16 = .ok (.aload_n 0, 1) := by decide +kernel
theorem dX7_categoryAt_17 : decode cX7_categoryAt 17 = .ok (.getfield 11, 3) := by decide +kernel
theorem dX7_categoryAt_20 : decode cX7_categoryAt 20 = .ok (.iload_n 1, 1) := by decide +kernel
theorem dX7_categoryAt_21 : decode cX7_categoryAt 21 = .ok (.aaload, 1) := by decide +kernel
theorem dX7_categoryAt_22 : decode cX7_categoryAt 22 = .ok (.areturn, 1) := by decide +kernel
theorem dX7_indexOfNumber_0 : decode cX7_indexOfNumber 0 = .ok (.iconst 0, 1) := by decide +kernel
theorem dX7_indexOfNumber_1 : decode cX7_indexOfNumber 1 = .ok (.istore_n 2, 1) := by decide +kernel
theorem dX7_indexOfNumber_2 : decode cX7_indexOfNumber 2 = .ok (.iload_n 2, 1) := by decide +kernel
theorem dX7_indexOfNumber_3 : decode cX7_indexOfNumber 3 = .ok (.aload_n 0, 1) := by decide +kernel
theorem dX7_indexOfNumber_4 : decode cX7_indexOfNumber 4 = .ok (.getfield 59, 3) := by decide +kernel
theorem dX7_indexOfNumber_7 : decode cX7_indexOfNumber 7 = .ok (.if_icmp .ge 24, 3) := by decide +kernel
theorem dX7_indexOfNumber_10 : decode cX7_indexOfNumber 10 = .ok (.aload_n 0, 1) := by decide +kernel
theorem dX7_indexOfNumber_11 : decode cX7_indexOfNumber 11 = .ok (.getfield 11, 3) := by decide +kernel
theorem dX7_indexOfNumber_14 : decode cX7_indexOfNumber 14 = .ok (.iload_n 2, 1) := by decide +kernel
theorem dX7_indexOfNumber_15 : decode cX7_indexOfNumber 15 = .ok (.aaload, 1) := by decide +kernel
theorem dX7_indexOfNumber_16 : decode cX7_indexOfNumber 16 = .ok (.getfield 204, 3) := by decide +kernel
theorem dX7_indexOfNumber_19 : decode cX7_indexOfNumber 19 = .ok (.iload_n 1, 1) := by decide +kernel
theorem dX7_indexOfNumber_20 : decode cX7_indexOfNumber 20 = .ok (.if_icmp .ne 5, 3) := by decide +kernel
theorem dX7_indexOfNumber_23 : decode cX7_indexOfNumber 23 = .ok (.iload_n 2, 1) := by decide +kernel
theorem dX7_indexOfNumber_24 : decode cX7_indexOfNumber 24 = .ok (.ireturn, 1) := by decide +kernel
theorem dX7_indexOfNumber_25 : decode cX7_indexOfNumber 25 = .ok (.iinc 2 1, 3) := by decide +kernel
theorem dX7_indexOfNumber_28 : decode cX7_indexOfNumber 28 = .ok (.goto (-26), 3) := by decide +kernel
theorem dX7_indexOfNumber_31 : decode cX7_indexOfNumber 31 = .ok (.bipush (-9), 2) := by decide +kernel
theorem dX7_indexOfNumber_33 : decode cX7_indexOfNumber 33 = .ok (.ireturn, 1) := by decide +kernel
theorem dX7_isInUse_0 : decode cX7_isInUse 0 = .ok (.aload_n 0, 1) := by decide +kernel
theorem dX7_isInUse_1 : decode cX7_isInUse 1 = .ok (.getfield 34, 3) := by decide +kernel
theorem dX7_isInUse_4 : decode cX7_isInUse 4 = .ok (.getfield 154, 3) := by decide +kernel
theorem dX7_isInUse_7 : decode cX7_isInUse 7 = .ok (.iload_n 1, 1) := by decide +kernel
theorem dX7_isInUse_8 : decode cX7_isInUse 8 = .ok (.if_icmp .eq 14, 3) := by decide +kernel
theorem dX7_isInUse_11 : decode cX7_isInUse 11 = .ok (.aload_n 0, 1) := by decide +kernel
theorem dX7_isInUse_12 : decode cX7_isInUse 12 = .ok (.getfield 44, 3) := by decide +kernel
theorem dX7_isInUse_15 : decode cX7_isInUse 15 = .ok (.getfield 182, 3) := by decide +kernel
theorem dX7_isInUse_18 : decode cX7_isInUse 18 = .ok (.iload_n 1, 1) := by decide +kernel
theorem dX7_isInUse_19 : decode cX7_isInUse 19 = .ok (.if_icmp .ne 7, 3) := by decide +kernel
theorem dX7_isInUse_22 : decode cX7_isInUse 22 = .ok (.iconst 1, 1) := by decide +kernel
theorem dX7_isInUse_23 : decode cX7_isInUse 23 = .ok (.goto 4, 3) := by decide +kernel
theorem dX7_isInUse_26 : decode cX7_isInUse 26 = .ok (.iconst 0, 1) := by decide +kernel
theorem dX7_isInUse_27 : decode cX7_isInUse 27 = .ok (.ireturn, 1) := by decide +kernel
theorem dX7_isRecord_0 : decode cX7_isRecord 0 = .ok (.iload_n 1, 1) := by decide +kernel
theorem dX7_isRecord_1 : decode cX7_isRecord 1 = .ok (.ifCond .lt 18, 3) := by decide +kernel
theorem dX7_isRecord_4 : decode cX7_isRecord 4 = .ok (.iload_n 1, 1) := by decide +kernel
theorem dX7_isRecord_5 : decode cX7_isRecord 5 = .ok (.aload_n 0, 1) := by decide +kernel
theorem dX7_isRecord_6 : decode cX7_isRecord 6 = .ok (.getfield 34, 3) := by decide +kernel
theorem dX7_isRecord_9 : decode cX7_isRecord 9 = .ok (.getfield 151, 3) := by decide +kernel
theorem dX7_isRecord_12 : decode cX7_isRecord 12 = .ok (.if_icmp .ge 7, 3) := by decide +kernel
theorem dX7_isRecord_15 : decode cX7_isRecord 15 = .ok (.iconst 1, 1) := by decide +kernel
theorem dX7_isRecord_16 : decode cX7_isRecord 16 = .ok (.goto 4, 3) := by decide +kernel
theorem dX7_isRecord_19 : decode cX7_isRecord 19 = .ok (.iconst 0, 1) := by decide +kernel
theorem dX7_isRecord_20 : decode cX7_isRecord 20 = .ok (.ireturn, 1) := by decide +kernel
theorem dX7_isPlace_0 : decode cX7_isPlace 0 = .ok (.iload_n 0, 1) := by decide +kernel
theorem dX7_isPlace_1 : decode cX7_isPlace 1 = .ok (.iconst 1, 1) := by decide +kernel
theorem dX7_isPlace_2 : decode cX7_isPlace 2 = .ok (.if_icmp .lt 13, 3) := by decide +kernel
theorem dX7_isPlace_5 : decode cX7_isPlace 5 = .ok (.iload_n 0, 1) := by decide +kernel
theorem dX7_isPlace_6 : decode cX7_isPlace 6 = .ok (.bipush 21, 2) := by decide +kernel
theorem dX7_isPlace_8 : decode cX7_isPlace 8 = .ok (.if_icmp .gt 7, 3) := by decide +kernel
theorem dX7_isPlace_11 : decode cX7_isPlace 11 = .ok (.iconst 1, 1) := by decide +kernel
theorem dX7_isPlace_12 : decode cX7_isPlace 12 = .ok (.goto 4, 3) := by decide +kernel
theorem dX7_isPlace_15 : decode cX7_isPlace 15 = .ok (.iconst 0, 1) := by decide +kernel
theorem dX7_isPlace_16 : decode cX7_isPlace 16 = .ok (.ireturn, 1) := by decide +kernel
theorem dX7_isItem_0 : decode cX7_isItem 0 = .ok (.iload_n 0, 1) := by decide +kernel
theorem dX7_isItem_1 : decode cX7_isItem 1 = .ok (.tableswitch 70 (-1) 3 #[68, 35, 68, 52, 68], 35) := by decide +kernel
theorem dX7_isItem_36 : decode cX7_isItem 36 = .ok (.iload_n 1, 1) := by decide +kernel
theorem dX7_isItem_37 : decode cX7_isItem 37 = .ok (.iconst 1, 1) := by decide +kernel
theorem dX7_isItem_38 : decode cX7_isItem 38 = .ok (.if_icmp .lt 13, 3) := by decide +kernel
theorem dX7_isItem_41 : decode cX7_isItem 41 = .ok (.iload_n 1, 1) := by decide +kernel
theorem dX7_isItem_42 : decode cX7_isItem 42 = .ok (.bipush 8, 2) := by decide +kernel
theorem dX7_isItem_44 : decode cX7_isItem 44 = .ok (.if_icmp .gt 7, 3) := by decide +kernel
theorem dX7_isItem_47 : decode cX7_isItem 47 = .ok (.iconst 1, 1) := by decide +kernel
theorem dX7_isItem_48 : decode cX7_isItem 48 = .ok (.goto 4, 3) := by decide +kernel
theorem dX7_isItem_51 : decode cX7_isItem 51 = .ok (.iconst 0, 1) := by decide +kernel
theorem dX7_isItem_52 : decode cX7_isItem 52 = .ok (.ireturn, 1) := by decide +kernel
theorem dX7_isItem_53 : decode cX7_isItem 53 = .ok (.iload_n 1, 1) := by decide +kernel
theorem dX7_isItem_54 : decode cX7_isItem 54 = .ok (.iconst 1, 1) := by decide +kernel
theorem dX7_isItem_55 : decode cX7_isItem 55 = .ok (.if_icmp .lt 12, 3) := by decide +kernel
theorem dX7_isItem_58 : decode cX7_isItem 58 = .ok (.iload_n 1, 1) := by decide +kernel
theorem dX7_isItem_59 : decode cX7_isItem 59 = .ok (.iconst 4, 1) := by decide +kernel
theorem dX7_isItem_60 : decode cX7_isItem 60 = .ok (.if_icmp .gt 7, 3) := by decide +kernel
theorem dX7_isItem_63 : decode cX7_isItem 63 = .ok (.iconst 1, 1) := by decide +kernel
theorem dX7_isItem_64 : decode cX7_isItem 64 = .ok (.goto 4, 3) := by decide +kernel
theorem dX7_isItem_67 : decode cX7_isItem 67 = .ok (.iconst 0, 1) := by decide +kernel
theorem dX7_isItem_68 : decode cX7_isItem 68 = .ok (.ireturn, 1) := by decide +kernel
theorem dX7_isItem_69 : decode cX7_isItem 69 = .ok (.iconst 1, 1) := by decide +kernel
theorem dX7_isItem_70 : decode cX7_isItem 70 = .ok (.ireturn, 1) := by decide +kernel
theorem dX7_isItem_71 : decode cX7_isItem 71 = .ok (.iconst 0, 1) := by decide +kernel
theorem dX7_isItem_72 : decode cX7_isItem 72 = .ok (.ireturn, 1) := by decide +kernel
theorem dX7_isOne_0 : decode cX7_isOne 0 = .ok (.iload_n 1, 1) := by decide +kernel
theorem dX7_isOne_1 : decode cX7_isOne 1 = .ok (.iload_n 2, 1) := by decide +kernel
theorem dX7_isOne_2 : decode cX7_isOne 2 = .ok (.bipush 7, 2) := by decide +kernel
theorem dX7_isOne_4 : decode cX7_isOne 4 = .ok (.idiv, 1) := by decide +kernel
theorem dX7_isOne_5 : decode cX7_isOne 5 = .ok (.iadd, 1) := by decide +kernel
theorem dX7_isOne_6 : decode cX7_isOne 6 = .ok (.istore_n 3, 1) := by decide +kernel
theorem dX7_isOne_7 : decode cX7_isOne 7 = .ok (.iload_n 3, 1) := by decide +kernel
theorem dX7_isOne_8 : decode cX7_isOne 8 = .ok (.aload_n 0, 1) := by decide +kernel
theorem dX7_isOne_9 : decode cX7_isOne 9 = .ok (.arraylength, 1) := by decide +kernel
theorem dX7_isOne_10 : decode cX7_isOne 10 = .ok (.if_icmp .ge 24, 3) := by decide +kernel
theorem dX7_isOne_13 : decode cX7_isOne 13 = .ok (.aload_n 0, 1) := by decide +kernel
theorem dX7_isOne_14 : decode cX7_isOne 14 = .ok (.iload_n 3, 1) := by decide +kernel
theorem dX7_isOne_15 : decode cX7_isOne 15 = .ok (.iaload, 1) := by decide +kernel
theorem dX7_isOne_16 : decode cX7_isOne 16 = .ok (.bipush 7, 2) := by decide +kernel
theorem dX7_isOne_18 : decode cX7_isOne 18 = .ok (.iload_n 2, 1) := by decide +kernel
theorem dX7_isOne_19 : decode cX7_isOne 19 = .ok (.bipush 7, 2) := by decide +kernel
theorem dX7_isOne_21 : decode cX7_isOne 21 = .ok (.irem, 1) := by decide +kernel
theorem dX7_isOne_22 : decode cX7_isOne 22 = .ok (.isub, 1) := by decide +kernel
theorem dX7_isOne_23 : decode cX7_isOne 23 = .ok (.ishr, 1) := by decide +kernel
theorem dX7_isOne_24 : decode cX7_isOne 24 = .ok (.iconst 1, 1) := by decide +kernel
theorem dX7_isOne_25 : decode cX7_isOne 25 = .ok (.iand, 1) := by decide +kernel
theorem dX7_isOne_26 : decode cX7_isOne 26 = .ok (.iconst 1, 1) := by decide +kernel
theorem dX7_isOne_27 : decode cX7_isOne 27 = .ok (.if_icmp .ne 7, 3) := by decide +kernel
theorem dX7_isOne_30 : decode cX7_isOne 30 = .ok (.iconst 1, 1) := by decide +kernel
theorem dX7_isOne_31 : decode cX7_isOne 31 = .ok (.goto 4, 3) := by decide +kernel
theorem dX7_isOne_34 : decode cX7_isOne 34 = .ok (.iconst 0, 1) := by decide +kernel
theorem dX7_isOne_35 : decode cX7_isOne 35 = .ok (.ireturn, 1) := by decide +kernel
theorem dX7_passBlock_0 : decode cX7_passBlock 0 = .ok (.aload_n 0, 1) := by decide +kernel
theorem dX7_passBlock_1 : decode cX7_passBlock 1 = .ok (.aload_n 0, 1) := by decide +kernel
theorem dX7_passBlock_2 : decode cX7_passBlock 2 = .ok (.getfield 18, 3) := by decide +kernel
theorem dX7_passBlock_5 : decode cX7_passBlock 5 = .ok (.getfield 135, 3) := by decide +kernel
theorem dX7_passBlock_8 : decode cX7_passBlock 8 = .ok (.iconst 0, 1) := by decide +kernel
theorem dX7_passBlock_9 : decode cX7_passBlock 9 = .ok (.iaload, 1) := by decide +kernel
theorem dX7_passBlock_10 : decode cX7_passBlock 10 = .ok (.invokevirtual 55, 3) := by decide +kernel
theorem dX7_passBlock_13 : decode cX7_passBlock 13 = .ok (.istore_n 1, 1) := by decide +kernel
theorem dX7_passBlock_14 : decode cX7_passBlock 14 = .ok (.aload_n 0, 1) := by decide +kernel
theorem dX7_passBlock_15 : decode cX7_passBlock 15 = .ok (.iload_n 1, 1) := by decide +kernel
theorem dX7_passBlock_16 : decode cX7_passBlock 16 = .ok (.invokevirtual 66, 3) := by decide +kernel
theorem dX7_passBlock_19 : decode cX7_passBlock 19 = .ok (.astore_n 2, 1) := by decide +kernel
theorem dX7_passBlock_20 : decode cX7_passBlock 20 = .ok (.aload_n 2, 1) := by decide +kernel
theorem dX7_passBlock_21 : decode cX7_passBlock 21 = .ok (.ifnonnull 13, 3) := by decide +kernel
theorem dX7_passBlock_24 : decode cX7_passBlock 24 = .ok (.aload_n 0, 1) := by decide +kernel
theorem dX7_passBlock_25 : decode cX7_passBlock 25 = .ok (.getfield 27, 3) := by decide +kernel
theorem dX7_passBlock_28 : decode cX7_passBlock 28 = .ok (.iconst 1, 1) := by decide +kernel
theorem dX7_passBlock_29 : decode cX7_passBlock 29 = .ok (.iconst 0, 1) := by decide +kernel
theorem dX7_passBlock_30 : decode cX7_passBlock 30 = .ok (.invokevirtual 278, 3) := by decide +kernel
theorem dX7_passBlock_33 : decode cX7_passBlock 33 = .ok (.return_, 1) := by decide +kernel
theorem dX7_passBlock_34 : decode cX7_passBlock 34 = .ok (.aload_n 0, 1) := by decide +kernel
theorem dX7_passBlock_35 : decode cX7_passBlock 35 = .ok (.getfield 18, 3) := by decide +kernel
theorem dX7_passBlock_38 : decode cX7_passBlock 38 = .ok (.getfield 114, 3) := by decide +kernel
theorem dX7_passBlock_41 : decode cX7_passBlock 41 = .ok (.iconst 3, 1) := by decide +kernel
theorem dX7_passBlock_42 : decode cX7_passBlock 42 = .ok (.if_icmp .ge 7, 3) := by decide +kernel
theorem dX7_passBlock_45 : decode cX7_passBlock 45 = .ok (.iconst 0, 1) := by decide +kernel
theorem dX7_passBlock_46 : decode cX7_passBlock 46 = .ok (.goto 26, 3) := by decide +kernel
theorem dX7_passBlock_49 : decode cX7_passBlock 49 = .ok (.aload_n 0, 1) := by decide +kernel
theorem dX7_passBlock_50 : decode cX7_passBlock 50 = .ok (.getfield 18, 3) := by decide +kernel
theorem dX7_passBlock_53 : decode cX7_passBlock 53 = .ok (.getfield 135, 3) := by decide +kernel
theorem dX7_passBlock_56 : decode cX7_passBlock 56 = .ok (.iconst 1, 1) := by decide +kernel
theorem dX7_passBlock_57 : decode cX7_passBlock 57 = .ok (.iaload, 1) := by decide +kernel
theorem dX7_passBlock_58 : decode cX7_passBlock 58 = .ok (.sipush 256, 3) := by decide +kernel
theorem dX7_passBlock_61 : decode cX7_passBlock 61 = .ok (.imul, 1) := by decide +kernel
theorem dX7_passBlock_62 : decode cX7_passBlock 62 = .ok (.aload_n 0, 1) := by decide +kernel
theorem dX7_passBlock_63 : decode cX7_passBlock 63 = .ok (.getfield 18, 3) := by decide +kernel
theorem dX7_passBlock_66 : decode cX7_passBlock 66 = .ok (.getfield 135, 3) := by decide +kernel
theorem dX7_passBlock_69 : decode cX7_passBlock 69 = .ok (.iconst 2, 1) := by decide +kernel
theorem dX7_passBlock_70 : decode cX7_passBlock 70 = .ok (.iaload, 1) := by decide +kernel
theorem dX7_passBlock_71 : decode cX7_passBlock 71 = .ok (.iadd, 1) := by decide +kernel
theorem dX7_passBlock_72 : decode cX7_passBlock 72 = .ok (.istore_n 3, 1) := by decide +kernel
theorem dX7_passBlock_73 : decode cX7_passBlock 73 = .ok (.iload_n 3, 1) := by decide +kernel
theorem dX7_passBlock_74 : decode cX7_passBlock 74 = .ok (.iconst 4, 1) := by decide +kernel
theorem dX7_passBlock_75 : decode cX7_passBlock 75 = .ok (.if_icmp .lt 14, 3) := by decide +kernel
theorem dX7_passBlock_78 : decode cX7_passBlock 78 = .ok (.iload_n 3, 1) := by decide +kernel
theorem dX7_passBlock_79 : decode cX7_passBlock 79 = .ok (.aload_n 0, 1) := by decide +kernel
theorem dX7_passBlock_80 : decode cX7_passBlock 80 = .ok (.getfield 18, 3) := by decide +kernel
theorem dX7_passBlock_83 : decode cX7_passBlock 83 = .ok (.getfield 114, 3) := by decide +kernel
theorem dX7_passBlock_86 : decode cX7_passBlock 86 = .ok (.if_icmp .le 13, 3) := by decide +kernel
theorem dX7_passBlock_89 : decode cX7_passBlock 89 = .ok (.aload_n 0, 1) := by decide +kernel
theorem dX7_passBlock_90 : decode cX7_passBlock 90 = .ok (.getfield 27, 3) := by decide +kernel
theorem dX7_passBlock_93 : decode cX7_passBlock 93 = .ok (.iconst 2, 1) := by decide +kernel
theorem dX7_passBlock_94 : decode cX7_passBlock 94 = .ok (.iconst 1, 1) := by decide +kernel
theorem dX7_passBlock_95 : decode cX7_passBlock 95 = .ok (.invokevirtual 278, 3) := by decide +kernel
theorem dX7_passBlock_98 : decode cX7_passBlock 98 = .ok (.return_, 1) := by decide +kernel
theorem dX7_passBlock_99 : decode cX7_passBlock 99 = .ok (.aload_n 0, 1) := by decide +kernel
theorem dX7_passBlock_100 : decode cX7_passBlock 100 = .ok (.getfield 38, 3) := by decide +kernel
theorem dX7_passBlock_103 : decode cX7_passBlock 103 = .ok (.iload_n 1, 1) := by decide +kernel
theorem dX7_passBlock_104 : decode cX7_passBlock 104 = .ok (.putfield 154, 3) := by decide +kernel
theorem dX7_passBlock_107 : decode cX7_passBlock 107 = .ok (.aload_n 0, 1) := by decide +kernel
theorem dX7_passBlock_108 : decode cX7_passBlock 108 = .ok (.getfield 27, 3) := by decide +kernel
theorem dX7_passBlock_111 : decode cX7_passBlock 111 = .ok (.aload_n 2, 1) := by decide +kernel
theorem dX7_passBlock_112 : decode cX7_passBlock 112 = .ok (.putfield 183, 3) := by decide +kernel
theorem dX7_passBlock_115 : decode cX7_passBlock 115 = .ok (.aload_n 0, 1) := by decide +kernel
theorem dX7_passBlock_116 : decode cX7_passBlock 116 = .ok (.getfield 27, 3) := by decide +kernel
theorem dX7_passBlock_119 : decode cX7_passBlock 119 = .ok (.iload_n 3, 1) := by decide +kernel
theorem dX7_passBlock_120 : decode cX7_passBlock 120 = .ok (.putfield 138, 3) := by decide +kernel
theorem dX7_passBlock_123 : decode cX7_passBlock 123 = .ok (.aload_n 0, 1) := by decide +kernel
theorem dX7_passBlock_124 : decode cX7_passBlock 124 = .ok (.getfield 27, 3) := by decide +kernel
theorem dX7_passBlock_127 : decode cX7_passBlock 127 = .ok (.iconst 3, 1) := by decide +kernel
theorem dX7_passBlock_128 : decode cX7_passBlock 128 = .ok (.putfield 190, 3) := by decide +kernel
theorem dX7_passBlock_131 : decode cX7_passBlock 131 = .ok (.iconst 0, 1) := by decide +kernel
theorem dX7_passBlock_132 : decode cX7_passBlock 132 = .ok (.istore 4, 2) := by decide +kernel
theorem dX7_passBlock_134 : decode cX7_passBlock 134 = .ok (.iload 4, 2) := by decide +kernel
theorem dX7_passBlock_136 : decode cX7_passBlock 136 = .ok (.bipush 8, 2) := by decide +kernel
theorem dX7_passBlock_138 : decode cX7_passBlock 138 = .ok (.if_icmp .ge 30, 3) := by decide +kernel
theorem dX7_passBlock_141 : decode cX7_passBlock 141 = .ok (.aload_n 0, 1) := by decide +kernel
theorem dX7_passBlock_142 : decode cX7_passBlock 142 = .ok (.getfield 27, 3) := by decide +kernel
theorem dX7_passBlock_145 : decode cX7_passBlock 145 = .ok (.invokevirtual 281, 3) := by decide +kernel
theorem dX7_passBlock_148 : decode cX7_passBlock 148 = .ok (.ifCond .eq 20, 3) := by decide +kernel
theorem dX7_passBlock_151 : decode cX7_passBlock 151 = .ok (.aload_n 0, 1) := by decide +kernel
theorem dX7_passBlock_152 : decode cX7_passBlock 152 = .ok (.getfield 27, 3) := by decide +kernel
theorem dX7_passBlock_155 : decode cX7_passBlock 155 = .ok (.aload_n 0, 1) := by decide +kernel
theorem dX7_passBlock_156 : decode cX7_passBlock 156 = .ok (.getfield 38, 3) := by decide +kernel
theorem dX7_passBlock_159 : decode cX7_passBlock 159 = .ok (.invokevirtual 284, 3) := by decide +kernel
theorem dX7_passBlock_162 : decode cX7_passBlock 162 = .ok (.iinc 4 1, 3) := by decide +kernel
theorem dX7_passBlock_165 : decode cX7_passBlock 165 = .ok (.goto (-31), 3) := by decide +kernel
theorem dX7_passBlock_168 : decode cX7_passBlock 168 = .ok (.aload_n 0, 1) := by decide +kernel
theorem dX7_passBlock_169 : decode cX7_passBlock 169 = .ok (.getfield 27, 3) := by decide +kernel
theorem dX7_passBlock_172 : decode cX7_passBlock 172 = .ok (.invokevirtual 281, 3) := by decide +kernel
theorem dX7_passBlock_175 : decode cX7_passBlock 175 = .ok (.ifCond .eq 10, 3) := by decide +kernel
theorem dX7_passBlock_178 : decode cX7_passBlock 178 = .ok (.aload_n 0, 1) := by decide +kernel
theorem dX7_passBlock_179 : decode cX7_passBlock 179 = .ok (.getfield 27, 3) := by decide +kernel
theorem dX7_passBlock_182 : decode cX7_passBlock 182 = .ok (.invokevirtual 288, 3) := by decide +kernel
theorem dX7_passBlock_185 : decode cX7_passBlock 185 = .ok (.return_, 1) := by decide +kernel
theorem dX7_partNumber_0 : decode cX7_partNumber 0 = .ok (.iconst 1, 1) := by decide +kernel
theorem dX7_partNumber_1 : decode cX7_partNumber 1 = .ok (.aload_n 0, 1) := by decide +kernel
theorem dX7_partNumber_2 : decode cX7_partNumber 2 = .ok (.getfield 34, 3) := by decide +kernel
theorem dX7_partNumber_5 : decode cX7_partNumber 5 = .ok (.getfield 166, 3) := by decide +kernel
theorem dX7_partNumber_8 : decode cX7_partNumber 8 = .ok (.iload_n 3, 1) := by decide +kernel
theorem dX7_partNumber_9 : decode cX7_partNumber 9 = .ok (.iaload, 1) := by decide +kernel
theorem dX7_partNumber_10 : decode cX7_partNumber 10 = .ok (.iconst 1, 1) := by decide +kernel
theorem dX7_partNumber_11 : decode cX7_partNumber 11 = .ok (.iand, 1) := by decide +kernel
theorem dX7_partNumber_12 : decode cX7_partNumber 12 = .ok (.iadd, 1) := by decide +kernel
theorem dX7_partNumber_13 : decode cX7_partNumber 13 = .ok (.istore 5, 2) := by decide +kernel
theorem dX7_partNumber_15 : decode cX7_partNumber 15 = .ok (.iload 4, 2) := by decide +kernel
theorem dX7_partNumber_17 : decode cX7_partNumber 17 = .ok (.iload 5, 2) := by decide +kernel
theorem dX7_partNumber_19 : decode cX7_partNumber 19 = .ok (.bipush 7, 2) := by decide +kernel
theorem dX7_partNumber_21 : decode cX7_partNumber 21 = .ok (.imul, 1) := by decide +kernel
theorem dX7_partNumber_22 : decode cX7_partNumber 22 = .ok (.if_icmp .ge 19, 3) := by decide +kernel
theorem dX7_partNumber_25 : decode cX7_partNumber 25 = .ok (.aload_n 0, 1) := by decide +kernel
theorem dX7_partNumber_26 : decode cX7_partNumber 26 = .ok (.getfield 34, 3) := by decide +kernel
theorem dX7_partNumber_29 : decode cX7_partNumber 29 = .ok (.getfield 166, 3) := by decide +kernel
theorem dX7_partNumber_32 : decode cX7_partNumber 32 = .ok (.iload_n 3, 1) := by decide +kernel
theorem dX7_partNumber_33 : decode cX7_partNumber 33 = .ok (.iload 4, 2) := by decide +kernel
theorem dX7_partNumber_35 : decode cX7_partNumber 35 = .ok (.invokestatic 291, 3) := by decide +kernel
theorem dX7_partNumber_38 : decode cX7_partNumber 38 = .ok (.ifCond .ne 7, 3) := by decide +kernel
theorem dX7_partNumber_41 : decode cX7_partNumber 41 = .ok (.ldc2_w 169, 3) := by decide +kernel
theorem dX7_partNumber_44 : decode cX7_partNumber 44 = .ok (.lreturn, 1) := by decide +kernel
theorem dX7_partNumber_45 : decode cX7_partNumber 45 = .ok (.iload_n 3, 1) := by decide +kernel
theorem dX7_partNumber_46 : decode cX7_partNumber 46 = .ok (.iload 5, 2) := by decide +kernel
theorem dX7_partNumber_48 : decode cX7_partNumber 48 = .ok (.iadd, 1) := by decide +kernel
theorem dX7_partNumber_49 : decode cX7_partNumber 49 = .ok (.istore 6, 2) := by decide +kernel
theorem dX7_partNumber_51 : decode cX7_partNumber 51 = .ok (.iconst 0, 1) := by decide +kernel
theorem dX7_partNumber_52 : decode cX7_partNumber 52 = .ok (.istore 7, 2) := by decide +kernel
theorem dX7_partNumber_54 : decode cX7_partNumber 54 = .ok (.iload 7, 2) := by decide +kernel
theorem dX7_partNumber_56 : decode cX7_partNumber 56 = .ok (.iload 4, 2) := by decide +kernel
theorem dX7_partNumber_58 : decode cX7_partNumber 58 = .ok (.if_icmp .ge 37, 3) := by decide +kernel
theorem dX7_partNumber_61 : decode cX7_partNumber 61 = .ok (.aload_n 0, 1) := by decide +kernel
theorem dX7_partNumber_62 : decode cX7_partNumber 62 = .ok (.getfield 34, 3) := by decide +kernel
theorem dX7_partNumber_65 : decode cX7_partNumber 65 = .ok (.getfield 166, 3) := by decide +kernel
theorem dX7_partNumber_68 : decode cX7_partNumber 68 = .ok (.iload_n 3, 1) := by decide +kernel
theorem dX7_partNumber_69 : decode cX7_partNumber 69 = .ok (.iload 7, 2) := by decide +kernel
theorem dX7_partNumber_71 : decode cX7_partNumber 71 = .ok (.invokestatic 291, 3) := by decide +kernel
theorem dX7_partNumber_74 : decode cX7_partNumber 74 = .ok (.ifCond .eq 15, 3) := by decide +kernel
theorem dX7_partNumber_77 : decode cX7_partNumber 77 = .ok (.iload 6, 2) := by decide +kernel
theorem dX7_partNumber_79 : decode cX7_partNumber 79 = .ok (.aload_n 1, 1) := by decide +kernel
theorem dX7_partNumber_80 : decode cX7_partNumber 80 = .ok (.iload_n 2, 1) := by decide +kernel
theorem dX7_partNumber_81 : decode cX7_partNumber 81 = .ok (.iload 7, 2) := by decide +kernel
theorem dX7_partNumber_83 : decode cX7_partNumber 83 = .ok (.invokevirtual 89, 3) := by decide +kernel
theorem dX7_partNumber_86 : decode cX7_partNumber 86 = .ok (.iadd, 1) := by decide +kernel
theorem dX7_partNumber_87 : decode cX7_partNumber 87 = .ok (.istore 6, 2) := by decide +kernel
theorem dX7_partNumber_89 : decode cX7_partNumber 89 = .ok (.iinc 7 1, 3) := by decide +kernel
theorem dX7_partNumber_92 : decode cX7_partNumber 92 = .ok (.goto (-38), 3) := by decide +kernel
theorem dX7_partNumber_95 : decode cX7_partNumber 95 = .ok (.aload_n 0, 1) := by decide +kernel
theorem dX7_partNumber_96 : decode cX7_partNumber 96 = .ok (.getfield 34, 3) := by decide +kernel
theorem dX7_partNumber_99 : decode cX7_partNumber 99 = .ok (.iload 6, 2) := by decide +kernel
theorem dX7_partNumber_101 : decode cX7_partNumber 101 = .ok (.aload_n 1, 1) := by decide +kernel
theorem dX7_partNumber_102 : decode cX7_partNumber 102 = .ok (.iload_n 2, 1) := by decide +kernel
theorem dX7_partNumber_103 : decode cX7_partNumber 103 = .ok (.iload 4, 2) := by decide +kernel
theorem dX7_partNumber_105 : decode cX7_partNumber 105 = .ok (.invokevirtual 89, 3) := by decide +kernel
theorem dX7_partNumber_108 : decode cX7_partNumber 108 = .ok (.invokevirtual 171, 3) := by decide +kernel
theorem dX7_partNumber_111 : decode cX7_partNumber 111 = .ok (.lreturn, 1) := by decide +kernel
theorem dX8_init_0 : decode cX8_init 0 = .ok (.aload_n 0, 1) := by decide +kernel
theorem dX8_init_1 : decode cX8_init 1 = .ok (.invokespecial 1, 3) := by decide +kernel
theorem dX8_init_4 : decode cX8_init 4 = .ok (.aload_n 0, 1) := by decide +kernel
theorem dX8_init_5 : decode cX8_init 5 = .ok (.iconst 3, 1) := by decide +kernel
theorem dX8_init_6 : decode cX8_init 6 = .ok (.newarray .int, 2) := by decide +kernel
theorem dX8_init_8 : decode cX8_init 8 = .ok (.putfield 7, 3) := by decide +kernel
theorem dX8_init_11 : decode cX8_init 11 = .ok (.aload_n 0, 1) := by decide +kernel
theorem dX8_init_12 : decode cX8_init 12 = .ok (.bipush 66, 2) := by decide +kernel
theorem dX8_init_14 : decode cX8_init 14 = .ok (.newarray .int, 2) := by decide +kernel
theorem dX8_init_16 : decode cX8_init 16 = .ok (.putfield 13, 3) := by decide +kernel
theorem dX8_init_19 : decode cX8_init 19 = .ok (.aload_n 0, 1) := by decide +kernel
theorem dX8_init_20 : decode cX8_init 20 = .ok (.bipush 66, 2) := by decide +kernel
theorem dX8_init_22 : decode cX8_init 22 = .ok (.newarray .int, 2) := by decide +kernel
theorem dX8_init_24 : decode cX8_init 24 = .ok (.putfield 16, 3) := by decide +kernel
theorem dX8_init_27 : decode cX8_init 27 = .ok (.aload_n 0, 1) := by decide +kernel
theorem dX8_init_28 : decode cX8_init 28 = .ok (.sipush 924, 3) := by decide +kernel
theorem dX8_init_31 : decode cX8_init 31 = .ok (.newarray .int, 2) := by decide +kernel
theorem dX8_init_33 : decode cX8_init 33 = .ok (.putfield 19, 3) := by decide +kernel
theorem dX8_init_36 : decode cX8_init 36 = .ok (.aload_n 0, 1) := by decide +kernel
theorem dX8_init_37 : decode cX8_init 37 = .ok (.iconst 3, 1) := by decide +kernel
theorem dX8_init_38 : decode cX8_init 38 = .ok (.newarray .int, 2) := by decide +kernel
theorem dX8_init_40 : decode cX8_init 40 = .ok (.putfield 22, 3) := by decide +kernel
theorem dX8_init_43 : decode cX8_init 43 = .ok (.aload_n 0, 1) := by decide +kernel
theorem dX8_init_44 : decode cX8_init 44 = .ok (.iconst 3, 1) := by decide +kernel
theorem dX8_init_45 : decode cX8_init 45 = .ok (.newarray .int, 2) := by decide +kernel
theorem dX8_init_47 : decode cX8_init 47 = .ok (.putfield 25, 3) := by decide +kernel
theorem dX8_init_50 : decode cX8_init 50 = .ok (.aload_n 0, 1) := by decide +kernel
theorem dX8_init_51 : decode cX8_init 51 = .ok (.sipush 300, 3) := by decide +kernel
theorem dX8_init_54 : decode cX8_init 54 = .ok (.newarray .int, 2) := by decide +kernel
theorem dX8_init_56 : decode cX8_init 56 = .ok (.putfield 28, 3) := by decide +kernel
theorem dX8_init_59 : decode cX8_init 59 = .ok (.aload_n 0, 1) := by decide +kernel
theorem dX8_init_60 : decode cX8_init 60 = .ok (.sipush 300, 3) := by decide +kernel
theorem dX8_init_63 : decode cX8_init 63 = .ok (.newarray .int, 2) := by decide +kernel
theorem dX8_init_65 : decode cX8_init 65 = .ok (.putfield 31, 3) := by decide +kernel
theorem dX8_init_68 : decode cX8_init 68 = .ok (.aload_n 0, 1) := by decide +kernel
theorem dX8_init_69 : decode cX8_init 69 = .ok (.bipush 9, 2) := by decide +kernel
theorem dX8_init_71 : decode cX8_init 71 = .ok (.newarray .int, 2) := by decide +kernel
theorem dX8_init_73 : decode cX8_init 73 = .ok (.putfield 34, 3) := by decide +kernel
theorem dX8_init_76 : decode cX8_init 76 = .ok (.aload_n 0, 1) := by decide +kernel
theorem dX8_init_77 : decode cX8_init 77 = .ok (.sipush 176, 3) := by decide +kernel
theorem dX8_init_80 : decode cX8_init 80 = .ok (.newarray .int, 2) := by decide +kernel
theorem dX8_init_82 : decode cX8_init 82 = .ok (.putfield 37, 3) := by decide +kernel
theorem dX8_init_85 : decode cX8_init 85 = .ok (.aload_n 0, 1) := by decide +kernel
theorem dX8_init_86 : decode cX8_init 86 = .ok (.sipush 176, 3) := by decide +kernel
theorem dX8_init_89 : decode cX8_init 89 = .ok (.newarray .int, 2) := by decide +kernel
theorem dX8_init_91 : decode cX8_init 91 = .ok (.putfield 40, 3) := by decide +kernel
theorem dX8_init_94 : decode cX8_init 94 = .ok (.aload_n 0, 1) := by decide +kernel
theorem dX8_init_95 : decode cX8_init 95 = .ok (.bipush 9, 2) := by decide +kernel
theorem dX8_init_97 : decode cX8_init 97 = .ok (.newarray .int, 2) := by decide +kernel
theorem dX8_init_99 : decode cX8_init 99 = .ok (.putfield 43, 3) := by decide +kernel
theorem dX8_init_102 : decode cX8_init 102 = .ok (.aload_n 0, 1) := by decide +kernel
theorem dX8_init_103 : decode cX8_init 103 = .ok (.sipush 176, 3) := by decide +kernel
theorem dX8_init_106 : decode cX8_init 106 = .ok (.newarray .int, 2) := by decide +kernel
theorem dX8_init_108 : decode cX8_init 108 = .ok (.putfield 46, 3) := by decide +kernel
theorem dX8_init_111 : decode cX8_init 111 = .ok (.aload_n 0, 1) := by decide +kernel
theorem dX8_init_112 : decode cX8_init 112 = .ok (.sipush 176, 3) := by decide +kernel
theorem dX8_init_115 : decode cX8_init 115 = .ok (.newarray .int, 2) := by decide +kernel
theorem dX8_init_117 : decode cX8_init 117 = .ok (.putfield 49, 3) := by decide +kernel
theorem dX8_init_120 : decode cX8_init 120 = .ok (.aload_n 0, 1) := by decide +kernel
theorem dX8_init_121 : decode cX8_init 121 = .ok (.bipush 22, 2) := by decide +kernel
theorem dX8_init_123 : decode cX8_init 123 = .ok (.newarray .boolean, 2) := by decide +kernel
theorem dX8_init_125 : decode cX8_init 125 = .ok (.putfield 52, 3) := by decide +kernel
theorem dX8_init_128 : decode cX8_init 128 = .ok (.aload_n 0, 1) := by decide +kernel
theorem dX8_init_129 : decode cX8_init 129 = .ok (.iconst (-1), 1) := by decide +kernel
theorem dX8_init_130 : decode cX8_init 130 = .ok (.putfield 56, 3) := by decide +kernel
theorem dX8_init_133 : decode cX8_init 133 = .ok (.aload_n 0, 1) := by decide +kernel
theorem dX8_init_134 : decode cX8_init 134 = .ok (.bipush 22, 2) := by decide +kernel
theorem dX8_init_136 : decode cX8_init 136 = .ok (.newarray .int, 2) := by decide +kernel
theorem dX8_init_138 : decode cX8_init 138 = .ok (.putfield 60, 3) := by decide +kernel
theorem dX8_init_141 : decode cX8_init 141 = .ok (.aload_n 0, 1) := by decide +kernel
theorem dX8_init_142 : decode cX8_init 142 = .ok (.sipush 1320, 3) := by decide +kernel
theorem dX8_init_145 : decode cX8_init 145 = .ok (.newarray .int, 2) := by decide +kernel
theorem dX8_init_147 : decode cX8_init 147 = .ok (.putfield 63, 3) := by decide +kernel
theorem dX8_init_150 : decode cX8_init 150 = .ok (.aload_n 0, 1) := by decide +kernel
theorem dX8_init_151 : decode cX8_init 151 = .ok (.bipush 12, 2) := by decide +kernel
theorem dX8_init_153 : decode cX8_init 153 = .ok (.newarray .int, 2) := by decide +kernel
theorem dX8_init_155 : decode cX8_init 155 = .ok (.putfield 66, 3) := by decide +kernel
theorem dX8_init_158 : decode cX8_init 158 = .ok (.aload_n 0, 1) := by decide +kernel
theorem dX8_init_159 : decode cX8_init 159 = .ok (.bipush 12, 2) := by decide +kernel
theorem dX8_init_161 : decode cX8_init 161 = .ok (.newarray .int, 2) := by decide +kernel
theorem dX8_init_163 : decode cX8_init 163 = .ok (.putfield 69, 3) := by decide +kernel
theorem dX8_init_166 : decode cX8_init 166 = .ok (.aload_n 0, 1) := by decide +kernel
theorem dX8_init_167 : decode cX8_init 167 = .ok (.bipush 12, 2) := by decide +kernel
theorem dX8_init_169 : decode cX8_init 169 = .ok (.newarray .int, 2) := by decide +kernel
theorem dX8_init_171 : decode cX8_init 171 = .ok (.putfield 72, 3) := by decide +kernel
theorem dX8_init_174 : decode cX8_init 174 = .ok (.aload_n 0, 1) := by decide +kernel
theorem dX8_init_175 : decode cX8_init 175 = .ok (.bipush 12, 2) := by decide +kernel
theorem dX8_init_177 : decode cX8_init 177 = .ok (.newarray .int, 2) := by decide +kernel
theorem dX8_init_179 : decode cX8_init 179 = .ok (.putfield 75, 3) := by decide +kernel
theorem dX8_init_182 : decode cX8_init 182 = .ok (.aload_n 0, 1) := by decide +kernel
theorem dX8_init_183 : decode cX8_init 183 = .ok (.bipush 12, 2) := by decide +kernel
theorem dX8_init_185 : decode cX8_init 185 = .ok (.newarray .int, 2) := by decide +kernel
theorem dX8_init_187 : decode cX8_init 187 = .ok (.putfield 78, 3) := by decide +kernel
theorem dX8_init_190 : decode cX8_init 190 = .ok (.aload_n 0, 1) := by decide +kernel
theorem dX8_init_191 : decode cX8_init 191 = .ok (.bipush 12, 2) := by decide +kernel
theorem dX8_init_193 : decode cX8_init 193 = .ok (.newarray .int, 2) := by decide +kernel
theorem dX8_init_195 : decode cX8_init 195 = .ok (.putfield 81, 3) := by decide +kernel
theorem dX8_init_198 : decode cX8_init 198 = .ok (.aload_n 0, 1) := by decide +kernel
theorem dX8_init_199 : decode cX8_init 199 = .ok (.bipush 12, 2) := by decide +kernel
theorem dX8_init_201 : decode cX8_init 201 = .ok (.newarray .int, 2) := by decide +kernel
theorem dX8_init_203 : decode cX8_init 203 = .ok (.putfield 84, 3) := by decide +kernel
theorem dX8_init_206 : decode cX8_init 206 = .ok (.aload_n 0, 1) := by decide +kernel
theorem dX8_init_207 : decode cX8_init 207 = .ok (.bipush 12, 2) := by decide +kernel
theorem dX8_init_209 : decode cX8_init 209 = .ok (.newarray .int, 2) := by decide +kernel
theorem dX8_init_211 : decode cX8_init 211 = .ok (.putfield 87, 3) := by decide +kernel
theorem dX8_init_214 : decode cX8_init 214 = .ok (.aload_n 0, 1) := by decide +kernel
theorem dX8_init_215 : decode cX8_init 215 = .ok (.bipush 12, 2) := by decide +kernel
theorem dX8_init_217 : decode cX8_init 217 = .ok (.newarray .int, 2) := by decide +kernel
theorem dX8_init_219 : decode cX8_init 219 = .ok (.putfield 90, 3) := by decide +kernel
theorem dX8_init_222 : decode cX8_init 222 = .ok (.aload_n 0, 1) := by decide +kernel
theorem dX8_init_223 : decode cX8_init 223 = .ok (.bipush 12, 2) := by decide +kernel
theorem dX8_init_225 : decode cX8_init 225 = .ok (.newarray .int, 2) := by decide +kernel
theorem dX8_init_227 : decode cX8_init 227 = .ok (.putfield 93, 3) := by decide +kernel
theorem dX8_init_230 : decode cX8_init 230 = .ok (.aload_n 0, 1) := by decide +kernel
theorem dX8_init_231 : decode cX8_init 231 = .ok (.bipush 22, 2) := by decide +kernel
theorem dX8_init_233 : decode cX8_init 233 = .ok (.newarray .boolean, 2) := by decide +kernel
theorem dX8_init_235 : decode cX8_init 235 = .ok (.putfield 96, 3) := by decide +kernel
theorem dX8_init_238 : decode cX8_init 238 = .ok (.aload_n 0, 1) := by decide +kernel
theorem dX8_init_239 : decode cX8_init 239 = .ok (.bipush (-9), 2) := by decide +kernel
theorem dX8_init_241 : decode cX8_init 241 = .ok (.putfield 99, 3) := by decide +kernel
theorem dX8_init_244 : decode cX8_init 244 = .ok (.return_, 1) := by decide +kernel
theorem dX8_in_0 : decode cX8_in 0 = .ok (.iload_n 0, 1) := by decide +kernel
theorem dX8_in_1 : decode cX8_in 1 = .ok (.iload_n 1, 1) := by decide +kernel
theorem dX8_in_2 : decode cX8_in 2 = .ok (.if_icmp .lt 12, 3) := by decide +kernel
theorem dX8_in_5 : decode cX8_in 5 = .ok (.iload_n 0, 1) := by decide +kernel
theorem dX8_in_6 : decode cX8_in 6 = .ok (.iload_n 2, 1) := by decide +kernel
theorem dX8_in_7 : decode cX8_in 7 = .ok (.if_icmp .gt 7, 3) := by decide +kernel
theorem dX8_in_10 : decode cX8_in 10 = .ok (.iconst 1, 1) := by decide +kernel
theorem dX8_in_11 : decode cX8_in 11 = .ok (.goto 4, 3) := by decide +kernel
theorem dX8_in_14 : decode cX8_in 14 = .ok (.iconst 0, 1) := by decide +kernel
theorem dX8_in_15 : decode cX8_in 15 = .ok (.ireturn, 1) := by decide +kernel
theorem dX8_isCategory_0 : decode cX8_isCategory 0 = .ok (.iload_n 1, 1) := by decide +kernel
theorem dX8_isCategory_1 : decode cX8_isCategory 1 = .ok (.iconst 0, 1) := by decide +kernel
theorem dX8_isCategory_2 : decode cX8_isCategory 2 = .ok (.aload_n 0, 1) := by decide +kernel
theorem dX8_isCategory_3 : decode cX8_isCategory 3 = .ok (.getfield 102, 3) := by decide +kernel
theorem dX8_isCategory_6 : decode cX8_isCategory 6 = .ok (.iconst 1, 1) := by decide +kernel
theorem dX8_isCategory_7 : decode cX8_isCategory 7 = .ok (.isub, 1) := by decide +kernel
theorem dX8_isCategory_8 : decode cX8_isCategory 8 = .ok (.invokestatic 105, 3) := by decide +kernel
theorem dX8_isCategory_11 : decode cX8_isCategory 11 = .ok (.ireturn, 1) := by decide +kernel
theorem dX8_isPlace_0 : decode cX8_isPlace 0 = .ok (.iload_n 0, 1) := by decide +kernel
theorem dX8_isPlace_1 : decode cX8_isPlace 1 = .ok (.iconst 1, 1) := by decide +kernel
theorem dX8_isPlace_2 : decode cX8_isPlace 2 = .ok (.bipush 21, 2) := by decide +kernel
theorem dX8_isPlace_4 : decode cX8_isPlace 4 = .ok (.invokestatic 105, 3) := by decide +kernel
theorem dX8_isPlace_7 : decode cX8_isPlace 7 = .ok (.ireturn, 1) := by decide +kernel
theorem dX8_category_0 : decode cX8_category 0 = .ok (.iload_n 1, 1) := by decide +kernel
theorem dX8_category_1 : decode cX8_category 1 = .ok (.iconst 1, 1) := by decide +kernel
theorem dX8_category_2 : decode cX8_category 2 = .ok (.sipush 255, 3) := by decide +kernel
theorem dX8_category_5 : decode cX8_category 5 = .ok (.invokestatic 105, 3) := by decide +kernel
theorem dX8_category_8 : decode cX8_category 8 = .ok (.ifCond .eq 11, 3) := by decide +kernel
theorem dX8_category_11 : decode cX8_category 11 = .ok (.aload_n 0, 1) := by decide +kernel
theorem dX8_category_12 : decode cX8_category 12 = .ok (.iload_n 1, 1) := by decide +kernel
theorem dX8_category_13 : decode cX8_category 13 = .ok (.invokevirtual 109, 3) := by decide +kernel
theorem dX8_category_16 : decode cX8_category 16 = .ok (.ifCond .lt 5, 3) := by decide +kernel
theorem dX8_category_19 : decode cX8_category 19 = .ok (.iconst (-1), 1) := by decide +kernel
theorem dX8_category_20 : decode cX8_category 20 = .ok (.ireturn, 1) := by decide +kernel
theorem dX8_category_21 : decode cX8_category 21 = .ok (.aload_n 0, 1) := by decide +kernel
theorem dX8_category_22 : decode cX8_category 22 = .ok (.getfield 102, 3) := by decide +kernel
theorem dX8_category_25 : decode cX8_category 25 = .ok (.iconst 3, 1) := by decide +kernel
theorem dX8_category_26 : decode cX8_category 26 = .ok (.if_icmp .ne 6, 3) := by decide +kernel
theorem dX8_category_29 : decode cX8_category 29 = .ok (.bipush (-3), 2) := by decide +kernel
theorem dX8_category_31 : decode cX8_category 31 = .ok (.ireturn, 1) := by decide +kernel
theorem dX8_category_32 : decode cX8_category 32 = .ok (.aload_n 0, 1) := by decide +kernel
theorem dX8_category_33 : decode cX8_category 33 = .ok (.getfield 7, 3) := by decide +kernel
theorem dX8_category_36 : decode cX8_category 36 = .ok (.aload_n 0, 1) := by decide +kernel
theorem dX8_category_37 : decode cX8_category 37 = .ok (.getfield 102, 3) := by decide +kernel
theorem dX8_category_40 : decode cX8_category 40 = .ok (.iload_n 1, 1) := by decide +kernel
theorem dX8_category_41 : decode cX8_category 41 = .ok (.iastore, 1) := by decide +kernel
theorem dX8_category_42 : decode cX8_category 42 = .ok (.aload_n 0, 1) := by decide +kernel
theorem dX8_category_43 : decode cX8_category 43 = .ok (.getfield 22, 3) := by decide +kernel
theorem dX8_category_46 : decode cX8_category 46 = .ok (.aload_n 0, 1) := by decide +kernel
theorem dX8_category_47 : decode cX8_category 47 = .ok (.getfield 102, 3) := by decide +kernel
theorem dX8_category_50 : decode cX8_category 50 = .ok (.bipush (-9), 2) := by decide +kernel
theorem dX8_category_52 : decode cX8_category 52 = .ok (.iastore, 1) := by decide +kernel
theorem dX8_category_53 : decode cX8_category 53 = .ok (.aload_n 0, 1) := by decide +kernel
theorem dX8_category_54 : decode cX8_category 54 = .ok (.getfield 25, 3) := by decide +kernel
theorem dX8_category_57 : decode cX8_category 57 = .ok (.aload_n 0, 1) := by decide +kernel
theorem dX8_category_58 : decode cX8_category 58 = .ok (.getfield 102, 3) := by decide +kernel
theorem dX8_category_61 : decode cX8_category 61 = .ok (.bipush (-9), 2) := by decide +kernel
theorem dX8_category_63 : decode cX8_category 63 = .ok (.iastore, 1) := by decide +kernel
theorem dX8_category_64 : decode cX8_category 64 = .ok (.iconst 0, 1) := by decide +kernel
theorem dX8_category_65 : decode cX8_category 65 = .ok (.istore_n 2, 1) := by decide +kernel
theorem dX8_category_66 : decode cX8_category 66 = .ok (.iload_n 2, 1) := by decide +kernel
theorem dX8_category_67 : decode cX8_category 67 = .ok (.bipush 21, 2) := by decide +kernel
theorem dX8_category_69 : decode cX8_category 69 = .ok (.if_icmp .gt 21, 3) := by decide +kernel
theorem dX8_category_72 : decode cX8_category 72 = .ok (.aload_n 0, 1) := by decide +kernel
theorem dX8_category_73 : decode cX8_category 73 = .ok (.aload_n 0, 1) := by decide +kernel
theorem dX8_category_74 : decode cX8_category 74 = .ok (.getfield 102, 3) := by decide +kernel
theorem dX8_category_77 : decode cX8_category 77 = .ok (.iload_n 2, 1) := by decide +kernel
theorem dX8_category_78 : decode cX8_category 78 = .ok (.bipush (-9), 2) := by decide +kernel
theorem dX8_category_80 : decode cX8_category 80 = .ok (.iconst 0, 1) := by decide +kernel
theorem dX8_category_81 : decode cX8_category 81 = .ok (.invokevirtual 113, 3) := by decide +kernel
theorem dX8_category_84 : decode cX8_category 84 = .ok (.iinc 2 1, 3) := by decide +kernel
theorem dX8_category_87 : decode cX8_category 87 = .ok (.goto (-21), 3) := by decide +kernel
theorem dX8_category_90 : decode cX8_category 90 = .ok (.aload_n 0, 1) := by decide +kernel
theorem dX8_category_91 : decode cX8_category 91 = .ok (.dup, 1) := by decide +kernel
theorem dX8_category_92 : decode cX8_category 92 = .ok (.getfield 102, 3) := by decide +kernel
theorem dX8_category_95 : decode cX8_category 95 = .ok (.iconst 1, 1) := by decide +kernel
theorem dX8_category_96 : decode cX8_category 96 = .ok (.iadd, 1) := by decide +kernel
theorem dX8_category_97 : decode cX8_category 97 = .ok (.putfield 102, 3) := by decide +kernel
theorem dX8_category_100 : decode cX8_category 100 = .ok (.aload_n 0, 1) := by decide +kernel
theorem dX8_category_101 : decode cX8_category 101 = .ok (.getfield 102, 3) := by decide +kernel
theorem dX8_category_104 : decode cX8_category 104 = .ok (.iconst 1, 1) := by decide +kernel
theorem dX8_category_105 : decode cX8_category 105 = .ok (.isub, 1) := by decide +kernel
theorem dX8_category_106 : decode cX8_category 106 = .ok (.ireturn, 1) := by decide +kernel
theorem dX8_find_0 : decode cX8_find 0 = .ok (.iconst 0, 1) := by decide +kernel
theorem dX8_find_1 : decode cX8_find 1 = .ok (.istore_n 2, 1) := by decide +kernel
theorem dX8_find_2 : decode cX8_find 2 = .ok (.iload_n 2, 1) := by decide +kernel
theorem dX8_find_3 : decode cX8_find 3 = .ok (.aload_n 0, 1) := by decide +kernel
theorem dX8_find_4 : decode cX8_find 4 = .ok (.getfield 102, 3) := by decide +kernel
theorem dX8_find_7 : decode cX8_find 7 = .ok (.if_icmp .ge 21, 3) := by decide +kernel
theorem dX8_find_10 : decode cX8_find 10 = .ok (.aload_n 0, 1) := by decide +kernel
theorem dX8_find_11 : decode cX8_find 11 = .ok (.getfield 7, 3) := by decide +kernel
theorem dX8_find_14 : decode cX8_find 14 = .ok (.iload_n 2, 1) := by decide +kernel
theorem dX8_find_15 : decode cX8_find 15 = .ok (.iaload, 1) := by decide +kernel
theorem dX8_find_16 : decode cX8_find 16 = .ok (.iload_n 1, 1) := by decide +kernel
theorem dX8_find_17 : decode cX8_find 17 = .ok (.if_icmp .ne 5, 3) := by decide +kernel
theorem dX8_find_20 : decode cX8_find 20 = .ok (.iload_n 2, 1) := by decide +kernel
theorem dX8_find_21 : decode cX8_find 21 = .ok (.ireturn, 1) := by decide +kernel
theorem dX8_find_22 : decode cX8_find 22 = .ok (.iinc 2 1, 3) := by decide +kernel
theorem dX8_find_25 : decode cX8_find 25 = .ok (.goto (-23), 3) := by decide +kernel
theorem dX8_find_28 : decode cX8_find 28 = .ok (.bipush (-9), 2) := by decide +kernel
theorem dX8_find_30 : decode cX8_find 30 = .ok (.ireturn, 1) := by decide +kernel
theorem dX8_becomes_0 : decode cX8_becomes 0 = .ok (.aload_n 0, 1) := by decide +kernel
theorem dX8_becomes_1 : decode cX8_becomes 1 = .ok (.getfield 13, 3) := by decide +kernel
theorem dX8_becomes_4 : decode cX8_becomes 4 = .ok (.bipush 22, 2) := by decide +kernel
theorem dX8_becomes_6 : decode cX8_becomes 6 = .ok (.iload_n 1, 1) := by decide +kernel
theorem dX8_becomes_7 : decode cX8_becomes 7 = .ok (.imul, 1) := by decide +kernel
theorem dX8_becomes_8 : decode cX8_becomes 8 = .ok (.iload_n 2, 1) := by decide +kernel
theorem dX8_becomes_9 : decode cX8_becomes 9 = .ok (.iadd, 1) := by decide +kernel
theorem dX8_becomes_10 : decode cX8_becomes 10 = .ok (.iload_n 3, 1) := by decide +kernel
theorem dX8_becomes_11 : decode cX8_becomes 11 = .ok (.iastore, 1) := by decide +kernel
theorem dX8_becomes_12 : decode cX8_becomes 12 = .ok (.aload_n 0, 1) := by decide +kernel
theorem dX8_becomes_13 : decode cX8_becomes 13 = .ok (.getfield 16, 3) := by decide +kernel
theorem dX8_becomes_16 : decode cX8_becomes 16 = .ok (.bipush 22, 2) := by decide +kernel
theorem dX8_becomes_18 : decode cX8_becomes 18 = .ok (.iload_n 1, 1) := by decide +kernel
theorem dX8_becomes_19 : decode cX8_becomes 19 = .ok (.imul, 1) := by decide +kernel
theorem dX8_becomes_20 : decode cX8_becomes 20 = .ok (.iload_n 2, 1) := by decide +kernel
theorem dX8_becomes_21 : decode cX8_becomes 21 = .ok (.iadd, 1) := by decide +kernel
theorem dX8_becomes_22 : decode cX8_becomes 22 = .ok (.iload 4, 2) := by decide +kernel
theorem dX8_becomes_24 : decode cX8_becomes 24 = .ok (.iastore, 1) := by decide +kernel
theorem dX8_becomes_25 : decode cX8_becomes 25 = .ok (.iconst 0, 1) := by decide +kernel
theorem dX8_becomes_26 : decode cX8_becomes 26 = .ok (.istore 5, 2) := by decide +kernel
theorem dX8_becomes_28 : decode cX8_becomes 28 = .ok (.iload 5, 2) := by decide +kernel
theorem dX8_becomes_30 : decode cX8_becomes 30 = .ok (.bipush 14, 2) := by decide +kernel
theorem dX8_becomes_32 : decode cX8_becomes 32 = .ok (.if_icmp .ge 27, 3) := by decide +kernel
theorem dX8_becomes_35 : decode cX8_becomes 35 = .ok (.aload_n 0, 1) := by decide +kernel
theorem dX8_becomes_36 : decode cX8_becomes 36 = .ok (.getfield 19, 3) := by decide +kernel
theorem dX8_becomes_39 : decode cX8_becomes 39 = .ok (.bipush 14, 2) := by decide +kernel
theorem dX8_becomes_41 : decode cX8_becomes 41 = .ok (.bipush 22, 2) := by decide +kernel
theorem dX8_becomes_43 : decode cX8_becomes 43 = .ok (.iload_n 1, 1) := by decide +kernel
theorem dX8_becomes_44 : decode cX8_becomes 44 = .ok (.imul, 1) := by decide +kernel
theorem dX8_becomes_45 : decode cX8_becomes 45 = .ok (.iload_n 2, 1) := by decide +kernel
theorem dX8_becomes_46 : decode cX8_becomes 46 = .ok (.iadd, 1) := by decide +kernel
theorem dX8_becomes_47 : decode cX8_becomes 47 = .ok (.imul, 1) := by decide +kernel
theorem dX8_becomes_48 : decode cX8_becomes 48 = .ok (.iload 5, 2) := by decide +kernel
theorem dX8_becomes_50 : decode cX8_becomes 50 = .ok (.iadd, 1) := by decide +kernel
theorem dX8_becomes_51 : decode cX8_becomes 51 = .ok (.iconst 0, 1) := by decide +kernel
theorem dX8_becomes_52 : decode cX8_becomes 52 = .ok (.iastore, 1) := by decide +kernel
theorem dX8_becomes_53 : decode cX8_becomes 53 = .ok (.iinc 5 1, 3) := by decide +kernel
theorem dX8_becomes_56 : decode cX8_becomes 56 = .ok (.goto (-28), 3) := by decide +kernel
theorem dX8_becomes_59 : decode cX8_becomes 59 = .ok (.return_, 1) := by decide +kernel
theorem dX8_isInUse_0 : decode cX8_isInUse 0 = .ok (.aload_n 0, 1) := by decide +kernel
theorem dX8_isInUse_1 : decode cX8_isInUse 1 = .ok (.getfield 117, 3) := by decide +kernel
theorem dX8_isInUse_4 : decode cX8_isInUse 4 = .ok (.ifCond .le 11, 3) := by decide +kernel
theorem dX8_isInUse_7 : decode cX8_isInUse 7 = .ok (.aload_n 0, 1) := by decide +kernel
theorem dX8_isInUse_8 : decode cX8_isInUse 8 = .ok (.getfield 99, 3) := by decide +kernel
theorem dX8_isInUse_11 : decode cX8_isInUse 11 = .ok (.iload_n 1, 1) := by decide +kernel
theorem dX8_isInUse_12 : decode cX8_isInUse 12 = .ok (.if_icmp .eq 11, 3) := by decide +kernel
theorem dX8_isInUse_15 : decode cX8_isInUse 15 = .ok (.aload_n 0, 1) := by decide +kernel
theorem dX8_isInUse_16 : decode cX8_isInUse 16 = .ok (.getfield 56, 3) := by decide +kernel
theorem dX8_isInUse_19 : decode cX8_isInUse 19 = .ok (.iload_n 1, 1) := by decide +kernel
theorem dX8_isInUse_20 : decode cX8_isInUse 20 = .ok (.if_icmp .ne 7, 3) := by decide +kernel
theorem dX8_isInUse_23 : decode cX8_isInUse 23 = .ok (.iconst 1, 1) := by decide +kernel
theorem dX8_isInUse_24 : decode cX8_isInUse 24 = .ok (.goto 4, 3) := by decide +kernel
theorem dX8_isInUse_27 : decode cX8_isInUse 27 = .ok (.iconst 0, 1) := by decide +kernel
theorem dX8_isInUse_28 : decode cX8_isInUse 28 = .ok (.ireturn, 1) := by decide +kernel
theorem dX8_item_0 : decode cX8_item 0 = .ok (.iload_n 3, 1) := by decide +kernel
theorem dX8_item_1 : decode cX8_item 1 = .ok (.iconst (-1), 1) := by decide +kernel
theorem dX8_item_2 : decode cX8_item 2 = .ok (.if_icmp .eq 43, 3) := by decide +kernel
theorem dX8_item_5 : decode cX8_item 5 = .ok (.iload_n 3, 1) := by decide +kernel
theorem dX8_item_6 : decode cX8_item 6 = .ok (.iconst 1, 1) := by decide +kernel
theorem dX8_item_7 : decode cX8_item 7 = .ok (.if_icmp .eq 38, 3) := by decide +kernel
theorem dX8_item_10 : decode cX8_item 10 = .ok (.iload_n 3, 1) := by decide +kernel
theorem dX8_item_11 : decode cX8_item 11 = .ok (.iconst 3, 1) := by decide +kernel
theorem dX8_item_12 : decode cX8_item 12 = .ok (.if_icmp .eq 33, 3) := by decide +kernel
theorem dX8_item_15 : decode cX8_item 15 = .ok (.iload_n 3, 1) := by decide +kernel
theorem dX8_item_16 : decode cX8_item 16 = .ok (.ifCond .ne 14, 3) := by decide +kernel
theorem dX8_item_19 : decode cX8_item 19 = .ok (.iload 4, 2) := by decide +kernel
theorem dX8_item_21 : decode cX8_item 21 = .ok (.iconst 1, 1) := by decide +kernel
theorem dX8_item_22 : decode cX8_item 22 = .ok (.bipush 8, 2) := by decide +kernel
theorem dX8_item_24 : decode cX8_item 24 = .ok (.invokestatic 105, 3) := by decide +kernel
theorem dX8_item_27 : decode cX8_item 27 = .ok (.ifCond .ne 18, 3) := by decide +kernel
theorem dX8_item_30 : decode cX8_item 30 = .ok (.iload_n 3, 1) := by decide +kernel
theorem dX8_item_31 : decode cX8_item 31 = .ok (.iconst 2, 1) := by decide +kernel
theorem dX8_item_32 : decode cX8_item 32 = .ok (.if_icmp .ne 17, 3) := by decide +kernel
theorem dX8_item_35 : decode cX8_item 35 = .ok (.iload 4, 2) := by decide +kernel
theorem dX8_item_37 : decode cX8_item 37 = .ok (.iconst 1, 1) := by decide +kernel
theorem dX8_item_38 : decode cX8_item 38 = .ok (.iconst 4, 1) := by decide +kernel
theorem dX8_item_39 : decode cX8_item 39 = .ok (.invokestatic 105, 3) := by decide +kernel
theorem dX8_item_42 : decode cX8_item 42 = .ok (.ifCond .eq 7, 3) := by decide +kernel
theorem dX8_item_45 : decode cX8_item 45 = .ok (.iconst 1, 1) := by decide +kernel
theorem dX8_item_46 : decode cX8_item 46 = .ok (.goto 4, 3) := by decide +kernel
theorem dX8_item_49 : decode cX8_item 49 = .ok (.iconst 0, 1) := by decide +kernel
theorem dX8_item_50 : decode cX8_item 50 = .ok (.istore 5, 2) := by decide +kernel
theorem dX8_item_52 : decode cX8_item 52 = .ok (.aload_n 0, 1) := by decide +kernel
theorem dX8_item_53 : decode cX8_item 53 = .ok (.iload_n 1, 1) := by decide +kernel
theorem dX8_item_54 : decode cX8_item 54 = .ok (.invokevirtual 120, 3) := by decide +kernel
theorem dX8_item_57 : decode cX8_item 57 = .ok (.ifCond .eq 15, 3) := by decide +kernel
theorem dX8_item_60 : decode cX8_item 60 = .ok (.iload_n 2, 1) := by decide +kernel
theorem dX8_item_61 : decode cX8_item 61 = .ok (.invokestatic 124, 3) := by decide +kernel
theorem dX8_item_64 : decode cX8_item 64 = .ok (.ifCond .eq 8, 3) := by decide +kernel
theorem dX8_item_67 : decode cX8_item 67 = .ok (.iload 5, 2) := by decide +kernel
theorem dX8_item_69 : decode cX8_item 69 = .ok (.ifCond .ne 5, 3) := by decide +kernel
theorem dX8_item_72 : decode cX8_item 72 = .ok (.iconst (-1), 1) := by decide +kernel
theorem dX8_item_73 : decode cX8_item 73 = .ok (.ireturn, 1) := by decide +kernel
theorem dX8_item_74 : decode cX8_item 74 = .ok (.aload_n 0, 1) := by decide +kernel
theorem dX8_item_75 : decode cX8_item 75 = .ok (.iload_n 1, 1) := by decide +kernel
theorem dX8_item_76 : decode cX8_item 76 = .ok (.invokevirtual 127, 3) := by decide +kernel
theorem dX8_item_79 : decode cX8_item 79 = .ok (.ifCond .eq 6, 3) := by decide +kernel
theorem dX8_item_82 : decode cX8_item 82 = .ok (.bipush (-2), 2) := by decide +kernel
theorem dX8_item_84 : decode cX8_item 84 = .ok (.ireturn, 1) := by decide +kernel
theorem dX8_item_85 : decode cX8_item 85 = .ok (.aload_n 0, 1) := by decide +kernel
theorem dX8_item_86 : decode cX8_item 86 = .ok (.getfield 13, 3) := by decide +kernel
theorem dX8_item_89 : decode cX8_item 89 = .ok (.bipush 22, 2) := by decide +kernel
theorem dX8_item_91 : decode cX8_item 91 = .ok (.iload_n 1, 1) := by decide +kernel
theorem dX8_item_92 : decode cX8_item 92 = .ok (.imul, 1) := by decide +kernel
theorem dX8_item_93 : decode cX8_item 93 = .ok (.iload_n 2, 1) := by decide +kernel
theorem dX8_item_94 : decode cX8_item 94 = .ok (.iadd, 1) := by decide +kernel
theorem dX8_item_95 : decode cX8_item 95 = .ok (.iaload, 1) := by decide +kernel
theorem dX8_item_96 : decode cX8_item 96 = .ok (.istore 6, 2) := by decide +kernel
theorem dX8_item_98 : decode cX8_item 98 = .ok (.aload_n 0, 1) := by decide +kernel
theorem dX8_item_99 : decode cX8_item 99 = .ok (.iload_n 1, 1) := by decide +kernel
theorem dX8_item_100 : decode cX8_item 100 = .ok (.iload_n 2, 1) := by decide +kernel
theorem dX8_item_101 : decode cX8_item 101 = .ok (.iload_n 3, 1) := by decide +kernel
theorem dX8_item_102 : decode cX8_item 102 = .ok (.ifCond .ge 8, 3) := by decide +kernel
theorem dX8_item_105 : decode cX8_item 105 = .ok (.bipush (-9), 2) := by decide +kernel
theorem dX8_item_107 : decode cX8_item 107 = .ok (.goto 4, 3) := by decide +kernel
theorem dX8_item_110 : decode cX8_item 110 = .ok (.iload_n 3, 1) := by decide +kernel
theorem dX8_item_111 : decode cX8_item 111 = .ok (.iload_n 3, 1) := by decide +kernel
theorem dX8_item_112 : decode cX8_item 112 = .ok (.ifCond .eq 8, 3) := by decide +kernel
theorem dX8_item_115 : decode cX8_item 115 = .ok (.iload_n 3, 1) := by decide +kernel
theorem dX8_item_116 : decode cX8_item 116 = .ok (.iconst 2, 1) := by decide +kernel
theorem dX8_item_117 : decode cX8_item 117 = .ok (.if_icmp .ne 8, 3) := by decide +kernel
theorem dX8_item_120 : decode cX8_item 120 = .ok (.iload 4, 2) := by decide +kernel
theorem dX8_item_122 : decode cX8_item 122 = .ok (.goto 4, 3) := by decide +kernel
theorem dX8_item_125 : decode cX8_item 125 = .ok (.iconst 0, 1) := by decide +kernel
theorem dX8_item_126 : decode cX8_item 126 = .ok (.invokevirtual 113, 3) := by decide +kernel
theorem dX8_item_129 : decode cX8_item 129 = .ok (.iload 6, 2) := by decide +kernel
theorem dX8_item_131 : decode cX8_item 131 = .ok (.ireturn, 1) := by decide +kernel
theorem dX8_part_0 : decode cX8_part 0 = .ok (.aload_n 0, 1) := by decide +kernel
theorem dX8_part_1 : decode cX8_part 1 = .ok (.iload_n 1, 1) := by decide +kernel
theorem dX8_part_2 : decode cX8_part 2 = .ok (.invokevirtual 120, 3) := by decide +kernel
theorem dX8_part_5 : decode cX8_part 5 = .ok (.ifCond .eq 45, 3) := by decide +kernel
theorem dX8_part_8 : decode cX8_part 8 = .ok (.iload_n 2, 1) := by decide +kernel
theorem dX8_part_9 : decode cX8_part 9 = .ok (.invokestatic 124, 3) := by decide +kernel
theorem dX8_part_12 : decode cX8_part 12 = .ok (.ifCond .eq 38, 3) := by decide +kernel
theorem dX8_part_15 : decode cX8_part 15 = .ok (.iload_n 3, 1) := by decide +kernel
theorem dX8_part_16 : decode cX8_part 16 = .ok (.iconst 0, 1) := by decide +kernel
theorem dX8_part_17 : decode cX8_part 17 = .ok (.bipush 13, 2) := by decide +kernel
theorem dX8_part_19 : decode cX8_part 19 = .ok (.invokestatic 105, 3) := by decide +kernel
theorem dX8_part_22 : decode cX8_part 22 = .ok (.ifCond .eq 28, 3) := by decide +kernel
theorem dX8_part_25 : decode cX8_part 25 = .ok (.iload 4, 2) := by decide +kernel
theorem dX8_part_27 : decode cX8_part 27 = .ok (.iconst 0, 1) := by decide +kernel
theorem dX8_part_28 : decode cX8_part 28 = .ok (.iconst 4, 1) := by decide +kernel
theorem dX8_part_29 : decode cX8_part 29 = .ok (.invokestatic 105, 3) := by decide +kernel
theorem dX8_part_32 : decode cX8_part 32 = .ok (.ifCond .eq 18, 3) := by decide +kernel
theorem dX8_part_35 : decode cX8_part 35 = .ok (.aload_n 0, 1) := by decide +kernel
theorem dX8_part_36 : decode cX8_part 36 = .ok (.getfield 13, 3) := by decide +kernel
theorem dX8_part_39 : decode cX8_part 39 = .ok (.bipush 22, 2) := by decide +kernel
theorem dX8_part_41 : decode cX8_part 41 = .ok (.iload_n 1, 1) := by decide +kernel
theorem dX8_part_42 : decode cX8_part 42 = .ok (.imul, 1) := by decide +kernel
theorem dX8_part_43 : decode cX8_part 43 = .ok (.iload_n 2, 1) := by decide +kernel
theorem dX8_part_44 : decode cX8_part 44 = .ok (.iadd, 1) := by decide +kernel
theorem dX8_part_45 : decode cX8_part 45 = .ok (.iaload, 1) := by decide +kernel
theorem dX8_part_46 : decode cX8_part 46 = .ok (.iconst 3, 1) := by decide +kernel
theorem dX8_part_47 : decode cX8_part 47 = .ok (.if_icmp .eq 5, 3) := by decide +kernel
theorem dX8_part_50 : decode cX8_part 50 = .ok (.iconst (-1), 1) := by decide +kernel
theorem dX8_part_51 : decode cX8_part 51 = .ok (.ireturn, 1) := by decide +kernel
theorem dX8_part_52 : decode cX8_part 52 = .ok (.aload_n 0, 1) := by decide +kernel
theorem dX8_part_53 : decode cX8_part 53 = .ok (.iload_n 1, 1) := by decide +kernel
theorem dX8_part_54 : decode cX8_part 54 = .ok (.invokevirtual 127, 3) := by decide +kernel
theorem dX8_part_57 : decode cX8_part 57 = .ok (.ifCond .eq 6, 3) := by decide +kernel
theorem dX8_part_60 : decode cX8_part 60 = .ok (.bipush (-2), 2) := by decide +kernel
theorem dX8_part_62 : decode cX8_part 62 = .ok (.ireturn, 1) := by decide +kernel
theorem dX8_part_63 : decode cX8_part 63 = .ok (.aload_n 0, 1) := by decide +kernel
theorem dX8_part_64 : decode cX8_part 64 = .ok (.getfield 19, 3) := by decide +kernel
theorem dX8_part_67 : decode cX8_part 67 = .ok (.bipush 14, 2) := by decide +kernel
theorem dX8_part_69 : decode cX8_part 69 = .ok (.bipush 22, 2) := by decide +kernel
theorem dX8_part_71 : decode cX8_part 71 = .ok (.iload_n 1, 1) := by decide +kernel
theorem dX8_part_72 : decode cX8_part 72 = .ok (.imul, 1) := by decide +kernel
theorem dX8_part_73 : decode cX8_part 73 = .ok (.iload_n 2, 1) := by decide +kernel
theorem dX8_part_74 : decode cX8_part 74 = .ok (.iadd, 1) := by decide +kernel
theorem dX8_part_75 : decode cX8_part 75 = .ok (.imul, 1) := by decide +kernel
theorem dX8_part_76 : decode cX8_part 76 = .ok (.iload_n 3, 1) := by decide +kernel
theorem dX8_part_77 : decode cX8_part 77 = .ok (.iadd, 1) := by decide +kernel
theorem dX8_part_78 : decode cX8_part 78 = .ok (.iaload, 1) := by decide +kernel
theorem dX8_part_79 : decode cX8_part 79 = .ok (.istore 5, 2) := by decide +kernel
theorem dX8_part_81 : decode cX8_part 81 = .ok (.aload_n 0, 1) := by decide +kernel
theorem dX8_part_82 : decode cX8_part 82 = .ok (.getfield 19, 3) := by decide +kernel
theorem dX8_part_85 : decode cX8_part 85 = .ok (.bipush 14, 2) := by decide +kernel
theorem dX8_part_87 : decode cX8_part 87 = .ok (.bipush 22, 2) := by decide +kernel
theorem dX8_part_89 : decode cX8_part 89 = .ok (.iload_n 1, 1) := by decide +kernel
theorem dX8_part_90 : decode cX8_part 90 = .ok (.imul, 1) := by decide +kernel
theorem dX8_part_91 : decode cX8_part 91 = .ok (.iload_n 2, 1) := by decide +kernel
theorem dX8_part_92 : decode cX8_part 92 = .ok (.iadd, 1) := by decide +kernel
theorem dX8_part_93 : decode cX8_part 93 = .ok (.imul, 1) := by decide +kernel
theorem dX8_part_94 : decode cX8_part 94 = .ok (.iload_n 3, 1) := by decide +kernel
theorem dX8_part_95 : decode cX8_part 95 = .ok (.iadd, 1) := by decide +kernel
theorem dX8_part_96 : decode cX8_part 96 = .ok (.iload 4, 2) := by decide +kernel
theorem dX8_part_98 : decode cX8_part 98 = .ok (.iastore, 1) := by decide +kernel
theorem dX8_part_99 : decode cX8_part 99 = .ok (.iload 5, 2) := by decide +kernel
theorem dX8_part_101 : decode cX8_part 101 = .ok (.ireturn, 1) := by decide +kernel
theorem dX8_isFixed_0 : decode cX8_isFixed 0 = .ok (.aload_n 0, 1) := by decide +kernel
theorem dX8_isFixed_1 : decode cX8_isFixed 1 = .ok (.getfield 13, 3) := by decide +kernel
theorem dX8_isFixed_4 : decode cX8_isFixed 4 = .ok (.bipush 22, 2) := by decide +kernel
theorem dX8_isFixed_6 : decode cX8_isFixed 6 = .ok (.iload_n 1, 1) := by decide +kernel
theorem dX8_isFixed_7 : decode cX8_isFixed 7 = .ok (.imul, 1) := by decide +kernel
theorem dX8_isFixed_8 : decode cX8_isFixed 8 = .ok (.iload_n 2, 1) := by decide +kernel
theorem dX8_isFixed_9 : decode cX8_isFixed 9 = .ok (.iadd, 1) := by decide +kernel
