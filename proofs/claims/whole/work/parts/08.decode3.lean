-- printed by the claim's program: decode rows
theorem dX7_tear_0 : decode cX7_tear 0 = .ok (.aload_n 0, 1) := by decide +kernel
theorem dX7_tear_1 : decode cX7_tear 1 = .ok (.getfield 18, 3) := by decide +kernel
theorem dX7_tear_4 : decode cX7_tear 4 = .ok (.getfield 114, 3) := by decide +kernel
theorem dX7_tear_7 : decode cX7_tear 7 = .ok (.istore_n 1, 1) := by decide +kernel
theorem dX7_tear_8 : decode cX7_tear 8 = .ok (.aload_n 0, 1) := by decide +kernel
theorem dX7_tear_9 : decode cX7_tear 9 = .ok (.getfield 18, 3) := by decide +kernel
theorem dX7_tear_12 : decode cX7_tear 12 = .ok (.iconst 0, 1) := by decide +kernel
theorem dX7_tear_13 : decode cX7_tear 13 = .ok (.putfield 114, 3) := by decide +kernel
theorem dX7_tear_16 : decode cX7_tear 16 = .ok (.iload_n 1, 1) := by decide +kernel
theorem dX7_tear_17 : decode cX7_tear 17 = .ok (.ireturn, 1) := by decide +kernel
theorem dX7_read_0 : decode cX7_read 0 = .ok (.aload_n 0, 1) := by decide +kernel
theorem dX7_read_1 : decode cX7_read 1 = .ok (.getfield 18, 3) := by decide +kernel
theorem dX7_read_4 : decode cX7_read 4 = .ok (.getfield 114, 3) := by decide +kernel
theorem dX7_read_7 : decode cX7_read 7 = .ok (.ifCond .ne 6, 3) := by decide +kernel
theorem dX7_read_10 : decode cX7_read 10 = .ok (.bipush (-2), 2) := by decide +kernel
theorem dX7_read_12 : decode cX7_read 12 = .ok (.ireturn, 1) := by decide +kernel
theorem dX7_read_13 : decode cX7_read 13 = .ok (.aload_n 0, 1) := by decide +kernel
theorem dX7_read_14 : decode cX7_read 14 = .ok (.getfield 38, 3) := by decide +kernel
theorem dX7_read_17 : decode cX7_read 17 = .ok (.invokevirtual 117, 3) := by decide +kernel
theorem dX7_read_20 : decode cX7_read 20 = .ok (.aload_n 0, 1) := by decide +kernel
theorem dX7_read_21 : decode cX7_read 21 = .ok (.getfield 27, 3) := by decide +kernel
theorem dX7_read_24 : decode cX7_read 24 = .ok (.aload_n 0, 1) := by decide +kernel
theorem dX7_read_25 : decode cX7_read 25 = .ok (.getfield 18, 3) := by decide +kernel
theorem dX7_read_28 : decode cX7_read 28 = .ok (.getfield 114, 3) := by decide +kernel
theorem dX7_read_31 : decode cX7_read 31 = .ok (.invokevirtual 120, 3) := by decide +kernel
theorem dX7_read_34 : decode cX7_read 34 = .ok (.aload_n 0, 1) := by decide +kernel
theorem dX7_read_35 : decode cX7_read 35 = .ok (.invokevirtual 123, 3) := by decide +kernel
theorem dX7_read_38 : decode cX7_read 38 = .ok (.aload_n 0, 1) := by decide +kernel
theorem dX7_read_39 : decode cX7_read 39 = .ok (.aload_n 0, 1) := by decide +kernel
theorem dX7_read_40 : decode cX7_read 40 = .ok (.getfield 27, 3) := by decide +kernel
theorem dX7_read_43 : decode cX7_read 43 = .ok (.getfield 126, 3) := by decide +kernel
theorem dX7_read_46 : decode cX7_read 46 = .ok (.putfield 129, 3) := by decide +kernel
theorem dX7_read_49 : decode cX7_read 49 = .ok (.aload_n 0, 1) := by decide +kernel
theorem dX7_read_50 : decode cX7_read 50 = .ok (.getfield 129, 3) := by decide +kernel
theorem dX7_read_53 : decode cX7_read 53 = .ok (.ifCond .eq 14, 3) := by decide +kernel
theorem dX7_read_56 : decode cX7_read 56 = .ok (.bipush (-100), 2) := by decide +kernel
theorem dX7_read_58 : decode cX7_read 58 = .ok (.aload_n 0, 1) := by decide +kernel
theorem dX7_read_59 : decode cX7_read 59 = .ok (.getfield 27, 3) := by decide +kernel
theorem dX7_read_62 : decode cX7_read 62 = .ok (.getfield 132, 3) := by decide +kernel
theorem dX7_read_65 : decode cX7_read 65 = .ok (.isub, 1) := by decide +kernel
theorem dX7_read_66 : decode cX7_read 66 = .ok (.ireturn, 1) := by decide +kernel
theorem dX7_read_67 : decode cX7_read 67 = .ok (.aload_n 0, 1) := by decide +kernel
theorem dX7_read_68 : decode cX7_read 68 = .ok (.getfield 38, 3) := by decide +kernel
theorem dX7_read_71 : decode cX7_read 71 = .ok (.aload_n 0, 1) := by decide +kernel
theorem dX7_read_72 : decode cX7_read 72 = .ok (.getfield 18, 3) := by decide +kernel
theorem dX7_read_75 : decode cX7_read 75 = .ok (.getfield 135, 3) := by decide +kernel
theorem dX7_read_78 : decode cX7_read 78 = .ok (.aload_n 0, 1) := by decide +kernel
theorem dX7_read_79 : decode cX7_read 79 = .ok (.getfield 27, 3) := by decide +kernel
theorem dX7_read_82 : decode cX7_read 82 = .ok (.getfield 138, 3) := by decide +kernel
theorem dX7_read_85 : decode cX7_read 85 = .ok (.invokevirtual 141, 3) := by decide +kernel
theorem dX7_read_88 : decode cX7_read 88 = .ok (.aload_n 0, 1) := by decide +kernel
theorem dX7_read_89 : decode cX7_read 89 = .ok (.getfield 18, 3) := by decide +kernel
theorem dX7_read_92 : decode cX7_read 92 = .ok (.aload_n 0, 1) := by decide +kernel
theorem dX7_read_93 : decode cX7_read 93 = .ok (.getfield 27, 3) := by decide +kernel
theorem dX7_read_96 : decode cX7_read 96 = .ok (.getfield 138, 3) := by decide +kernel
theorem dX7_read_99 : decode cX7_read 99 = .ok (.invokevirtual 145, 3) := by decide +kernel
theorem dX7_read_102 : decode cX7_read 102 = .ok (.aload_n 0, 1) := by decide +kernel
theorem dX7_read_103 : decode cX7_read 103 = .ok (.getfield 34, 3) := by decide +kernel
theorem dX7_read_106 : decode cX7_read 106 = .ok (.astore_n 1, 1) := by decide +kernel
theorem dX7_read_107 : decode cX7_read 107 = .ok (.aload_n 0, 1) := by decide +kernel
theorem dX7_read_108 : decode cX7_read 108 = .ok (.aload_n 0, 1) := by decide +kernel
theorem dX7_read_109 : decode cX7_read 109 = .ok (.getfield 38, 3) := by decide +kernel
theorem dX7_read_112 : decode cX7_read 112 = .ok (.putfield 34, 3) := by decide +kernel
theorem dX7_read_115 : decode cX7_read 115 = .ok (.aload_n 0, 1) := by decide +kernel
theorem dX7_read_116 : decode cX7_read 116 = .ok (.aload_n 1, 1) := by decide +kernel
theorem dX7_read_117 : decode cX7_read 117 = .ok (.putfield 38, 3) := by decide +kernel
theorem dX7_read_120 : decode cX7_read 120 = .ok (.aload_n 0, 1) := by decide +kernel
theorem dX7_read_121 : decode cX7_read 121 = .ok (.dup, 1) := by decide +kernel
theorem dX7_read_122 : decode cX7_read 122 = .ok (.getfield 148, 3) := by decide +kernel
theorem dX7_read_125 : decode cX7_read 125 = .ok (.iconst 1, 1) := by decide +kernel
theorem dX7_read_126 : decode cX7_read 126 = .ok (.iadd, 1) := by decide +kernel
theorem dX7_read_127 : decode cX7_read 127 = .ok (.putfield 148, 3) := by decide +kernel
theorem dX7_read_130 : decode cX7_read 130 = .ok (.aload_n 0, 1) := by decide +kernel
theorem dX7_read_131 : decode cX7_read 131 = .ok (.getfield 34, 3) := by decide +kernel
theorem dX7_read_134 : decode cX7_read 134 = .ok (.getfield 151, 3) := by decide +kernel
theorem dX7_read_137 : decode cX7_read 137 = .ok (.ireturn, 1) := by decide +kernel
theorem dX7_fault_0 : decode cX7_fault 0 = .ok (.aload_n 0, 1) := by decide +kernel
theorem dX7_fault_1 : decode cX7_fault 1 = .ok (.getfield 129, 3) := by decide +kernel
theorem dX7_fault_4 : decode cX7_fault 4 = .ok (.ireturn, 1) := by decide +kernel
theorem dX7_records_0 : decode cX7_records 0 = .ok (.iload_n 1, 1) := by decide +kernel
theorem dX7_records_1 : decode cX7_records 1 = .ok (.ifCond .ne 11, 3) := by decide +kernel
theorem dX7_records_4 : decode cX7_records 4 = .ok (.aload_n 0, 1) := by decide +kernel
theorem dX7_records_5 : decode cX7_records 5 = .ok (.getfield 34, 3) := by decide +kernel
theorem dX7_records_8 : decode cX7_records 8 = .ok (.getfield 151, 3) := by decide +kernel
theorem dX7_records_11 : decode cX7_records 11 = .ok (.ireturn, 1) := by decide +kernel
theorem dX7_records_12 : decode cX7_records 12 = .ok (.iload_n 1, 1) := by decide +kernel
theorem dX7_records_13 : decode cX7_records 13 = .ok (.iconst 1, 1) := by decide +kernel
theorem dX7_records_14 : decode cX7_records 14 = .ok (.if_icmp .ne 13, 3) := by decide +kernel
theorem dX7_records_17 : decode cX7_records 17 = .ok (.aload_n 0, 1) := by decide +kernel
theorem dX7_records_18 : decode cX7_records 18 = .ok (.getfield 34, 3) := by decide +kernel
theorem dX7_records_21 : decode cX7_records 21 = .ok (.getfield 154, 3) := by decide +kernel
theorem dX7_records_24 : decode cX7_records 24 = .ok (.goto 4, 3) := by decide +kernel
theorem dX7_records_27 : decode cX7_records 27 = .ok (.iconst (-1), 1) := by decide +kernel
theorem dX7_records_28 : decode cX7_records 28 = .ok (.ireturn, 1) := by decide +kernel
theorem dX7_has_0 : decode cX7_has 0 = .ok (.aload_n 0, 1) := by decide +kernel
theorem dX7_has_1 : decode cX7_has 1 = .ok (.iload_n 1, 1) := by decide +kernel
theorem dX7_has_2 : decode cX7_has 2 = .ok (.invokevirtual 157, 3) := by decide +kernel
theorem dX7_has_5 : decode cX7_has 5 = .ok (.ifCond .eq 19, 3) := by decide +kernel
theorem dX7_has_8 : decode cX7_has 8 = .ok (.iload_n 2, 1) := by decide +kernel
theorem dX7_has_9 : decode cX7_has 9 = .ok (.invokestatic 70, 3) := by decide +kernel
theorem dX7_has_12 : decode cX7_has 12 = .ok (.ifCond .eq 12, 3) := by decide +kernel
theorem dX7_has_15 : decode cX7_has 15 = .ok (.iload_n 3, 1) := by decide +kernel
theorem dX7_has_16 : decode cX7_has 16 = .ok (.ifCond .lt 8, 3) := by decide +kernel
theorem dX7_has_19 : decode cX7_has 19 = .ok (.iload_n 3, 1) := by decide +kernel
theorem dX7_has_20 : decode cX7_has 20 = .ok (.iconst 1, 1) := by decide +kernel
theorem dX7_has_21 : decode cX7_has 21 = .ok (.if_icmp .le 5, 3) := by decide +kernel
theorem dX7_has_24 : decode cX7_has 24 = .ok (.iconst (-1), 1) := by decide +kernel
theorem dX7_has_25 : decode cX7_has 25 = .ok (.ireturn, 1) := by decide +kernel
theorem dX7_has_26 : decode cX7_has 26 = .ok (.iload_n 3, 1) := by decide +kernel
theorem dX7_has_27 : decode cX7_has 27 = .ok (.ifCond .ne 15, 3) := by decide +kernel
theorem dX7_has_30 : decode cX7_has 30 = .ok (.aload_n 0, 1) := by decide +kernel
theorem dX7_has_31 : decode cX7_has 31 = .ok (.getfield 34, 3) := by decide +kernel
theorem dX7_has_34 : decode cX7_has 34 = .ok (.iload_n 1, 1) := by decide +kernel
theorem dX7_has_35 : decode cX7_has 35 = .ok (.iload_n 2, 1) := by decide +kernel
theorem dX7_has_36 : decode cX7_has 36 = .ok (.invokevirtual 160, 3) := by decide +kernel
theorem dX7_has_39 : decode cX7_has 39 = .ok (.goto 12, 3) := by decide +kernel
theorem dX7_has_42 : decode cX7_has 42 = .ok (.aload_n 0, 1) := by decide +kernel
theorem dX7_has_43 : decode cX7_has 43 = .ok (.getfield 34, 3) := by decide +kernel
theorem dX7_has_46 : decode cX7_has 46 = .ok (.iload_n 1, 1) := by decide +kernel
theorem dX7_has_47 : decode cX7_has 47 = .ok (.iload_n 2, 1) := by decide +kernel
theorem dX7_has_48 : decode cX7_has 48 = .ok (.invokevirtual 163, 3) := by decide +kernel
theorem dX7_has_51 : decode cX7_has 51 = .ok (.ireturn, 1) := by decide +kernel
theorem dX7_at_0 : decode cX7_at 0 = .ok (.aload_n 0, 1) := by decide +kernel
theorem dX7_at_1 : decode cX7_at 1 = .ok (.iload_n 1, 1) := by decide +kernel
theorem dX7_at_2 : decode cX7_at 2 = .ok (.invokevirtual 157, 3) := by decide +kernel
theorem dX7_at_5 : decode cX7_at 5 = .ok (.ifCond .eq 10, 3) := by decide +kernel
theorem dX7_at_8 : decode cX7_at 8 = .ok (.iload_n 2, 1) := by decide +kernel
theorem dX7_at_9 : decode cX7_at 9 = .ok (.invokestatic 70, 3) := by decide +kernel
theorem dX7_at_12 : decode cX7_at 12 = .ok (.ifCond .ne 5, 3) := by decide +kernel
theorem dX7_at_15 : decode cX7_at 15 = .ok (.iconst (-1), 1) := by decide +kernel
theorem dX7_at_16 : decode cX7_at 16 = .ok (.ireturn, 1) := by decide +kernel
theorem dX7_at_17 : decode cX7_at 17 = .ok (.iload_n 3, 1) := by decide +kernel
theorem dX7_at_18 : decode cX7_at 18 = .ok (.ifCond .lt 16, 3) := by decide +kernel
theorem dX7_at_21 : decode cX7_at 21 = .ok (.iload_n 3, 1) := by decide +kernel
theorem dX7_at_22 : decode cX7_at 22 = .ok (.aload_n 0, 1) := by decide +kernel
theorem dX7_at_23 : decode cX7_at 23 = .ok (.getfield 34, 3) := by decide +kernel
theorem dX7_at_26 : decode cX7_at 26 = .ok (.iload_n 1, 1) := by decide +kernel
theorem dX7_at_27 : decode cX7_at 27 = .ok (.iload_n 2, 1) := by decide +kernel
theorem dX7_at_28 : decode cX7_at 28 = .ok (.invokevirtual 160, 3) := by decide +kernel
theorem dX7_at_31 : decode cX7_at 31 = .ok (.if_icmp .lt 6, 3) := by decide +kernel
theorem dX7_at_34 : decode cX7_at 34 = .ok (.bipush (-9), 2) := by decide +kernel
theorem dX7_at_36 : decode cX7_at 36 = .ok (.ireturn, 1) := by decide +kernel
theorem dX7_at_37 : decode cX7_at 37 = .ok (.aload_n 0, 1) := by decide +kernel
theorem dX7_at_38 : decode cX7_at 38 = .ok (.getfield 34, 3) := by decide +kernel
theorem dX7_at_41 : decode cX7_at 41 = .ok (.getfield 166, 3) := by decide +kernel
theorem dX7_at_44 : decode cX7_at 44 = .ok (.aload_n 0, 1) := by decide +kernel
theorem dX7_at_45 : decode cX7_at 45 = .ok (.getfield 34, 3) := by decide +kernel
theorem dX7_at_48 : decode cX7_at 48 = .ok (.iload_n 1, 1) := by decide +kernel
theorem dX7_at_49 : decode cX7_at 49 = .ok (.iload_n 2, 1) := by decide +kernel
theorem dX7_at_50 : decode cX7_at 50 = .ok (.invokevirtual 163, 3) := by decide +kernel
theorem dX7_at_53 : decode cX7_at 53 = .ok (.iload_n 3, 1) := by decide +kernel
theorem dX7_at_54 : decode cX7_at 54 = .ok (.iadd, 1) := by decide +kernel
theorem dX7_at_55 : decode cX7_at 55 = .ok (.iaload, 1) := by decide +kernel
theorem dX7_at_56 : decode cX7_at 56 = .ok (.ireturn, 1) := by decide +kernel
theorem dX7_number_0 : decode cX7_number 0 = .ok (.aload_n 0, 1) := by decide +kernel
theorem dX7_number_1 : decode cX7_number 1 = .ok (.iload_n 1, 1) := by decide +kernel
theorem dX7_number_2 : decode cX7_number 2 = .ok (.invokevirtual 157, 3) := by decide +kernel
theorem dX7_number_5 : decode cX7_number 5 = .ok (.ifCond .eq 10, 3) := by decide +kernel
theorem dX7_number_8 : decode cX7_number 8 = .ok (.iload_n 2, 1) := by decide +kernel
theorem dX7_number_9 : decode cX7_number 9 = .ok (.invokestatic 70, 3) := by decide +kernel
theorem dX7_number_12 : decode cX7_number 12 = .ok (.ifCond .ne 7, 3) := by decide +kernel
theorem dX7_number_15 : decode cX7_number 15 = .ok (.ldc2_w 167, 3) := by decide +kernel
theorem dX7_number_18 : decode cX7_number 18 = .ok (.lreturn, 1) := by decide +kernel
theorem dX7_number_19 : decode cX7_number 19 = .ok (.aload_n 0, 1) := by decide +kernel
theorem dX7_number_20 : decode cX7_number 20 = .ok (.aload_n 0, 1) := by decide +kernel
theorem dX7_number_21 : decode cX7_number 21 = .ok (.getfield 34, 3) := by decide +kernel
theorem dX7_number_24 : decode cX7_number 24 = .ok (.getfield 154, 3) := by decide +kernel
theorem dX7_number_27 : decode cX7_number 27 = .ok (.invokevirtual 66, 3) := by decide +kernel
theorem dX7_number_30 : decode cX7_number 30 = .ok (.astore 4, 2) := by decide +kernel
theorem dX7_number_32 : decode cX7_number 32 = .ok (.aload_n 0, 1) := by decide +kernel
theorem dX7_number_33 : decode cX7_number 33 = .ok (.getfield 34, 3) := by decide +kernel
theorem dX7_number_36 : decode cX7_number 36 = .ok (.iload_n 1, 1) := by decide +kernel
theorem dX7_number_37 : decode cX7_number 37 = .ok (.iload_n 2, 1) := by decide +kernel
theorem dX7_number_38 : decode cX7_number 38 = .ok (.invokevirtual 160, 3) := by decide +kernel
theorem dX7_number_41 : decode cX7_number 41 = .ok (.istore 5, 2) := by decide +kernel
theorem dX7_number_43 : decode cX7_number 43 = .ok (.aload 4, 2) := by decide +kernel
theorem dX7_number_45 : decode cX7_number 45 = .ok (.ifnull 12, 3) := by decide +kernel
theorem dX7_number_48 : decode cX7_number 48 = .ok (.iload 5, 2) := by decide +kernel
theorem dX7_number_50 : decode cX7_number 50 = .ok (.ifCond .eq 7, 3) := by decide +kernel
theorem dX7_number_53 : decode cX7_number 53 = .ok (.iload_n 3, 1) := by decide +kernel
theorem dX7_number_54 : decode cX7_number 54 = .ok (.ifCond .ge 7, 3) := by decide +kernel
theorem dX7_number_57 : decode cX7_number 57 = .ok (.ldc2_w 169, 3) := by decide +kernel
theorem dX7_number_60 : decode cX7_number 60 = .ok (.lreturn, 1) := by decide +kernel
theorem dX7_number_61 : decode cX7_number 61 = .ok (.aload_n 0, 1) := by decide +kernel
theorem dX7_number_62 : decode cX7_number 62 = .ok (.getfield 34, 3) := by decide +kernel
theorem dX7_number_65 : decode cX7_number 65 = .ok (.iload_n 1, 1) := by decide +kernel
theorem dX7_number_66 : decode cX7_number 66 = .ok (.iload_n 2, 1) := by decide +kernel
theorem dX7_number_67 : decode cX7_number 67 = .ok (.invokevirtual 163, 3) := by decide +kernel
theorem dX7_number_70 : decode cX7_number 70 = .ok (.istore 6, 2) := by decide +kernel
theorem dX7_number_72 : decode cX7_number 72 = .ok (.aload 4, 2) := by decide +kernel
theorem dX7_number_74 : decode cX7_number 74 = .ok (.getfield 81, 3) := by decide +kernel
theorem dX7_number_77 : decode cX7_number 77 = .ok (.iload_n 2, 1) := by decide +kernel
theorem dX7_number_78 : decode cX7_number 78 = .ok (.iaload, 1) := by decide +kernel
theorem dX7_number_79 : decode cX7_number 79 = .ok (.tableswitch 110 0 3 #[29, 110, 51, 99], 29) := by decide +kernel
theorem dX7_number_108 : decode cX7_number 108 = .ok (.iload_n 3, 1) := by decide +kernel
theorem dX7_number_109 : decode cX7_number 109 = .ok (.ifCond .ne 17, 3) := by decide +kernel
theorem dX7_number_112 : decode cX7_number 112 = .ok (.aload_n 0, 1) := by decide +kernel
theorem dX7_number_113 : decode cX7_number 113 = .ok (.getfield 34, 3) := by decide +kernel
theorem dX7_number_116 : decode cX7_number 116 = .ok (.iload 6, 2) := by decide +kernel
theorem dX7_number_118 : decode cX7_number 118 = .ok (.iload 5, 2) := by decide +kernel
theorem dX7_number_120 : decode cX7_number 120 = .ok (.invokevirtual 171, 3) := by decide +kernel
theorem dX7_number_123 : decode cX7_number 123 = .ok (.goto 6, 3) := by decide +kernel
theorem dX7_number_126 : decode cX7_number 126 = .ok (.ldc2_w 169, 3) := by decide +kernel
theorem dX7_number_129 : decode cX7_number 129 = .ok (.lreturn, 1) := by decide +kernel
theorem dX7_number_130 : decode cX7_number 130 = .ok (.aload 4, 2) := by decide +kernel
theorem dX7_number_132 : decode cX7_number 132 = .ok (.getfield 105, 3) := by decide +kernel
theorem dX7_number_135 : decode cX7_number 135 = .ok (.iload_n 2, 1) := by decide +kernel
theorem dX7_number_136 : decode cX7_number 136 = .ok (.iaload, 1) := by decide +kernel
theorem dX7_number_137 : decode cX7_number 137 = .ok (.istore 7, 2) := by decide +kernel
theorem dX7_number_139 : decode cX7_number 139 = .ok (.iload_n 3, 1) := by decide +kernel
theorem dX7_number_140 : decode cX7_number 140 = .ok (.aload_n 0, 1) := by decide +kernel
theorem dX7_number_141 : decode cX7_number 141 = .ok (.getfield 34, 3) := by decide +kernel
theorem dX7_number_144 : decode cX7_number 144 = .ok (.getfield 166, 3) := by decide +kernel
theorem dX7_number_147 : decode cX7_number 147 = .ok (.iload 6, 2) := by decide +kernel
theorem dX7_number_149 : decode cX7_number 149 = .ok (.iaload, 1) := by decide +kernel
theorem dX7_number_150 : decode cX7_number 150 = .ok (.if_icmp .ge 24, 3) := by decide +kernel
theorem dX7_number_153 : decode cX7_number 153 = .ok (.aload_n 0, 1) := by decide +kernel
theorem dX7_number_154 : decode cX7_number 154 = .ok (.getfield 34, 3) := by decide +kernel
theorem dX7_number_157 : decode cX7_number 157 = .ok (.iload 6, 2) := by decide +kernel
theorem dX7_number_159 : decode cX7_number 159 = .ok (.iconst 1, 1) := by decide +kernel
theorem dX7_number_160 : decode cX7_number 160 = .ok (.iadd, 1) := by decide +kernel
theorem dX7_number_161 : decode cX7_number 161 = .ok (.iload_n 3, 1) := by decide +kernel
theorem dX7_number_162 : decode cX7_number 162 = .ok (.iload 7, 2) := by decide +kernel
theorem dX7_number_164 : decode cX7_number 164 = .ok (.imul, 1) := by decide +kernel
theorem dX7_number_165 : decode cX7_number 165 = .ok (.iadd, 1) := by decide +kernel
theorem dX7_number_166 : decode cX7_number 166 = .ok (.iload 7, 2) := by decide +kernel
theorem dX7_number_168 : decode cX7_number 168 = .ok (.invokevirtual 171, 3) := by decide +kernel
theorem dX7_number_171 : decode cX7_number 171 = .ok (.goto 6, 3) := by decide +kernel
theorem dX7_number_174 : decode cX7_number 174 = .ok (.ldc2_w 169, 3) := by decide +kernel
theorem dX7_number_177 : decode cX7_number 177 = .ok (.lreturn, 1) := by decide +kernel
theorem dX7_number_178 : decode cX7_number 178 = .ok (.aload_n 0, 1) := by decide +kernel
theorem dX7_number_179 : decode cX7_number 179 = .ok (.aload 4, 2) := by decide +kernel
theorem dX7_number_181 : decode cX7_number 181 = .ok (.iload_n 2, 1) := by decide +kernel
theorem dX7_number_182 : decode cX7_number 182 = .ok (.iload 6, 2) := by decide +kernel
theorem dX7_number_184 : decode cX7_number 184 = .ok (.iload_n 3, 1) := by decide +kernel
theorem dX7_number_185 : decode cX7_number 185 = .ok (.invokevirtual 175, 3) := by decide +kernel
theorem dX7_number_188 : decode cX7_number 188 = .ok (.lreturn, 1) := by decide +kernel
theorem dX7_number_189 : decode cX7_number 189 = .ok (.ldc2_w 169, 3) := by decide +kernel
theorem dX7_number_192 : decode cX7_number 192 = .ok (.lreturn, 1) := by decide +kernel
theorem dX7_begin_0 : decode cX7_begin 0 = .ok (.aload_n 0, 1) := by decide +kernel
theorem dX7_begin_1 : decode cX7_begin 1 = .ok (.iload_n 1, 1) := by decide +kernel
theorem dX7_begin_2 : decode cX7_begin 2 = .ok (.invokevirtual 66, 3) := by decide +kernel
theorem dX7_begin_5 : decode cX7_begin 5 = .ok (.ifnonnull 5, 3) := by decide +kernel
theorem dX7_begin_8 : decode cX7_begin 8 = .ok (.iconst (-1), 1) := by decide +kernel
theorem dX7_begin_9 : decode cX7_begin 9 = .ok (.ireturn, 1) := by decide +kernel
theorem dX7_begin_10 : decode cX7_begin 10 = .ok (.aload_n 0, 1) := by decide +kernel
theorem dX7_begin_11 : decode cX7_begin 11 = .ok (.getfield 44, 3) := by decide +kernel
theorem dX7_begin_14 : decode cX7_begin 14 = .ok (.iload_n 1, 1) := by decide +kernel
theorem dX7_begin_15 : decode cX7_begin 15 = .ok (.invokevirtual 179, 3) := by decide +kernel
theorem dX7_begin_18 : decode cX7_begin 18 = .ok (.iconst 1, 1) := by decide +kernel
theorem dX7_begin_19 : decode cX7_begin 19 = .ok (.ireturn, 1) := by decide +kernel
theorem dX7_set_0 : decode cX7_set 0 = .ok (.iload_n 1, 1) := by decide +kernel
theorem dX7_set_1 : decode cX7_set 1 = .ok (.invokestatic 70, 3) := by decide +kernel
theorem dX7_set_4 : decode cX7_set 4 = .ok (.ifCond .ne 5, 3) := by decide +kernel
theorem dX7_set_7 : decode cX7_set 7 = .ok (.iconst (-1), 1) := by decide +kernel
theorem dX7_set_8 : decode cX7_set 8 = .ok (.ireturn, 1) := by decide +kernel
theorem dX7_set_9 : decode cX7_set 9 = .ok (.aload_n 0, 1) := by decide +kernel
theorem dX7_set_10 : decode cX7_set 10 = .ok (.aload_n 0, 1) := by decide +kernel
theorem dX7_set_11 : decode cX7_set 11 = .ok (.getfield 44, 3) := by decide +kernel
theorem dX7_set_14 : decode cX7_set 14 = .ok (.getfield 182, 3) := by decide +kernel
theorem dX7_set_17 : decode cX7_set 17 = .ok (.invokevirtual 66, 3) := by decide +kernel
theorem dX7_set_20 : decode cX7_set 20 = .ok (.astore_n 2, 1) := by decide +kernel
theorem dX7_set_21 : decode cX7_set 21 = .ok (.aload_n 2, 1) := by decide +kernel
theorem dX7_set_22 : decode cX7_set 22 = .ok (.ifnonnull 6, 3) := by decide +kernel
theorem dX7_set_25 : decode cX7_set 25 = .ok (.bipush (-2), 2) := by decide +kernel
theorem dX7_set_27 : decode cX7_set 27 = .ok (.ireturn, 1) := by decide +kernel
theorem dX7_set_28 : decode cX7_set 28 = .ok (.aload_n 0, 1) := by decide +kernel
theorem dX7_set_29 : decode cX7_set 29 = .ok (.getfield 18, 3) := by decide +kernel
theorem dX7_set_32 : decode cX7_set 32 = .ok (.getfield 114, 3) := by decide +kernel
theorem dX7_set_35 : decode cX7_set 35 = .ok (.istore_n 3, 1) := by decide +kernel
theorem dX7_set_36 : decode cX7_set 36 = .ok (.aload_n 0, 1) := by decide +kernel
theorem dX7_set_37 : decode cX7_set 37 = .ok (.getfield 27, 3) := by decide +kernel
theorem dX7_set_40 : decode cX7_set 40 = .ok (.iload_n 3, 1) := by decide +kernel
theorem dX7_set_41 : decode cX7_set 41 = .ok (.invokevirtual 120, 3) := by decide +kernel
theorem dX7_set_44 : decode cX7_set 44 = .ok (.aload_n 0, 1) := by decide +kernel
theorem dX7_set_45 : decode cX7_set 45 = .ok (.getfield 27, 3) := by decide +kernel
theorem dX7_set_48 : decode cX7_set 48 = .ok (.aload_n 2, 1) := by decide +kernel
theorem dX7_set_49 : decode cX7_set 49 = .ok (.putfield 183, 3) := by decide +kernel
theorem dX7_set_52 : decode cX7_set 52 = .ok (.aload_n 0, 1) := by decide +kernel
theorem dX7_set_53 : decode cX7_set 53 = .ok (.getfield 27, 3) := by decide +kernel
theorem dX7_set_56 : decode cX7_set 56 = .ok (.iload_n 1, 1) := by decide +kernel
theorem dX7_set_57 : decode cX7_set 57 = .ok (.invokevirtual 187, 3) := by decide +kernel
theorem dX7_set_60 : decode cX7_set 60 = .ok (.aload_n 2, 1) := by decide +kernel
theorem dX7_set_61 : decode cX7_set 61 = .ok (.getfield 81, 3) := by decide +kernel
theorem dX7_set_64 : decode cX7_set 64 = .ok (.iload_n 1, 1) := by decide +kernel
theorem dX7_set_65 : decode cX7_set 65 = .ok (.iaload, 1) := by decide +kernel
theorem dX7_set_66 : decode cX7_set 66 = .ok (.bipush (-9), 2) := by decide +kernel
theorem dX7_set_68 : decode cX7_set 68 = .ok (.if_icmp .eq 24, 3) := by decide +kernel
theorem dX7_set_71 : decode cX7_set 71 = .ok (.aload_n 0, 1) := by decide +kernel
theorem dX7_set_72 : decode cX7_set 72 = .ok (.getfield 27, 3) := by decide +kernel
theorem dX7_set_75 : decode cX7_set 75 = .ok (.getfield 126, 3) := by decide +kernel
theorem dX7_set_78 : decode cX7_set 78 = .ok (.ifCond .ne 14, 3) := by decide +kernel
theorem dX7_set_81 : decode cX7_set 81 = .ok (.aload_n 0, 1) := by decide +kernel
theorem dX7_set_82 : decode cX7_set 82 = .ok (.getfield 27, 3) := by decide +kernel
theorem dX7_set_85 : decode cX7_set 85 = .ok (.getfield 190, 3) := by decide +kernel
theorem dX7_set_88 : decode cX7_set 88 = .ok (.iload_n 3, 1) := by decide +kernel
theorem dX7_set_89 : decode cX7_set 89 = .ok (.if_icmp .eq 5, 3) := by decide +kernel
theorem dX7_set_92 : decode cX7_set 92 = .ok (.iconst (-1), 1) := by decide +kernel
theorem dX7_set_93 : decode cX7_set 93 = .ok (.ireturn, 1) := by decide +kernel
theorem dX7_set_94 : decode cX7_set 94 = .ok (.aload_n 0, 1) := by decide +kernel
theorem dX7_set_95 : decode cX7_set 95 = .ok (.getfield 44, 3) := by decide +kernel
theorem dX7_set_98 : decode cX7_set 98 = .ok (.iload_n 1, 1) := by decide +kernel
theorem dX7_set_99 : decode cX7_set 99 = .ok (.aload_n 0, 1) := by decide +kernel
theorem dX7_set_100 : decode cX7_set 100 = .ok (.getfield 18, 3) := by decide +kernel
theorem dX7_set_103 : decode cX7_set 103 = .ok (.getfield 135, 3) := by decide +kernel
theorem dX7_set_106 : decode cX7_set 106 = .ok (.iload_n 3, 1) := by decide +kernel
theorem dX7_set_107 : decode cX7_set 107 = .ok (.invokevirtual 193, 3) := by decide +kernel
theorem dX7_set_110 : decode cX7_set 110 = .ok (.aload_n 0, 1) := by decide +kernel
theorem dX7_set_111 : decode cX7_set 111 = .ok (.getfield 18, 3) := by decide +kernel
theorem dX7_set_114 : decode cX7_set 114 = .ok (.iconst 0, 1) := by decide +kernel
theorem dX7_set_115 : decode cX7_set 115 = .ok (.putfield 114, 3) := by decide +kernel
theorem dX7_set_118 : decode cX7_set 118 = .ok (.iload_n 3, 1) := by decide +kernel
theorem dX7_set_119 : decode cX7_set 119 = .ok (.ireturn, 1) := by decide +kernel
theorem dX7_take_0 : decode cX7_take 0 = .ok (.iload_n 1, 1) := by decide +kernel
theorem dX7_take_1 : decode cX7_take 1 = .ok (.invokestatic 70, 3) := by decide +kernel
theorem dX7_take_4 : decode cX7_take 4 = .ok (.ifCond .ne 5, 3) := by decide +kernel
theorem dX7_take_7 : decode cX7_take 7 = .ok (.iconst (-1), 1) := by decide +kernel
theorem dX7_take_8 : decode cX7_take 8 = .ok (.ireturn, 1) := by decide +kernel
theorem dX7_take_9 : decode cX7_take 9 = .ok (.aload_n 0, 1) := by decide +kernel
theorem dX7_take_10 : decode cX7_take 10 = .ok (.getfield 44, 3) := by decide +kernel
theorem dX7_take_13 : decode cX7_take 13 = .ok (.getfield 182, 3) := by decide +kernel
theorem dX7_take_16 : decode cX7_take 16 = .ok (.bipush (-9), 2) := by decide +kernel
theorem dX7_take_18 : decode cX7_take 18 = .ok (.if_icmp .ne 6, 3) := by decide +kernel
theorem dX7_take_21 : decode cX7_take 21 = .ok (.bipush (-2), 2) := by decide +kernel
theorem dX7_take_23 : decode cX7_take 23 = .ok (.ireturn, 1) := by decide +kernel
theorem dX7_take_24 : decode cX7_take 24 = .ok (.aload_n 0, 1) := by decide +kernel
theorem dX7_take_25 : decode cX7_take 25 = .ok (.getfield 44, 3) := by decide +kernel
theorem dX7_take_28 : decode cX7_take 28 = .ok (.getfield 196, 3) := by decide +kernel
theorem dX7_take_31 : decode cX7_take 31 = .ok (.iload_n 1, 1) := by decide +kernel
theorem dX7_take_32 : decode cX7_take 32 = .ok (.iaload, 1) := by decide +kernel
theorem dX7_take_33 : decode cX7_take 33 = .ok (.istore_n 2, 1) := by decide +kernel
theorem dX7_take_34 : decode cX7_take 34 = .ok (.iload_n 2, 1) := by decide +kernel
theorem dX7_take_35 : decode cX7_take 35 = .ok (.ifCond .ne 5, 3) := by decide +kernel
theorem dX7_take_38 : decode cX7_take 38 = .ok (.iconst (-1), 1) := by decide +kernel
theorem dX7_take_39 : decode cX7_take 39 = .ok (.ireturn, 1) := by decide +kernel
theorem dX7_take_40 : decode cX7_take 40 = .ok (.aload_n 0, 1) := by decide +kernel
theorem dX7_take_41 : decode cX7_take 41 = .ok (.getfield 44, 3) := by decide +kernel
theorem dX7_take_44 : decode cX7_take 44 = .ok (.getfield 196, 3) := by decide +kernel
theorem dX7_take_47 : decode cX7_take 47 = .ok (.iload_n 1, 1) := by decide +kernel
theorem dX7_take_48 : decode cX7_take 48 = .ok (.iconst 0, 1) := by decide +kernel
theorem dX7_take_49 : decode cX7_take 49 = .ok (.iastore, 1) := by decide +kernel
theorem dX7_take_50 : decode cX7_take 50 = .ok (.iload_n 2, 1) := by decide +kernel
theorem dX7_take_51 : decode cX7_take 51 = .ok (.ireturn, 1) := by decide +kernel
theorem dX7_write_0 : decode cX7_write 0 = .ok (.aload_n 0, 1) := by decide +kernel
theorem dX7_write_1 : decode cX7_write 1 = .ok (.aload_n 0, 1) := by decide +kernel
theorem dX7_write_2 : decode cX7_write 2 = .ok (.getfield 44, 3) := by decide +kernel
theorem dX7_write_5 : decode cX7_write 5 = .ok (.getfield 182, 3) := by decide +kernel
theorem dX7_write_8 : decode cX7_write 8 = .ok (.invokevirtual 66, 3) := by decide +kernel
theorem dX7_write_11 : decode cX7_write 11 = .ok (.astore_n 1, 1) := by decide +kernel
theorem dX7_write_12 : decode cX7_write 12 = .ok (.aload_n 0, 1) := by decide +kernel
theorem dX7_write_13 : decode cX7_write 13 = .ok (.getfield 44, 3) := by decide +kernel
theorem dX7_write_16 : decode cX7_write 16 = .ok (.invokevirtual 197, 3) := by decide +kernel
theorem dX7_write_19 : decode cX7_write 19 = .ok (.istore_n 2, 1) := by decide +kernel
theorem dX7_write_20 : decode cX7_write 20 = .ok (.aload_n 1, 1) := by decide +kernel
theorem dX7_write_21 : decode cX7_write 21 = .ok (.ifnull 7, 3) := by decide +kernel
theorem dX7_write_24 : decode cX7_write 24 = .ok (.iload_n 2, 1) := by decide +kernel
theorem dX7_write_25 : decode cX7_write 25 = .ok (.ifCond .ne 6, 3) := by decide +kernel
theorem dX7_write_28 : decode cX7_write 28 = .ok (.bipush (-2), 2) := by decide +kernel
theorem dX7_write_30 : decode cX7_write 30 = .ok (.ireturn, 1) := by decide +kernel
theorem dX7_write_31 : decode cX7_write 31 = .ok (.iload_n 2, 1) := by decide +kernel
theorem dX7_write_32 : decode cX7_write 32 = .ok (.bipush 7, 2) := by decide +kernel
theorem dX7_write_34 : decode cX7_write 34 = .ok (.iadd, 1) := by decide +kernel
theorem dX7_write_35 : decode cX7_write 35 = .ok (.iconst 1, 1) := by decide +kernel
theorem dX7_write_36 : decode cX7_write 36 = .ok (.isub, 1) := by decide +kernel
theorem dX7_write_37 : decode cX7_write 37 = .ok (.bipush 7, 2) := by decide +kernel
theorem dX7_write_39 : decode cX7_write 39 = .ok (.idiv, 1) := by decide +kernel
theorem dX7_write_40 : decode cX7_write 40 = .ok (.istore_n 3, 1) := by decide +kernel
theorem dX7_write_41 : decode cX7_write 41 = .ok (.iconst 3, 1) := by decide +kernel
theorem dX7_write_42 : decode cX7_write 42 = .ok (.iload_n 3, 1) := by decide +kernel
theorem dX7_write_43 : decode cX7_write 43 = .ok (.iadd, 1) := by decide +kernel
theorem dX7_write_44 : decode cX7_write 44 = .ok (.aload_n 0, 1) := by decide +kernel
theorem dX7_write_45 : decode cX7_write 45 = .ok (.getfield 44, 3) := by decide +kernel
theorem dX7_write_48 : decode cX7_write 48 = .ok (.invokevirtual 201, 3) := by decide +kernel
theorem dX7_write_51 : decode cX7_write 51 = .ok (.iadd, 1) := by decide +kernel
theorem dX7_write_52 : decode cX7_write 52 = .ok (.istore 4, 2) := by decide +kernel
theorem dX7_write_54 : decode cX7_write 54 = .ok (.aload_n 0, 1) := by decide +kernel
theorem dX7_write_55 : decode cX7_write 55 = .ok (.getfield 18, 3) := by decide +kernel
theorem dX7_write_58 : decode cX7_write 58 = .ok (.iload 4, 2) := by decide +kernel
theorem dX7_write_60 : decode cX7_write 60 = .ok (.invokevirtual 108, 3) := by decide +kernel
theorem dX7_write_63 : decode cX7_write 63 = .ok (.ifCond .ne 6, 3) := by decide +kernel
theorem dX7_write_66 : decode cX7_write 66 = .ok (.bipush (-3), 2) := by decide +kernel
theorem dX7_write_68 : decode cX7_write 68 = .ok (.ireturn, 1) := by decide +kernel
theorem dX7_write_69 : decode cX7_write 69 = .ok (.aload_n 0, 1) := by decide +kernel
theorem dX7_write_70 : decode cX7_write 70 = .ok (.getfield 18, 3) := by decide +kernel
theorem dX7_write_73 : decode cX7_write 73 = .ok (.aload_n 1, 1) := by decide +kernel
theorem dX7_write_74 : decode cX7_write 74 = .ok (.getfield 204, 3) := by decide +kernel
theorem dX7_write_77 : decode cX7_write 77 = .ok (.iload 4, 2) := by decide +kernel
theorem dX7_write_79 : decode cX7_write 79 = .ok (.invokevirtual 207, 3) := by decide +kernel
theorem dX7_write_82 : decode cX7_write 82 = .ok (.iconst 0, 1) := by decide +kernel
theorem dX7_write_83 : decode cX7_write 83 = .ok (.istore 5, 2) := by decide +kernel
theorem dX7_write_85 : decode cX7_write 85 = .ok (.iload 5, 2) := by decide +kernel
theorem dX7_write_87 : decode cX7_write 87 = .ok (.iload_n 3, 1) := by decide +kernel
theorem dX7_write_88 : decode cX7_write 88 = .ok (.if_icmp .ge 38, 3) := by decide +kernel
theorem dX7_write_91 : decode cX7_write 91 = .ok (.aload_n 0, 1) := by decide +kernel
theorem dX7_write_92 : decode cX7_write 92 = .ok (.getfield 18, 3) := by decide +kernel
theorem dX7_write_95 : decode cX7_write 95 = .ok (.aload_n 0, 1) := by decide +kernel
theorem dX7_write_96 : decode cX7_write 96 = .ok (.getfield 44, 3) := by decide +kernel
theorem dX7_write_99 : decode cX7_write 99 = .ok (.iload 5, 2) := by decide +kernel
theorem dX7_write_101 : decode cX7_write 101 = .ok (.iload 5, 2) := by decide +kernel
theorem dX7_write_103 : decode cX7_write 103 = .ok (.iload_n 3, 1) := by decide +kernel
theorem dX7_write_104 : decode cX7_write 104 = .ok (.iconst 1, 1) := by decide +kernel
theorem dX7_write_105 : decode cX7_write 105 = .ok (.isub, 1) := by decide +kernel
theorem dX7_write_106 : decode cX7_write 106 = .ok (.if_icmp .ne 7, 3) := by decide +kernel
theorem dX7_write_109 : decode cX7_write 109 = .ok (.iconst 1, 1) := by decide +kernel
theorem dX7_write_110 : decode cX7_write 110 = .ok (.goto 4, 3) := by decide +kernel
theorem dX7_write_113 : decode cX7_write 113 = .ok (.iconst 0, 1) := by decide +kernel
theorem dX7_write_114 : decode cX7_write 114 = .ok (.invokevirtual 211, 3) := by decide +kernel
theorem dX7_write_117 : decode cX7_write 117 = .ok (.invokevirtual 111, 3) := by decide +kernel
theorem dX7_write_120 : decode cX7_write 120 = .ok (.iinc 5 1, 3) := by decide +kernel
theorem dX7_write_123 : decode cX7_write 123 = .ok (.goto (-38), 3) := by decide +kernel
theorem dX7_write_126 : decode cX7_write 126 = .ok (.iconst 1, 1) := by decide +kernel
theorem dX7_write_127 : decode cX7_write 127 = .ok (.istore 5, 2) := by decide +kernel
theorem dX7_write_129 : decode cX7_write 129 = .ok (.iload 5, 2) := by decide +kernel
theorem dX7_write_131 : decode cX7_write 131 = .ok (.iload_n 2, 1) := by decide +kernel
theorem dX7_write_132 : decode cX7_write 132 = .ok (.if_icmp .gt 38, 3) := by decide +kernel
theorem dX7_write_135 : decode cX7_write 135 = .ok (.aload_n 0, 1) := by decide +kernel
theorem dX7_write_136 : decode cX7_write 136 = .ok (.getfield 18, 3) := by decide +kernel
theorem dX7_write_139 : decode cX7_write 139 = .ok (.aload_n 0, 1) := by decide +kernel
theorem dX7_write_140 : decode cX7_write 140 = .ok (.getfield 44, 3) := by decide +kernel
theorem dX7_write_143 : decode cX7_write 143 = .ok (.getfield 215, 3) := by decide +kernel
theorem dX7_write_146 : decode cX7_write 146 = .ok (.iload 5, 2) := by decide +kernel
theorem dX7_write_148 : decode cX7_write 148 = .ok (.invokestatic 216, 3) := by decide +kernel
theorem dX7_write_151 : decode cX7_write 151 = .ok (.aload_n 0, 1) := by decide +kernel
theorem dX7_write_152 : decode cX7_write 152 = .ok (.getfield 44, 3) := by decide +kernel
theorem dX7_write_155 : decode cX7_write 155 = .ok (.getfield 196, 3) := by decide +kernel
theorem dX7_write_158 : decode cX7_write 158 = .ok (.iload 5, 2) := by decide +kernel
theorem dX7_write_160 : decode cX7_write 160 = .ok (.iaload, 1) := by decide +kernel
theorem dX7_write_161 : decode cX7_write 161 = .ok (.invokevirtual 219, 3) := by decide +kernel
theorem dX7_write_164 : decode cX7_write 164 = .ok (.iinc 5 1, 3) := by decide +kernel
theorem dX7_write_167 : decode cX7_write 167 = .ok (.goto (-38), 3) := by decide +kernel
theorem dX7_write_170 : decode cX7_write 170 = .ok (.iload 4, 2) := by decide +kernel
theorem dX7_write_172 : decode cX7_write 172 = .ok (.ireturn, 1) := by decide +kernel
theorem dX7_copy_0 : decode cX7_copy 0 = .ok (.iload_n 1, 1) := by decide +kernel
theorem dX7_copy_1 : decode cX7_copy 1 = .ok (.ifCond .lt 15, 3) := by decide +kernel
theorem dX7_copy_4 : decode cX7_copy 4 = .ok (.iload_n 1, 1) := by decide +kernel
theorem dX7_copy_5 : decode cX7_copy 5 = .ok (.aload_n 0, 1) := by decide +kernel
theorem dX7_copy_6 : decode cX7_copy 6 = .ok (.getfield 34, 3) := by decide +kernel
theorem dX7_copy_9 : decode cX7_copy 9 = .ok (.getfield 151, 3) := by decide +kernel
theorem dX7_copy_12 : decode cX7_copy 12 = .ok (.ishr, 1) := by decide +kernel
theorem dX7_copy_13 : decode cX7_copy 13 = .ok (.ifCond .eq 5, 3) := by decide +kernel
theorem dX7_copy_16 : decode cX7_copy 16 = .ok (.iconst (-1), 1) := by decide +kernel
theorem dX7_copy_17 : decode cX7_copy 17 = .ok (.ireturn, 1) := by decide +kernel
theorem dX7_copy_18 : decode cX7_copy 18 = .ok (.aload_n 0, 1) := by decide +kernel
theorem dX7_copy_19 : decode cX7_copy 19 = .ok (.aload_n 0, 1) := by decide +kernel
theorem dX7_copy_20 : decode cX7_copy 20 = .ok (.getfield 34, 3) := by decide +kernel
theorem dX7_copy_23 : decode cX7_copy 23 = .ok (.getfield 154, 3) := by decide +kernel
theorem dX7_copy_26 : decode cX7_copy 26 = .ok (.invokevirtual 66, 3) := by decide +kernel
theorem dX7_copy_29 : decode cX7_copy 29 = .ok (.astore_n 2, 1) := by decide +kernel
theorem dX7_copy_30 : decode cX7_copy 30 = .ok (.aload_n 0, 1) := by decide +kernel
theorem dX7_copy_31 : decode cX7_copy 31 = .ok (.getfield 34, 3) := by decide +kernel
theorem dX7_copy_34 : decode cX7_copy 34 = .ok (.iload_n 1, 1) := by decide +kernel
theorem dX7_copy_35 : decode cX7_copy 35 = .ok (.invokevirtual 223, 3) := by decide +kernel
theorem dX7_copy_38 : decode cX7_copy 38 = .ok (.istore_n 3, 1) := by decide +kernel
theorem dX7_copy_39 : decode cX7_copy 39 = .ok (.aload_n 2, 1) := by decide +kernel
theorem dX7_copy_40 : decode cX7_copy 40 = .ok (.ifnull 7, 3) := by decide +kernel
theorem dX7_copy_43 : decode cX7_copy 43 = .ok (.iload_n 3, 1) := by decide +kernel
theorem dX7_copy_44 : decode cX7_copy 44 = .ok (.ifCond .ne 6, 3) := by decide +kernel
theorem dX7_copy_47 : decode cX7_copy 47 = .ok (.bipush (-2), 2) := by decide +kernel
theorem dX7_copy_49 : decode cX7_copy 49 = .ok (.ireturn, 1) := by decide +kernel
theorem dX7_copy_50 : decode cX7_copy 50 = .ok (.iconst 3, 1) := by decide +kernel
theorem dX7_copy_51 : decode cX7_copy 51 = .ok (.iload_n 3, 1) := by decide +kernel
theorem dX7_copy_52 : decode cX7_copy 52 = .ok (.iadd, 1) := by decide +kernel
theorem dX7_copy_53 : decode cX7_copy 53 = .ok (.istore 4, 2) := by decide +kernel
theorem dX7_copy_55 : decode cX7_copy 55 = .ok (.aload_n 0, 1) := by decide +kernel
theorem dX7_copy_56 : decode cX7_copy 56 = .ok (.getfield 18, 3) := by decide +kernel
theorem dX7_copy_59 : decode cX7_copy 59 = .ok (.iload 4, 2) := by decide +kernel
theorem dX7_copy_61 : decode cX7_copy 61 = .ok (.invokevirtual 108, 3) := by decide +kernel
theorem dX7_copy_64 : decode cX7_copy 64 = .ok (.ifCond .ne 6, 3) := by decide +kernel
theorem dX7_copy_67 : decode cX7_copy 67 = .ok (.bipush (-3), 2) := by decide +kernel
theorem dX7_copy_69 : decode cX7_copy 69 = .ok (.ireturn, 1) := by decide +kernel
theorem dX7_copy_70 : decode cX7_copy 70 = .ok (.aload_n 0, 1) := by decide +kernel
theorem dX7_copy_71 : decode cX7_copy 71 = .ok (.getfield 18, 3) := by decide +kernel
theorem dX7_copy_74 : decode cX7_copy 74 = .ok (.aload_n 2, 1) := by decide +kernel
theorem dX7_copy_75 : decode cX7_copy 75 = .ok (.getfield 204, 3) := by decide +kernel
theorem dX7_copy_78 : decode cX7_copy 78 = .ok (.iload 4, 2) := by decide +kernel
theorem dX7_copy_80 : decode cX7_copy 80 = .ok (.invokevirtual 207, 3) := by decide +kernel
theorem dX7_copy_83 : decode cX7_copy 83 = .ok (.iconst 0, 1) := by decide +kernel
theorem dX7_copy_84 : decode cX7_copy 84 = .ok (.istore 5, 2) := by decide +kernel
theorem dX7_copy_86 : decode cX7_copy 86 = .ok (.iload 5, 2) := by decide +kernel
theorem dX7_copy_88 : decode cX7_copy 88 = .ok (.aload_n 0, 1) := by decide +kernel
theorem dX7_copy_89 : decode cX7_copy 89 = .ok (.getfield 34, 3) := by decide +kernel
theorem dX7_copy_92 : decode cX7_copy 92 = .ok (.getfield 151, 3) := by decide +kernel
theorem dX7_copy_95 : decode cX7_copy 95 = .ok (.if_icmp .ge 51, 3) := by decide +kernel
theorem dX7_copy_98 : decode cX7_copy 98 = .ok (.iload_n 1, 1) := by decide +kernel
theorem dX7_copy_99 : decode cX7_copy 99 = .ok (.iload 5, 2) := by decide +kernel
theorem dX7_copy_101 : decode cX7_copy 101 = .ok (.ishr, 1) := by decide +kernel
theorem dX7_copy_102 : decode cX7_copy 102 = .ok (.iconst 1, 1) := by decide +kernel
theorem dX7_copy_103 : decode cX7_copy 103 = .ok (.iand, 1) := by decide +kernel
theorem dX7_copy_104 : decode cX7_copy 104 = .ok (.ifCond .ne 36, 3) := by decide +kernel
theorem dX7_copy_107 : decode cX7_copy 107 = .ok (.aload_n 0, 1) := by decide +kernel
theorem dX7_copy_108 : decode cX7_copy 108 = .ok (.getfield 18, 3) := by decide +kernel
theorem dX7_copy_111 : decode cX7_copy 111 = .ok (.aload_n 0, 1) := by decide +kernel
theorem dX7_copy_112 : decode cX7_copy 112 = .ok (.getfield 34, 3) := by decide +kernel
theorem dX7_copy_115 : decode cX7_copy 115 = .ok (.getfield 166, 3) := by decide +kernel
theorem dX7_copy_118 : decode cX7_copy 118 = .ok (.aload_n 0, 1) := by decide +kernel
theorem dX7_copy_119 : decode cX7_copy 119 = .ok (.getfield 34, 3) := by decide +kernel
theorem dX7_copy_122 : decode cX7_copy 122 = .ok (.getfield 226, 3) := by decide +kernel
theorem dX7_copy_125 : decode cX7_copy 125 = .ok (.iload 5, 2) := by decide +kernel
theorem dX7_copy_127 : decode cX7_copy 127 = .ok (.iaload, 1) := by decide +kernel
theorem dX7_copy_128 : decode cX7_copy 128 = .ok (.aload_n 0, 1) := by decide +kernel
theorem dX7_copy_129 : decode cX7_copy 129 = .ok (.getfield 34, 3) := by decide +kernel
theorem dX7_copy_132 : decode cX7_copy 132 = .ok (.iload 5, 2) := by decide +kernel
theorem dX7_copy_134 : decode cX7_copy 134 = .ok (.invokevirtual 229, 3) := by decide +kernel
theorem dX7_copy_137 : decode cX7_copy 137 = .ok (.invokevirtual 219, 3) := by decide +kernel
theorem dX7_copy_140 : decode cX7_copy 140 = .ok (.iinc 5 1, 3) := by decide +kernel
theorem dX7_copy_143 : decode cX7_copy 143 = .ok (.goto (-57), 3) := by decide +kernel
theorem dX7_copy_146 : decode cX7_copy 146 = .ok (.iload 4, 2) := by decide +kernel
theorem dX7_copy_148 : decode cX7_copy 148 = .ok (.ireturn, 1) := by decide +kernel
theorem dX7_tape_0 : decode cX7_tape 0 = .ok (.iload_n 1, 1) := by decide +kernel
theorem dX7_tape_1 : decode cX7_tape 1 = .ok (.ifCond .lt 14, 3) := by decide +kernel
theorem dX7_tape_4 : decode cX7_tape 4 = .ok (.iload_n 1, 1) := by decide +kernel
theorem dX7_tape_5 : decode cX7_tape 5 = .ok (.aload_n 0, 1) := by decide +kernel
theorem dX7_tape_6 : decode cX7_tape 6 = .ok (.getfield 18, 3) := by decide +kernel
theorem dX7_tape_9 : decode cX7_tape 9 = .ok (.getfield 114, 3) := by decide +kernel
theorem dX7_tape_12 : decode cX7_tape 12 = .ok (.if_icmp .lt 8, 3) := by decide +kernel
theorem dX7_tape_15 : decode cX7_tape 15 = .ok (.bipush (-9), 2) := by decide +kernel
theorem dX7_tape_17 : decode cX7_tape 17 = .ok (.goto 12, 3) := by decide +kernel
theorem dX7_tape_20 : decode cX7_tape 20 = .ok (.aload_n 0, 1) := by decide +kernel
theorem dX7_tape_21 : decode cX7_tape 21 = .ok (.getfield 18, 3) := by decide +kernel
theorem dX7_tape_24 : decode cX7_tape 24 = .ok (.getfield 135, 3) := by decide +kernel
theorem dX7_tape_27 : decode cX7_tape 27 = .ok (.iload_n 1, 1) := by decide +kernel
theorem dX7_tape_28 : decode cX7_tape 28 = .ok (.iaload, 1) := by decide +kernel
theorem dX7_tape_29 : decode cX7_tape 29 = .ok (.ireturn, 1) := by decide +kernel
theorem dX7_report_0 : decode cX7_report 0 = .ok (.aload_n 0, 1) := by decide +kernel
theorem dX7_report_1 : decode cX7_report 1 = .ok (.iload_n 1, 1) := by decide +kernel
theorem dX7_report_2 : decode cX7_report 2 = .ok (.invokevirtual 157, 3) := by decide +kernel
theorem dX7_report_5 : decode cX7_report 5 = .ok (.ifCond .ne 5, 3) := by decide +kernel
theorem dX7_report_8 : decode cX7_report 8 = .ok (.iconst (-1), 1) := by decide +kernel
theorem dX7_report_9 : decode cX7_report 9 = .ok (.ireturn, 1) := by decide +kernel
theorem dX7_report_10 : decode cX7_report 10 = .ok (.aload_n 0, 1) := by decide +kernel
theorem dX7_report_11 : decode cX7_report 11 = .ok (.aload_n 0, 1) := by decide +kernel
theorem dX7_report_12 : decode cX7_report 12 = .ok (.getfield 34, 3) := by decide +kernel
theorem dX7_report_15 : decode cX7_report 15 = .ok (.getfield 154, 3) := by decide +kernel
theorem dX7_report_18 : decode cX7_report 18 = .ok (.invokevirtual 66, 3) := by decide +kernel
theorem dX7_report_21 : decode cX7_report 21 = .ok (.astore_n 2, 1) := by decide +kernel
theorem dX7_report_22 : decode cX7_report 22 = .ok (.aload_n 2, 1) := by decide +kernel
theorem dX7_report_23 : decode cX7_report 23 = .ok (.ifnull 10, 3) := by decide +kernel
theorem dX7_report_26 : decode cX7_report 26 = .ok (.aload_n 2, 1) := by decide +kernel
theorem dX7_report_27 : decode cX7_report 27 = .ok (.invokevirtual 232, 3) := by decide +kernel
theorem dX7_report_30 : decode cX7_report 30 = .ok (.ifCond .ne 6, 3) := by decide +kernel
theorem dX7_report_33 : decode cX7_report 33 = .ok (.bipush (-9), 2) := by decide +kernel
theorem dX7_report_35 : decode cX7_report 35 = .ok (.ireturn, 1) := by decide +kernel
theorem dX7_report_36 : decode cX7_report 36 = .ok (.aload_n 0, 1) := by decide +kernel
theorem dX7_report_37 : decode cX7_report 37 = .ok (.getfield 34, 3) := by decide +kernel
theorem dX7_report_40 : decode cX7_report 40 = .ok (.iload_n 1, 1) := by decide +kernel
theorem dX7_report_41 : decode cX7_report 41 = .ok (.aload_n 2, 1) := by decide +kernel
theorem dX7_report_42 : decode cX7_report 42 = .ok (.getfield 99, 3) := by decide +kernel
theorem dX7_report_45 : decode cX7_report 45 = .ok (.invokevirtual 160, 3) := by decide +kernel
theorem dX7_report_48 : decode cX7_report 48 = .ok (.istore_n 3, 1) := by decide +kernel
theorem dX7_report_49 : decode cX7_report 49 = .ok (.aload_n 0, 1) := by decide +kernel
theorem dX7_report_50 : decode cX7_report 50 = .ok (.getfield 34, 3) := by decide +kernel
theorem dX7_report_53 : decode cX7_report 53 = .ok (.iload_n 1, 1) := by decide +kernel
theorem dX7_report_54 : decode cX7_report 54 = .ok (.aload_n 2, 1) := by decide +kernel
theorem dX7_report_55 : decode cX7_report 55 = .ok (.getfield 102, 3) := by decide +kernel
theorem dX7_report_58 : decode cX7_report 58 = .ok (.invokevirtual 160, 3) := by decide +kernel
theorem dX7_report_61 : decode cX7_report 61 = .ok (.istore 4, 2) := by decide +kernel
theorem dX7_report_63 : decode cX7_report 63 = .ok (.iload_n 3, 1) := by decide +kernel
theorem dX7_report_64 : decode cX7_report 64 = .ok (.iconst 2, 1) := by decide +kernel
theorem dX7_report_65 : decode cX7_report 65 = .ok (.if_icmp .ne 9, 3) := by decide +kernel
theorem dX7_report_68 : decode cX7_report 68 = .ok (.iload 4, 2) := by decide +kernel
theorem dX7_report_70 : decode cX7_report 70 = .ok (.iconst 4, 1) := by decide +kernel
theorem dX7_report_71 : decode cX7_report 71 = .ok (.if_icmp .eq 6, 3) := by decide +kernel
theorem dX7_report_74 : decode cX7_report 74 = .ok (.bipush (-9), 2) := by decide +kernel
theorem dX7_report_76 : decode cX7_report 76 = .ok (.ireturn, 1) := by decide +kernel
theorem dX7_report_77 : decode cX7_report 77 = .ok (.aload_n 0, 1) := by decide +kernel
theorem dX7_report_78 : decode cX7_report 78 = .ok (.getfield 34, 3) := by decide +kernel
theorem dX7_report_81 : decode cX7_report 81 = .ok (.iload_n 1, 1) := by decide +kernel
theorem dX7_report_82 : decode cX7_report 82 = .ok (.aload_n 2, 1) := by decide +kernel
theorem dX7_report_83 : decode cX7_report 83 = .ok (.getfield 102, 3) := by decide +kernel
theorem dX7_report_86 : decode cX7_report 86 = .ok (.invokevirtual 163, 3) := by decide +kernel
theorem dX7_report_89 : decode cX7_report 89 = .ok (.istore 5, 2) := by decide +kernel
theorem dX7_report_91 : decode cX7_report 91 = .ok (.aload_n 0, 1) := by decide +kernel
theorem dX7_report_92 : decode cX7_report 92 = .ok (.getfield 34, 3) := by decide +kernel
theorem dX7_report_95 : decode cX7_report 95 = .ok (.aload_n 0, 1) := by decide +kernel
theorem dX7_report_96 : decode cX7_report 96 = .ok (.getfield 34, 3) := by decide +kernel
theorem dX7_report_99 : decode cX7_report 99 = .ok (.iload_n 1, 1) := by decide +kernel
theorem dX7_report_100 : decode cX7_report 100 = .ok (.aload_n 2, 1) := by decide +kernel
theorem dX7_report_101 : decode cX7_report 101 = .ok (.getfield 99, 3) := by decide +kernel
theorem dX7_report_104 : decode cX7_report 104 = .ok (.invokevirtual 163, 3) := by decide +kernel
theorem dX7_report_107 : decode cX7_report 107 = .ok (.iload_n 3, 1) := by decide +kernel
theorem dX7_report_108 : decode cX7_report 108 = .ok (.invokevirtual 171, 3) := by decide +kernel
theorem dX7_report_111 : decode cX7_report 111 = .ok (.l2i, 1) := by decide +kernel
theorem dX7_report_112 : decode cX7_report 112 = .ok (.istore 6, 2) := by decide +kernel
theorem dX7_report_114 : decode cX7_report 114 = .ok (.aload_n 0, 1) := by decide +kernel
theorem dX7_report_115 : decode cX7_report 115 = .ok (.getfield 34, 3) := by decide +kernel
theorem dX7_report_118 : decode cX7_report 118 = .ok (.iload 5, 2) := by decide +kernel
theorem dX7_report_120 : decode cX7_report 120 = .ok (.iconst 2, 1) := by decide +kernel
theorem dX7_report_121 : decode cX7_report 121 = .ok (.invokevirtual 171, 3) := by decide +kernel
theorem dX7_report_124 : decode cX7_report 124 = .ok (.l2i, 1) := by decide +kernel
theorem dX7_report_125 : decode cX7_report 125 = .ok (.i2s, 1) := by decide +kernel
theorem dX7_report_126 : decode cX7_report 126 = .ok (.istore 7, 2) := by decide +kernel
theorem dX7_report_128 : decode cX7_report 128 = .ok (.aload_n 0, 1) := by decide +kernel
theorem dX7_report_129 : decode cX7_report 129 = .ok (.getfield 34, 3) := by decide +kernel
theorem dX7_report_132 : decode cX7_report 132 = .ok (.iload 5, 2) := by decide +kernel
theorem dX7_report_134 : decode cX7_report 134 = .ok (.iconst 2, 1) := by decide +kernel
theorem dX7_report_135 : decode cX7_report 135 = .ok (.iadd, 1) := by decide +kernel
theorem dX7_report_136 : decode cX7_report 136 = .ok (.iconst 2, 1) := by decide +kernel
theorem dX7_report_137 : decode cX7_report 137 = .ok (.invokevirtual 171, 3) := by decide +kernel
theorem dX7_report_140 : decode cX7_report 140 = .ok (.l2i, 1) := by decide +kernel
theorem dX7_report_141 : decode cX7_report 141 = .ok (.i2s, 1) := by decide +kernel
theorem dX7_report_142 : decode cX7_report 142 = .ok (.istore 8, 2) := by decide +kernel
theorem dX7_report_144 : decode cX7_report 144 = .ok (.aload_n 0, 1) := by decide +kernel
theorem dX7_report_145 : decode cX7_report 145 = .ok (.getfield 51, 3) := by decide +kernel
theorem dX7_report_148 : decode cX7_report 148 = .ok (.iload 6, 2) := by decide +kernel
theorem dX7_report_150 : decode cX7_report 150 = .ok (.sipush 4095, 3) := by decide +kernel
theorem dX7_report_153 : decode cX7_report 153 = .ok (.iand, 1) := by decide +kernel
theorem dX7_report_154 : decode cX7_report 154 = .ok (.iload 7, 2) := by decide +kernel
theorem dX7_report_156 : decode cX7_report 156 = .ok (.iload 8, 2) := by decide +kernel
theorem dX7_report_158 : decode cX7_report 158 = .ok (.invokevirtual 236, 3) := by decide +kernel
theorem dX7_report_161 : decode cX7_report 161 = .ok (.ireturn, 1) := by decide +kernel
theorem dX7_tick_0 : decode cX7_tick 0 = .ok (.iload_n 1, 1) := by decide +kernel
theorem dX7_tick_1 : decode cX7_tick 1 = .ok (.iconst 1, 1) := by decide +kernel
theorem dX7_tick_2 : decode cX7_tick 2 = .ok (.if_icmp .lt 9, 3) := by decide +kernel
theorem dX7_tick_5 : decode cX7_tick 5 = .ok (.iload_n 1, 1) := by decide +kernel
theorem dX7_tick_6 : decode cX7_tick 6 = .ok (.bipush 20, 2) := by decide +kernel
theorem dX7_tick_8 : decode cX7_tick 8 = .ok (.if_icmp .le 5, 3) := by decide +kernel
theorem dX7_tick_11 : decode cX7_tick 11 = .ok (.iconst (-1), 1) := by decide +kernel
theorem dX7_tick_12 : decode cX7_tick 12 = .ok (.ireturn, 1) := by decide +kernel
theorem dX7_tick_13 : decode cX7_tick 13 = .ok (.aload_n 0, 1) := by decide +kernel
theorem dX7_tick_14 : decode cX7_tick 14 = .ok (.getfield 51, 3) := by decide +kernel
theorem dX7_tick_17 : decode cX7_tick 17 = .ok (.getfield 240, 3) := by decide +kernel
theorem dX7_tick_20 : decode cX7_tick 20 = .ok (.istore_n 2, 1) := by decide +kernel
theorem dX7_tick_21 : decode cX7_tick 21 = .ok (.iconst 0, 1) := by decide +kernel
theorem dX7_tick_22 : decode cX7_tick 22 = .ok (.istore_n 3, 1) := by decide +kernel
theorem dX7_tick_23 : decode cX7_tick 23 = .ok (.iload_n 3, 1) := by decide +kernel
theorem dX7_tick_24 : decode cX7_tick 24 = .ok (.iload_n 1, 1) := by decide +kernel
theorem dX7_tick_25 : decode cX7_tick 25 = .ok (.if_icmp .ge 16, 3) := by decide +kernel
theorem dX7_tick_28 : decode cX7_tick 28 = .ok (.aload_n 0, 1) := by decide +kernel
theorem dX7_tick_29 : decode cX7_tick 29 = .ok (.getfield 51, 3) := by decide +kernel
theorem dX7_tick_32 : decode cX7_tick 32 = .ok (.invokevirtual 243, 3) := by decide +kernel
theorem dX7_tick_35 : decode cX7_tick 35 = .ok (.iinc 3 1, 3) := by decide +kernel
theorem dX7_tick_38 : decode cX7_tick 38 = .ok (.goto (-15), 3) := by decide +kernel
theorem dX7_tick_41 : decode cX7_tick 41 = .ok (.aload_n 0, 1) := by decide +kernel
theorem dX7_tick_42 : decode cX7_tick 42 = .ok (.getfield 51, 3) := by decide +kernel
theorem dX7_tick_45 : decode cX7_tick 45 = .ok (.getfield 240, 3) := by decide +kernel
theorem dX7_tick_48 : decode cX7_tick 48 = .ok (.iload_n 2, 1) := by decide +kernel
theorem dX7_tick_49 : decode cX7_tick 49 = .ok (.isub, 1) := by decide +kernel
theorem dX7_tick_50 : decode cX7_tick 50 = .ok (.ireturn, 1) := by decide +kernel
theorem dX7_track_0 : decode cX7_track 0 = .ok (.iload_n 1, 1) := by decide +kernel
theorem dX7_track_1 : decode cX7_track 1 = .ok (.ifCond .lt 14, 3) := by decide +kernel
theorem dX7_track_4 : decode cX7_track 4 = .ok (.iload_n 1, 1) := by decide +kernel
theorem dX7_track_5 : decode cX7_track 5 = .ok (.aload_n 0, 1) := by decide +kernel
theorem dX7_track_6 : decode cX7_track 6 = .ok (.getfield 51, 3) := by decide +kernel
theorem dX7_track_9 : decode cX7_track 9 = .ok (.getfield 246, 3) := by decide +kernel
theorem dX7_track_12 : decode cX7_track 12 = .ok (.if_icmp .lt 5, 3) := by decide +kernel
theorem dX7_track_15 : decode cX7_track 15 = .ok (.iconst (-1), 1) := by decide +kernel
theorem dX7_track_16 : decode cX7_track 16 = .ok (.ireturn, 1) := by decide +kernel
theorem dX7_track_17 : decode cX7_track 17 = .ok (.aload_n 0, 1) := by decide +kernel
theorem dX7_track_18 : decode cX7_track 18 = .ok (.getfield 51, 3) := by decide +kernel
theorem dX7_track_21 : decode cX7_track 21 = .ok (.getfield 247, 3) := by decide +kernel
theorem dX7_track_24 : decode cX7_track 24 = .ok (.iload_n 1, 1) := by decide +kernel
theorem dX7_track_25 : decode cX7_track 25 = .ok (.aaload, 1) := by decide +kernel
theorem dX7_track_26 : decode cX7_track 26 = .ok (.astore_n 3, 1) := by decide +kernel
theorem dX7_track_27 : decode cX7_track 27 = .ok (.iload_n 2, 1) := by decide +kernel
theorem dX7_track_28 : decode cX7_track 28 = .ok (.tableswitch 79 0 6 #[44, 49, 54, 59, 64, 69, 74], 44) := by decide +kernel
theorem dX7_track_72 : decode cX7_track 72 = .ok (.aload_n 3, 1) := by decide +kernel
theorem dX7_track_73 : decode cX7_track 73 = .ok (.getfield 251, 3) := by decide +kernel
theorem dX7_track_76 : decode cX7_track 76 = .ok (.ireturn, 1) := by decide +kernel
theorem dX7_track_77 : decode cX7_track 77 = .ok (.aload_n 3, 1) := by decide +kernel
theorem dX7_track_78 : decode cX7_track 78 = .ok (.getfield 254, 3) := by decide +kernel
theorem dX7_track_81 : decode cX7_track 81 = .ok (.ireturn, 1) := by decide +kernel
theorem dX7_track_82 : decode cX7_track 82 = .ok (.aload_n 3, 1) := by decide +kernel
theorem dX7_track_83 : decode cX7_track 83 = .ok (.getfield 257, 3) := by decide +kernel
theorem dX7_track_86 : decode cX7_track 86 = .ok (.ireturn, 1) := by decide +kernel
theorem dX7_track_87 : decode cX7_track 87 = .ok (.aload_n 3, 1) := by decide +kernel
theorem dX7_track_88 : decode cX7_track 88 = .ok (.getfield 260, 3) := by decide +kernel
theorem dX7_track_91 : decode cX7_track 91 = .ok (.ireturn, 1) := by decide +kernel
theorem dX7_track_92 : decode cX7_track 92 = .ok (.aload_n 3, 1) := by decide +kernel
theorem dX7_track_93 : decode cX7_track 93 = .ok (.getfield 263, 3) := by decide +kernel
theorem dX7_track_96 : decode cX7_track 96 = .ok (.ireturn, 1) := by decide +kernel
theorem dX7_track_97 : decode cX7_track 97 = .ok (.aload_n 3, 1) := by decide +kernel
theorem dX7_track_98 : decode cX7_track 98 = .ok (.getfield 266, 3) := by decide +kernel
theorem dX7_track_101 : decode cX7_track 101 = .ok (.ireturn, 1) := by decide +kernel
theorem dX7_track_102 : decode cX7_track 102 = .ok (.aload_n 3, 1) := by decide +kernel
theorem dX7_track_103 : decode cX7_track 103 = .ok (.getfield 269, 3) := by decide +kernel
theorem dX7_track_106 : decode cX7_track 106 = .ok (.ireturn, 1) := by decide +kernel
theorem dX7_track_107 : decode cX7_track 107 = .ok (.iconst (-1), 1) := by decide +kernel
theorem dX7_track_108 : decode cX7_track 108 = .ok (.ireturn, 1) := by decide +kernel
theorem dX7_count_0 : decode cX7_count 0 = .ok (.iload_n 1, 1) := by decide +kernel
theorem dX7_count_1 : decode cX7_count 1 = .ok (.tableswitch 93 0 6 #[43, 48, 56, 64, 72, 80, 88], 43) := by decide +kernel
theorem dX7_count_44 : decode cX7_count 44 = .ok (.aload_n 0, 1) := by decide +kernel
theorem dX7_count_45 : decode cX7_count 45 = .ok (.getfield 59, 3) := by decide +kernel
theorem dX7_count_48 : decode cX7_count 48 = .ok (.ireturn, 1) := by decide +kernel
theorem dX7_count_49 : decode cX7_count 49 = .ok (.aload_n 0, 1) := by decide +kernel
theorem dX7_count_50 : decode cX7_count 50 = .ok (.getfield 51, 3) := by decide +kernel
theorem dX7_count_53 : decode cX7_count 53 = .ok (.getfield 246, 3) := by decide +kernel
theorem dX7_count_56 : decode cX7_count 56 = .ok (.ireturn, 1) := by decide +kernel
theorem dX7_count_57 : decode cX7_count 57 = .ok (.aload_n 0, 1) := by decide +kernel
theorem dX7_count_58 : decode cX7_count 58 = .ok (.getfield 51, 3) := by decide +kernel
theorem dX7_count_61 : decode cX7_count 61 = .ok (.getfield 272, 3) := by decide +kernel
theorem dX7_count_64 : decode cX7_count 64 = .ok (.ireturn, 1) := by decide +kernel
theorem dX7_count_65 : decode cX7_count 65 = .ok (.aload_n 0, 1) := by decide +kernel
theorem dX7_count_66 : decode cX7_count 66 = .ok (.getfield 51, 3) := by decide +kernel
theorem dX7_count_69 : decode cX7_count 69 = .ok (.getfield 240, 3) := by decide +kernel
theorem dX7_count_72 : decode cX7_count 72 = .ok (.ireturn, 1) := by decide +kernel
theorem dX7_count_73 : decode cX7_count 73 = .ok (.aload_n 0, 1) := by decide +kernel
theorem dX7_count_74 : decode cX7_count 74 = .ok (.getfield 51, 3) := by decide +kernel
theorem dX7_count_77 : decode cX7_count 77 = .ok (.getfield 275, 3) := by decide +kernel
theorem dX7_count_80 : decode cX7_count 80 = .ok (.ireturn, 1) := by decide +kernel
theorem dX7_count_81 : decode cX7_count 81 = .ok (.aload_n 0, 1) := by decide +kernel
