-- printed by the claim's program: decode rows
theorem dX8_read_19 : decode cX8_read 19 = .ok (.istore_n 1, 1) := by decide +kernel
theorem dX8_read_20 : decode cX8_read 20 = .ok (.aload_n 0, 1) := by decide +kernel
theorem dX8_read_21 : decode cX8_read 21 = .ok (.aload_n 0, 1) := by decide +kernel
theorem dX8_read_22 : decode cX8_read 22 = .ok (.getfield 136, 3) := by decide +kernel
theorem dX8_read_25 : decode cX8_read 25 = .ok (.putfield 190, 3) := by decide +kernel
theorem dX8_read_28 : decode cX8_read 28 = .ok (.aload_n 0, 1) := by decide +kernel
theorem dX8_read_29 : decode cX8_read 29 = .ok (.getfield 136, 3) := by decide +kernel
theorem dX8_read_32 : decode cX8_read 32 = .ok (.ifCond .eq 11, 3) := by decide +kernel
theorem dX8_read_35 : decode cX8_read 35 = .ok (.bipush (-100), 2) := by decide +kernel
theorem dX8_read_37 : decode cX8_read 37 = .ok (.aload_n 0, 1) := by decide +kernel
theorem dX8_read_38 : decode cX8_read 38 = .ok (.getfield 139, 3) := by decide +kernel
theorem dX8_read_41 : decode cX8_read 41 = .ok (.isub, 1) := by decide +kernel
theorem dX8_read_42 : decode cX8_read 42 = .ok (.ireturn, 1) := by decide +kernel
theorem dX8_read_43 : decode cX8_read 43 = .ok (.aload_n 0, 1) := by decide +kernel
theorem dX8_read_44 : decode cX8_read 44 = .ok (.aload_n 0, 1) := by decide +kernel
theorem dX8_read_45 : decode cX8_read 45 = .ok (.getfield 178, 3) := by decide +kernel
theorem dX8_read_48 : decode cX8_read 48 = .ok (.putfield 117, 3) := by decide +kernel
theorem dX8_read_51 : decode cX8_read 51 = .ok (.aload_n 0, 1) := by decide +kernel
theorem dX8_read_52 : decode cX8_read 52 = .ok (.iload_n 1, 1) := by decide +kernel
theorem dX8_read_53 : decode cX8_read 53 = .ok (.putfield 99, 3) := by decide +kernel
theorem dX8_read_56 : decode cX8_read 56 = .ok (.aload_n 0, 1) := by decide +kernel
theorem dX8_read_57 : decode cX8_read 57 = .ok (.dup, 1) := by decide +kernel
theorem dX8_read_58 : decode cX8_read 58 = .ok (.getfield 193, 3) := by decide +kernel
theorem dX8_read_61 : decode cX8_read 61 = .ok (.iconst 1, 1) := by decide +kernel
theorem dX8_read_62 : decode cX8_read 62 = .ok (.iadd, 1) := by decide +kernel
theorem dX8_read_63 : decode cX8_read 63 = .ok (.putfield 193, 3) := by decide +kernel
theorem dX8_read_66 : decode cX8_read 66 = .ok (.iconst 0, 1) := by decide +kernel
theorem dX8_read_67 : decode cX8_read 67 = .ok (.istore_n 2, 1) := by decide +kernel
theorem dX8_read_68 : decode cX8_read 68 = .ok (.iload_n 2, 1) := by decide +kernel
theorem dX8_read_69 : decode cX8_read 69 = .ok (.sipush 176, 3) := by decide +kernel
theorem dX8_read_72 : decode cX8_read 72 = .ok (.if_icmp .ge 33, 3) := by decide +kernel
theorem dX8_read_75 : decode cX8_read 75 = .ok (.aload_n 0, 1) := by decide +kernel
theorem dX8_read_76 : decode cX8_read 76 = .ok (.getfield 37, 3) := by decide +kernel
theorem dX8_read_79 : decode cX8_read 79 = .ok (.iload_n 2, 1) := by decide +kernel
theorem dX8_read_80 : decode cX8_read 80 = .ok (.aload_n 0, 1) := by decide +kernel
theorem dX8_read_81 : decode cX8_read 81 = .ok (.getfield 46, 3) := by decide +kernel
theorem dX8_read_84 : decode cX8_read 84 = .ok (.iload_n 2, 1) := by decide +kernel
theorem dX8_read_85 : decode cX8_read 85 = .ok (.iaload, 1) := by decide +kernel
theorem dX8_read_86 : decode cX8_read 86 = .ok (.iastore, 1) := by decide +kernel
theorem dX8_read_87 : decode cX8_read 87 = .ok (.aload_n 0, 1) := by decide +kernel
theorem dX8_read_88 : decode cX8_read 88 = .ok (.getfield 40, 3) := by decide +kernel
theorem dX8_read_91 : decode cX8_read 91 = .ok (.iload_n 2, 1) := by decide +kernel
theorem dX8_read_92 : decode cX8_read 92 = .ok (.aload_n 0, 1) := by decide +kernel
theorem dX8_read_93 : decode cX8_read 93 = .ok (.getfield 49, 3) := by decide +kernel
theorem dX8_read_96 : decode cX8_read 96 = .ok (.iload_n 2, 1) := by decide +kernel
theorem dX8_read_97 : decode cX8_read 97 = .ok (.iaload, 1) := by decide +kernel
theorem dX8_read_98 : decode cX8_read 98 = .ok (.iastore, 1) := by decide +kernel
theorem dX8_read_99 : decode cX8_read 99 = .ok (.iinc 2 1, 3) := by decide +kernel
theorem dX8_read_102 : decode cX8_read 102 = .ok (.goto (-34), 3) := by decide +kernel
theorem dX8_read_105 : decode cX8_read 105 = .ok (.iconst 0, 1) := by decide +kernel
theorem dX8_read_106 : decode cX8_read 106 = .ok (.istore_n 2, 1) := by decide +kernel
theorem dX8_read_107 : decode cX8_read 107 = .ok (.iload_n 2, 1) := by decide +kernel
theorem dX8_read_108 : decode cX8_read 108 = .ok (.bipush 9, 2) := by decide +kernel
theorem dX8_read_110 : decode cX8_read 110 = .ok (.if_icmp .ge 21, 3) := by decide +kernel
theorem dX8_read_113 : decode cX8_read 113 = .ok (.aload_n 0, 1) := by decide +kernel
theorem dX8_read_114 : decode cX8_read 114 = .ok (.getfield 34, 3) := by decide +kernel
theorem dX8_read_117 : decode cX8_read 117 = .ok (.iload_n 2, 1) := by decide +kernel
theorem dX8_read_118 : decode cX8_read 118 = .ok (.aload_n 0, 1) := by decide +kernel
theorem dX8_read_119 : decode cX8_read 119 = .ok (.getfield 43, 3) := by decide +kernel
theorem dX8_read_122 : decode cX8_read 122 = .ok (.iload_n 2, 1) := by decide +kernel
theorem dX8_read_123 : decode cX8_read 123 = .ok (.iaload, 1) := by decide +kernel
theorem dX8_read_124 : decode cX8_read 124 = .ok (.iastore, 1) := by decide +kernel
theorem dX8_read_125 : decode cX8_read 125 = .ok (.iinc 2 1, 3) := by decide +kernel
theorem dX8_read_128 : decode cX8_read 128 = .ok (.goto (-21), 3) := by decide +kernel
theorem dX8_read_131 : decode cX8_read 131 = .ok (.iconst 0, 1) := by decide +kernel
theorem dX8_read_132 : decode cX8_read 132 = .ok (.istore_n 2, 1) := by decide +kernel
theorem dX8_read_133 : decode cX8_read 133 = .ok (.iload_n 2, 1) := by decide +kernel
theorem dX8_read_134 : decode cX8_read 134 = .ok (.aload_n 0, 1) := by decide +kernel
theorem dX8_read_135 : decode cX8_read 135 = .ok (.getfield 133, 3) := by decide +kernel
theorem dX8_read_138 : decode cX8_read 138 = .ok (.if_icmp .ge 49, 3) := by decide +kernel
theorem dX8_read_141 : decode cX8_read 141 = .ok (.iload_n 2, 1) := by decide +kernel
theorem dX8_read_142 : decode cX8_read 142 = .ok (.aload_n 0, 1) := by decide +kernel
theorem dX8_read_143 : decode cX8_read 143 = .ok (.getfield 145, 3) := by decide +kernel
theorem dX8_read_146 : decode cX8_read 146 = .ok (.if_icmp .ge 18, 3) := by decide +kernel
theorem dX8_read_149 : decode cX8_read 149 = .ok (.aload_n 0, 1) := by decide +kernel
theorem dX8_read_150 : decode cX8_read 150 = .ok (.getfield 31, 3) := by decide +kernel
theorem dX8_read_153 : decode cX8_read 153 = .ok (.iload_n 2, 1) := by decide +kernel
theorem dX8_read_154 : decode cX8_read 154 = .ok (.aload_n 0, 1) := by decide +kernel
theorem dX8_read_155 : decode cX8_read 155 = .ok (.getfield 28, 3) := by decide +kernel
theorem dX8_read_158 : decode cX8_read 158 = .ok (.iload_n 2, 1) := by decide +kernel
theorem dX8_read_159 : decode cX8_read 159 = .ok (.iaload, 1) := by decide +kernel
theorem dX8_read_160 : decode cX8_read 160 = .ok (.iastore, 1) := by decide +kernel
theorem dX8_read_161 : decode cX8_read 161 = .ok (.goto 20, 3) := by decide +kernel
theorem dX8_read_164 : decode cX8_read 164 = .ok (.aload_n 0, 1) := by decide +kernel
theorem dX8_read_165 : decode cX8_read 165 = .ok (.getfield 28, 3) := by decide +kernel
theorem dX8_read_168 : decode cX8_read 168 = .ok (.iload_n 2, 1) := by decide +kernel
theorem dX8_read_169 : decode cX8_read 169 = .ok (.aload_n 0, 1) := by decide +kernel
theorem dX8_read_170 : decode cX8_read 170 = .ok (.getfield 145, 3) := by decide +kernel
theorem dX8_read_173 : decode cX8_read 173 = .ok (.isub, 1) := by decide +kernel
theorem dX8_read_174 : decode cX8_read 174 = .ok (.aload_n 0, 1) := by decide +kernel
theorem dX8_read_175 : decode cX8_read 175 = .ok (.getfield 28, 3) := by decide +kernel
theorem dX8_read_178 : decode cX8_read 178 = .ok (.iload_n 2, 1) := by decide +kernel
theorem dX8_read_179 : decode cX8_read 179 = .ok (.iaload, 1) := by decide +kernel
theorem dX8_read_180 : decode cX8_read 180 = .ok (.iastore, 1) := by decide +kernel
theorem dX8_read_181 : decode cX8_read 181 = .ok (.iinc 2 1, 3) := by decide +kernel
theorem dX8_read_184 : decode cX8_read 184 = .ok (.goto (-51), 3) := by decide +kernel
theorem dX8_read_187 : decode cX8_read 187 = .ok (.aload_n 0, 1) := by decide +kernel
theorem dX8_read_188 : decode cX8_read 188 = .ok (.dup, 1) := by decide +kernel
theorem dX8_read_189 : decode cX8_read 189 = .ok (.getfield 133, 3) := by decide +kernel
theorem dX8_read_192 : decode cX8_read 192 = .ok (.aload_n 0, 1) := by decide +kernel
theorem dX8_read_193 : decode cX8_read 193 = .ok (.getfield 145, 3) := by decide +kernel
theorem dX8_read_196 : decode cX8_read 196 = .ok (.isub, 1) := by decide +kernel
theorem dX8_read_197 : decode cX8_read 197 = .ok (.putfield 133, 3) := by decide +kernel
theorem dX8_read_200 : decode cX8_read 200 = .ok (.aload_n 0, 1) := by decide +kernel
theorem dX8_read_201 : decode cX8_read 201 = .ok (.getfield 117, 3) := by decide +kernel
theorem dX8_read_204 : decode cX8_read 204 = .ok (.ireturn, 1) := by decide +kernel
theorem dX8_fault_0 : decode cX8_fault 0 = .ok (.aload_n 0, 1) := by decide +kernel
theorem dX8_fault_1 : decode cX8_fault 1 = .ok (.getfield 190, 3) := by decide +kernel
theorem dX8_fault_4 : decode cX8_fault 4 = .ok (.ireturn, 1) := by decide +kernel
theorem dX8_records_0 : decode cX8_records 0 = .ok (.iload_n 1, 1) := by decide +kernel
theorem dX8_records_1 : decode cX8_records 1 = .ok (.ifCond .ne 10, 3) := by decide +kernel
theorem dX8_records_4 : decode cX8_records 4 = .ok (.aload_n 0, 1) := by decide +kernel
theorem dX8_records_5 : decode cX8_records 5 = .ok (.getfield 117, 3) := by decide +kernel
theorem dX8_records_8 : decode cX8_records 8 = .ok (.goto 16, 3) := by decide +kernel
theorem dX8_records_11 : decode cX8_records 11 = .ok (.iload_n 1, 1) := by decide +kernel
theorem dX8_records_12 : decode cX8_records 12 = .ok (.iconst 1, 1) := by decide +kernel
theorem dX8_records_13 : decode cX8_records 13 = .ok (.if_icmp .ne 10, 3) := by decide +kernel
theorem dX8_records_16 : decode cX8_records 16 = .ok (.aload_n 0, 1) := by decide +kernel
theorem dX8_records_17 : decode cX8_records 17 = .ok (.getfield 99, 3) := by decide +kernel
theorem dX8_records_20 : decode cX8_records 20 = .ok (.goto 4, 3) := by decide +kernel
theorem dX8_records_23 : decode cX8_records 23 = .ok (.iconst (-1), 1) := by decide +kernel
theorem dX8_records_24 : decode cX8_records 24 = .ok (.ireturn, 1) := by decide +kernel
theorem dX8_isRecord_0 : decode cX8_isRecord 0 = .ok (.iload_n 1, 1) := by decide +kernel
theorem dX8_isRecord_1 : decode cX8_isRecord 1 = .ok (.iconst 0, 1) := by decide +kernel
theorem dX8_isRecord_2 : decode cX8_isRecord 2 = .ok (.aload_n 0, 1) := by decide +kernel
theorem dX8_isRecord_3 : decode cX8_isRecord 3 = .ok (.getfield 117, 3) := by decide +kernel
theorem dX8_isRecord_6 : decode cX8_isRecord 6 = .ok (.iconst 1, 1) := by decide +kernel
theorem dX8_isRecord_7 : decode cX8_isRecord 7 = .ok (.isub, 1) := by decide +kernel
theorem dX8_isRecord_8 : decode cX8_isRecord 8 = .ok (.invokestatic 105, 3) := by decide +kernel
theorem dX8_isRecord_11 : decode cX8_isRecord 11 = .ok (.ireturn, 1) := by decide +kernel
theorem dX8_has_0 : decode cX8_has 0 = .ok (.aload_n 0, 1) := by decide +kernel
theorem dX8_has_1 : decode cX8_has 1 = .ok (.iload_n 1, 1) := by decide +kernel
theorem dX8_has_2 : decode cX8_has 2 = .ok (.invokevirtual 196, 3) := by decide +kernel
theorem dX8_has_5 : decode cX8_has 5 = .ok (.ifCond .eq 19, 3) := by decide +kernel
theorem dX8_has_8 : decode cX8_has 8 = .ok (.iload_n 2, 1) := by decide +kernel
theorem dX8_has_9 : decode cX8_has 9 = .ok (.invokestatic 124, 3) := by decide +kernel
theorem dX8_has_12 : decode cX8_has 12 = .ok (.ifCond .eq 12, 3) := by decide +kernel
theorem dX8_has_15 : decode cX8_has 15 = .ok (.iload_n 3, 1) := by decide +kernel
theorem dX8_has_16 : decode cX8_has 16 = .ok (.iconst 0, 1) := by decide +kernel
theorem dX8_has_17 : decode cX8_has 17 = .ok (.iconst 1, 1) := by decide +kernel
theorem dX8_has_18 : decode cX8_has 18 = .ok (.invokestatic 105, 3) := by decide +kernel
theorem dX8_has_21 : decode cX8_has 21 = .ok (.ifCond .ne 5, 3) := by decide +kernel
theorem dX8_has_24 : decode cX8_has 24 = .ok (.iconst (-1), 1) := by decide +kernel
theorem dX8_has_25 : decode cX8_has 25 = .ok (.ireturn, 1) := by decide +kernel
theorem dX8_has_26 : decode cX8_has 26 = .ok (.aload_n 0, 1) := by decide +kernel
theorem dX8_has_27 : decode cX8_has 27 = .ok (.getfield 40, 3) := by decide +kernel
theorem dX8_has_30 : decode cX8_has 30 = .ok (.bipush 22, 2) := by decide +kernel
theorem dX8_has_32 : decode cX8_has 32 = .ok (.iload_n 1, 1) := by decide +kernel
theorem dX8_has_33 : decode cX8_has 33 = .ok (.imul, 1) := by decide +kernel
theorem dX8_has_34 : decode cX8_has 34 = .ok (.iload_n 2, 1) := by decide +kernel
theorem dX8_has_35 : decode cX8_has 35 = .ok (.iadd, 1) := by decide +kernel
theorem dX8_has_36 : decode cX8_has 36 = .ok (.iaload, 1) := by decide +kernel
theorem dX8_has_37 : decode cX8_has 37 = .ok (.istore 4, 2) := by decide +kernel
theorem dX8_has_39 : decode cX8_has 39 = .ok (.iload_n 3, 1) := by decide +kernel
theorem dX8_has_40 : decode cX8_has 40 = .ok (.ifCond .ne 8, 3) := by decide +kernel
theorem dX8_has_43 : decode cX8_has 43 = .ok (.iload 4, 2) := by decide +kernel
theorem dX8_has_45 : decode cX8_has 45 = .ok (.goto 24, 3) := by decide +kernel
theorem dX8_has_48 : decode cX8_has 48 = .ok (.iload 4, 2) := by decide +kernel
theorem dX8_has_50 : decode cX8_has 50 = .ok (.ifCond .ne 8, 3) := by decide +kernel
theorem dX8_has_53 : decode cX8_has 53 = .ok (.bipush (-9), 2) := by decide +kernel
theorem dX8_has_55 : decode cX8_has 55 = .ok (.goto 14, 3) := by decide +kernel
theorem dX8_has_58 : decode cX8_has 58 = .ok (.aload_n 0, 1) := by decide +kernel
theorem dX8_has_59 : decode cX8_has 59 = .ok (.getfield 37, 3) := by decide +kernel
theorem dX8_has_62 : decode cX8_has 62 = .ok (.bipush 22, 2) := by decide +kernel
theorem dX8_has_64 : decode cX8_has 64 = .ok (.iload_n 1, 1) := by decide +kernel
theorem dX8_has_65 : decode cX8_has 65 = .ok (.imul, 1) := by decide +kernel
theorem dX8_has_66 : decode cX8_has 66 = .ok (.iload_n 2, 1) := by decide +kernel
theorem dX8_has_67 : decode cX8_has 67 = .ok (.iadd, 1) := by decide +kernel
theorem dX8_has_68 : decode cX8_has 68 = .ok (.iaload, 1) := by decide +kernel
theorem dX8_has_69 : decode cX8_has 69 = .ok (.ireturn, 1) := by decide +kernel
theorem dX8_at_0 : decode cX8_at 0 = .ok (.aload_n 0, 1) := by decide +kernel
theorem dX8_at_1 : decode cX8_at 1 = .ok (.iload_n 1, 1) := by decide +kernel
theorem dX8_at_2 : decode cX8_at 2 = .ok (.invokevirtual 196, 3) := by decide +kernel
theorem dX8_at_5 : decode cX8_at 5 = .ok (.ifCond .eq 10, 3) := by decide +kernel
theorem dX8_at_8 : decode cX8_at 8 = .ok (.iload_n 2, 1) := by decide +kernel
theorem dX8_at_9 : decode cX8_at 9 = .ok (.invokestatic 124, 3) := by decide +kernel
theorem dX8_at_12 : decode cX8_at 12 = .ok (.ifCond .ne 5, 3) := by decide +kernel
theorem dX8_at_15 : decode cX8_at 15 = .ok (.iconst (-1), 1) := by decide +kernel
theorem dX8_at_16 : decode cX8_at 16 = .ok (.ireturn, 1) := by decide +kernel
theorem dX8_at_17 : decode cX8_at 17 = .ok (.iload_n 3, 1) := by decide +kernel
theorem dX8_at_18 : decode cX8_at 18 = .ok (.iconst 0, 1) := by decide +kernel
theorem dX8_at_19 : decode cX8_at 19 = .ok (.aload_n 0, 1) := by decide +kernel
theorem dX8_at_20 : decode cX8_at 20 = .ok (.getfield 40, 3) := by decide +kernel
theorem dX8_at_23 : decode cX8_at 23 = .ok (.bipush 22, 2) := by decide +kernel
theorem dX8_at_25 : decode cX8_at 25 = .ok (.iload_n 1, 1) := by decide +kernel
theorem dX8_at_26 : decode cX8_at 26 = .ok (.imul, 1) := by decide +kernel
theorem dX8_at_27 : decode cX8_at 27 = .ok (.iload_n 2, 1) := by decide +kernel
theorem dX8_at_28 : decode cX8_at 28 = .ok (.iadd, 1) := by decide +kernel
theorem dX8_at_29 : decode cX8_at 29 = .ok (.iaload, 1) := by decide +kernel
theorem dX8_at_30 : decode cX8_at 30 = .ok (.iconst 1, 1) := by decide +kernel
theorem dX8_at_31 : decode cX8_at 31 = .ok (.isub, 1) := by decide +kernel
theorem dX8_at_32 : decode cX8_at 32 = .ok (.invokestatic 105, 3) := by decide +kernel
theorem dX8_at_35 : decode cX8_at 35 = .ok (.ifCond .eq 24, 3) := by decide +kernel
theorem dX8_at_38 : decode cX8_at 38 = .ok (.aload_n 0, 1) := by decide +kernel
theorem dX8_at_39 : decode cX8_at 39 = .ok (.getfield 31, 3) := by decide +kernel
theorem dX8_at_42 : decode cX8_at 42 = .ok (.aload_n 0, 1) := by decide +kernel
theorem dX8_at_43 : decode cX8_at 43 = .ok (.getfield 37, 3) := by decide +kernel
theorem dX8_at_46 : decode cX8_at 46 = .ok (.bipush 22, 2) := by decide +kernel
theorem dX8_at_48 : decode cX8_at 48 = .ok (.iload_n 1, 1) := by decide +kernel
theorem dX8_at_49 : decode cX8_at 49 = .ok (.imul, 1) := by decide +kernel
theorem dX8_at_50 : decode cX8_at 50 = .ok (.iload_n 2, 1) := by decide +kernel
theorem dX8_at_51 : decode cX8_at 51 = .ok (.iadd, 1) := by decide +kernel
theorem dX8_at_52 : decode cX8_at 52 = .ok (.iaload, 1) := by decide +kernel
theorem dX8_at_53 : decode cX8_at 53 = .ok (.iload_n 3, 1) := by decide +kernel
theorem dX8_at_54 : decode cX8_at 54 = .ok (.iadd, 1) := by decide +kernel
theorem dX8_at_55 : decode cX8_at 55 = .ok (.iaload, 1) := by decide +kernel
theorem dX8_at_56 : decode cX8_at 56 = .ok (.goto 5, 3) := by decide +kernel
theorem dX8_at_59 : decode cX8_at 59 = .ok (.bipush (-9), 2) := by decide +kernel
theorem dX8_at_61 : decode cX8_at 61 = .ok (.ireturn, 1) := by decide +kernel
theorem dX8_together_0 : decode cX8_together 0 = .ok (.lconst 0, 1) := by decide +kernel
theorem dX8_together_1 : decode cX8_together 1 = .ok (.lstore_n 3, 1) := by decide +kernel
theorem dX8_together_2 : decode cX8_together 2 = .ok (.iconst 0, 1) := by decide +kernel
theorem dX8_together_3 : decode cX8_together 3 = .ok (.istore 5, 2) := by decide +kernel
theorem dX8_together_5 : decode cX8_together 5 = .ok (.iload 5, 2) := by decide +kernel
theorem dX8_together_7 : decode cX8_together 7 = .ok (.iload_n 2, 1) := by decide +kernel
theorem dX8_together_8 : decode cX8_together 8 = .ok (.if_icmp .ge 25, 3) := by decide +kernel
theorem dX8_together_11 : decode cX8_together 11 = .ok (.lload_n 3, 1) := by decide +kernel
theorem dX8_together_12 : decode cX8_together 12 = .ok (.bipush 8, 2) := by decide +kernel
theorem dX8_together_14 : decode cX8_together 14 = .ok (.lshl, 1) := by decide +kernel
theorem dX8_together_15 : decode cX8_together 15 = .ok (.aload_n 0, 1) := by decide +kernel
theorem dX8_together_16 : decode cX8_together 16 = .ok (.getfield 31, 3) := by decide +kernel
theorem dX8_together_19 : decode cX8_together 19 = .ok (.iload_n 1, 1) := by decide +kernel
theorem dX8_together_20 : decode cX8_together 20 = .ok (.iload 5, 2) := by decide +kernel
theorem dX8_together_22 : decode cX8_together 22 = .ok (.iadd, 1) := by decide +kernel
theorem dX8_together_23 : decode cX8_together 23 = .ok (.iaload, 1) := by decide +kernel
theorem dX8_together_24 : decode cX8_together 24 = .ok (.i2l, 1) := by decide +kernel
theorem dX8_together_25 : decode cX8_together 25 = .ok (.lor, 1) := by decide +kernel
theorem dX8_together_26 : decode cX8_together 26 = .ok (.lstore_n 3, 1) := by decide +kernel
theorem dX8_together_27 : decode cX8_together 27 = .ok (.iinc 5 1, 3) := by decide +kernel
theorem dX8_together_30 : decode cX8_together 30 = .ok (.goto (-25), 3) := by decide +kernel
theorem dX8_together_33 : decode cX8_together 33 = .ok (.lload_n 3, 1) := by decide +kernel
theorem dX8_together_34 : decode cX8_together 34 = .ok (.lreturn, 1) := by decide +kernel
theorem dX8_ofMade_0 : decode cX8_ofMade 0 = .ok (.aload_n 0, 1) := by decide +kernel
theorem dX8_ofMade_1 : decode cX8_ofMade 1 = .ok (.getfield 31, 3) := by decide +kernel
theorem dX8_ofMade_4 : decode cX8_ofMade 4 = .ok (.iload_n 3, 1) := by decide +kernel
theorem dX8_ofMade_5 : decode cX8_ofMade 5 = .ok (.iaload, 1) := by decide +kernel
theorem dX8_ofMade_6 : decode cX8_ofMade 6 = .ok (.istore 5, 2) := by decide +kernel
theorem dX8_ofMade_8 : decode cX8_ofMade 8 = .ok (.iload 5, 2) := by decide +kernel
theorem dX8_ofMade_10 : decode cX8_ofMade 10 = .ok (.iconst 1, 1) := by decide +kernel
theorem dX8_ofMade_11 : decode cX8_ofMade 11 = .ok (.iand, 1) := by decide +kernel
theorem dX8_ofMade_12 : decode cX8_ofMade 12 = .ok (.iconst 1, 1) := by decide +kernel
theorem dX8_ofMade_13 : decode cX8_ofMade 13 = .ok (.if_icmp .ne 14, 3) := by decide +kernel
theorem dX8_ofMade_16 : decode cX8_ofMade 16 = .ok (.aload_n 0, 1) := by decide +kernel
theorem dX8_ofMade_17 : decode cX8_ofMade 17 = .ok (.getfield 31, 3) := by decide +kernel
theorem dX8_ofMade_20 : decode cX8_ofMade 20 = .ok (.iload_n 3, 1) := by decide +kernel
theorem dX8_ofMade_21 : decode cX8_ofMade 21 = .ok (.iconst 1, 1) := by decide +kernel
theorem dX8_ofMade_22 : decode cX8_ofMade 22 = .ok (.iadd, 1) := by decide +kernel
theorem dX8_ofMade_23 : decode cX8_ofMade 23 = .ok (.iaload, 1) := by decide +kernel
theorem dX8_ofMade_24 : decode cX8_ofMade 24 = .ok (.goto 4, 3) := by decide +kernel
theorem dX8_ofMade_27 : decode cX8_ofMade 27 = .ok (.iconst 0, 1) := by decide +kernel
theorem dX8_ofMade_28 : decode cX8_ofMade 28 = .ok (.istore 6, 2) := by decide +kernel
theorem dX8_ofMade_30 : decode cX8_ofMade 30 = .ok (.iload_n 3, 1) := by decide +kernel
theorem dX8_ofMade_31 : decode cX8_ofMade 31 = .ok (.iload 5, 2) := by decide +kernel
theorem dX8_ofMade_33 : decode cX8_ofMade 33 = .ok (.iconst 1, 1) := by decide +kernel
theorem dX8_ofMade_34 : decode cX8_ofMade 34 = .ok (.iand, 1) := by decide +kernel
theorem dX8_ofMade_35 : decode cX8_ofMade 35 = .ok (.iconst 1, 1) := by decide +kernel
theorem dX8_ofMade_36 : decode cX8_ofMade 36 = .ok (.if_icmp .ne 7, 3) := by decide +kernel
theorem dX8_ofMade_39 : decode cX8_ofMade 39 = .ok (.iconst 2, 1) := by decide +kernel
theorem dX8_ofMade_40 : decode cX8_ofMade 40 = .ok (.goto 4, 3) := by decide +kernel
theorem dX8_ofMade_43 : decode cX8_ofMade 43 = .ok (.iconst 1, 1) := by decide +kernel
theorem dX8_ofMade_44 : decode cX8_ofMade 44 = .ok (.iadd, 1) := by decide +kernel
theorem dX8_ofMade_45 : decode cX8_ofMade 45 = .ok (.istore 7, 2) := by decide +kernel
theorem dX8_ofMade_47 : decode cX8_ofMade 47 = .ok (.iconst 0, 1) := by decide +kernel
theorem dX8_ofMade_48 : decode cX8_ofMade 48 = .ok (.istore 8, 2) := by decide +kernel
theorem dX8_ofMade_50 : decode cX8_ofMade 50 = .ok (.iload 8, 2) := by decide +kernel
theorem dX8_ofMade_52 : decode cX8_ofMade 52 = .ok (.bipush 14, 2) := by decide +kernel
theorem dX8_ofMade_54 : decode cX8_ofMade 54 = .ok (.if_icmp .ge 115, 3) := by decide +kernel
theorem dX8_ofMade_57 : decode cX8_ofMade 57 = .ok (.iload 8, 2) := by decide +kernel
theorem dX8_ofMade_59 : decode cX8_ofMade 59 = .ok (.bipush 7, 2) := by decide +kernel
theorem dX8_ofMade_61 : decode cX8_ofMade 61 = .ok (.if_icmp .ge 25, 3) := by decide +kernel
theorem dX8_ofMade_64 : decode cX8_ofMade 64 = .ok (.iload 5, 2) := by decide +kernel
theorem dX8_ofMade_66 : decode cX8_ofMade 66 = .ok (.bipush 7, 2) := by decide +kernel
theorem dX8_ofMade_68 : decode cX8_ofMade 68 = .ok (.iload 8, 2) := by decide +kernel
theorem dX8_ofMade_70 : decode cX8_ofMade 70 = .ok (.isub, 1) := by decide +kernel
theorem dX8_ofMade_71 : decode cX8_ofMade 71 = .ok (.ishr, 1) := by decide +kernel
theorem dX8_ofMade_72 : decode cX8_ofMade 72 = .ok (.iconst 1, 1) := by decide +kernel
theorem dX8_ofMade_73 : decode cX8_ofMade 73 = .ok (.iand, 1) := by decide +kernel
theorem dX8_ofMade_74 : decode cX8_ofMade 74 = .ok (.iconst 1, 1) := by decide +kernel
theorem dX8_ofMade_75 : decode cX8_ofMade 75 = .ok (.if_icmp .ne 7, 3) := by decide +kernel
theorem dX8_ofMade_78 : decode cX8_ofMade 78 = .ok (.iconst 1, 1) := by decide +kernel
theorem dX8_ofMade_79 : decode cX8_ofMade 79 = .ok (.goto 26, 3) := by decide +kernel
theorem dX8_ofMade_82 : decode cX8_ofMade 82 = .ok (.iconst 0, 1) := by decide +kernel
theorem dX8_ofMade_83 : decode cX8_ofMade 83 = .ok (.goto 22, 3) := by decide +kernel
theorem dX8_ofMade_86 : decode cX8_ofMade 86 = .ok (.iload 6, 2) := by decide +kernel
theorem dX8_ofMade_88 : decode cX8_ofMade 88 = .ok (.bipush 14, 2) := by decide +kernel
theorem dX8_ofMade_90 : decode cX8_ofMade 90 = .ok (.iload 8, 2) := by decide +kernel
theorem dX8_ofMade_92 : decode cX8_ofMade 92 = .ok (.isub, 1) := by decide +kernel
theorem dX8_ofMade_93 : decode cX8_ofMade 93 = .ok (.ishr, 1) := by decide +kernel
theorem dX8_ofMade_94 : decode cX8_ofMade 94 = .ok (.iconst 1, 1) := by decide +kernel
theorem dX8_ofMade_95 : decode cX8_ofMade 95 = .ok (.iand, 1) := by decide +kernel
theorem dX8_ofMade_96 : decode cX8_ofMade 96 = .ok (.iconst 1, 1) := by decide +kernel
theorem dX8_ofMade_97 : decode cX8_ofMade 97 = .ok (.if_icmp .ne 7, 3) := by decide +kernel
theorem dX8_ofMade_100 : decode cX8_ofMade 100 = .ok (.iconst 1, 1) := by decide +kernel
theorem dX8_ofMade_101 : decode cX8_ofMade 101 = .ok (.goto 4, 3) := by decide +kernel
theorem dX8_ofMade_104 : decode cX8_ofMade 104 = .ok (.iconst 0, 1) := by decide +kernel
theorem dX8_ofMade_105 : decode cX8_ofMade 105 = .ok (.istore 9, 2) := by decide +kernel
theorem dX8_ofMade_107 : decode cX8_ofMade 107 = .ok (.aload_n 0, 1) := by decide +kernel
theorem dX8_ofMade_108 : decode cX8_ofMade 108 = .ok (.getfield 19, 3) := by decide +kernel
theorem dX8_ofMade_111 : decode cX8_ofMade 111 = .ok (.bipush 14, 2) := by decide +kernel
theorem dX8_ofMade_113 : decode cX8_ofMade 113 = .ok (.bipush 22, 2) := by decide +kernel
theorem dX8_ofMade_115 : decode cX8_ofMade 115 = .ok (.iload_n 1, 1) := by decide +kernel
theorem dX8_ofMade_116 : decode cX8_ofMade 116 = .ok (.imul, 1) := by decide +kernel
theorem dX8_ofMade_117 : decode cX8_ofMade 117 = .ok (.iload_n 2, 1) := by decide +kernel
theorem dX8_ofMade_118 : decode cX8_ofMade 118 = .ok (.iadd, 1) := by decide +kernel
theorem dX8_ofMade_119 : decode cX8_ofMade 119 = .ok (.imul, 1) := by decide +kernel
theorem dX8_ofMade_120 : decode cX8_ofMade 120 = .ok (.iload 8, 2) := by decide +kernel
theorem dX8_ofMade_122 : decode cX8_ofMade 122 = .ok (.iadd, 1) := by decide +kernel
theorem dX8_ofMade_123 : decode cX8_ofMade 123 = .ok (.iaload, 1) := by decide +kernel
theorem dX8_ofMade_124 : decode cX8_ofMade 124 = .ok (.istore 10, 2) := by decide +kernel
theorem dX8_ofMade_126 : decode cX8_ofMade 126 = .ok (.iload 9, 2) := by decide +kernel
theorem dX8_ofMade_128 : decode cX8_ofMade 128 = .ok (.ifCond .eq 19, 3) := by decide +kernel
theorem dX8_ofMade_131 : decode cX8_ofMade 131 = .ok (.iload 8, 2) := by decide +kernel
theorem dX8_ofMade_133 : decode cX8_ofMade 133 = .ok (.iload 4, 2) := by decide +kernel
theorem dX8_ofMade_135 : decode cX8_ofMade 135 = .ok (.if_icmp .ne 12, 3) := by decide +kernel
theorem dX8_ofMade_138 : decode cX8_ofMade 138 = .ok (.aload_n 0, 1) := by decide +kernel
theorem dX8_ofMade_139 : decode cX8_ofMade 139 = .ok (.iload 7, 2) := by decide +kernel
theorem dX8_ofMade_141 : decode cX8_ofMade 141 = .ok (.iload 10, 2) := by decide +kernel
theorem dX8_ofMade_143 : decode cX8_ofMade 143 = .ok (.invokevirtual 199, 3) := by decide +kernel
theorem dX8_ofMade_146 : decode cX8_ofMade 146 = .ok (.lreturn, 1) := by decide +kernel
theorem dX8_ofMade_147 : decode cX8_ofMade 147 = .ok (.iload 7, 2) := by decide +kernel
theorem dX8_ofMade_149 : decode cX8_ofMade 149 = .ok (.iload 9, 2) := by decide +kernel
theorem dX8_ofMade_151 : decode cX8_ofMade 151 = .ok (.ifCond .eq 8, 3) := by decide +kernel
theorem dX8_ofMade_154 : decode cX8_ofMade 154 = .ok (.iload 10, 2) := by decide +kernel
theorem dX8_ofMade_156 : decode cX8_ofMade 156 = .ok (.goto 4, 3) := by decide +kernel
theorem dX8_ofMade_159 : decode cX8_ofMade 159 = .ok (.iconst 0, 1) := by decide +kernel
theorem dX8_ofMade_160 : decode cX8_ofMade 160 = .ok (.iadd, 1) := by decide +kernel
theorem dX8_ofMade_161 : decode cX8_ofMade 161 = .ok (.istore 7, 2) := by decide +kernel
theorem dX8_ofMade_163 : decode cX8_ofMade 163 = .ok (.iinc 8 1, 3) := by decide +kernel
theorem dX8_ofMade_166 : decode cX8_ofMade 166 = .ok (.goto (-116), 3) := by decide +kernel
theorem dX8_ofMade_169 : decode cX8_ofMade 169 = .ok (.ldc2_w 203, 3) := by decide +kernel
theorem dX8_ofMade_172 : decode cX8_ofMade 172 = .ok (.lreturn, 1) := by decide +kernel
theorem dX8_number_0 : decode cX8_number 0 = .ok (.aload_n 0, 1) := by decide +kernel
theorem dX8_number_1 : decode cX8_number 1 = .ok (.iload_n 1, 1) := by decide +kernel
theorem dX8_number_2 : decode cX8_number 2 = .ok (.invokevirtual 196, 3) := by decide +kernel
theorem dX8_number_5 : decode cX8_number 5 = .ok (.ifCond .eq 10, 3) := by decide +kernel
theorem dX8_number_8 : decode cX8_number 8 = .ok (.iload_n 2, 1) := by decide +kernel
theorem dX8_number_9 : decode cX8_number 9 = .ok (.invokestatic 124, 3) := by decide +kernel
theorem dX8_number_12 : decode cX8_number 12 = .ok (.ifCond .ne 7, 3) := by decide +kernel
theorem dX8_number_15 : decode cX8_number 15 = .ok (.ldc2_w 205, 3) := by decide +kernel
theorem dX8_number_18 : decode cX8_number 18 = .ok (.lreturn, 1) := by decide +kernel
theorem dX8_number_19 : decode cX8_number 19 = .ok (.bipush 22, 2) := by decide +kernel
theorem dX8_number_21 : decode cX8_number 21 = .ok (.aload_n 0, 1) := by decide +kernel
theorem dX8_number_22 : decode cX8_number 22 = .ok (.getfield 99, 3) := by decide +kernel
theorem dX8_number_25 : decode cX8_number 25 = .ok (.imul, 1) := by decide +kernel
theorem dX8_number_26 : decode cX8_number 26 = .ok (.iload_n 2, 1) := by decide +kernel
theorem dX8_number_27 : decode cX8_number 27 = .ok (.iadd, 1) := by decide +kernel
theorem dX8_number_28 : decode cX8_number 28 = .ok (.istore 4, 2) := by decide +kernel
theorem dX8_number_30 : decode cX8_number 30 = .ok (.aload_n 0, 1) := by decide +kernel
theorem dX8_number_31 : decode cX8_number 31 = .ok (.getfield 37, 3) := by decide +kernel
theorem dX8_number_34 : decode cX8_number 34 = .ok (.bipush 22, 2) := by decide +kernel
theorem dX8_number_36 : decode cX8_number 36 = .ok (.iload_n 1, 1) := by decide +kernel
theorem dX8_number_37 : decode cX8_number 37 = .ok (.imul, 1) := by decide +kernel
theorem dX8_number_38 : decode cX8_number 38 = .ok (.iload_n 2, 1) := by decide +kernel
theorem dX8_number_39 : decode cX8_number 39 = .ok (.iadd, 1) := by decide +kernel
theorem dX8_number_40 : decode cX8_number 40 = .ok (.iaload, 1) := by decide +kernel
theorem dX8_number_41 : decode cX8_number 41 = .ok (.istore 5, 2) := by decide +kernel
theorem dX8_number_43 : decode cX8_number 43 = .ok (.aload_n 0, 1) := by decide +kernel
theorem dX8_number_44 : decode cX8_number 44 = .ok (.getfield 40, 3) := by decide +kernel
theorem dX8_number_47 : decode cX8_number 47 = .ok (.bipush 22, 2) := by decide +kernel
theorem dX8_number_49 : decode cX8_number 49 = .ok (.iload_n 1, 1) := by decide +kernel
theorem dX8_number_50 : decode cX8_number 50 = .ok (.imul, 1) := by decide +kernel
theorem dX8_number_51 : decode cX8_number 51 = .ok (.iload_n 2, 1) := by decide +kernel
theorem dX8_number_52 : decode cX8_number 52 = .ok (.iadd, 1) := by decide +kernel
theorem dX8_number_53 : decode cX8_number 53 = .ok (.iaload, 1) := by decide +kernel
theorem dX8_number_54 : decode cX8_number 54 = .ok (.ifCond .ne 7, 3) := by decide +kernel
theorem dX8_number_57 : decode cX8_number 57 = .ok (.ldc2_w 203, 3) := by decide +kernel
theorem dX8_number_60 : decode cX8_number 60 = .ok (.lreturn, 1) := by decide +kernel
theorem dX8_number_61 : decode cX8_number 61 = .ok (.aload_n 0, 1) := by decide +kernel
theorem dX8_number_62 : decode cX8_number 62 = .ok (.getfield 13, 3) := by decide +kernel
theorem dX8_number_65 : decode cX8_number 65 = .ok (.iload 4, 2) := by decide +kernel
theorem dX8_number_67 : decode cX8_number 67 = .ok (.iaload, 1) := by decide +kernel
theorem dX8_number_68 : decode cX8_number 68 = .ok (.tableswitch 118 0 3 #[32, 118, 56, 105], 32) := by decide +kernel
theorem dX8_number_100 : decode cX8_number 100 = .ok (.iload_n 3, 1) := by decide +kernel
theorem dX8_number_101 : decode cX8_number 101 = .ok (.ifCond .ne 19, 3) := by decide +kernel
theorem dX8_number_104 : decode cX8_number 104 = .ok (.aload_n 0, 1) := by decide +kernel
theorem dX8_number_105 : decode cX8_number 105 = .ok (.iload 5, 2) := by decide +kernel
theorem dX8_number_107 : decode cX8_number 107 = .ok (.aload_n 0, 1) := by decide +kernel
theorem dX8_number_108 : decode cX8_number 108 = .ok (.getfield 16, 3) := by decide +kernel
theorem dX8_number_111 : decode cX8_number 111 = .ok (.iload 4, 2) := by decide +kernel
theorem dX8_number_113 : decode cX8_number 113 = .ok (.iaload, 1) := by decide +kernel
theorem dX8_number_114 : decode cX8_number 114 = .ok (.invokevirtual 199, 3) := by decide +kernel
theorem dX8_number_117 : decode cX8_number 117 = .ok (.goto 6, 3) := by decide +kernel
theorem dX8_number_120 : decode cX8_number 120 = .ok (.ldc2_w 203, 3) := by decide +kernel
theorem dX8_number_123 : decode cX8_number 123 = .ok (.lreturn, 1) := by decide +kernel
theorem dX8_number_124 : decode cX8_number 124 = .ok (.iload_n 3, 1) := by decide +kernel
theorem dX8_number_125 : decode cX8_number 125 = .ok (.iconst 0, 1) := by decide +kernel
theorem dX8_number_126 : decode cX8_number 126 = .ok (.aload_n 0, 1) := by decide +kernel
theorem dX8_number_127 : decode cX8_number 127 = .ok (.getfield 31, 3) := by decide +kernel
theorem dX8_number_130 : decode cX8_number 130 = .ok (.iload 5, 2) := by decide +kernel
theorem dX8_number_132 : decode cX8_number 132 = .ok (.iaload, 1) := by decide +kernel
theorem dX8_number_133 : decode cX8_number 133 = .ok (.iconst 1, 1) := by decide +kernel
theorem dX8_number_134 : decode cX8_number 134 = .ok (.isub, 1) := by decide +kernel
theorem dX8_number_135 : decode cX8_number 135 = .ok (.invokestatic 105, 3) := by decide +kernel
theorem dX8_number_138 : decode cX8_number 138 = .ok (.ifCond .eq 31, 3) := by decide +kernel
theorem dX8_number_141 : decode cX8_number 141 = .ok (.aload_n 0, 1) := by decide +kernel
theorem dX8_number_142 : decode cX8_number 142 = .ok (.iload 5, 2) := by decide +kernel
theorem dX8_number_144 : decode cX8_number 144 = .ok (.iconst 1, 1) := by decide +kernel
theorem dX8_number_145 : decode cX8_number 145 = .ok (.iadd, 1) := by decide +kernel
theorem dX8_number_146 : decode cX8_number 146 = .ok (.iload_n 3, 1) := by decide +kernel
theorem dX8_number_147 : decode cX8_number 147 = .ok (.aload_n 0, 1) := by decide +kernel
theorem dX8_number_148 : decode cX8_number 148 = .ok (.getfield 16, 3) := by decide +kernel
theorem dX8_number_151 : decode cX8_number 151 = .ok (.iload 4, 2) := by decide +kernel
theorem dX8_number_153 : decode cX8_number 153 = .ok (.iaload, 1) := by decide +kernel
theorem dX8_number_154 : decode cX8_number 154 = .ok (.imul, 1) := by decide +kernel
theorem dX8_number_155 : decode cX8_number 155 = .ok (.iadd, 1) := by decide +kernel
theorem dX8_number_156 : decode cX8_number 156 = .ok (.aload_n 0, 1) := by decide +kernel
theorem dX8_number_157 : decode cX8_number 157 = .ok (.getfield 16, 3) := by decide +kernel
theorem dX8_number_160 : decode cX8_number 160 = .ok (.iload 4, 2) := by decide +kernel
theorem dX8_number_162 : decode cX8_number 162 = .ok (.iaload, 1) := by decide +kernel
theorem dX8_number_163 : decode cX8_number 163 = .ok (.invokevirtual 199, 3) := by decide +kernel
theorem dX8_number_166 : decode cX8_number 166 = .ok (.goto 6, 3) := by decide +kernel
theorem dX8_number_169 : decode cX8_number 169 = .ok (.ldc2_w 203, 3) := by decide +kernel
theorem dX8_number_172 : decode cX8_number 172 = .ok (.lreturn, 1) := by decide +kernel
theorem dX8_number_173 : decode cX8_number 173 = .ok (.aload_n 0, 1) := by decide +kernel
theorem dX8_number_174 : decode cX8_number 174 = .ok (.aload_n 0, 1) := by decide +kernel
theorem dX8_number_175 : decode cX8_number 175 = .ok (.getfield 99, 3) := by decide +kernel
theorem dX8_number_178 : decode cX8_number 178 = .ok (.iload_n 2, 1) := by decide +kernel
theorem dX8_number_179 : decode cX8_number 179 = .ok (.iload 5, 2) := by decide +kernel
theorem dX8_number_181 : decode cX8_number 181 = .ok (.iload_n 3, 1) := by decide +kernel
theorem dX8_number_182 : decode cX8_number 182 = .ok (.invokevirtual 207, 3) := by decide +kernel
theorem dX8_number_185 : decode cX8_number 185 = .ok (.lreturn, 1) := by decide +kernel
theorem dX8_number_186 : decode cX8_number 186 = .ok (.ldc2_w 203, 3) := by decide +kernel
theorem dX8_number_189 : decode cX8_number 189 = .ok (.lreturn, 1) := by decide +kernel
theorem dX8_begin_0 : decode cX8_begin 0 = .ok (.aload_n 0, 1) := by decide +kernel
theorem dX8_begin_1 : decode cX8_begin 1 = .ok (.iload_n 1, 1) := by decide +kernel
theorem dX8_begin_2 : decode cX8_begin 2 = .ok (.invokevirtual 120, 3) := by decide +kernel
theorem dX8_begin_5 : decode cX8_begin 5 = .ok (.ifCond .ne 5, 3) := by decide +kernel
theorem dX8_begin_8 : decode cX8_begin 8 = .ok (.iconst (-1), 1) := by decide +kernel
theorem dX8_begin_9 : decode cX8_begin 9 = .ok (.ireturn, 1) := by decide +kernel
theorem dX8_begin_10 : decode cX8_begin 10 = .ok (.aload_n 0, 1) := by decide +kernel
theorem dX8_begin_11 : decode cX8_begin 11 = .ok (.iload_n 1, 1) := by decide +kernel
theorem dX8_begin_12 : decode cX8_begin 12 = .ok (.putfield 56, 3) := by decide +kernel
theorem dX8_begin_15 : decode cX8_begin 15 = .ok (.iconst 0, 1) := by decide +kernel
theorem dX8_begin_16 : decode cX8_begin 16 = .ok (.istore_n 2, 1) := by decide +kernel
theorem dX8_begin_17 : decode cX8_begin 17 = .ok (.iload_n 2, 1) := by decide +kernel
theorem dX8_begin_18 : decode cX8_begin 18 = .ok (.bipush 21, 2) := by decide +kernel
theorem dX8_begin_20 : decode cX8_begin 20 = .ok (.if_icmp .gt 16, 3) := by decide +kernel
theorem dX8_begin_23 : decode cX8_begin 23 = .ok (.aload_n 0, 1) := by decide +kernel
theorem dX8_begin_24 : decode cX8_begin 24 = .ok (.getfield 60, 3) := by decide +kernel
theorem dX8_begin_27 : decode cX8_begin 27 = .ok (.iload_n 2, 1) := by decide +kernel
theorem dX8_begin_28 : decode cX8_begin 28 = .ok (.iconst 0, 1) := by decide +kernel
theorem dX8_begin_29 : decode cX8_begin 29 = .ok (.iastore, 1) := by decide +kernel
theorem dX8_begin_30 : decode cX8_begin 30 = .ok (.iinc 2 1, 3) := by decide +kernel
theorem dX8_begin_33 : decode cX8_begin 33 = .ok (.goto (-16), 3) := by decide +kernel
theorem dX8_begin_36 : decode cX8_begin 36 = .ok (.iconst 1, 1) := by decide +kernel
theorem dX8_begin_37 : decode cX8_begin 37 = .ok (.ireturn, 1) := by decide +kernel
theorem dX8_set_0 : decode cX8_set 0 = .ok (.iload_n 1, 1) := by decide +kernel
theorem dX8_set_1 : decode cX8_set 1 = .ok (.invokestatic 124, 3) := by decide +kernel
theorem dX8_set_4 : decode cX8_set 4 = .ok (.ifCond .ne 5, 3) := by decide +kernel
theorem dX8_set_7 : decode cX8_set 7 = .ok (.iconst (-1), 1) := by decide +kernel
theorem dX8_set_8 : decode cX8_set 8 = .ok (.ireturn, 1) := by decide +kernel
theorem dX8_set_9 : decode cX8_set 9 = .ok (.aload_n 0, 1) := by decide +kernel
theorem dX8_set_10 : decode cX8_set 10 = .ok (.getfield 56, 3) := by decide +kernel
theorem dX8_set_13 : decode cX8_set 13 = .ok (.ifCond .ge 6, 3) := by decide +kernel
theorem dX8_set_16 : decode cX8_set 16 = .ok (.bipush (-2), 2) := by decide +kernel
theorem dX8_set_18 : decode cX8_set 18 = .ok (.ireturn, 1) := by decide +kernel
theorem dX8_set_19 : decode cX8_set 19 = .ok (.aload_n 0, 1) := by decide +kernel
theorem dX8_set_20 : decode cX8_set 20 = .ok (.getfield 13, 3) := by decide +kernel
theorem dX8_set_23 : decode cX8_set 23 = .ok (.bipush 22, 2) := by decide +kernel
theorem dX8_set_25 : decode cX8_set 25 = .ok (.aload_n 0, 1) := by decide +kernel
theorem dX8_set_26 : decode cX8_set 26 = .ok (.getfield 56, 3) := by decide +kernel
theorem dX8_set_29 : decode cX8_set 29 = .ok (.imul, 1) := by decide +kernel
theorem dX8_set_30 : decode cX8_set 30 = .ok (.iload_n 1, 1) := by decide +kernel
theorem dX8_set_31 : decode cX8_set 31 = .ok (.iadd, 1) := by decide +kernel
theorem dX8_set_32 : decode cX8_set 32 = .ok (.iaload, 1) := by decide +kernel
theorem dX8_set_33 : decode cX8_set 33 = .ok (.bipush (-9), 2) := by decide +kernel
theorem dX8_set_35 : decode cX8_set 35 = .ok (.if_icmp .ne 5, 3) := by decide +kernel
theorem dX8_set_38 : decode cX8_set 38 = .ok (.iconst (-1), 1) := by decide +kernel
theorem dX8_set_39 : decode cX8_set 39 = .ok (.ireturn, 1) := by decide +kernel
theorem dX8_set_40 : decode cX8_set 40 = .ok (.aload_n 0, 1) := by decide +kernel
theorem dX8_set_41 : decode cX8_set 41 = .ok (.getfield 136, 3) := by decide +kernel
theorem dX8_set_44 : decode cX8_set 44 = .ok (.istore_n 2, 1) := by decide +kernel
theorem dX8_set_45 : decode cX8_set 45 = .ok (.aload_n 0, 1) := by decide +kernel
theorem dX8_set_46 : decode cX8_set 46 = .ok (.iconst 0, 1) := by decide +kernel
theorem dX8_set_47 : decode cX8_set 47 = .ok (.putfield 136, 3) := by decide +kernel
theorem dX8_set_50 : decode cX8_set 50 = .ok (.aload_n 0, 1) := by decide +kernel
theorem dX8_set_51 : decode cX8_set 51 = .ok (.iconst 0, 1) := by decide +kernel
theorem dX8_set_52 : decode cX8_set 52 = .ok (.putfield 142, 3) := by decide +kernel
theorem dX8_set_55 : decode cX8_set 55 = .ok (.aload_n 0, 1) := by decide +kernel
theorem dX8_set_56 : decode cX8_set 56 = .ok (.aload_n 0, 1) := by decide +kernel
theorem dX8_set_57 : decode cX8_set 57 = .ok (.getfield 133, 3) := by decide +kernel
theorem dX8_set_60 : decode cX8_set 60 = .ok (.putfield 145, 3) := by decide +kernel
theorem dX8_set_63 : decode cX8_set 63 = .ok (.aload_n 0, 1) := by decide +kernel
theorem dX8_set_64 : decode cX8_set 64 = .ok (.aload_n 0, 1) := by decide +kernel
theorem dX8_set_65 : decode cX8_set 65 = .ok (.getfield 56, 3) := by decide +kernel
theorem dX8_set_68 : decode cX8_set 68 = .ok (.iload_n 1, 1) := by decide +kernel
theorem dX8_set_69 : decode cX8_set 69 = .ok (.invokevirtual 181, 3) := by decide +kernel
theorem dX8_set_72 : decode cX8_set 72 = .ok (.aload_n 0, 1) := by decide +kernel
theorem dX8_set_73 : decode cX8_set 73 = .ok (.getfield 136, 3) := by decide +kernel
theorem dX8_set_76 : decode cX8_set 76 = .ok (.ifCond .ne 18, 3) := by decide +kernel
theorem dX8_set_79 : decode cX8_set 79 = .ok (.aload_n 0, 1) := by decide +kernel
theorem dX8_set_80 : decode cX8_set 80 = .ok (.getfield 142, 3) := by decide +kernel
theorem dX8_set_83 : decode cX8_set 83 = .ok (.aload_n 0, 1) := by decide +kernel
theorem dX8_set_84 : decode cX8_set 84 = .ok (.getfield 133, 3) := by decide +kernel
theorem dX8_set_87 : decode cX8_set 87 = .ok (.if_icmp .ne 7, 3) := by decide +kernel
theorem dX8_set_90 : decode cX8_set 90 = .ok (.iconst 1, 1) := by decide +kernel
theorem dX8_set_91 : decode cX8_set 91 = .ok (.goto 4, 3) := by decide +kernel
theorem dX8_set_94 : decode cX8_set 94 = .ok (.iconst 0, 1) := by decide +kernel
theorem dX8_set_95 : decode cX8_set 95 = .ok (.istore_n 3, 1) := by decide +kernel
theorem dX8_set_96 : decode cX8_set 96 = .ok (.aload_n 0, 1) := by decide +kernel
theorem dX8_set_97 : decode cX8_set 97 = .ok (.iload_n 2, 1) := by decide +kernel
theorem dX8_set_98 : decode cX8_set 98 = .ok (.putfield 136, 3) := by decide +kernel
theorem dX8_set_101 : decode cX8_set 101 = .ok (.iload_n 3, 1) := by decide +kernel
theorem dX8_set_102 : decode cX8_set 102 = .ok (.ifCond .ne 5, 3) := by decide +kernel
theorem dX8_set_105 : decode cX8_set 105 = .ok (.iconst (-1), 1) := by decide +kernel
theorem dX8_set_106 : decode cX8_set 106 = .ok (.ireturn, 1) := by decide +kernel
theorem dX8_set_107 : decode cX8_set 107 = .ok (.iconst 0, 1) := by decide +kernel
theorem dX8_set_108 : decode cX8_set 108 = .ok (.istore 4, 2) := by decide +kernel
theorem dX8_set_110 : decode cX8_set 110 = .ok (.iload 4, 2) := by decide +kernel
theorem dX8_set_112 : decode cX8_set 112 = .ok (.aload_n 0, 1) := by decide +kernel
theorem dX8_set_113 : decode cX8_set 113 = .ok (.getfield 133, 3) := by decide +kernel
theorem dX8_set_116 : decode cX8_set 116 = .ok (.if_icmp .ge 28, 3) := by decide +kernel
theorem dX8_set_119 : decode cX8_set 119 = .ok (.aload_n 0, 1) := by decide +kernel
theorem dX8_set_120 : decode cX8_set 120 = .ok (.getfield 63, 3) := by decide +kernel
theorem dX8_set_123 : decode cX8_set 123 = .ok (.bipush 60, 2) := by decide +kernel
theorem dX8_set_125 : decode cX8_set 125 = .ok (.iload_n 1, 1) := by decide +kernel
theorem dX8_set_126 : decode cX8_set 126 = .ok (.imul, 1) := by decide +kernel
theorem dX8_set_127 : decode cX8_set 127 = .ok (.iload 4, 2) := by decide +kernel
theorem dX8_set_129 : decode cX8_set 129 = .ok (.iadd, 1) := by decide +kernel
theorem dX8_set_130 : decode cX8_set 130 = .ok (.aload_n 0, 1) := by decide +kernel
theorem dX8_set_131 : decode cX8_set 131 = .ok (.getfield 28, 3) := by decide +kernel
theorem dX8_set_134 : decode cX8_set 134 = .ok (.iload 4, 2) := by decide +kernel
theorem dX8_set_136 : decode cX8_set 136 = .ok (.iaload, 1) := by decide +kernel
theorem dX8_set_137 : decode cX8_set 137 = .ok (.iastore, 1) := by decide +kernel
theorem dX8_set_138 : decode cX8_set 138 = .ok (.iinc 4 1, 3) := by decide +kernel
theorem dX8_set_141 : decode cX8_set 141 = .ok (.goto (-31), 3) := by decide +kernel
theorem dX8_set_144 : decode cX8_set 144 = .ok (.aload_n 0, 1) := by decide +kernel
theorem dX8_set_145 : decode cX8_set 145 = .ok (.getfield 60, 3) := by decide +kernel
theorem dX8_set_148 : decode cX8_set 148 = .ok (.iload_n 1, 1) := by decide +kernel
theorem dX8_set_149 : decode cX8_set 149 = .ok (.aload_n 0, 1) := by decide +kernel
theorem dX8_set_150 : decode cX8_set 150 = .ok (.getfield 133, 3) := by decide +kernel
theorem dX8_set_153 : decode cX8_set 153 = .ok (.iastore, 1) := by decide +kernel
theorem dX8_set_154 : decode cX8_set 154 = .ok (.aload_n 0, 1) := by decide +kernel
theorem dX8_set_155 : decode cX8_set 155 = .ok (.iconst 0, 1) := by decide +kernel
theorem dX8_set_156 : decode cX8_set 156 = .ok (.putfield 133, 3) := by decide +kernel
theorem dX8_set_159 : decode cX8_set 159 = .ok (.aload_n 0, 1) := by decide +kernel
theorem dX8_set_160 : decode cX8_set 160 = .ok (.getfield 60, 3) := by decide +kernel
theorem dX8_set_163 : decode cX8_set 163 = .ok (.iload_n 1, 1) := by decide +kernel
theorem dX8_set_164 : decode cX8_set 164 = .ok (.iaload, 1) := by decide +kernel
theorem dX8_set_165 : decode cX8_set 165 = .ok (.ireturn, 1) := by decide +kernel
theorem dX8_take_0 : decode cX8_take 0 = .ok (.iload_n 1, 1) := by decide +kernel
theorem dX8_take_1 : decode cX8_take 1 = .ok (.invokestatic 124, 3) := by decide +kernel
theorem dX8_take_4 : decode cX8_take 4 = .ok (.ifCond .ne 5, 3) := by decide +kernel
theorem dX8_take_7 : decode cX8_take 7 = .ok (.iconst (-1), 1) := by decide +kernel
theorem dX8_take_8 : decode cX8_take 8 = .ok (.ireturn, 1) := by decide +kernel
theorem dX8_take_9 : decode cX8_take 9 = .ok (.aload_n 0, 1) := by decide +kernel
theorem dX8_take_10 : decode cX8_take 10 = .ok (.getfield 56, 3) := by decide +kernel
theorem dX8_take_13 : decode cX8_take 13 = .ok (.ifCond .ge 6, 3) := by decide +kernel
theorem dX8_take_16 : decode cX8_take 16 = .ok (.bipush (-2), 2) := by decide +kernel
theorem dX8_take_18 : decode cX8_take 18 = .ok (.ireturn, 1) := by decide +kernel
theorem dX8_take_19 : decode cX8_take 19 = .ok (.aload_n 0, 1) := by decide +kernel
theorem dX8_take_20 : decode cX8_take 20 = .ok (.getfield 60, 3) := by decide +kernel
theorem dX8_take_23 : decode cX8_take 23 = .ok (.iload_n 1, 1) := by decide +kernel
theorem dX8_take_24 : decode cX8_take 24 = .ok (.iaload, 1) := by decide +kernel
theorem dX8_take_25 : decode cX8_take 25 = .ok (.ifCond .ne 5, 3) := by decide +kernel
theorem dX8_take_28 : decode cX8_take 28 = .ok (.iconst (-1), 1) := by decide +kernel
theorem dX8_take_29 : decode cX8_take 29 = .ok (.ireturn, 1) := by decide +kernel
theorem dX8_take_30 : decode cX8_take 30 = .ok (.aload_n 0, 1) := by decide +kernel
theorem dX8_take_31 : decode cX8_take 31 = .ok (.getfield 60, 3) := by decide +kernel
theorem dX8_take_34 : decode cX8_take 34 = .ok (.iload_n 1, 1) := by decide +kernel
theorem dX8_take_35 : decode cX8_take 35 = .ok (.iaload, 1) := by decide +kernel
theorem dX8_take_36 : decode cX8_take 36 = .ok (.istore_n 2, 1) := by decide +kernel
theorem dX8_take_37 : decode cX8_take 37 = .ok (.aload_n 0, 1) := by decide +kernel
theorem dX8_take_38 : decode cX8_take 38 = .ok (.getfield 60, 3) := by decide +kernel
theorem dX8_take_41 : decode cX8_take 41 = .ok (.iload_n 1, 1) := by decide +kernel
theorem dX8_take_42 : decode cX8_take 42 = .ok (.iconst 0, 1) := by decide +kernel
theorem dX8_take_43 : decode cX8_take 43 = .ok (.iastore, 1) := by decide +kernel
theorem dX8_take_44 : decode cX8_take 44 = .ok (.iload_n 2, 1) := by decide +kernel
theorem dX8_take_45 : decode cX8_take 45 = .ok (.ireturn, 1) := by decide +kernel
theorem dX8_put_0 : decode cX8_put 0 = .ok (.aload_n 0, 1) := by decide +kernel
theorem dX8_put_1 : decode cX8_put 1 = .ok (.getfield 28, 3) := by decide +kernel
theorem dX8_put_4 : decode cX8_put 4 = .ok (.aload_n 0, 1) := by decide +kernel
theorem dX8_put_5 : decode cX8_put 5 = .ok (.getfield 133, 3) := by decide +kernel
theorem dX8_put_8 : decode cX8_put 8 = .ok (.iload_n 1, 1) := by decide +kernel
theorem dX8_put_9 : decode cX8_put 9 = .ok (.sipush 255, 3) := by decide +kernel
theorem dX8_put_12 : decode cX8_put 12 = .ok (.iand, 1) := by decide +kernel
theorem dX8_put_13 : decode cX8_put 13 = .ok (.iastore, 1) := by decide +kernel
theorem dX8_put_14 : decode cX8_put 14 = .ok (.aload_n 0, 1) := by decide +kernel
theorem dX8_put_15 : decode cX8_put 15 = .ok (.dup, 1) := by decide +kernel
theorem dX8_put_16 : decode cX8_put 16 = .ok (.getfield 133, 3) := by decide +kernel
theorem dX8_put_19 : decode cX8_put 19 = .ok (.iconst 1, 1) := by decide +kernel
theorem dX8_put_20 : decode cX8_put 20 = .ok (.iadd, 1) := by decide +kernel
theorem dX8_put_21 : decode cX8_put 21 = .ok (.putfield 133, 3) := by decide +kernel
theorem dX8_put_24 : decode cX8_put 24 = .ok (.return_, 1) := by decide +kernel
theorem dX8_write_0 : decode cX8_write 0 = .ok (.iconst 0, 1) := by decide +kernel
theorem dX8_write_1 : decode cX8_write 1 = .ok (.istore_n 1, 1) := by decide +kernel
theorem dX8_write_2 : decode cX8_write 2 = .ok (.iconst 3, 1) := by decide +kernel
theorem dX8_write_3 : decode cX8_write 3 = .ok (.istore_n 2, 1) := by decide +kernel
theorem dX8_write_4 : decode cX8_write 4 = .ok (.iconst 1, 1) := by decide +kernel
theorem dX8_write_5 : decode cX8_write 5 = .ok (.istore_n 3, 1) := by decide +kernel
theorem dX8_write_6 : decode cX8_write 6 = .ok (.iload_n 3, 1) := by decide +kernel
theorem dX8_write_7 : decode cX8_write 7 = .ok (.bipush 21, 2) := by decide +kernel
theorem dX8_write_9 : decode cX8_write 9 = .ok (.if_icmp .gt 40, 3) := by decide +kernel
theorem dX8_write_12 : decode cX8_write 12 = .ok (.aload_n 0, 1) := by decide +kernel
theorem dX8_write_13 : decode cX8_write 13 = .ok (.getfield 56, 3) := by decide +kernel
theorem dX8_write_16 : decode cX8_write 16 = .ok (.ifCond .lt 33, 3) := by decide +kernel
theorem dX8_write_19 : decode cX8_write 19 = .ok (.aload_n 0, 1) := by decide +kernel
theorem dX8_write_20 : decode cX8_write 20 = .ok (.getfield 60, 3) := by decide +kernel
theorem dX8_write_23 : decode cX8_write 23 = .ok (.iload_n 3, 1) := by decide +kernel
theorem dX8_write_24 : decode cX8_write 24 = .ok (.iaload, 1) := by decide +kernel
theorem dX8_write_25 : decode cX8_write 25 = .ok (.ifCond .le 7, 3) := by decide +kernel
theorem dX8_write_28 : decode cX8_write 28 = .ok (.iload_n 3, 1) := by decide +kernel
theorem dX8_write_29 : decode cX8_write 29 = .ok (.goto 4, 3) := by decide +kernel
theorem dX8_write_32 : decode cX8_write 32 = .ok (.iload_n 1, 1) := by decide +kernel
theorem dX8_write_33 : decode cX8_write 33 = .ok (.istore_n 1, 1) := by decide +kernel
theorem dX8_write_34 : decode cX8_write 34 = .ok (.iload_n 2, 1) := by decide +kernel
theorem dX8_write_35 : decode cX8_write 35 = .ok (.aload_n 0, 1) := by decide +kernel
theorem dX8_write_36 : decode cX8_write 36 = .ok (.getfield 60, 3) := by decide +kernel
theorem dX8_write_39 : decode cX8_write 39 = .ok (.iload_n 3, 1) := by decide +kernel
theorem dX8_write_40 : decode cX8_write 40 = .ok (.iaload, 1) := by decide +kernel
theorem dX8_write_41 : decode cX8_write 41 = .ok (.iadd, 1) := by decide +kernel
theorem dX8_write_42 : decode cX8_write 42 = .ok (.istore_n 2, 1) := by decide +kernel
theorem dX8_write_43 : decode cX8_write 43 = .ok (.iinc 3 1, 3) := by decide +kernel
theorem dX8_write_46 : decode cX8_write 46 = .ok (.goto (-40), 3) := by decide +kernel
theorem dX8_write_49 : decode cX8_write 49 = .ok (.iload_n 1, 1) := by decide +kernel
theorem dX8_write_50 : decode cX8_write 50 = .ok (.ifCond .ne 6, 3) := by decide +kernel
theorem dX8_write_53 : decode cX8_write 53 = .ok (.bipush (-2), 2) := by decide +kernel
theorem dX8_write_55 : decode cX8_write 55 = .ok (.ireturn, 1) := by decide +kernel
theorem dX8_write_56 : decode cX8_write 56 = .ok (.iload_n 1, 1) := by decide +kernel
theorem dX8_write_57 : decode cX8_write 57 = .ok (.bipush 6, 2) := by decide +kernel
theorem dX8_write_59 : decode cX8_write 59 = .ok (.iadd, 1) := by decide +kernel
theorem dX8_write_60 : decode cX8_write 60 = .ok (.bipush 7, 2) := by decide +kernel
theorem dX8_write_62 : decode cX8_write 62 = .ok (.idiv, 1) := by decide +kernel
theorem dX8_write_63 : decode cX8_write 63 = .ok (.istore_n 3, 1) := by decide +kernel
theorem dX8_write_64 : decode cX8_write 64 = .ok (.iload_n 2, 1) := by decide +kernel
theorem dX8_write_65 : decode cX8_write 65 = .ok (.iload_n 3, 1) := by decide +kernel
theorem dX8_write_66 : decode cX8_write 66 = .ok (.iadd, 1) := by decide +kernel
theorem dX8_write_67 : decode cX8_write 67 = .ok (.istore_n 2, 1) := by decide +kernel
theorem dX8_write_68 : decode cX8_write 68 = .ok (.aload_n 0, 1) := by decide +kernel
theorem dX8_write_69 : decode cX8_write 69 = .ok (.getfield 133, 3) := by decide +kernel
theorem dX8_write_72 : decode cX8_write 72 = .ok (.iload_n 2, 1) := by decide +kernel
theorem dX8_write_73 : decode cX8_write 73 = .ok (.iadd, 1) := by decide +kernel
theorem dX8_write_74 : decode cX8_write 74 = .ok (.sipush 300, 3) := by decide +kernel
theorem dX8_write_77 : decode cX8_write 77 = .ok (.if_icmp .le 6, 3) := by decide +kernel
theorem dX8_write_80 : decode cX8_write 80 = .ok (.bipush (-3), 2) := by decide +kernel
theorem dX8_write_82 : decode cX8_write 82 = .ok (.ireturn, 1) := by decide +kernel
theorem dX8_write_83 : decode cX8_write 83 = .ok (.aload_n 0, 1) := by decide +kernel
theorem dX8_write_84 : decode cX8_write 84 = .ok (.aload_n 0, 1) := by decide +kernel
theorem dX8_write_85 : decode cX8_write 85 = .ok (.getfield 7, 3) := by decide +kernel
theorem dX8_write_88 : decode cX8_write 88 = .ok (.aload_n 0, 1) := by decide +kernel
theorem dX8_write_89 : decode cX8_write 89 = .ok (.getfield 56, 3) := by decide +kernel
theorem dX8_write_92 : decode cX8_write 92 = .ok (.iaload, 1) := by decide +kernel
theorem dX8_write_93 : decode cX8_write 93 = .ok (.invokevirtual 211, 3) := by decide +kernel
theorem dX8_write_96 : decode cX8_write 96 = .ok (.aload_n 0, 1) := by decide +kernel
theorem dX8_write_97 : decode cX8_write 97 = .ok (.iload_n 2, 1) := by decide +kernel
theorem dX8_write_98 : decode cX8_write 98 = .ok (.bipush 8, 2) := by decide +kernel
theorem dX8_write_100 : decode cX8_write 100 = .ok (.ishr, 1) := by decide +kernel
theorem dX8_write_101 : decode cX8_write 101 = .ok (.invokevirtual 211, 3) := by decide +kernel
theorem dX8_write_104 : decode cX8_write 104 = .ok (.aload_n 0, 1) := by decide +kernel
theorem dX8_write_105 : decode cX8_write 105 = .ok (.iload_n 2, 1) := by decide +kernel
theorem dX8_write_106 : decode cX8_write 106 = .ok (.invokevirtual 211, 3) := by decide +kernel
theorem dX8_write_109 : decode cX8_write 109 = .ok (.iconst 0, 1) := by decide +kernel
theorem dX8_write_110 : decode cX8_write 110 = .ok (.istore 4, 2) := by decide +kernel
theorem dX8_write_112 : decode cX8_write 112 = .ok (.iload 4, 2) := by decide +kernel
theorem dX8_write_114 : decode cX8_write 114 = .ok (.iload_n 3, 1) := by decide +kernel
theorem dX8_write_115 : decode cX8_write 115 = .ok (.if_icmp .ge 80, 3) := by decide +kernel
theorem dX8_write_118 : decode cX8_write 118 = .ok (.iload 4, 2) := by decide +kernel
theorem dX8_write_120 : decode cX8_write 120 = .ok (.iconst 1, 1) := by decide +kernel
theorem dX8_write_121 : decode cX8_write 121 = .ok (.iadd, 1) := by decide +kernel
theorem dX8_write_122 : decode cX8_write 122 = .ok (.iload_n 3, 1) := by decide +kernel
theorem dX8_write_123 : decode cX8_write 123 = .ok (.if_icmp .ge 7, 3) := by decide +kernel
theorem dX8_write_126 : decode cX8_write 126 = .ok (.iconst 1, 1) := by decide +kernel
theorem dX8_write_127 : decode cX8_write 127 = .ok (.goto 4, 3) := by decide +kernel
theorem dX8_write_130 : decode cX8_write 130 = .ok (.iconst 0, 1) := by decide +kernel
theorem dX8_write_131 : decode cX8_write 131 = .ok (.istore 5, 2) := by decide +kernel
theorem dX8_write_133 : decode cX8_write 133 = .ok (.iconst 0, 1) := by decide +kernel
theorem dX8_write_134 : decode cX8_write 134 = .ok (.istore 6, 2) := by decide +kernel
theorem dX8_write_136 : decode cX8_write 136 = .ok (.iload 6, 2) := by decide +kernel
theorem dX8_write_138 : decode cX8_write 138 = .ok (.bipush 7, 2) := by decide +kernel
theorem dX8_write_140 : decode cX8_write 140 = .ok (.if_icmp .ge 43, 3) := by decide +kernel
theorem dX8_write_143 : decode cX8_write 143 = .ok (.iload 5, 2) := by decide +kernel
theorem dX8_write_145 : decode cX8_write 145 = .ok (.aload_n 0, 1) := by decide +kernel
theorem dX8_write_146 : decode cX8_write 146 = .ok (.getfield 60, 3) := by decide +kernel
theorem dX8_write_149 : decode cX8_write 149 = .ok (.bipush 7, 2) := by decide +kernel
theorem dX8_write_151 : decode cX8_write 151 = .ok (.iload 4, 2) := by decide +kernel
theorem dX8_write_153 : decode cX8_write 153 = .ok (.imul, 1) := by decide +kernel
theorem dX8_write_154 : decode cX8_write 154 = .ok (.iload 6, 2) := by decide +kernel
theorem dX8_write_156 : decode cX8_write 156 = .ok (.iadd, 1) := by decide +kernel
theorem dX8_write_157 : decode cX8_write 157 = .ok (.iconst 1, 1) := by decide +kernel
theorem dX8_write_158 : decode cX8_write 158 = .ok (.iadd, 1) := by decide +kernel
theorem dX8_write_159 : decode cX8_write 159 = .ok (.iaload, 1) := by decide +kernel
theorem dX8_write_160 : decode cX8_write 160 = .ok (.ifCond .le 13, 3) := by decide +kernel
theorem dX8_write_163 : decode cX8_write 163 = .ok (.iconst 1, 1) := by decide +kernel
theorem dX8_write_164 : decode cX8_write 164 = .ok (.bipush 7, 2) := by decide +kernel
theorem dX8_write_166 : decode cX8_write 166 = .ok (.iload 6, 2) := by decide +kernel
theorem dX8_write_168 : decode cX8_write 168 = .ok (.isub, 1) := by decide +kernel
theorem dX8_write_169 : decode cX8_write 169 = .ok (.ishl, 1) := by decide +kernel
theorem dX8_write_170 : decode cX8_write 170 = .ok (.goto 4, 3) := by decide +kernel
theorem dX8_write_173 : decode cX8_write 173 = .ok (.iconst 0, 1) := by decide +kernel
theorem dX8_write_174 : decode cX8_write 174 = .ok (.ior, 1) := by decide +kernel
theorem dX8_write_175 : decode cX8_write 175 = .ok (.istore 5, 2) := by decide +kernel
theorem dX8_write_177 : decode cX8_write 177 = .ok (.iinc 6 1, 3) := by decide +kernel
theorem dX8_write_180 : decode cX8_write 180 = .ok (.goto (-44), 3) := by decide +kernel
theorem dX8_write_183 : decode cX8_write 183 = .ok (.aload_n 0, 1) := by decide +kernel
theorem dX8_write_184 : decode cX8_write 184 = .ok (.iload 5, 2) := by decide +kernel
theorem dX8_write_186 : decode cX8_write 186 = .ok (.invokevirtual 211, 3) := by decide +kernel
theorem dX8_write_189 : decode cX8_write 189 = .ok (.iinc 4 1, 3) := by decide +kernel
theorem dX8_write_192 : decode cX8_write 192 = .ok (.goto (-80), 3) := by decide +kernel
theorem dX8_write_195 : decode cX8_write 195 = .ok (.iconst 1, 1) := by decide +kernel
theorem dX8_write_196 : decode cX8_write 196 = .ok (.istore 4, 2) := by decide +kernel
