-- printed by the claim's program: decode rows
theorem dX8_write_198 : decode cX8_write 198 = .ok (.iload 4, 2) := by decide +kernel
theorem dX8_write_200 : decode cX8_write 200 = .ok (.bipush 21, 2) := by decide +kernel
theorem dX8_write_202 : decode cX8_write 202 = .ok (.if_icmp .gt 47, 3) := by decide +kernel
theorem dX8_write_205 : decode cX8_write 205 = .ok (.iconst 0, 1) := by decide +kernel
theorem dX8_write_206 : decode cX8_write 206 = .ok (.istore 5, 2) := by decide +kernel
theorem dX8_write_208 : decode cX8_write 208 = .ok (.iload 5, 2) := by decide +kernel
theorem dX8_write_210 : decode cX8_write 210 = .ok (.aload_n 0, 1) := by decide +kernel
theorem dX8_write_211 : decode cX8_write 211 = .ok (.getfield 60, 3) := by decide +kernel
theorem dX8_write_214 : decode cX8_write 214 = .ok (.iload 4, 2) := by decide +kernel
theorem dX8_write_216 : decode cX8_write 216 = .ok (.iaload, 1) := by decide +kernel
theorem dX8_write_217 : decode cX8_write 217 = .ok (.if_icmp .ge 26, 3) := by decide +kernel
theorem dX8_write_220 : decode cX8_write 220 = .ok (.aload_n 0, 1) := by decide +kernel
theorem dX8_write_221 : decode cX8_write 221 = .ok (.aload_n 0, 1) := by decide +kernel
theorem dX8_write_222 : decode cX8_write 222 = .ok (.getfield 63, 3) := by decide +kernel
theorem dX8_write_225 : decode cX8_write 225 = .ok (.bipush 60, 2) := by decide +kernel
theorem dX8_write_227 : decode cX8_write 227 = .ok (.iload 4, 2) := by decide +kernel
theorem dX8_write_229 : decode cX8_write 229 = .ok (.imul, 1) := by decide +kernel
theorem dX8_write_230 : decode cX8_write 230 = .ok (.iload 5, 2) := by decide +kernel
theorem dX8_write_232 : decode cX8_write 232 = .ok (.iadd, 1) := by decide +kernel
theorem dX8_write_233 : decode cX8_write 233 = .ok (.iaload, 1) := by decide +kernel
theorem dX8_write_234 : decode cX8_write 234 = .ok (.invokevirtual 211, 3) := by decide +kernel
theorem dX8_write_237 : decode cX8_write 237 = .ok (.iinc 5 1, 3) := by decide +kernel
theorem dX8_write_240 : decode cX8_write 240 = .ok (.goto (-32), 3) := by decide +kernel
theorem dX8_write_243 : decode cX8_write 243 = .ok (.iinc 4 1, 3) := by decide +kernel
theorem dX8_write_246 : decode cX8_write 246 = .ok (.goto (-48), 3) := by decide +kernel
theorem dX8_write_249 : decode cX8_write 249 = .ok (.iload_n 2, 1) := by decide +kernel
theorem dX8_write_250 : decode cX8_write 250 = .ok (.ireturn, 1) := by decide +kernel
theorem dX8_copy_0 : decode cX8_copy 0 = .ok (.iload_n 1, 1) := by decide +kernel
theorem dX8_copy_1 : decode cX8_copy 1 = .ok (.iconst 0, 1) := by decide +kernel
theorem dX8_copy_2 : decode cX8_copy 2 = .ok (.iconst 1, 1) := by decide +kernel
theorem dX8_copy_3 : decode cX8_copy 3 = .ok (.aload_n 0, 1) := by decide +kernel
theorem dX8_copy_4 : decode cX8_copy 4 = .ok (.getfield 117, 3) := by decide +kernel
theorem dX8_copy_7 : decode cX8_copy 7 = .ok (.ishl, 1) := by decide +kernel
theorem dX8_copy_8 : decode cX8_copy 8 = .ok (.iconst 1, 1) := by decide +kernel
theorem dX8_copy_9 : decode cX8_copy 9 = .ok (.isub, 1) := by decide +kernel
theorem dX8_copy_10 : decode cX8_copy 10 = .ok (.invokestatic 105, 3) := by decide +kernel
theorem dX8_copy_13 : decode cX8_copy 13 = .ok (.ifCond .ne 5, 3) := by decide +kernel
theorem dX8_copy_16 : decode cX8_copy 16 = .ok (.iconst (-1), 1) := by decide +kernel
theorem dX8_copy_17 : decode cX8_copy 17 = .ok (.ireturn, 1) := by decide +kernel
theorem dX8_copy_18 : decode cX8_copy 18 = .ok (.iconst 3, 1) := by decide +kernel
theorem dX8_copy_19 : decode cX8_copy 19 = .ok (.istore_n 2, 1) := by decide +kernel
theorem dX8_copy_20 : decode cX8_copy 20 = .ok (.iconst 0, 1) := by decide +kernel
theorem dX8_copy_21 : decode cX8_copy 21 = .ok (.istore_n 3, 1) := by decide +kernel
theorem dX8_copy_22 : decode cX8_copy 22 = .ok (.iload_n 3, 1) := by decide +kernel
theorem dX8_copy_23 : decode cX8_copy 23 = .ok (.aload_n 0, 1) := by decide +kernel
theorem dX8_copy_24 : decode cX8_copy 24 = .ok (.getfield 117, 3) := by decide +kernel
theorem dX8_copy_27 : decode cX8_copy 27 = .ok (.if_icmp .ge 39, 3) := by decide +kernel
theorem dX8_copy_30 : decode cX8_copy 30 = .ok (.iload_n 2, 1) := by decide +kernel
theorem dX8_copy_31 : decode cX8_copy 31 = .ok (.iload_n 1, 1) := by decide +kernel
theorem dX8_copy_32 : decode cX8_copy 32 = .ok (.iload_n 3, 1) := by decide +kernel
theorem dX8_copy_33 : decode cX8_copy 33 = .ok (.ishr, 1) := by decide +kernel
theorem dX8_copy_34 : decode cX8_copy 34 = .ok (.iconst 1, 1) := by decide +kernel
theorem dX8_copy_35 : decode cX8_copy 35 = .ok (.iand, 1) := by decide +kernel
theorem dX8_copy_36 : decode cX8_copy 36 = .ok (.ifCond .ne 21, 3) := by decide +kernel
theorem dX8_copy_39 : decode cX8_copy 39 = .ok (.aload_n 0, 1) := by decide +kernel
theorem dX8_copy_40 : decode cX8_copy 40 = .ok (.getfield 34, 3) := by decide +kernel
theorem dX8_copy_43 : decode cX8_copy 43 = .ok (.iload_n 3, 1) := by decide +kernel
theorem dX8_copy_44 : decode cX8_copy 44 = .ok (.iconst 1, 1) := by decide +kernel
theorem dX8_copy_45 : decode cX8_copy 45 = .ok (.iadd, 1) := by decide +kernel
theorem dX8_copy_46 : decode cX8_copy 46 = .ok (.iaload, 1) := by decide +kernel
theorem dX8_copy_47 : decode cX8_copy 47 = .ok (.aload_n 0, 1) := by decide +kernel
theorem dX8_copy_48 : decode cX8_copy 48 = .ok (.getfield 34, 3) := by decide +kernel
theorem dX8_copy_51 : decode cX8_copy 51 = .ok (.iload_n 3, 1) := by decide +kernel
theorem dX8_copy_52 : decode cX8_copy 52 = .ok (.iaload, 1) := by decide +kernel
theorem dX8_copy_53 : decode cX8_copy 53 = .ok (.isub, 1) := by decide +kernel
theorem dX8_copy_54 : decode cX8_copy 54 = .ok (.goto 4, 3) := by decide +kernel
theorem dX8_copy_57 : decode cX8_copy 57 = .ok (.iconst 0, 1) := by decide +kernel
theorem dX8_copy_58 : decode cX8_copy 58 = .ok (.iadd, 1) := by decide +kernel
theorem dX8_copy_59 : decode cX8_copy 59 = .ok (.istore_n 2, 1) := by decide +kernel
theorem dX8_copy_60 : decode cX8_copy 60 = .ok (.iinc 3 1, 3) := by decide +kernel
theorem dX8_copy_63 : decode cX8_copy 63 = .ok (.goto (-41), 3) := by decide +kernel
theorem dX8_copy_66 : decode cX8_copy 66 = .ok (.iload_n 2, 1) := by decide +kernel
theorem dX8_copy_67 : decode cX8_copy 67 = .ok (.iconst 3, 1) := by decide +kernel
theorem dX8_copy_68 : decode cX8_copy 68 = .ok (.if_icmp .ne 6, 3) := by decide +kernel
theorem dX8_copy_71 : decode cX8_copy 71 = .ok (.bipush (-2), 2) := by decide +kernel
theorem dX8_copy_73 : decode cX8_copy 73 = .ok (.ireturn, 1) := by decide +kernel
theorem dX8_copy_74 : decode cX8_copy 74 = .ok (.aload_n 0, 1) := by decide +kernel
theorem dX8_copy_75 : decode cX8_copy 75 = .ok (.getfield 133, 3) := by decide +kernel
theorem dX8_copy_78 : decode cX8_copy 78 = .ok (.iload_n 2, 1) := by decide +kernel
theorem dX8_copy_79 : decode cX8_copy 79 = .ok (.iadd, 1) := by decide +kernel
theorem dX8_copy_80 : decode cX8_copy 80 = .ok (.sipush 300, 3) := by decide +kernel
theorem dX8_copy_83 : decode cX8_copy 83 = .ok (.if_icmp .le 6, 3) := by decide +kernel
theorem dX8_copy_86 : decode cX8_copy 86 = .ok (.bipush (-3), 2) := by decide +kernel
theorem dX8_copy_88 : decode cX8_copy 88 = .ok (.ireturn, 1) := by decide +kernel
theorem dX8_copy_89 : decode cX8_copy 89 = .ok (.aload_n 0, 1) := by decide +kernel
theorem dX8_copy_90 : decode cX8_copy 90 = .ok (.aload_n 0, 1) := by decide +kernel
theorem dX8_copy_91 : decode cX8_copy 91 = .ok (.getfield 7, 3) := by decide +kernel
theorem dX8_copy_94 : decode cX8_copy 94 = .ok (.aload_n 0, 1) := by decide +kernel
theorem dX8_copy_95 : decode cX8_copy 95 = .ok (.getfield 99, 3) := by decide +kernel
theorem dX8_copy_98 : decode cX8_copy 98 = .ok (.iaload, 1) := by decide +kernel
theorem dX8_copy_99 : decode cX8_copy 99 = .ok (.invokevirtual 211, 3) := by decide +kernel
theorem dX8_copy_102 : decode cX8_copy 102 = .ok (.aload_n 0, 1) := by decide +kernel
theorem dX8_copy_103 : decode cX8_copy 103 = .ok (.iload_n 2, 1) := by decide +kernel
theorem dX8_copy_104 : decode cX8_copy 104 = .ok (.bipush 8, 2) := by decide +kernel
theorem dX8_copy_106 : decode cX8_copy 106 = .ok (.ishr, 1) := by decide +kernel
theorem dX8_copy_107 : decode cX8_copy 107 = .ok (.invokevirtual 211, 3) := by decide +kernel
theorem dX8_copy_110 : decode cX8_copy 110 = .ok (.aload_n 0, 1) := by decide +kernel
theorem dX8_copy_111 : decode cX8_copy 111 = .ok (.iload_n 2, 1) := by decide +kernel
theorem dX8_copy_112 : decode cX8_copy 112 = .ok (.invokevirtual 211, 3) := by decide +kernel
theorem dX8_copy_115 : decode cX8_copy 115 = .ok (.iconst 0, 1) := by decide +kernel
theorem dX8_copy_116 : decode cX8_copy 116 = .ok (.istore_n 3, 1) := by decide +kernel
theorem dX8_copy_117 : decode cX8_copy 117 = .ok (.iload_n 3, 1) := by decide +kernel
theorem dX8_copy_118 : decode cX8_copy 118 = .ok (.aload_n 0, 1) := by decide +kernel
theorem dX8_copy_119 : decode cX8_copy 119 = .ok (.getfield 117, 3) := by decide +kernel
theorem dX8_copy_122 : decode cX8_copy 122 = .ok (.if_icmp .ge 55, 3) := by decide +kernel
theorem dX8_copy_125 : decode cX8_copy 125 = .ok (.aload_n 0, 1) := by decide +kernel
theorem dX8_copy_126 : decode cX8_copy 126 = .ok (.getfield 34, 3) := by decide +kernel
theorem dX8_copy_129 : decode cX8_copy 129 = .ok (.iload_n 3, 1) := by decide +kernel
theorem dX8_copy_130 : decode cX8_copy 130 = .ok (.iaload, 1) := by decide +kernel
theorem dX8_copy_131 : decode cX8_copy 131 = .ok (.istore 4, 2) := by decide +kernel
theorem dX8_copy_133 : decode cX8_copy 133 = .ok (.iload 4, 2) := by decide +kernel
theorem dX8_copy_135 : decode cX8_copy 135 = .ok (.aload_n 0, 1) := by decide +kernel
theorem dX8_copy_136 : decode cX8_copy 136 = .ok (.getfield 34, 3) := by decide +kernel
theorem dX8_copy_139 : decode cX8_copy 139 = .ok (.iload_n 3, 1) := by decide +kernel
theorem dX8_copy_140 : decode cX8_copy 140 = .ok (.iconst 1, 1) := by decide +kernel
theorem dX8_copy_141 : decode cX8_copy 141 = .ok (.iadd, 1) := by decide +kernel
theorem dX8_copy_142 : decode cX8_copy 142 = .ok (.iaload, 1) := by decide +kernel
theorem dX8_copy_143 : decode cX8_copy 143 = .ok (.if_icmp .ge 28, 3) := by decide +kernel
theorem dX8_copy_146 : decode cX8_copy 146 = .ok (.iload_n 1, 1) := by decide +kernel
theorem dX8_copy_147 : decode cX8_copy 147 = .ok (.iload_n 3, 1) := by decide +kernel
theorem dX8_copy_148 : decode cX8_copy 148 = .ok (.ishr, 1) := by decide +kernel
theorem dX8_copy_149 : decode cX8_copy 149 = .ok (.iconst 1, 1) := by decide +kernel
theorem dX8_copy_150 : decode cX8_copy 150 = .ok (.iand, 1) := by decide +kernel
theorem dX8_copy_151 : decode cX8_copy 151 = .ok (.ifCond .ne 20, 3) := by decide +kernel
theorem dX8_copy_154 : decode cX8_copy 154 = .ok (.aload_n 0, 1) := by decide +kernel
theorem dX8_copy_155 : decode cX8_copy 155 = .ok (.aload_n 0, 1) := by decide +kernel
theorem dX8_copy_156 : decode cX8_copy 156 = .ok (.getfield 31, 3) := by decide +kernel
theorem dX8_copy_159 : decode cX8_copy 159 = .ok (.iload 4, 2) := by decide +kernel
theorem dX8_copy_161 : decode cX8_copy 161 = .ok (.iaload, 1) := by decide +kernel
theorem dX8_copy_162 : decode cX8_copy 162 = .ok (.invokevirtual 211, 3) := by decide +kernel
theorem dX8_copy_165 : decode cX8_copy 165 = .ok (.iinc 4 1, 3) := by decide +kernel
theorem dX8_copy_168 : decode cX8_copy 168 = .ok (.goto (-35), 3) := by decide +kernel
theorem dX8_copy_171 : decode cX8_copy 171 = .ok (.iinc 3 1, 3) := by decide +kernel
theorem dX8_copy_174 : decode cX8_copy 174 = .ok (.goto (-57), 3) := by decide +kernel
theorem dX8_copy_177 : decode cX8_copy 177 = .ok (.iload_n 2, 1) := by decide +kernel
theorem dX8_copy_178 : decode cX8_copy 178 = .ok (.ireturn, 1) := by decide +kernel
theorem dX8_signed_0 : decode cX8_signed 0 = .ok (.lload_n 0, 1) := by decide +kernel
theorem dX8_signed_1 : decode cX8_signed 1 = .ok (.l2i, 1) := by decide +kernel
theorem dX8_signed_2 : decode cX8_signed 2 = .ok (.ldc 214, 2) := by decide +kernel
theorem dX8_signed_4 : decode cX8_signed 4 = .ok (.iand, 1) := by decide +kernel
theorem dX8_signed_5 : decode cX8_signed 5 = .ok (.istore_n 2, 1) := by decide +kernel
theorem dX8_signed_6 : decode cX8_signed 6 = .ok (.iload_n 2, 1) := by decide +kernel
theorem dX8_signed_7 : decode cX8_signed 7 = .ok (.sipush 32767, 3) := by decide +kernel
theorem dX8_signed_10 : decode cX8_signed 10 = .ok (.if_icmp .le 10, 3) := by decide +kernel
theorem dX8_signed_13 : decode cX8_signed 13 = .ok (.iload_n 2, 1) := by decide +kernel
theorem dX8_signed_14 : decode cX8_signed 14 = .ok (.ldc 215, 2) := by decide +kernel
theorem dX8_signed_16 : decode cX8_signed 16 = .ok (.isub, 1) := by decide +kernel
theorem dX8_signed_17 : decode cX8_signed 17 = .ok (.goto 4, 3) := by decide +kernel
theorem dX8_signed_20 : decode cX8_signed 20 = .ok (.iload_n 2, 1) := by decide +kernel
theorem dX8_signed_21 : decode cX8_signed 21 = .ok (.ireturn, 1) := by decide +kernel
theorem dX8_trackOf_0 : decode cX8_trackOf 0 = .ok (.iconst 0, 1) := by decide +kernel
theorem dX8_trackOf_1 : decode cX8_trackOf 1 = .ok (.istore_n 2, 1) := by decide +kernel
theorem dX8_trackOf_2 : decode cX8_trackOf 2 = .ok (.iload_n 2, 1) := by decide +kernel
theorem dX8_trackOf_3 : decode cX8_trackOf 3 = .ok (.aload_n 0, 1) := by decide +kernel
theorem dX8_trackOf_4 : decode cX8_trackOf 4 = .ok (.getfield 216, 3) := by decide +kernel
theorem dX8_trackOf_7 : decode cX8_trackOf 7 = .ok (.if_icmp .ge 21, 3) := by decide +kernel
theorem dX8_trackOf_10 : decode cX8_trackOf 10 = .ok (.aload_n 0, 1) := by decide +kernel
theorem dX8_trackOf_11 : decode cX8_trackOf 11 = .ok (.getfield 66, 3) := by decide +kernel
theorem dX8_trackOf_14 : decode cX8_trackOf 14 = .ok (.iload_n 2, 1) := by decide +kernel
theorem dX8_trackOf_15 : decode cX8_trackOf 15 = .ok (.iaload, 1) := by decide +kernel
theorem dX8_trackOf_16 : decode cX8_trackOf 16 = .ok (.iload_n 1, 1) := by decide +kernel
theorem dX8_trackOf_17 : decode cX8_trackOf 17 = .ok (.if_icmp .ne 5, 3) := by decide +kernel
theorem dX8_trackOf_20 : decode cX8_trackOf 20 = .ok (.iload_n 2, 1) := by decide +kernel
theorem dX8_trackOf_21 : decode cX8_trackOf 21 = .ok (.ireturn, 1) := by decide +kernel
theorem dX8_trackOf_22 : decode cX8_trackOf 22 = .ok (.iinc 2 1, 3) := by decide +kernel
theorem dX8_trackOf_25 : decode cX8_trackOf 25 = .ok (.goto (-23), 3) := by decide +kernel
theorem dX8_trackOf_28 : decode cX8_trackOf 28 = .ok (.bipush (-9), 2) := by decide +kernel
theorem dX8_trackOf_30 : decode cX8_trackOf 30 = .ok (.ireturn, 1) := by decide +kernel
theorem dX8_report_0 : decode cX8_report 0 = .ok (.aload_n 0, 1) := by decide +kernel
theorem dX8_report_1 : decode cX8_report 1 = .ok (.iload_n 1, 1) := by decide +kernel
theorem dX8_report_2 : decode cX8_report 2 = .ok (.invokevirtual 196, 3) := by decide +kernel
theorem dX8_report_5 : decode cX8_report 5 = .ok (.ifCond .ne 5, 3) := by decide +kernel
theorem dX8_report_8 : decode cX8_report 8 = .ok (.iconst (-1), 1) := by decide +kernel
theorem dX8_report_9 : decode cX8_report 9 = .ok (.ireturn, 1) := by decide +kernel
theorem dX8_report_10 : decode cX8_report 10 = .ok (.aload_n 0, 1) := by decide +kernel
theorem dX8_report_11 : decode cX8_report 11 = .ok (.getfield 22, 3) := by decide +kernel
theorem dX8_report_14 : decode cX8_report 14 = .ok (.aload_n 0, 1) := by decide +kernel
theorem dX8_report_15 : decode cX8_report 15 = .ok (.getfield 99, 3) := by decide +kernel
theorem dX8_report_18 : decode cX8_report 18 = .ok (.iaload, 1) := by decide +kernel
theorem dX8_report_19 : decode cX8_report 19 = .ok (.istore_n 2, 1) := by decide +kernel
theorem dX8_report_20 : decode cX8_report 20 = .ok (.aload_n 0, 1) := by decide +kernel
theorem dX8_report_21 : decode cX8_report 21 = .ok (.getfield 25, 3) := by decide +kernel
theorem dX8_report_24 : decode cX8_report 24 = .ok (.aload_n 0, 1) := by decide +kernel
theorem dX8_report_25 : decode cX8_report 25 = .ok (.getfield 99, 3) := by decide +kernel
theorem dX8_report_28 : decode cX8_report 28 = .ok (.iaload, 1) := by decide +kernel
theorem dX8_report_29 : decode cX8_report 29 = .ok (.istore_n 3, 1) := by decide +kernel
theorem dX8_report_30 : decode cX8_report 30 = .ok (.iload_n 2, 1) := by decide +kernel
theorem dX8_report_31 : decode cX8_report 31 = .ok (.ifCond .lt 57, 3) := by decide +kernel
theorem dX8_report_34 : decode cX8_report 34 = .ok (.aload_n 0, 1) := by decide +kernel
theorem dX8_report_35 : decode cX8_report 35 = .ok (.aload_n 0, 1) := by decide +kernel
theorem dX8_report_36 : decode cX8_report 36 = .ok (.getfield 99, 3) := by decide +kernel
theorem dX8_report_39 : decode cX8_report 39 = .ok (.iload_n 2, 1) := by decide +kernel
theorem dX8_report_40 : decode cX8_report 40 = .ok (.iconst 2, 1) := by decide +kernel
theorem dX8_report_41 : decode cX8_report 41 = .ok (.invokevirtual 130, 3) := by decide +kernel
theorem dX8_report_44 : decode cX8_report 44 = .ok (.ifCond .eq 44, 3) := by decide +kernel
theorem dX8_report_47 : decode cX8_report 47 = .ok (.aload_n 0, 1) := by decide +kernel
theorem dX8_report_48 : decode cX8_report 48 = .ok (.aload_n 0, 1) := by decide +kernel
theorem dX8_report_49 : decode cX8_report 49 = .ok (.getfield 99, 3) := by decide +kernel
theorem dX8_report_52 : decode cX8_report 52 = .ok (.iload_n 3, 1) := by decide +kernel
theorem dX8_report_53 : decode cX8_report 53 = .ok (.iconst 4, 1) := by decide +kernel
theorem dX8_report_54 : decode cX8_report 54 = .ok (.invokevirtual 130, 3) := by decide +kernel
theorem dX8_report_57 : decode cX8_report 57 = .ok (.ifCond .eq 31, 3) := by decide +kernel
theorem dX8_report_60 : decode cX8_report 60 = .ok (.aload_n 0, 1) := by decide +kernel
theorem dX8_report_61 : decode cX8_report 61 = .ok (.getfield 40, 3) := by decide +kernel
theorem dX8_report_64 : decode cX8_report 64 = .ok (.bipush 22, 2) := by decide +kernel
theorem dX8_report_66 : decode cX8_report 66 = .ok (.iload_n 1, 1) := by decide +kernel
theorem dX8_report_67 : decode cX8_report 67 = .ok (.imul, 1) := by decide +kernel
theorem dX8_report_68 : decode cX8_report 68 = .ok (.iload_n 2, 1) := by decide +kernel
theorem dX8_report_69 : decode cX8_report 69 = .ok (.iadd, 1) := by decide +kernel
theorem dX8_report_70 : decode cX8_report 70 = .ok (.iaload, 1) := by decide +kernel
theorem dX8_report_71 : decode cX8_report 71 = .ok (.ifCond .eq 17, 3) := by decide +kernel
theorem dX8_report_74 : decode cX8_report 74 = .ok (.aload_n 0, 1) := by decide +kernel
theorem dX8_report_75 : decode cX8_report 75 = .ok (.getfield 40, 3) := by decide +kernel
theorem dX8_report_78 : decode cX8_report 78 = .ok (.bipush 22, 2) := by decide +kernel
theorem dX8_report_80 : decode cX8_report 80 = .ok (.iload_n 1, 1) := by decide +kernel
theorem dX8_report_81 : decode cX8_report 81 = .ok (.imul, 1) := by decide +kernel
theorem dX8_report_82 : decode cX8_report 82 = .ok (.iload_n 3, 1) := by decide +kernel
theorem dX8_report_83 : decode cX8_report 83 = .ok (.iadd, 1) := by decide +kernel
theorem dX8_report_84 : decode cX8_report 84 = .ok (.iaload, 1) := by decide +kernel
theorem dX8_report_85 : decode cX8_report 85 = .ok (.ifCond .ne 6, 3) := by decide +kernel
theorem dX8_report_88 : decode cX8_report 88 = .ok (.bipush (-9), 2) := by decide +kernel
theorem dX8_report_90 : decode cX8_report 90 = .ok (.ireturn, 1) := by decide +kernel
theorem dX8_report_91 : decode cX8_report 91 = .ok (.aload_n 0, 1) := by decide +kernel
theorem dX8_report_92 : decode cX8_report 92 = .ok (.aload_n 0, 1) := by decide +kernel
theorem dX8_report_93 : decode cX8_report 93 = .ok (.getfield 37, 3) := by decide +kernel
theorem dX8_report_96 : decode cX8_report 96 = .ok (.bipush 22, 2) := by decide +kernel
theorem dX8_report_98 : decode cX8_report 98 = .ok (.iload_n 1, 1) := by decide +kernel
theorem dX8_report_99 : decode cX8_report 99 = .ok (.imul, 1) := by decide +kernel
theorem dX8_report_100 : decode cX8_report 100 = .ok (.iload_n 2, 1) := by decide +kernel
theorem dX8_report_101 : decode cX8_report 101 = .ok (.iadd, 1) := by decide +kernel
theorem dX8_report_102 : decode cX8_report 102 = .ok (.iaload, 1) := by decide +kernel
theorem dX8_report_103 : decode cX8_report 103 = .ok (.iconst 2, 1) := by decide +kernel
theorem dX8_report_104 : decode cX8_report 104 = .ok (.invokevirtual 199, 3) := by decide +kernel
theorem dX8_report_107 : decode cX8_report 107 = .ok (.l2i, 1) := by decide +kernel
theorem dX8_report_108 : decode cX8_report 108 = .ok (.sipush 4095, 3) := by decide +kernel
theorem dX8_report_111 : decode cX8_report 111 = .ok (.iand, 1) := by decide +kernel
theorem dX8_report_112 : decode cX8_report 112 = .ok (.istore 4, 2) := by decide +kernel
theorem dX8_report_114 : decode cX8_report 114 = .ok (.aload_n 0, 1) := by decide +kernel
theorem dX8_report_115 : decode cX8_report 115 = .ok (.aload_n 0, 1) := by decide +kernel
theorem dX8_report_116 : decode cX8_report 116 = .ok (.getfield 37, 3) := by decide +kernel
theorem dX8_report_119 : decode cX8_report 119 = .ok (.bipush 22, 2) := by decide +kernel
theorem dX8_report_121 : decode cX8_report 121 = .ok (.iload_n 1, 1) := by decide +kernel
theorem dX8_report_122 : decode cX8_report 122 = .ok (.imul, 1) := by decide +kernel
theorem dX8_report_123 : decode cX8_report 123 = .ok (.iload_n 3, 1) := by decide +kernel
theorem dX8_report_124 : decode cX8_report 124 = .ok (.iadd, 1) := by decide +kernel
theorem dX8_report_125 : decode cX8_report 125 = .ok (.iaload, 1) := by decide +kernel
theorem dX8_report_126 : decode cX8_report 126 = .ok (.iconst 2, 1) := by decide +kernel
theorem dX8_report_127 : decode cX8_report 127 = .ok (.invokevirtual 199, 3) := by decide +kernel
theorem dX8_report_130 : decode cX8_report 130 = .ok (.invokestatic 219, 3) := by decide +kernel
theorem dX8_report_133 : decode cX8_report 133 = .ok (.istore 5, 2) := by decide +kernel
theorem dX8_report_135 : decode cX8_report 135 = .ok (.aload_n 0, 1) := by decide +kernel
theorem dX8_report_136 : decode cX8_report 136 = .ok (.aload_n 0, 1) := by decide +kernel
theorem dX8_report_137 : decode cX8_report 137 = .ok (.getfield 37, 3) := by decide +kernel
theorem dX8_report_140 : decode cX8_report 140 = .ok (.bipush 22, 2) := by decide +kernel
theorem dX8_report_142 : decode cX8_report 142 = .ok (.iload_n 1, 1) := by decide +kernel
theorem dX8_report_143 : decode cX8_report 143 = .ok (.imul, 1) := by decide +kernel
theorem dX8_report_144 : decode cX8_report 144 = .ok (.iload_n 3, 1) := by decide +kernel
theorem dX8_report_145 : decode cX8_report 145 = .ok (.iadd, 1) := by decide +kernel
theorem dX8_report_146 : decode cX8_report 146 = .ok (.iaload, 1) := by decide +kernel
theorem dX8_report_147 : decode cX8_report 147 = .ok (.iconst 2, 1) := by decide +kernel
theorem dX8_report_148 : decode cX8_report 148 = .ok (.iadd, 1) := by decide +kernel
theorem dX8_report_149 : decode cX8_report 149 = .ok (.iconst 2, 1) := by decide +kernel
theorem dX8_report_150 : decode cX8_report 150 = .ok (.invokevirtual 199, 3) := by decide +kernel
theorem dX8_report_153 : decode cX8_report 153 = .ok (.invokestatic 219, 3) := by decide +kernel
theorem dX8_report_156 : decode cX8_report 156 = .ok (.istore 6, 2) := by decide +kernel
theorem dX8_report_158 : decode cX8_report 158 = .ok (.aload_n 0, 1) := by decide +kernel
theorem dX8_report_159 : decode cX8_report 159 = .ok (.iload 4, 2) := by decide +kernel
theorem dX8_report_161 : decode cX8_report 161 = .ok (.invokevirtual 223, 3) := by decide +kernel
theorem dX8_report_164 : decode cX8_report 164 = .ok (.istore 7, 2) := by decide +kernel
theorem dX8_report_166 : decode cX8_report 166 = .ok (.iload 7, 2) := by decide +kernel
theorem dX8_report_168 : decode cX8_report 168 = .ok (.ifCond .ge 77, 3) := by decide +kernel
theorem dX8_report_171 : decode cX8_report 171 = .ok (.aload_n 0, 1) := by decide +kernel
theorem dX8_report_172 : decode cX8_report 172 = .ok (.getfield 216, 3) := by decide +kernel
theorem dX8_report_175 : decode cX8_report 175 = .ok (.bipush 12, 2) := by decide +kernel
theorem dX8_report_177 : decode cX8_report 177 = .ok (.if_icmp .ne 16, 3) := by decide +kernel
theorem dX8_report_180 : decode cX8_report 180 = .ok (.aload_n 0, 1) := by decide +kernel
theorem dX8_report_181 : decode cX8_report 181 = .ok (.dup, 1) := by decide +kernel
theorem dX8_report_182 : decode cX8_report 182 = .ok (.getfield 226, 3) := by decide +kernel
theorem dX8_report_185 : decode cX8_report 185 = .ok (.iconst 1, 1) := by decide +kernel
theorem dX8_report_186 : decode cX8_report 186 = .ok (.iadd, 1) := by decide +kernel
theorem dX8_report_187 : decode cX8_report 187 = .ok (.putfield 226, 3) := by decide +kernel
theorem dX8_report_190 : decode cX8_report 190 = .ok (.bipush (-9), 2) := by decide +kernel
theorem dX8_report_192 : decode cX8_report 192 = .ok (.ireturn, 1) := by decide +kernel
theorem dX8_report_193 : decode cX8_report 193 = .ok (.aload_n 0, 1) := by decide +kernel
theorem dX8_report_194 : decode cX8_report 194 = .ok (.getfield 216, 3) := by decide +kernel
theorem dX8_report_197 : decode cX8_report 197 = .ok (.istore 7, 2) := by decide +kernel
theorem dX8_report_199 : decode cX8_report 199 = .ok (.aload_n 0, 1) := by decide +kernel
theorem dX8_report_200 : decode cX8_report 200 = .ok (.dup, 1) := by decide +kernel
theorem dX8_report_201 : decode cX8_report 201 = .ok (.getfield 216, 3) := by decide +kernel
theorem dX8_report_204 : decode cX8_report 204 = .ok (.iconst 1, 1) := by decide +kernel
theorem dX8_report_205 : decode cX8_report 205 = .ok (.iadd, 1) := by decide +kernel
theorem dX8_report_206 : decode cX8_report 206 = .ok (.putfield 216, 3) := by decide +kernel
theorem dX8_report_209 : decode cX8_report 209 = .ok (.aload_n 0, 1) := by decide +kernel
theorem dX8_report_210 : decode cX8_report 210 = .ok (.getfield 66, 3) := by decide +kernel
theorem dX8_report_213 : decode cX8_report 213 = .ok (.iload 7, 2) := by decide +kernel
theorem dX8_report_215 : decode cX8_report 215 = .ok (.iload 4, 2) := by decide +kernel
theorem dX8_report_217 : decode cX8_report 217 = .ok (.iastore, 1) := by decide +kernel
theorem dX8_report_218 : decode cX8_report 218 = .ok (.aload_n 0, 1) := by decide +kernel
theorem dX8_report_219 : decode cX8_report 219 = .ok (.getfield 75, 3) := by decide +kernel
theorem dX8_report_222 : decode cX8_report 222 = .ok (.iload 7, 2) := by decide +kernel
theorem dX8_report_224 : decode cX8_report 224 = .ok (.iconst 0, 1) := by decide +kernel
theorem dX8_report_225 : decode cX8_report 225 = .ok (.iastore, 1) := by decide +kernel
theorem dX8_report_226 : decode cX8_report 226 = .ok (.aload_n 0, 1) := by decide +kernel
theorem dX8_report_227 : decode cX8_report 227 = .ok (.getfield 78, 3) := by decide +kernel
theorem dX8_report_230 : decode cX8_report 230 = .ok (.iload 7, 2) := by decide +kernel
theorem dX8_report_232 : decode cX8_report 232 = .ok (.iconst 0, 1) := by decide +kernel
theorem dX8_report_233 : decode cX8_report 233 = .ok (.iastore, 1) := by decide +kernel
theorem dX8_report_234 : decode cX8_report 234 = .ok (.aload_n 0, 1) := by decide +kernel
theorem dX8_report_235 : decode cX8_report 235 = .ok (.getfield 84, 3) := by decide +kernel
theorem dX8_report_238 : decode cX8_report 238 = .ok (.iload 7, 2) := by decide +kernel
theorem dX8_report_240 : decode cX8_report 240 = .ok (.iconst 0, 1) := by decide +kernel
theorem dX8_report_241 : decode cX8_report 241 = .ok (.iastore, 1) := by decide +kernel
theorem dX8_report_242 : decode cX8_report 242 = .ok (.goto 71, 3) := by decide +kernel
theorem dX8_report_245 : decode cX8_report 245 = .ok (.aload_n 0, 1) := by decide +kernel
theorem dX8_report_246 : decode cX8_report 246 = .ok (.getfield 229, 3) := by decide +kernel
theorem dX8_report_249 : decode cX8_report 249 = .ok (.aload_n 0, 1) := by decide +kernel
theorem dX8_report_250 : decode cX8_report 250 = .ok (.getfield 93, 3) := by decide +kernel
theorem dX8_report_253 : decode cX8_report 253 = .ok (.iload 7, 2) := by decide +kernel
theorem dX8_report_255 : decode cX8_report 255 = .ok (.iaload, 1) := by decide +kernel
theorem dX8_report_256 : decode cX8_report 256 = .ok (.isub, 1) := by decide +kernel
theorem dX8_report_257 : decode cX8_report 257 = .ok (.istore 8, 2) := by decide +kernel
theorem dX8_report_259 : decode cX8_report 259 = .ok (.iload 8, 2) := by decide +kernel
theorem dX8_report_261 : decode cX8_report 261 = .ok (.iconst 1, 1) := by decide +kernel
theorem dX8_report_262 : decode cX8_report 262 = .ok (.if_icmp .ge 7, 3) := by decide +kernel
theorem dX8_report_265 : decode cX8_report 265 = .ok (.iconst 1, 1) := by decide +kernel
theorem dX8_report_266 : decode cX8_report 266 = .ok (.goto 5, 3) := by decide +kernel
theorem dX8_report_269 : decode cX8_report 269 = .ok (.iload 8, 2) := by decide +kernel
theorem dX8_report_271 : decode cX8_report 271 = .ok (.istore 8, 2) := by decide +kernel
theorem dX8_report_273 : decode cX8_report 273 = .ok (.aload_n 0, 1) := by decide +kernel
theorem dX8_report_274 : decode cX8_report 274 = .ok (.getfield 75, 3) := by decide +kernel
theorem dX8_report_277 : decode cX8_report 277 = .ok (.iload 7, 2) := by decide +kernel
theorem dX8_report_279 : decode cX8_report 279 = .ok (.iload 5, 2) := by decide +kernel
theorem dX8_report_281 : decode cX8_report 281 = .ok (.aload_n 0, 1) := by decide +kernel
theorem dX8_report_282 : decode cX8_report 282 = .ok (.getfield 87, 3) := by decide +kernel
theorem dX8_report_285 : decode cX8_report 285 = .ok (.iload 7, 2) := by decide +kernel
theorem dX8_report_287 : decode cX8_report 287 = .ok (.iaload, 1) := by decide +kernel
theorem dX8_report_288 : decode cX8_report 288 = .ok (.isub, 1) := by decide +kernel
theorem dX8_report_289 : decode cX8_report 289 = .ok (.iload 8, 2) := by decide +kernel
theorem dX8_report_291 : decode cX8_report 291 = .ok (.idiv, 1) := by decide +kernel
theorem dX8_report_292 : decode cX8_report 292 = .ok (.iastore, 1) := by decide +kernel
theorem dX8_report_293 : decode cX8_report 293 = .ok (.aload_n 0, 1) := by decide +kernel
theorem dX8_report_294 : decode cX8_report 294 = .ok (.getfield 78, 3) := by decide +kernel
theorem dX8_report_297 : decode cX8_report 297 = .ok (.iload 7, 2) := by decide +kernel
theorem dX8_report_299 : decode cX8_report 299 = .ok (.iload 6, 2) := by decide +kernel
theorem dX8_report_301 : decode cX8_report 301 = .ok (.aload_n 0, 1) := by decide +kernel
theorem dX8_report_302 : decode cX8_report 302 = .ok (.getfield 90, 3) := by decide +kernel
theorem dX8_report_305 : decode cX8_report 305 = .ok (.iload 7, 2) := by decide +kernel
theorem dX8_report_307 : decode cX8_report 307 = .ok (.iaload, 1) := by decide +kernel
theorem dX8_report_308 : decode cX8_report 308 = .ok (.isub, 1) := by decide +kernel
theorem dX8_report_309 : decode cX8_report 309 = .ok (.iload 8, 2) := by decide +kernel
theorem dX8_report_311 : decode cX8_report 311 = .ok (.idiv, 1) := by decide +kernel
theorem dX8_report_312 : decode cX8_report 312 = .ok (.iastore, 1) := by decide +kernel
theorem dX8_report_313 : decode cX8_report 313 = .ok (.aload_n 0, 1) := by decide +kernel
theorem dX8_report_314 : decode cX8_report 314 = .ok (.getfield 69, 3) := by decide +kernel
theorem dX8_report_317 : decode cX8_report 317 = .ok (.iload 7, 2) := by decide +kernel
theorem dX8_report_319 : decode cX8_report 319 = .ok (.iload 5, 2) := by decide +kernel
theorem dX8_report_321 : decode cX8_report 321 = .ok (.iastore, 1) := by decide +kernel
theorem dX8_report_322 : decode cX8_report 322 = .ok (.aload_n 0, 1) := by decide +kernel
theorem dX8_report_323 : decode cX8_report 323 = .ok (.getfield 72, 3) := by decide +kernel
theorem dX8_report_326 : decode cX8_report 326 = .ok (.iload 7, 2) := by decide +kernel
theorem dX8_report_328 : decode cX8_report 328 = .ok (.iload 6, 2) := by decide +kernel
theorem dX8_report_330 : decode cX8_report 330 = .ok (.iastore, 1) := by decide +kernel
theorem dX8_report_331 : decode cX8_report 331 = .ok (.aload_n 0, 1) := by decide +kernel
theorem dX8_report_332 : decode cX8_report 332 = .ok (.getfield 87, 3) := by decide +kernel
theorem dX8_report_335 : decode cX8_report 335 = .ok (.iload 7, 2) := by decide +kernel
theorem dX8_report_337 : decode cX8_report 337 = .ok (.iload 5, 2) := by decide +kernel
theorem dX8_report_339 : decode cX8_report 339 = .ok (.iastore, 1) := by decide +kernel
theorem dX8_report_340 : decode cX8_report 340 = .ok (.aload_n 0, 1) := by decide +kernel
theorem dX8_report_341 : decode cX8_report 341 = .ok (.getfield 90, 3) := by decide +kernel
theorem dX8_report_344 : decode cX8_report 344 = .ok (.iload 7, 2) := by decide +kernel
theorem dX8_report_346 : decode cX8_report 346 = .ok (.iload 6, 2) := by decide +kernel
theorem dX8_report_348 : decode cX8_report 348 = .ok (.iastore, 1) := by decide +kernel
theorem dX8_report_349 : decode cX8_report 349 = .ok (.aload_n 0, 1) := by decide +kernel
theorem dX8_report_350 : decode cX8_report 350 = .ok (.getfield 93, 3) := by decide +kernel
theorem dX8_report_353 : decode cX8_report 353 = .ok (.iload 7, 2) := by decide +kernel
theorem dX8_report_355 : decode cX8_report 355 = .ok (.aload_n 0, 1) := by decide +kernel
theorem dX8_report_356 : decode cX8_report 356 = .ok (.getfield 229, 3) := by decide +kernel
theorem dX8_report_359 : decode cX8_report 359 = .ok (.iastore, 1) := by decide +kernel
theorem dX8_report_360 : decode cX8_report 360 = .ok (.aload_n 0, 1) := by decide +kernel
theorem dX8_report_361 : decode cX8_report 361 = .ok (.getfield 81, 3) := by decide +kernel
theorem dX8_report_364 : decode cX8_report 364 = .ok (.iload 7, 2) := by decide +kernel
theorem dX8_report_366 : decode cX8_report 366 = .ok (.iconst 0, 1) := by decide +kernel
theorem dX8_report_367 : decode cX8_report 367 = .ok (.iastore, 1) := by decide +kernel
theorem dX8_report_368 : decode cX8_report 368 = .ok (.aload_n 0, 1) := by decide +kernel
theorem dX8_report_369 : decode cX8_report 369 = .ok (.getfield 84, 3) := by decide +kernel
theorem dX8_report_372 : decode cX8_report 372 = .ok (.iload 7, 2) := by decide +kernel
theorem dX8_report_374 : decode cX8_report 374 = .ok (.dup2, 1) := by decide +kernel
theorem dX8_report_375 : decode cX8_report 375 = .ok (.iaload, 1) := by decide +kernel
theorem dX8_report_376 : decode cX8_report 376 = .ok (.iconst 1, 1) := by decide +kernel
theorem dX8_report_377 : decode cX8_report 377 = .ok (.iadd, 1) := by decide +kernel
theorem dX8_report_378 : decode cX8_report 378 = .ok (.iastore, 1) := by decide +kernel
theorem dX8_report_379 : decode cX8_report 379 = .ok (.iload 7, 2) := by decide +kernel
theorem dX8_report_381 : decode cX8_report 381 = .ok (.ireturn, 1) := by decide +kernel
theorem dX8_moves_0 : decode cX8_moves 0 = .ok (.aload_n 0, 1) := by decide +kernel
theorem dX8_moves_1 : decode cX8_moves 1 = .ok (.getfield 66, 3) := by decide +kernel
theorem dX8_moves_4 : decode cX8_moves 4 = .ok (.iload_n 2, 1) := by decide +kernel
theorem dX8_moves_5 : decode cX8_moves 5 = .ok (.aload_n 0, 1) := by decide +kernel
theorem dX8_moves_6 : decode cX8_moves 6 = .ok (.getfield 66, 3) := by decide +kernel
theorem dX8_moves_9 : decode cX8_moves 9 = .ok (.iload_n 1, 1) := by decide +kernel
theorem dX8_moves_10 : decode cX8_moves 10 = .ok (.iaload, 1) := by decide +kernel
theorem dX8_moves_11 : decode cX8_moves 11 = .ok (.iastore, 1) := by decide +kernel
theorem dX8_moves_12 : decode cX8_moves 12 = .ok (.aload_n 0, 1) := by decide +kernel
theorem dX8_moves_13 : decode cX8_moves 13 = .ok (.getfield 69, 3) := by decide +kernel
theorem dX8_moves_16 : decode cX8_moves 16 = .ok (.iload_n 2, 1) := by decide +kernel
theorem dX8_moves_17 : decode cX8_moves 17 = .ok (.aload_n 0, 1) := by decide +kernel
theorem dX8_moves_18 : decode cX8_moves 18 = .ok (.getfield 69, 3) := by decide +kernel
theorem dX8_moves_21 : decode cX8_moves 21 = .ok (.iload_n 1, 1) := by decide +kernel
theorem dX8_moves_22 : decode cX8_moves 22 = .ok (.iaload, 1) := by decide +kernel
theorem dX8_moves_23 : decode cX8_moves 23 = .ok (.iastore, 1) := by decide +kernel
theorem dX8_moves_24 : decode cX8_moves 24 = .ok (.aload_n 0, 1) := by decide +kernel
theorem dX8_moves_25 : decode cX8_moves 25 = .ok (.getfield 72, 3) := by decide +kernel
theorem dX8_moves_28 : decode cX8_moves 28 = .ok (.iload_n 2, 1) := by decide +kernel
theorem dX8_moves_29 : decode cX8_moves 29 = .ok (.aload_n 0, 1) := by decide +kernel
theorem dX8_moves_30 : decode cX8_moves 30 = .ok (.getfield 72, 3) := by decide +kernel
theorem dX8_moves_33 : decode cX8_moves 33 = .ok (.iload_n 1, 1) := by decide +kernel
theorem dX8_moves_34 : decode cX8_moves 34 = .ok (.iaload, 1) := by decide +kernel
theorem dX8_moves_35 : decode cX8_moves 35 = .ok (.iastore, 1) := by decide +kernel
theorem dX8_moves_36 : decode cX8_moves 36 = .ok (.aload_n 0, 1) := by decide +kernel
theorem dX8_moves_37 : decode cX8_moves 37 = .ok (.getfield 75, 3) := by decide +kernel
theorem dX8_moves_40 : decode cX8_moves 40 = .ok (.iload_n 2, 1) := by decide +kernel
theorem dX8_moves_41 : decode cX8_moves 41 = .ok (.aload_n 0, 1) := by decide +kernel
theorem dX8_moves_42 : decode cX8_moves 42 = .ok (.getfield 75, 3) := by decide +kernel
theorem dX8_moves_45 : decode cX8_moves 45 = .ok (.iload_n 1, 1) := by decide +kernel
theorem dX8_moves_46 : decode cX8_moves 46 = .ok (.iaload, 1) := by decide +kernel
theorem dX8_moves_47 : decode cX8_moves 47 = .ok (.iastore, 1) := by decide +kernel
theorem dX8_moves_48 : decode cX8_moves 48 = .ok (.aload_n 0, 1) := by decide +kernel
theorem dX8_moves_49 : decode cX8_moves 49 = .ok (.getfield 78, 3) := by decide +kernel
theorem dX8_moves_52 : decode cX8_moves 52 = .ok (.iload_n 2, 1) := by decide +kernel
theorem dX8_moves_53 : decode cX8_moves 53 = .ok (.aload_n 0, 1) := by decide +kernel
theorem dX8_moves_54 : decode cX8_moves 54 = .ok (.getfield 78, 3) := by decide +kernel
theorem dX8_moves_57 : decode cX8_moves 57 = .ok (.iload_n 1, 1) := by decide +kernel
theorem dX8_moves_58 : decode cX8_moves 58 = .ok (.iaload, 1) := by decide +kernel
theorem dX8_moves_59 : decode cX8_moves 59 = .ok (.iastore, 1) := by decide +kernel
theorem dX8_moves_60 : decode cX8_moves 60 = .ok (.aload_n 0, 1) := by decide +kernel
theorem dX8_moves_61 : decode cX8_moves 61 = .ok (.getfield 81, 3) := by decide +kernel
theorem dX8_moves_64 : decode cX8_moves 64 = .ok (.iload_n 2, 1) := by decide +kernel
theorem dX8_moves_65 : decode cX8_moves 65 = .ok (.aload_n 0, 1) := by decide +kernel
theorem dX8_moves_66 : decode cX8_moves 66 = .ok (.getfield 81, 3) := by decide +kernel
theorem dX8_moves_69 : decode cX8_moves 69 = .ok (.iload_n 1, 1) := by decide +kernel
theorem dX8_moves_70 : decode cX8_moves 70 = .ok (.iaload, 1) := by decide +kernel
theorem dX8_moves_71 : decode cX8_moves 71 = .ok (.iastore, 1) := by decide +kernel
theorem dX8_moves_72 : decode cX8_moves 72 = .ok (.aload_n 0, 1) := by decide +kernel
theorem dX8_moves_73 : decode cX8_moves 73 = .ok (.getfield 84, 3) := by decide +kernel
theorem dX8_moves_76 : decode cX8_moves 76 = .ok (.iload_n 2, 1) := by decide +kernel
theorem dX8_moves_77 : decode cX8_moves 77 = .ok (.aload_n 0, 1) := by decide +kernel
theorem dX8_moves_78 : decode cX8_moves 78 = .ok (.getfield 84, 3) := by decide +kernel
theorem dX8_moves_81 : decode cX8_moves 81 = .ok (.iload_n 1, 1) := by decide +kernel
theorem dX8_moves_82 : decode cX8_moves 82 = .ok (.iaload, 1) := by decide +kernel
theorem dX8_moves_83 : decode cX8_moves 83 = .ok (.iastore, 1) := by decide +kernel
theorem dX8_moves_84 : decode cX8_moves 84 = .ok (.aload_n 0, 1) := by decide +kernel
theorem dX8_moves_85 : decode cX8_moves 85 = .ok (.getfield 87, 3) := by decide +kernel
theorem dX8_moves_88 : decode cX8_moves 88 = .ok (.iload_n 2, 1) := by decide +kernel
theorem dX8_moves_89 : decode cX8_moves 89 = .ok (.aload_n 0, 1) := by decide +kernel
theorem dX8_moves_90 : decode cX8_moves 90 = .ok (.getfield 87, 3) := by decide +kernel
theorem dX8_moves_93 : decode cX8_moves 93 = .ok (.iload_n 1, 1) := by decide +kernel
theorem dX8_moves_94 : decode cX8_moves 94 = .ok (.iaload, 1) := by decide +kernel
theorem dX8_moves_95 : decode cX8_moves 95 = .ok (.iastore, 1) := by decide +kernel
theorem dX8_moves_96 : decode cX8_moves 96 = .ok (.aload_n 0, 1) := by decide +kernel
theorem dX8_moves_97 : decode cX8_moves 97 = .ok (.getfield 90, 3) := by decide +kernel
theorem dX8_moves_100 : decode cX8_moves 100 = .ok (.iload_n 2, 1) := by decide +kernel
theorem dX8_moves_101 : decode cX8_moves 101 = .ok (.aload_n 0, 1) := by decide +kernel
theorem dX8_moves_102 : decode cX8_moves 102 = .ok (.getfield 90, 3) := by decide +kernel
theorem dX8_moves_105 : decode cX8_moves 105 = .ok (.iload_n 1, 1) := by decide +kernel
theorem dX8_moves_106 : decode cX8_moves 106 = .ok (.iaload, 1) := by decide +kernel
theorem dX8_moves_107 : decode cX8_moves 107 = .ok (.iastore, 1) := by decide +kernel
theorem dX8_moves_108 : decode cX8_moves 108 = .ok (.aload_n 0, 1) := by decide +kernel
theorem dX8_moves_109 : decode cX8_moves 109 = .ok (.getfield 93, 3) := by decide +kernel
theorem dX8_moves_112 : decode cX8_moves 112 = .ok (.iload_n 2, 1) := by decide +kernel
theorem dX8_moves_113 : decode cX8_moves 113 = .ok (.aload_n 0, 1) := by decide +kernel
theorem dX8_moves_114 : decode cX8_moves 114 = .ok (.getfield 93, 3) := by decide +kernel
theorem dX8_moves_117 : decode cX8_moves 117 = .ok (.iload_n 1, 1) := by decide +kernel
theorem dX8_moves_118 : decode cX8_moves 118 = .ok (.iaload, 1) := by decide +kernel
theorem dX8_moves_119 : decode cX8_moves 119 = .ok (.iastore, 1) := by decide +kernel
theorem dX8_moves_120 : decode cX8_moves 120 = .ok (.return_, 1) := by decide +kernel
theorem dX8_tick_0 : decode cX8_tick 0 = .ok (.iload_n 1, 1) := by decide +kernel
theorem dX8_tick_1 : decode cX8_tick 1 = .ok (.iconst 1, 1) := by decide +kernel
theorem dX8_tick_2 : decode cX8_tick 2 = .ok (.bipush 20, 2) := by decide +kernel
theorem dX8_tick_4 : decode cX8_tick 4 = .ok (.invokestatic 105, 3) := by decide +kernel
theorem dX8_tick_7 : decode cX8_tick 7 = .ok (.ifCond .ne 5, 3) := by decide +kernel
theorem dX8_tick_10 : decode cX8_tick 10 = .ok (.iconst (-1), 1) := by decide +kernel
theorem dX8_tick_11 : decode cX8_tick 11 = .ok (.ireturn, 1) := by decide +kernel
theorem dX8_tick_12 : decode cX8_tick 12 = .ok (.iconst 0, 1) := by decide +kernel
theorem dX8_tick_13 : decode cX8_tick 13 = .ok (.istore_n 2, 1) := by decide +kernel
theorem dX8_tick_14 : decode cX8_tick 14 = .ok (.iconst 0, 1) := by decide +kernel
theorem dX8_tick_15 : decode cX8_tick 15 = .ok (.istore_n 3, 1) := by decide +kernel
theorem dX8_tick_16 : decode cX8_tick 16 = .ok (.iload_n 3, 1) := by decide +kernel
theorem dX8_tick_17 : decode cX8_tick 17 = .ok (.iload_n 1, 1) := by decide +kernel
theorem dX8_tick_18 : decode cX8_tick 18 = .ok (.if_icmp .ge 153, 3) := by decide +kernel
theorem dX8_tick_21 : decode cX8_tick 21 = .ok (.aload_n 0, 1) := by decide +kernel
theorem dX8_tick_22 : decode cX8_tick 22 = .ok (.dup, 1) := by decide +kernel
theorem dX8_tick_23 : decode cX8_tick 23 = .ok (.getfield 229, 3) := by decide +kernel
theorem dX8_tick_26 : decode cX8_tick 26 = .ok (.iconst 1, 1) := by decide +kernel
theorem dX8_tick_27 : decode cX8_tick 27 = .ok (.iadd, 1) := by decide +kernel
theorem dX8_tick_28 : decode cX8_tick 28 = .ok (.putfield 229, 3) := by decide +kernel
theorem dX8_tick_31 : decode cX8_tick 31 = .ok (.iconst 0, 1) := by decide +kernel
theorem dX8_tick_32 : decode cX8_tick 32 = .ok (.istore 4, 2) := by decide +kernel
theorem dX8_tick_34 : decode cX8_tick 34 = .ok (.iconst 0, 1) := by decide +kernel
theorem dX8_tick_35 : decode cX8_tick 35 = .ok (.istore 5, 2) := by decide +kernel
theorem dX8_tick_37 : decode cX8_tick 37 = .ok (.iload 5, 2) := by decide +kernel
theorem dX8_tick_39 : decode cX8_tick 39 = .ok (.aload_n 0, 1) := by decide +kernel
theorem dX8_tick_40 : decode cX8_tick 40 = .ok (.getfield 216, 3) := by decide +kernel
theorem dX8_tick_43 : decode cX8_tick 43 = .ok (.if_icmp .ge 106, 3) := by decide +kernel
theorem dX8_tick_46 : decode cX8_tick 46 = .ok (.aload_n 0, 1) := by decide +kernel
theorem dX8_tick_47 : decode cX8_tick 47 = .ok (.getfield 81, 3) := by decide +kernel
theorem dX8_tick_50 : decode cX8_tick 50 = .ok (.iload 5, 2) := by decide +kernel
theorem dX8_tick_52 : decode cX8_tick 52 = .ok (.dup2, 1) := by decide +kernel
theorem dX8_tick_53 : decode cX8_tick 53 = .ok (.iaload, 1) := by decide +kernel
theorem dX8_tick_54 : decode cX8_tick 54 = .ok (.iconst 1, 1) := by decide +kernel
theorem dX8_tick_55 : decode cX8_tick 55 = .ok (.iadd, 1) := by decide +kernel
theorem dX8_tick_56 : decode cX8_tick 56 = .ok (.iastore, 1) := by decide +kernel
theorem dX8_tick_57 : decode cX8_tick 57 = .ok (.aload_n 0, 1) := by decide +kernel
theorem dX8_tick_58 : decode cX8_tick 58 = .ok (.getfield 81, 3) := by decide +kernel
theorem dX8_tick_61 : decode cX8_tick 61 = .ok (.iload 5, 2) := by decide +kernel
theorem dX8_tick_63 : decode cX8_tick 63 = .ok (.iaload, 1) := by decide +kernel
theorem dX8_tick_64 : decode cX8_tick 64 = .ok (.bipush 6, 2) := by decide +kernel
theorem dX8_tick_66 : decode cX8_tick 66 = .ok (.if_icmp .ge 77, 3) := by decide +kernel
theorem dX8_tick_69 : decode cX8_tick 69 = .ok (.aload_n 0, 1) := by decide +kernel
theorem dX8_tick_70 : decode cX8_tick 70 = .ok (.getfield 81, 3) := by decide +kernel
theorem dX8_tick_73 : decode cX8_tick 73 = .ok (.iload 5, 2) := by decide +kernel
theorem dX8_tick_75 : decode cX8_tick 75 = .ok (.iaload, 1) := by decide +kernel
theorem dX8_tick_76 : decode cX8_tick 76 = .ok (.iconst 1, 1) := by decide +kernel
theorem dX8_tick_77 : decode cX8_tick 77 = .ok (.if_icmp .le 55, 3) := by decide +kernel
theorem dX8_tick_80 : decode cX8_tick 80 = .ok (.aload_n 0, 1) := by decide +kernel
theorem dX8_tick_81 : decode cX8_tick 81 = .ok (.getfield 69, 3) := by decide +kernel
theorem dX8_tick_84 : decode cX8_tick 84 = .ok (.iload 5, 2) := by decide +kernel
theorem dX8_tick_86 : decode cX8_tick 86 = .ok (.aload_n 0, 1) := by decide +kernel
theorem dX8_tick_87 : decode cX8_tick 87 = .ok (.getfield 69, 3) := by decide +kernel
theorem dX8_tick_90 : decode cX8_tick 90 = .ok (.iload 5, 2) := by decide +kernel
theorem dX8_tick_92 : decode cX8_tick 92 = .ok (.iaload, 1) := by decide +kernel
theorem dX8_tick_93 : decode cX8_tick 93 = .ok (.aload_n 0, 1) := by decide +kernel
theorem dX8_tick_94 : decode cX8_tick 94 = .ok (.getfield 75, 3) := by decide +kernel
theorem dX8_tick_97 : decode cX8_tick 97 = .ok (.iload 5, 2) := by decide +kernel
theorem dX8_tick_99 : decode cX8_tick 99 = .ok (.iaload, 1) := by decide +kernel
theorem dX8_tick_100 : decode cX8_tick 100 = .ok (.iadd, 1) := by decide +kernel
theorem dX8_tick_101 : decode cX8_tick 101 = .ok (.i2l, 1) := by decide +kernel
theorem dX8_tick_102 : decode cX8_tick 102 = .ok (.invokestatic 219, 3) := by decide +kernel
theorem dX8_tick_105 : decode cX8_tick 105 = .ok (.iastore, 1) := by decide +kernel
theorem dX8_tick_106 : decode cX8_tick 106 = .ok (.aload_n 0, 1) := by decide +kernel
theorem dX8_tick_107 : decode cX8_tick 107 = .ok (.getfield 72, 3) := by decide +kernel
theorem dX8_tick_110 : decode cX8_tick 110 = .ok (.iload 5, 2) := by decide +kernel
theorem dX8_tick_112 : decode cX8_tick 112 = .ok (.aload_n 0, 1) := by decide +kernel
theorem dX8_tick_113 : decode cX8_tick 113 = .ok (.getfield 72, 3) := by decide +kernel
theorem dX8_tick_116 : decode cX8_tick 116 = .ok (.iload 5, 2) := by decide +kernel
theorem dX8_tick_118 : decode cX8_tick 118 = .ok (.iaload, 1) := by decide +kernel
theorem dX8_tick_119 : decode cX8_tick 119 = .ok (.aload_n 0, 1) := by decide +kernel
theorem dX8_tick_120 : decode cX8_tick 120 = .ok (.getfield 78, 3) := by decide +kernel
theorem dX8_tick_123 : decode cX8_tick 123 = .ok (.iload 5, 2) := by decide +kernel
theorem dX8_tick_125 : decode cX8_tick 125 = .ok (.iaload, 1) := by decide +kernel
theorem dX8_tick_126 : decode cX8_tick 126 = .ok (.iadd, 1) := by decide +kernel
theorem dX8_tick_127 : decode cX8_tick 127 = .ok (.i2l, 1) := by decide +kernel
theorem dX8_tick_128 : decode cX8_tick 128 = .ok (.invokestatic 219, 3) := by decide +kernel
theorem dX8_tick_131 : decode cX8_tick 131 = .ok (.iastore, 1) := by decide +kernel
theorem dX8_tick_132 : decode cX8_tick 132 = .ok (.aload_n 0, 1) := by decide +kernel
theorem dX8_tick_133 : decode cX8_tick 133 = .ok (.iload 5, 2) := by decide +kernel
theorem dX8_tick_135 : decode cX8_tick 135 = .ok (.iload 4, 2) := by decide +kernel
theorem dX8_tick_137 : decode cX8_tick 137 = .ok (.invokevirtual 232, 3) := by decide +kernel
theorem dX8_tick_140 : decode cX8_tick 140 = .ok (.iinc 4 1, 3) := by decide +kernel
theorem dX8_tick_143 : decode cX8_tick 143 = .ok (.iinc 5 1, 3) := by decide +kernel
theorem dX8_tick_146 : decode cX8_tick 146 = .ok (.goto (-109), 3) := by decide +kernel
theorem dX8_tick_149 : decode cX8_tick 149 = .ok (.iload_n 2, 1) := by decide +kernel
theorem dX8_tick_150 : decode cX8_tick 150 = .ok (.aload_n 0, 1) := by decide +kernel
theorem dX8_tick_151 : decode cX8_tick 151 = .ok (.getfield 216, 3) := by decide +kernel
theorem dX8_tick_154 : decode cX8_tick 154 = .ok (.iload 4, 2) := by decide +kernel
theorem dX8_tick_156 : decode cX8_tick 156 = .ok (.isub, 1) := by decide +kernel
theorem dX8_tick_157 : decode cX8_tick 157 = .ok (.iadd, 1) := by decide +kernel
theorem dX8_tick_158 : decode cX8_tick 158 = .ok (.istore_n 2, 1) := by decide +kernel
theorem dX8_tick_159 : decode cX8_tick 159 = .ok (.aload_n 0, 1) := by decide +kernel
theorem dX8_tick_160 : decode cX8_tick 160 = .ok (.iload 4, 2) := by decide +kernel
theorem dX8_tick_162 : decode cX8_tick 162 = .ok (.putfield 216, 3) := by decide +kernel
theorem dX8_tick_165 : decode cX8_tick 165 = .ok (.iinc 3 1, 3) := by decide +kernel
theorem dX8_tick_168 : decode cX8_tick 168 = .ok (.goto (-152), 3) := by decide +kernel
theorem dX8_tick_171 : decode cX8_tick 171 = .ok (.aload_n 0, 1) := by decide +kernel
theorem dX8_tick_172 : decode cX8_tick 172 = .ok (.dup, 1) := by decide +kernel
theorem dX8_tick_173 : decode cX8_tick 173 = .ok (.getfield 235, 3) := by decide +kernel
theorem dX8_tick_176 : decode cX8_tick 176 = .ok (.iload_n 2, 1) := by decide +kernel
theorem dX8_tick_177 : decode cX8_tick 177 = .ok (.iadd, 1) := by decide +kernel
theorem dX8_tick_178 : decode cX8_tick 178 = .ok (.putfield 235, 3) := by decide +kernel
theorem dX8_tick_181 : decode cX8_tick 181 = .ok (.iload_n 2, 1) := by decide +kernel
theorem dX8_tick_182 : decode cX8_tick 182 = .ok (.ireturn, 1) := by decide +kernel
theorem dX8_track_0 : decode cX8_track 0 = .ok (.iload_n 1, 1) := by decide +kernel
theorem dX8_track_1 : decode cX8_track 1 = .ok (.iconst 0, 1) := by decide +kernel
theorem dX8_track_2 : decode cX8_track 2 = .ok (.aload_n 0, 1) := by decide +kernel
theorem dX8_track_3 : decode cX8_track 3 = .ok (.getfield 216, 3) := by decide +kernel
theorem dX8_track_6 : decode cX8_track 6 = .ok (.iconst 1, 1) := by decide +kernel
theorem dX8_track_7 : decode cX8_track 7 = .ok (.isub, 1) := by decide +kernel
theorem dX8_track_8 : decode cX8_track 8 = .ok (.invokestatic 105, 3) := by decide +kernel
theorem dX8_track_11 : decode cX8_track 11 = .ok (.ifCond .ne 5, 3) := by decide +kernel
theorem dX8_track_14 : decode cX8_track 14 = .ok (.iconst (-1), 1) := by decide +kernel
theorem dX8_track_15 : decode cX8_track 15 = .ok (.ireturn, 1) := by decide +kernel
theorem dX8_track_16 : decode cX8_track 16 = .ok (.iload_n 2, 1) := by decide +kernel
theorem dX8_track_17 : decode cX8_track 17 = .ok (.tableswitch 92 0 6 #[43, 50, 57, 64, 71, 78, 85], 43) := by decide +kernel
theorem dX8_track_60 : decode cX8_track 60 = .ok (.aload_n 0, 1) := by decide +kernel
theorem dX8_track_61 : decode cX8_track 61 = .ok (.getfield 66, 3) := by decide +kernel
theorem dX8_track_64 : decode cX8_track 64 = .ok (.iload_n 1, 1) := by decide +kernel
theorem dX8_track_65 : decode cX8_track 65 = .ok (.iaload, 1) := by decide +kernel
theorem dX8_track_66 : decode cX8_track 66 = .ok (.ireturn, 1) := by decide +kernel
theorem dX8_track_67 : decode cX8_track 67 = .ok (.aload_n 0, 1) := by decide +kernel
theorem dX8_track_68 : decode cX8_track 68 = .ok (.getfield 69, 3) := by decide +kernel
theorem dX8_track_71 : decode cX8_track 71 = .ok (.iload_n 1, 1) := by decide +kernel
theorem dX8_track_72 : decode cX8_track 72 = .ok (.iaload, 1) := by decide +kernel
theorem dX8_track_73 : decode cX8_track 73 = .ok (.ireturn, 1) := by decide +kernel
theorem dX8_track_74 : decode cX8_track 74 = .ok (.aload_n 0, 1) := by decide +kernel
theorem dX8_track_75 : decode cX8_track 75 = .ok (.getfield 72, 3) := by decide +kernel
theorem dX8_track_78 : decode cX8_track 78 = .ok (.iload_n 1, 1) := by decide +kernel
theorem dX8_track_79 : decode cX8_track 79 = .ok (.iaload, 1) := by decide +kernel
theorem dX8_track_80 : decode cX8_track 80 = .ok (.ireturn, 1) := by decide +kernel
theorem dX8_track_81 : decode cX8_track 81 = .ok (.aload_n 0, 1) := by decide +kernel
theorem dX8_track_82 : decode cX8_track 82 = .ok (.getfield 75, 3) := by decide +kernel
theorem dX8_track_85 : decode cX8_track 85 = .ok (.iload_n 1, 1) := by decide +kernel
theorem dX8_track_86 : decode cX8_track 86 = .ok (.iaload, 1) := by decide +kernel
theorem dX8_track_87 : decode cX8_track 87 = .ok (.ireturn, 1) := by decide +kernel
theorem dX8_track_88 : decode cX8_track 88 = .ok (.aload_n 0, 1) := by decide +kernel
theorem dX8_track_89 : decode cX8_track 89 = .ok (.getfield 78, 3) := by decide +kernel
theorem dX8_track_92 : decode cX8_track 92 = .ok (.iload_n 1, 1) := by decide +kernel
theorem dX8_track_93 : decode cX8_track 93 = .ok (.iaload, 1) := by decide +kernel
theorem dX8_track_94 : decode cX8_track 94 = .ok (.ireturn, 1) := by decide +kernel
theorem dX8_track_95 : decode cX8_track 95 = .ok (.aload_n 0, 1) := by decide +kernel
theorem dX8_track_96 : decode cX8_track 96 = .ok (.getfield 81, 3) := by decide +kernel
theorem dX8_track_99 : decode cX8_track 99 = .ok (.iload_n 1, 1) := by decide +kernel
theorem dX8_track_100 : decode cX8_track 100 = .ok (.iaload, 1) := by decide +kernel
theorem dX8_track_101 : decode cX8_track 101 = .ok (.ireturn, 1) := by decide +kernel
theorem dX8_track_102 : decode cX8_track 102 = .ok (.aload_n 0, 1) := by decide +kernel
theorem dX8_track_103 : decode cX8_track 103 = .ok (.getfield 84, 3) := by decide +kernel
theorem dX8_track_106 : decode cX8_track 106 = .ok (.iload_n 1, 1) := by decide +kernel
theorem dX8_track_107 : decode cX8_track 107 = .ok (.iaload, 1) := by decide +kernel
theorem dX8_track_108 : decode cX8_track 108 = .ok (.ireturn, 1) := by decide +kernel
theorem dX8_track_109 : decode cX8_track 109 = .ok (.iconst (-1), 1) := by decide +kernel
theorem dX8_track_110 : decode cX8_track 110 = .ok (.ireturn, 1) := by decide +kernel
theorem dX8_count_0 : decode cX8_count 0 = .ok (.iload_n 1, 1) := by decide +kernel
theorem dX8_count_1 : decode cX8_count 1 = .ok (.tableswitch 78 0 6 #[43, 48, 53, 58, 63, 68, 73], 43) := by decide +kernel
theorem dX8_count_44 : decode cX8_count 44 = .ok (.aload_n 0, 1) := by decide +kernel
theorem dX8_count_45 : decode cX8_count 45 = .ok (.getfield 102, 3) := by decide +kernel
theorem dX8_count_48 : decode cX8_count 48 = .ok (.ireturn, 1) := by decide +kernel
theorem dX8_count_49 : decode cX8_count 49 = .ok (.aload_n 0, 1) := by decide +kernel
theorem dX8_count_50 : decode cX8_count 50 = .ok (.getfield 216, 3) := by decide +kernel
theorem dX8_count_53 : decode cX8_count 53 = .ok (.ireturn, 1) := by decide +kernel
theorem dX8_count_54 : decode cX8_count 54 = .ok (.aload_n 0, 1) := by decide +kernel
theorem dX8_count_55 : decode cX8_count 55 = .ok (.getfield 226, 3) := by decide +kernel
theorem dX8_count_58 : decode cX8_count 58 = .ok (.ireturn, 1) := by decide +kernel
theorem dX8_count_59 : decode cX8_count 59 = .ok (.aload_n 0, 1) := by decide +kernel
theorem dX8_count_60 : decode cX8_count 60 = .ok (.getfield 235, 3) := by decide +kernel
theorem dX8_count_63 : decode cX8_count 63 = .ok (.ireturn, 1) := by decide +kernel
theorem dX8_count_64 : decode cX8_count 64 = .ok (.aload_n 0, 1) := by decide +kernel
theorem dX8_count_65 : decode cX8_count 65 = .ok (.getfield 229, 3) := by decide +kernel
theorem dX8_count_68 : decode cX8_count 68 = .ok (.ireturn, 1) := by decide +kernel
theorem dX8_count_69 : decode cX8_count 69 = .ok (.aload_n 0, 1) := by decide +kernel
theorem dX8_count_70 : decode cX8_count 70 = .ok (.getfield 133, 3) := by decide +kernel
theorem dX8_count_73 : decode cX8_count 73 = .ok (.ireturn, 1) := by decide +kernel
theorem dX8_count_74 : decode cX8_count 74 = .ok (.aload_n 0, 1) := by decide +kernel
theorem dX8_count_75 : decode cX8_count 75 = .ok (.getfield 193, 3) := by decide +kernel
theorem dX8_count_78 : decode cX8_count 78 = .ok (.ireturn, 1) := by decide +kernel
theorem dX8_count_79 : decode cX8_count 79 = .ok (.iconst (-1), 1) := by decide +kernel
theorem dX8_count_80 : decode cX8_count 80 = .ok (.ireturn, 1) := by decide +kernel
theorem dJ9_max_7cf53_0 : decode cJ9_max_7cf53 0 = .ok (.iload_n 0, 1) := by decide +kernel
theorem dJ9_max_7cf53_1 : decode cJ9_max_7cf53 1 = .ok (.iload_n 1, 1) := by decide +kernel
theorem dJ9_max_7cf53_2 : decode cJ9_max_7cf53 2 = .ok (.if_icmp .lt 7, 3) := by decide +kernel
theorem dJ9_max_7cf53_5 : decode cJ9_max_7cf53 5 = .ok (.iload_n 0, 1) := by decide +kernel
theorem dJ9_max_7cf53_6 : decode cJ9_max_7cf53 6 = .ok (.goto 4, 3) := by decide +kernel
theorem dJ9_max_7cf53_9 : decode cJ9_max_7cf53 9 = .ok (.iload_n 1, 1) := by decide +kernel
theorem dJ9_max_7cf53_10 : decode cJ9_max_7cf53 10 = .ok (.ireturn, 1) := by decide +kernel
theorem dJ7_rangeCheck_23922_0 : decode cJ7_rangeCheck_23922 0 = .ok (.iload_n 1, 1) := by decide +kernel
theorem dJ7_rangeCheck_23922_1 : decode cJ7_rangeCheck_23922 1 = .ok (.iload_n 2, 1) := by decide +kernel
theorem dJ7_rangeCheck_23922_2 : decode cJ7_rangeCheck_23922 2 = .ok (.if_icmp .le 44, 3) := by decide +kernel
theorem dJ7_rangeCheck_23922_5 : decode cJ7_rangeCheck_23922 5 = .ok (.new 43, 3) := by decide +kernel
theorem dJ7_rangeCheck_23922_8 : decode cJ7_rangeCheck_23922 8 = .ok (.dup, 1) := by decide +kernel
theorem dJ7_rangeCheck_23922_9 : decode cJ7_rangeCheck_23922 9 = .ok (.new 45, 3) := by decide +kernel
theorem dJ7_rangeCheck_23922_12 : decode cJ7_rangeCheck_23922 12 = .ok (.dup, 1) := by decide +kernel
theorem dJ7_rangeCheck_23922_13 : decode cJ7_rangeCheck_23922 13 = .ok (.invokespecial 47, 3) := by decide +kernel
theorem dJ7_rangeCheck_23922_16 : decode cJ7_rangeCheck_23922 16 = .ok (.ldc 48, 2) := by decide +kernel
theorem dJ7_rangeCheck_23922_18 : decode cJ7_rangeCheck_23922 18 = .ok (.invokevirtual 50, 3) := by decide +kernel
theorem dJ7_rangeCheck_23922_21 : decode cJ7_rangeCheck_23922 21 = .ok (.iload_n 1, 1) := by decide +kernel
theorem dJ7_rangeCheck_23922_22 : decode cJ7_rangeCheck_23922 22 = .ok (.invokevirtual 54, 3) := by decide +kernel
theorem dJ7_rangeCheck_23922_25 : decode cJ7_rangeCheck_23922 25 = .ok (.ldc 57, 2) := by decide +kernel
theorem dJ7_rangeCheck_23922_27 : decode cJ7_rangeCheck_23922 27 = .ok (.invokevirtual 50, 3) := by decide +kernel
theorem dJ7_rangeCheck_23922_30 : decode cJ7_rangeCheck_23922 30 = .ok (.iload_n 2, 1) := by decide +kernel
theorem dJ7_rangeCheck_23922_31 : decode cJ7_rangeCheck_23922 31 = .ok (.invokevirtual 54, 3) := by decide +kernel
theorem dJ7_rangeCheck_23922_34 : decode cJ7_rangeCheck_23922 34 = .ok (.ldc 59, 2) := by decide +kernel
theorem dJ7_rangeCheck_23922_36 : decode cJ7_rangeCheck_23922 36 = .ok (.invokevirtual 50, 3) := by decide +kernel
theorem dJ7_rangeCheck_23922_39 : decode cJ7_rangeCheck_23922 39 = .ok (.invokevirtual 61, 3) := by decide +kernel
theorem dJ7_rangeCheck_23922_42 : decode cJ7_rangeCheck_23922 42 = .ok (.invokespecial 65, 3) := by decide +kernel
theorem dJ7_rangeCheck_23922_45 : decode cJ7_rangeCheck_23922 45 = .ok (.athrow, 1) := by decide +kernel
theorem dJ7_rangeCheck_23922_46 : decode cJ7_rangeCheck_23922 46 = .ok (.iload_n 1, 1) := by decide +kernel
theorem dJ7_rangeCheck_23922_47 : decode cJ7_rangeCheck_23922 47 = .ok (.ifCond .ge 12, 3) := by decide +kernel
theorem dJ7_rangeCheck_23922_50 : decode cJ7_rangeCheck_23922 50 = .ok (.new 68, 3) := by decide +kernel
theorem dJ7_rangeCheck_23922_53 : decode cJ7_rangeCheck_23922 53 = .ok (.dup, 1) := by decide +kernel
theorem dJ7_rangeCheck_23922_54 : decode cJ7_rangeCheck_23922 54 = .ok (.iload_n 1, 1) := by decide +kernel
theorem dJ7_rangeCheck_23922_55 : decode cJ7_rangeCheck_23922 55 = .ok (.invokespecial 70, 3) := by decide +kernel
theorem dJ7_rangeCheck_23922_58 : decode cJ7_rangeCheck_23922 58 = .ok (.athrow, 1) := by decide +kernel
theorem dJ7_rangeCheck_23922_59 : decode cJ7_rangeCheck_23922 59 = .ok (.iload_n 2, 1) := by decide +kernel
theorem dJ7_rangeCheck_23922_60 : decode cJ7_rangeCheck_23922 60 = .ok (.iload_n 0, 1) := by decide +kernel
theorem dJ7_rangeCheck_23922_61 : decode cJ7_rangeCheck_23922 61 = .ok (.if_icmp .le 12, 3) := by decide +kernel
theorem dJ7_rangeCheck_23922_64 : decode cJ7_rangeCheck_23922 64 = .ok (.new 68, 3) := by decide +kernel
theorem dJ7_rangeCheck_23922_67 : decode cJ7_rangeCheck_23922 67 = .ok (.dup, 1) := by decide +kernel
theorem dJ7_rangeCheck_23922_68 : decode cJ7_rangeCheck_23922 68 = .ok (.iload_n 2, 1) := by decide +kernel
theorem dJ7_rangeCheck_23922_69 : decode cJ7_rangeCheck_23922 69 = .ok (.invokespecial 70, 3) := by decide +kernel
theorem dJ7_rangeCheck_23922_72 : decode cJ7_rangeCheck_23922 72 = .ok (.athrow, 1) := by decide +kernel
theorem dJ7_rangeCheck_23922_73 : decode cJ7_rangeCheck_23922 73 = .ok (.return_, 1) := by decide +kernel
theorem dJ7_fill_53178_0 : decode cJ7_fill_53178 0 = .ok (.iconst 0, 1) := by decide +kernel
theorem dJ7_fill_53178_1 : decode cJ7_fill_53178 1 = .ok (.istore_n 2, 1) := by decide +kernel
theorem dJ7_fill_53178_2 : decode cJ7_fill_53178 2 = .ok (.aload_n 0, 1) := by decide +kernel
