-- printed by the claim's program: decode rows
theorem dX3_passMade_76 : decode cX3_passMade 76 = .ok (.iload_n 3, 1) := by decide +kernel
theorem dX3_passMade_77 : decode cX3_passMade 77 = .ok (.if_icmp .ge 43, 3) := by decide +kernel
theorem dX3_passMade_80 : decode cX3_passMade 80 = .ok (.aload_n 0, 1) := by decide +kernel
theorem dX3_passMade_81 : decode cX3_passMade 81 = .ok (.getfield 25, 3) := by decide +kernel
theorem dX3_passMade_84 : decode cX3_passMade 84 = .ok (.ifCond .ne 36, 3) := by decide +kernel
theorem dX3_passMade_87 : decode cX3_passMade 87 = .ok (.aload_n 0, 1) := by decide +kernel
theorem dX3_passMade_88 : decode cX3_passMade 88 = .ok (.getfield 15, 3) := by decide +kernel
theorem dX3_passMade_91 : decode cX3_passMade 91 = .ok (.iload_n 2, 1) := by decide +kernel
theorem dX3_passMade_92 : decode cX3_passMade 92 = .ok (.iload 4, 2) := by decide +kernel
theorem dX3_passMade_94 : decode cX3_passMade 94 = .ok (.invokestatic 44, 3) := by decide +kernel
theorem dX3_passMade_97 : decode cX3_passMade 97 = .ok (.ifCond .eq 17, 3) := by decide +kernel
theorem dX3_passMade_100 : decode cX3_passMade 100 = .ok (.aload_n 0, 1) := by decide +kernel
theorem dX3_passMade_101 : decode cX3_passMade 101 = .ok (.aload_n 0, 1) := by decide +kernel
theorem dX3_passMade_102 : decode cX3_passMade 102 = .ok (.getfield 59, 3) := by decide +kernel
theorem dX3_passMade_105 : decode cX3_passMade 105 = .ok (.iload_n 1, 1) := by decide +kernel
theorem dX3_passMade_106 : decode cX3_passMade 106 = .ok (.iload 4, 2) := by decide +kernel
theorem dX3_passMade_108 : decode cX3_passMade 108 = .ok (.invokevirtual 83, 3) := by decide +kernel
theorem dX3_passMade_111 : decode cX3_passMade 111 = .ok (.invokevirtual 71, 3) := by decide +kernel
theorem dX3_passMade_114 : decode cX3_passMade 114 = .ok (.iinc 4 1, 3) := by decide +kernel
theorem dX3_passMade_117 : decode cX3_passMade 117 = .ok (.goto (-43), 3) := by decide +kernel
theorem dX3_passMade_120 : decode cX3_passMade 120 = .ok (.return_, 1) := by decide +kernel
theorem dX3_passBits_0 : decode cX3_passBits 0 = .ok (.iconst 1, 1) := by decide +kernel
theorem dX3_passBits_1 : decode cX3_passBits 1 = .ok (.istore_n 2, 1) := by decide +kernel
theorem dX3_passBits_2 : decode cX3_passBits 2 = .ok (.iload_n 2, 1) := by decide +kernel
theorem dX3_passBits_3 : decode cX3_passBits 3 = .ok (.iload_n 1, 1) := by decide +kernel
theorem dX3_passBits_4 : decode cX3_passBits 4 = .ok (.if_icmp .gt 103, 3) := by decide +kernel
theorem dX3_passBits_7 : decode cX3_passBits 7 = .ok (.aload_n 0, 1) := by decide +kernel
theorem dX3_passBits_8 : decode cX3_passBits 8 = .ok (.getfield 18, 3) := by decide +kernel
theorem dX3_passBits_11 : decode cX3_passBits 11 = .ok (.aload_n 0, 1) := by decide +kernel
theorem dX3_passBits_12 : decode cX3_passBits 12 = .ok (.getfield 22, 3) := by decide +kernel
theorem dX3_passBits_15 : decode cX3_passBits 15 = .ok (.if_icmp .lt 14, 3) := by decide +kernel
theorem dX3_passBits_18 : decode cX3_passBits 18 = .ok (.aload_n 0, 1) := by decide +kernel
theorem dX3_passBits_19 : decode cX3_passBits 19 = .ok (.iconst 3, 1) := by decide +kernel
theorem dX3_passBits_20 : decode cX3_passBits 20 = .ok (.aload_n 0, 1) := by decide +kernel
theorem dX3_passBits_21 : decode cX3_passBits 21 = .ok (.getfield 22, 3) := by decide +kernel
theorem dX3_passBits_24 : decode cX3_passBits 24 = .ok (.invokevirtual 56, 3) := by decide +kernel
theorem dX3_passBits_27 : decode cX3_passBits 27 = .ok (.iconst 0, 1) := by decide +kernel
theorem dX3_passBits_28 : decode cX3_passBits 28 = .ok (.ireturn, 1) := by decide +kernel
theorem dX3_passBits_29 : decode cX3_passBits 29 = .ok (.aload_n 0, 1) := by decide +kernel
theorem dX3_passBits_30 : decode cX3_passBits 30 = .ok (.getfield 15, 3) := by decide +kernel
theorem dX3_passBits_33 : decode cX3_passBits 33 = .ok (.aload_n 0, 1) := by decide +kernel
theorem dX3_passBits_34 : decode cX3_passBits 34 = .ok (.getfield 18, 3) := by decide +kernel
theorem dX3_passBits_37 : decode cX3_passBits 37 = .ok (.iaload, 1) := by decide +kernel
theorem dX3_passBits_38 : decode cX3_passBits 38 = .ok (.istore_n 3, 1) := by decide +kernel
theorem dX3_passBits_39 : decode cX3_passBits 39 = .ok (.iload_n 3, 1) := by decide +kernel
theorem dX3_passBits_40 : decode cX3_passBits 40 = .ok (.iconst 1, 1) := by decide +kernel
theorem dX3_passBits_41 : decode cX3_passBits 41 = .ok (.iand, 1) := by decide +kernel
theorem dX3_passBits_42 : decode cX3_passBits 42 = .ok (.iconst 1, 1) := by decide +kernel
theorem dX3_passBits_43 : decode cX3_passBits 43 = .ok (.if_icmp .ne 7, 3) := by decide +kernel
theorem dX3_passBits_46 : decode cX3_passBits 46 = .ok (.iconst 1, 1) := by decide +kernel
theorem dX3_passBits_47 : decode cX3_passBits 47 = .ok (.goto 4, 3) := by decide +kernel
theorem dX3_passBits_50 : decode cX3_passBits 50 = .ok (.iconst 0, 1) := by decide +kernel
theorem dX3_passBits_51 : decode cX3_passBits 51 = .ok (.istore 4, 2) := by decide +kernel
theorem dX3_passBits_53 : decode cX3_passBits 53 = .ok (.iload 4, 2) := by decide +kernel
theorem dX3_passBits_55 : decode cX3_passBits 55 = .ok (.ifCond .eq 11, 3) := by decide +kernel
theorem dX3_passBits_58 : decode cX3_passBits 58 = .ok (.iload_n 2, 1) := by decide +kernel
theorem dX3_passBits_59 : decode cX3_passBits 59 = .ok (.iload_n 1, 1) := by decide +kernel
theorem dX3_passBits_60 : decode cX3_passBits 60 = .ok (.if_icmp .ne 21, 3) := by decide +kernel
theorem dX3_passBits_63 : decode cX3_passBits 63 = .ok (.goto 7, 3) := by decide +kernel
theorem dX3_passBits_66 : decode cX3_passBits 66 = .ok (.iload_n 3, 1) := by decide +kernel
theorem dX3_passBits_67 : decode cX3_passBits 67 = .ok (.ifCond .ne 14, 3) := by decide +kernel
theorem dX3_passBits_70 : decode cX3_passBits 70 = .ok (.aload_n 0, 1) := by decide +kernel
theorem dX3_passBits_71 : decode cX3_passBits 71 = .ok (.iconst 4, 1) := by decide +kernel
theorem dX3_passBits_72 : decode cX3_passBits 72 = .ok (.aload_n 0, 1) := by decide +kernel
theorem dX3_passBits_73 : decode cX3_passBits 73 = .ok (.getfield 18, 3) := by decide +kernel
theorem dX3_passBits_76 : decode cX3_passBits 76 = .ok (.invokevirtual 56, 3) := by decide +kernel
theorem dX3_passBits_79 : decode cX3_passBits 79 = .ok (.iconst 0, 1) := by decide +kernel
theorem dX3_passBits_80 : decode cX3_passBits 80 = .ok (.ireturn, 1) := by decide +kernel
theorem dX3_passBits_81 : decode cX3_passBits 81 = .ok (.aload_n 0, 1) := by decide +kernel
theorem dX3_passBits_82 : decode cX3_passBits 82 = .ok (.dup, 1) := by decide +kernel
theorem dX3_passBits_83 : decode cX3_passBits 83 = .ok (.getfield 18, 3) := by decide +kernel
theorem dX3_passBits_86 : decode cX3_passBits 86 = .ok (.iconst 1, 1) := by decide +kernel
theorem dX3_passBits_87 : decode cX3_passBits 87 = .ok (.iadd, 1) := by decide +kernel
theorem dX3_passBits_88 : decode cX3_passBits 88 = .ok (.putfield 18, 3) := by decide +kernel
theorem dX3_passBits_91 : decode cX3_passBits 91 = .ok (.iload 4, 2) := by decide +kernel
theorem dX3_passBits_93 : decode cX3_passBits 93 = .ok (.ifCond .ne 8, 3) := by decide +kernel
theorem dX3_passBits_96 : decode cX3_passBits 96 = .ok (.iload_n 2, 1) := by decide +kernel
theorem dX3_passBits_97 : decode cX3_passBits 97 = .ok (.bipush 7, 2) := by decide +kernel
theorem dX3_passBits_99 : decode cX3_passBits 99 = .ok (.imul, 1) := by decide +kernel
theorem dX3_passBits_100 : decode cX3_passBits 100 = .ok (.ireturn, 1) := by decide +kernel
theorem dX3_passBits_101 : decode cX3_passBits 101 = .ok (.iinc 2 1, 3) := by decide +kernel
theorem dX3_passBits_104 : decode cX3_passBits 104 = .ok (.goto (-102), 3) := by decide +kernel
theorem dX3_passBits_107 : decode cX3_passBits 107 = .ok (.iconst 0, 1) := by decide +kernel
theorem dX3_passBits_108 : decode cX3_passBits 108 = .ok (.ireturn, 1) := by decide +kernel
theorem dX3_lookForPlaces_0 : decode cX3_lookForPlaces 0 = .ok (.iconst 0, 1) := by decide +kernel
theorem dX3_lookForPlaces_1 : decode cX3_lookForPlaces 1 = .ok (.istore_n 3, 1) := by decide +kernel
theorem dX3_lookForPlaces_2 : decode cX3_lookForPlaces 2 = .ok (.iload_n 3, 1) := by decide +kernel
theorem dX3_lookForPlaces_3 : decode cX3_lookForPlaces 3 = .ok (.iload_n 2, 1) := by decide +kernel
theorem dX3_lookForPlaces_4 : decode cX3_lookForPlaces 4 = .ok (.if_icmp .ge 48, 3) := by decide +kernel
theorem dX3_lookForPlaces_7 : decode cX3_lookForPlaces 7 = .ok (.aload_n 0, 1) := by decide +kernel
theorem dX3_lookForPlaces_8 : decode cX3_lookForPlaces 8 = .ok (.getfield 15, 3) := by decide +kernel
theorem dX3_lookForPlaces_11 : decode cX3_lookForPlaces 11 = .ok (.iload_n 1, 1) := by decide +kernel
theorem dX3_lookForPlaces_12 : decode cX3_lookForPlaces 12 = .ok (.iload_n 3, 1) := by decide +kernel
theorem dX3_lookForPlaces_13 : decode cX3_lookForPlaces 13 = .ok (.invokestatic 44, 3) := by decide +kernel
theorem dX3_lookForPlaces_16 : decode cX3_lookForPlaces 16 = .ok (.ifCond .eq 30, 3) := by decide +kernel
theorem dX3_lookForPlaces_19 : decode cX3_lookForPlaces 19 = .ok (.aload_n 0, 1) := by decide +kernel
theorem dX3_lookForPlaces_20 : decode cX3_lookForPlaces 20 = .ok (.getfield 59, 3) := by decide +kernel
theorem dX3_lookForPlaces_23 : decode cX3_lookForPlaces 23 = .ok (.getfield 63, 3) := by decide +kernel
theorem dX3_lookForPlaces_26 : decode cX3_lookForPlaces 26 = .ok (.iload_n 3, 1) := by decide +kernel
theorem dX3_lookForPlaces_27 : decode cX3_lookForPlaces 27 = .ok (.iconst 1, 1) := by decide +kernel
theorem dX3_lookForPlaces_28 : decode cX3_lookForPlaces 28 = .ok (.iadd, 1) := by decide +kernel
theorem dX3_lookForPlaces_29 : decode cX3_lookForPlaces 29 = .ok (.iaload, 1) := by decide +kernel
theorem dX3_lookForPlaces_30 : decode cX3_lookForPlaces 30 = .ok (.bipush (-9), 2) := by decide +kernel
theorem dX3_lookForPlaces_32 : decode cX3_lookForPlaces 32 = .ok (.if_icmp .ne 14, 3) := by decide +kernel
theorem dX3_lookForPlaces_35 : decode cX3_lookForPlaces 35 = .ok (.aload_n 0, 1) := by decide +kernel
theorem dX3_lookForPlaces_36 : decode cX3_lookForPlaces 36 = .ok (.iconst 5, 1) := by decide +kernel
theorem dX3_lookForPlaces_37 : decode cX3_lookForPlaces 37 = .ok (.iload_n 1, 1) := by decide +kernel
theorem dX3_lookForPlaces_38 : decode cX3_lookForPlaces 38 = .ok (.iload_n 3, 1) := by decide +kernel
theorem dX3_lookForPlaces_39 : decode cX3_lookForPlaces 39 = .ok (.bipush 7, 2) := by decide +kernel
theorem dX3_lookForPlaces_41 : decode cX3_lookForPlaces 41 = .ok (.idiv, 1) := by decide +kernel
theorem dX3_lookForPlaces_42 : decode cX3_lookForPlaces 42 = .ok (.iadd, 1) := by decide +kernel
theorem dX3_lookForPlaces_43 : decode cX3_lookForPlaces 43 = .ok (.invokevirtual 56, 3) := by decide +kernel
theorem dX3_lookForPlaces_46 : decode cX3_lookForPlaces 46 = .ok (.iinc 3 1, 3) := by decide +kernel
theorem dX3_lookForPlaces_49 : decode cX3_lookForPlaces 49 = .ok (.goto (-47), 3) := by decide +kernel
theorem dX3_lookForPlaces_52 : decode cX3_lookForPlaces 52 = .ok (.return_, 1) := by decide +kernel
theorem dX4_init_0 : decode cX4_init 0 = .ok (.aload_n 0, 1) := by decide +kernel
theorem dX4_init_1 : decode cX4_init 1 = .ok (.invokespecial 3, 3) := by decide +kernel
theorem dX4_init_4 : decode cX4_init 4 = .ok (.aload_n 0, 1) := by decide +kernel
theorem dX4_init_5 : decode cX4_init 5 = .ok (.sipush 300, 3) := by decide +kernel
theorem dX4_init_8 : decode cX4_init 8 = .ok (.newarray .int, 2) := by decide +kernel
theorem dX4_init_10 : decode cX4_init 10 = .ok (.putfield 9, 3) := by decide +kernel
theorem dX4_init_13 : decode cX4_init 13 = .ok (.return_, 1) := by decide +kernel
theorem dX4_hasRoom_0 : decode cX4_hasRoom 0 = .ok (.iload_n 1, 1) := by decide +kernel
theorem dX4_hasRoom_1 : decode cX4_hasRoom 1 = .ok (.sipush 300, 3) := by decide +kernel
theorem dX4_hasRoom_4 : decode cX4_hasRoom 4 = .ok (.aload_n 0, 1) := by decide +kernel
theorem dX4_hasRoom_5 : decode cX4_hasRoom 5 = .ok (.getfield 15, 3) := by decide +kernel
theorem dX4_hasRoom_8 : decode cX4_hasRoom 8 = .ok (.isub, 1) := by decide +kernel
theorem dX4_hasRoom_9 : decode cX4_hasRoom 9 = .ok (.if_icmp .gt 7, 3) := by decide +kernel
theorem dX4_hasRoom_12 : decode cX4_hasRoom 12 = .ok (.iconst 1, 1) := by decide +kernel
theorem dX4_hasRoom_13 : decode cX4_hasRoom 13 = .ok (.goto 4, 3) := by decide +kernel
theorem dX4_hasRoom_16 : decode cX4_hasRoom 16 = .ok (.iconst 0, 1) := by decide +kernel
theorem dX4_hasRoom_17 : decode cX4_hasRoom 17 = .ok (.ireturn, 1) := by decide +kernel
theorem dX4_put_0 : decode cX4_put 0 = .ok (.aload_n 0, 1) := by decide +kernel
theorem dX4_put_1 : decode cX4_put 1 = .ok (.getfield 15, 3) := by decide +kernel
theorem dX4_put_4 : decode cX4_put 4 = .ok (.sipush 300, 3) := by decide +kernel
theorem dX4_put_7 : decode cX4_put 7 = .ok (.if_icmp .ge 23, 3) := by decide +kernel
theorem dX4_put_10 : decode cX4_put 10 = .ok (.aload_n 0, 1) := by decide +kernel
theorem dX4_put_11 : decode cX4_put 11 = .ok (.getfield 9, 3) := by decide +kernel
theorem dX4_put_14 : decode cX4_put 14 = .ok (.aload_n 0, 1) := by decide +kernel
theorem dX4_put_15 : decode cX4_put 15 = .ok (.getfield 15, 3) := by decide +kernel
theorem dX4_put_18 : decode cX4_put 18 = .ok (.iload_n 1, 1) := by decide +kernel
theorem dX4_put_19 : decode cX4_put 19 = .ok (.iastore, 1) := by decide +kernel
theorem dX4_put_20 : decode cX4_put 20 = .ok (.aload_n 0, 1) := by decide +kernel
theorem dX4_put_21 : decode cX4_put 21 = .ok (.dup, 1) := by decide +kernel
theorem dX4_put_22 : decode cX4_put 22 = .ok (.getfield 15, 3) := by decide +kernel
theorem dX4_put_25 : decode cX4_put 25 = .ok (.iconst 1, 1) := by decide +kernel
theorem dX4_put_26 : decode cX4_put 26 = .ok (.iadd, 1) := by decide +kernel
theorem dX4_put_27 : decode cX4_put 27 = .ok (.putfield 15, 3) := by decide +kernel
theorem dX4_put_30 : decode cX4_put 30 = .ok (.return_, 1) := by decide +kernel
theorem dX4_putHead_0 : decode cX4_putHead 0 = .ok (.aload_n 0, 1) := by decide +kernel
theorem dX4_putHead_1 : decode cX4_putHead 1 = .ok (.iload_n 1, 1) := by decide +kernel
theorem dX4_putHead_2 : decode cX4_putHead 2 = .ok (.invokevirtual 19, 3) := by decide +kernel
theorem dX4_putHead_5 : decode cX4_putHead 5 = .ok (.aload_n 0, 1) := by decide +kernel
theorem dX4_putHead_6 : decode cX4_putHead 6 = .ok (.iload_n 2, 1) := by decide +kernel
theorem dX4_putHead_7 : decode cX4_putHead 7 = .ok (.bipush 8, 2) := by decide +kernel
theorem dX4_putHead_9 : decode cX4_putHead 9 = .ok (.ishr, 1) := by decide +kernel
theorem dX4_putHead_10 : decode cX4_putHead 10 = .ok (.invokevirtual 19, 3) := by decide +kernel
theorem dX4_putHead_13 : decode cX4_putHead 13 = .ok (.aload_n 0, 1) := by decide +kernel
theorem dX4_putHead_14 : decode cX4_putHead 14 = .ok (.iload_n 2, 1) := by decide +kernel
theorem dX4_putHead_15 : decode cX4_putHead 15 = .ok (.sipush 255, 3) := by decide +kernel
theorem dX4_putHead_18 : decode cX4_putHead 18 = .ok (.iand, 1) := by decide +kernel
theorem dX4_putHead_19 : decode cX4_putHead 19 = .ok (.invokevirtual 19, 3) := by decide +kernel
theorem dX4_putHead_22 : decode cX4_putHead 22 = .ok (.return_, 1) := by decide +kernel
theorem dX4_putAll_0 : decode cX4_putAll 0 = .ok (.iload_n 2, 1) := by decide +kernel
theorem dX4_putAll_1 : decode cX4_putAll 1 = .ok (.istore 4, 2) := by decide +kernel
theorem dX4_putAll_3 : decode cX4_putAll 3 = .ok (.iload 4, 2) := by decide +kernel
theorem dX4_putAll_5 : decode cX4_putAll 5 = .ok (.iload_n 2, 1) := by decide +kernel
theorem dX4_putAll_6 : decode cX4_putAll 6 = .ok (.iload_n 3, 1) := by decide +kernel
theorem dX4_putAll_7 : decode cX4_putAll 7 = .ok (.iadd, 1) := by decide +kernel
theorem dX4_putAll_8 : decode cX4_putAll 8 = .ok (.if_icmp .ge 24, 3) := by decide +kernel
theorem dX4_putAll_11 : decode cX4_putAll 11 = .ok (.iload 4, 2) := by decide +kernel
theorem dX4_putAll_13 : decode cX4_putAll 13 = .ok (.aload_n 1, 1) := by decide +kernel
theorem dX4_putAll_14 : decode cX4_putAll 14 = .ok (.arraylength, 1) := by decide +kernel
theorem dX4_putAll_15 : decode cX4_putAll 15 = .ok (.if_icmp .ge 17, 3) := by decide +kernel
theorem dX4_putAll_18 : decode cX4_putAll 18 = .ok (.aload_n 0, 1) := by decide +kernel
theorem dX4_putAll_19 : decode cX4_putAll 19 = .ok (.aload_n 1, 1) := by decide +kernel
theorem dX4_putAll_20 : decode cX4_putAll 20 = .ok (.iload 4, 2) := by decide +kernel
theorem dX4_putAll_22 : decode cX4_putAll 22 = .ok (.iaload, 1) := by decide +kernel
theorem dX4_putAll_23 : decode cX4_putAll 23 = .ok (.invokevirtual 19, 3) := by decide +kernel
theorem dX4_putAll_26 : decode cX4_putAll 26 = .ok (.iinc 4 1, 3) := by decide +kernel
theorem dX4_putAll_29 : decode cX4_putAll 29 = .ok (.goto (-26), 3) := by decide +kernel
theorem dX4_putAll_32 : decode cX4_putAll 32 = .ok (.return_, 1) := by decide +kernel
theorem dX4_dropFirst_0 : decode cX4_dropFirst 0 = .ok (.iload_n 1, 1) := by decide +kernel
theorem dX4_dropFirst_1 : decode cX4_dropFirst 1 = .ok (.istore_n 2, 1) := by decide +kernel
theorem dX4_dropFirst_2 : decode cX4_dropFirst 2 = .ok (.iload_n 2, 1) := by decide +kernel
theorem dX4_dropFirst_3 : decode cX4_dropFirst 3 = .ok (.aload_n 0, 1) := by decide +kernel
theorem dX4_dropFirst_4 : decode cX4_dropFirst 4 = .ok (.getfield 15, 3) := by decide +kernel
theorem dX4_dropFirst_7 : decode cX4_dropFirst 7 = .ok (.if_icmp .ge 23, 3) := by decide +kernel
theorem dX4_dropFirst_10 : decode cX4_dropFirst 10 = .ok (.aload_n 0, 1) := by decide +kernel
theorem dX4_dropFirst_11 : decode cX4_dropFirst 11 = .ok (.getfield 9, 3) := by decide +kernel
theorem dX4_dropFirst_14 : decode cX4_dropFirst 14 = .ok (.iload_n 2, 1) := by decide +kernel
theorem dX4_dropFirst_15 : decode cX4_dropFirst 15 = .ok (.iload_n 1, 1) := by decide +kernel
theorem dX4_dropFirst_16 : decode cX4_dropFirst 16 = .ok (.isub, 1) := by decide +kernel
theorem dX4_dropFirst_17 : decode cX4_dropFirst 17 = .ok (.aload_n 0, 1) := by decide +kernel
theorem dX4_dropFirst_18 : decode cX4_dropFirst 18 = .ok (.getfield 9, 3) := by decide +kernel
theorem dX4_dropFirst_21 : decode cX4_dropFirst 21 = .ok (.iload_n 2, 1) := by decide +kernel
theorem dX4_dropFirst_22 : decode cX4_dropFirst 22 = .ok (.iaload, 1) := by decide +kernel
theorem dX4_dropFirst_23 : decode cX4_dropFirst 23 = .ok (.iastore, 1) := by decide +kernel
theorem dX4_dropFirst_24 : decode cX4_dropFirst 24 = .ok (.iinc 2 1, 3) := by decide +kernel
theorem dX4_dropFirst_27 : decode cX4_dropFirst 27 = .ok (.goto (-25), 3) := by decide +kernel
theorem dX4_dropFirst_30 : decode cX4_dropFirst 30 = .ok (.aload_n 0, 1) := by decide +kernel
theorem dX4_dropFirst_31 : decode cX4_dropFirst 31 = .ok (.dup, 1) := by decide +kernel
theorem dX4_dropFirst_32 : decode cX4_dropFirst 32 = .ok (.getfield 15, 3) := by decide +kernel
theorem dX4_dropFirst_35 : decode cX4_dropFirst 35 = .ok (.iload_n 1, 1) := by decide +kernel
theorem dX4_dropFirst_36 : decode cX4_dropFirst 36 = .ok (.isub, 1) := by decide +kernel
theorem dX4_dropFirst_37 : decode cX4_dropFirst 37 = .ok (.putfield 15, 3) := by decide +kernel
theorem dX4_dropFirst_40 : decode cX4_dropFirst 40 = .ok (.return_, 1) := by decide +kernel
theorem dX5_init_0 : decode cX5_init 0 = .ok (.aload_n 0, 1) := by decide +kernel
theorem dX5_init_1 : decode cX5_init 1 = .ok (.invokespecial 3, 3) := by decide +kernel
theorem dX5_init_4 : decode cX5_init 4 = .ok (.return_, 1) := by decide +kernel
theorem dX5_come_0 : decode cX5_come 0 = .ok (.aload_n 0, 1) := by decide +kernel
theorem dX5_come_1 : decode cX5_come 1 = .ok (.iload_n 1, 1) := by decide +kernel
theorem dX5_come_2 : decode cX5_come 2 = .ok (.putfield 9, 3) := by decide +kernel
theorem dX5_come_5 : decode cX5_come 5 = .ok (.aload_n 0, 1) := by decide +kernel
theorem dX5_come_6 : decode cX5_come 6 = .ok (.iconst 0, 1) := by decide +kernel
theorem dX5_come_7 : decode cX5_come 7 = .ok (.putfield 15, 3) := by decide +kernel
theorem dX5_come_10 : decode cX5_come 10 = .ok (.aload_n 0, 1) := by decide +kernel
theorem dX5_come_11 : decode cX5_come 11 = .ok (.iload_n 2, 1) := by decide +kernel
theorem dX5_come_12 : decode cX5_come 12 = .ok (.putfield 18, 3) := by decide +kernel
theorem dX5_come_15 : decode cX5_come 15 = .ok (.aload_n 0, 1) := by decide +kernel
theorem dX5_come_16 : decode cX5_come 16 = .ok (.iload_n 3, 1) := by decide +kernel
theorem dX5_come_17 : decode cX5_come 17 = .ok (.putfield 21, 3) := by decide +kernel
theorem dX5_come_20 : decode cX5_come 20 = .ok (.aload_n 0, 1) := by decide +kernel
theorem dX5_come_21 : decode cX5_come 21 = .ok (.iload_n 2, 1) := by decide +kernel
theorem dX5_come_22 : decode cX5_come 22 = .ok (.iload_n 3, 1) := by decide +kernel
theorem dX5_come_23 : decode cX5_come 23 = .ok (.invokevirtual 24, 3) := by decide +kernel
theorem dX5_come_26 : decode cX5_come 26 = .ok (.return_, 1) := by decide +kernel
theorem dX5_update_0 : decode cX5_update 0 = .ok (.iconst 1, 1) := by decide +kernel
theorem dX5_update_1 : decode cX5_update 1 = .ok (.aload_n 0, 1) := by decide +kernel
theorem dX5_update_2 : decode cX5_update 2 = .ok (.getfield 28, 3) := by decide +kernel
theorem dX5_update_5 : decode cX5_update 5 = .ok (.invokestatic 31, 3) := by decide +kernel
theorem dX5_update_8 : decode cX5_update 8 = .ok (.istore_n 3, 1) := by decide +kernel
theorem dX5_update_9 : decode cX5_update 9 = .ok (.aload_n 0, 1) := by decide +kernel
theorem dX5_update_10 : decode cX5_update 10 = .ok (.iload_n 1, 1) := by decide +kernel
theorem dX5_update_11 : decode cX5_update 11 = .ok (.aload_n 0, 1) := by decide +kernel
theorem dX5_update_12 : decode cX5_update 12 = .ok (.getfield 18, 3) := by decide +kernel
theorem dX5_update_15 : decode cX5_update 15 = .ok (.isub, 1) := by decide +kernel
theorem dX5_update_16 : decode cX5_update 16 = .ok (.iload_n 3, 1) := by decide +kernel
theorem dX5_update_17 : decode cX5_update 17 = .ok (.idiv, 1) := by decide +kernel
theorem dX5_update_18 : decode cX5_update 18 = .ok (.putfield 37, 3) := by decide +kernel
theorem dX5_update_21 : decode cX5_update 21 = .ok (.aload_n 0, 1) := by decide +kernel
theorem dX5_update_22 : decode cX5_update 22 = .ok (.iload_n 2, 1) := by decide +kernel
theorem dX5_update_23 : decode cX5_update 23 = .ok (.aload_n 0, 1) := by decide +kernel
theorem dX5_update_24 : decode cX5_update 24 = .ok (.getfield 21, 3) := by decide +kernel
theorem dX5_update_27 : decode cX5_update 27 = .ok (.isub, 1) := by decide +kernel
theorem dX5_update_28 : decode cX5_update 28 = .ok (.iload_n 3, 1) := by decide +kernel
theorem dX5_update_29 : decode cX5_update 29 = .ok (.idiv, 1) := by decide +kernel
theorem dX5_update_30 : decode cX5_update 30 = .ok (.putfield 40, 3) := by decide +kernel
theorem dX5_update_33 : decode cX5_update 33 = .ok (.aload_n 0, 1) := by decide +kernel
theorem dX5_update_34 : decode cX5_update 34 = .ok (.iload_n 1, 1) := by decide +kernel
theorem dX5_update_35 : decode cX5_update 35 = .ok (.putfield 18, 3) := by decide +kernel
theorem dX5_update_38 : decode cX5_update 38 = .ok (.aload_n 0, 1) := by decide +kernel
theorem dX5_update_39 : decode cX5_update 39 = .ok (.iload_n 2, 1) := by decide +kernel
theorem dX5_update_40 : decode cX5_update 40 = .ok (.putfield 21, 3) := by decide +kernel
theorem dX5_update_43 : decode cX5_update 43 = .ok (.aload_n 0, 1) := by decide +kernel
theorem dX5_update_44 : decode cX5_update 44 = .ok (.iload_n 1, 1) := by decide +kernel
theorem dX5_update_45 : decode cX5_update 45 = .ok (.putfield 43, 3) := by decide +kernel
theorem dX5_update_48 : decode cX5_update 48 = .ok (.aload_n 0, 1) := by decide +kernel
theorem dX5_update_49 : decode cX5_update 49 = .ok (.iload_n 2, 1) := by decide +kernel
theorem dX5_update_50 : decode cX5_update 50 = .ok (.putfield 46, 3) := by decide +kernel
theorem dX5_update_53 : decode cX5_update 53 = .ok (.aload_n 0, 1) := by decide +kernel
theorem dX5_update_54 : decode cX5_update 54 = .ok (.iconst 0, 1) := by decide +kernel
theorem dX5_update_55 : decode cX5_update 55 = .ok (.putfield 28, 3) := by decide +kernel
theorem dX5_update_58 : decode cX5_update 58 = .ok (.aload_n 0, 1) := by decide +kernel
theorem dX5_update_59 : decode cX5_update 59 = .ok (.dup, 1) := by decide +kernel
theorem dX5_update_60 : decode cX5_update 60 = .ok (.getfield 15, 3) := by decide +kernel
theorem dX5_update_63 : decode cX5_update 63 = .ok (.iconst 1, 1) := by decide +kernel
theorem dX5_update_64 : decode cX5_update 64 = .ok (.iadd, 1) := by decide +kernel
theorem dX5_update_65 : decode cX5_update 65 = .ok (.putfield 15, 3) := by decide +kernel
theorem dX5_update_68 : decode cX5_update 68 = .ok (.return_, 1) := by decide +kernel
theorem dX5_passTick_0 : decode cX5_passTick 0 = .ok (.aload_n 0, 1) := by decide +kernel
theorem dX5_passTick_1 : decode cX5_passTick 1 = .ok (.dup, 1) := by decide +kernel
theorem dX5_passTick_2 : decode cX5_passTick 2 = .ok (.getfield 28, 3) := by decide +kernel
theorem dX5_passTick_5 : decode cX5_passTick 5 = .ok (.iconst 1, 1) := by decide +kernel
theorem dX5_passTick_6 : decode cX5_passTick 6 = .ok (.iadd, 1) := by decide +kernel
theorem dX5_passTick_7 : decode cX5_passTick 7 = .ok (.putfield 28, 3) := by decide +kernel
theorem dX5_passTick_10 : decode cX5_passTick 10 = .ok (.aload_n 0, 1) := by decide +kernel
theorem dX5_passTick_11 : decode cX5_passTick 11 = .ok (.getfield 28, 3) := by decide +kernel
theorem dX5_passTick_14 : decode cX5_passTick 14 = .ok (.iconst 2, 1) := by decide +kernel
theorem dX5_passTick_15 : decode cX5_passTick 15 = .ok (.if_icmp .lt 40, 3) := by decide +kernel
theorem dX5_passTick_18 : decode cX5_passTick 18 = .ok (.aload_n 0, 1) := by decide +kernel
theorem dX5_passTick_19 : decode cX5_passTick 19 = .ok (.getfield 28, 3) := by decide +kernel
theorem dX5_passTick_22 : decode cX5_passTick 22 = .ok (.bipush 6, 2) := by decide +kernel
theorem dX5_passTick_24 : decode cX5_passTick 24 = .ok (.if_icmp .ge 31, 3) := by decide +kernel
theorem dX5_passTick_27 : decode cX5_passTick 27 = .ok (.aload_n 0, 1) := by decide +kernel
theorem dX5_passTick_28 : decode cX5_passTick 28 = .ok (.aload_n 0, 1) := by decide +kernel
theorem dX5_passTick_29 : decode cX5_passTick 29 = .ok (.getfield 43, 3) := by decide +kernel
theorem dX5_passTick_32 : decode cX5_passTick 32 = .ok (.aload_n 0, 1) := by decide +kernel
theorem dX5_passTick_33 : decode cX5_passTick 33 = .ok (.getfield 37, 3) := by decide +kernel
theorem dX5_passTick_36 : decode cX5_passTick 36 = .ok (.iadd, 1) := by decide +kernel
theorem dX5_passTick_37 : decode cX5_passTick 37 = .ok (.i2s, 1) := by decide +kernel
theorem dX5_passTick_38 : decode cX5_passTick 38 = .ok (.putfield 43, 3) := by decide +kernel
theorem dX5_passTick_41 : decode cX5_passTick 41 = .ok (.aload_n 0, 1) := by decide +kernel
theorem dX5_passTick_42 : decode cX5_passTick 42 = .ok (.aload_n 0, 1) := by decide +kernel
theorem dX5_passTick_43 : decode cX5_passTick 43 = .ok (.getfield 46, 3) := by decide +kernel
theorem dX5_passTick_46 : decode cX5_passTick 46 = .ok (.aload_n 0, 1) := by decide +kernel
theorem dX5_passTick_47 : decode cX5_passTick 47 = .ok (.getfield 40, 3) := by decide +kernel
theorem dX5_passTick_50 : decode cX5_passTick 50 = .ok (.iadd, 1) := by decide +kernel
theorem dX5_passTick_51 : decode cX5_passTick 51 = .ok (.i2s, 1) := by decide +kernel
theorem dX5_passTick_52 : decode cX5_passTick 52 = .ok (.putfield 46, 3) := by decide +kernel
theorem dX5_passTick_55 : decode cX5_passTick 55 = .ok (.return_, 1) := by decide +kernel
theorem dX6_init_0 : decode cX6_init 0 = .ok (.aload_n 0, 1) := by decide +kernel
theorem dX6_init_1 : decode cX6_init 1 = .ok (.invokespecial 3, 3) := by decide +kernel
theorem dX6_init_4 : decode cX6_init 4 = .ok (.aload_n 0, 1) := by decide +kernel
theorem dX6_init_5 : decode cX6_init 5 = .ok (.bipush 12, 2) := by decide +kernel
theorem dX6_init_7 : decode cX6_init 7 = .ok (.anewarray 9, 3) := by decide +kernel
theorem dX6_init_10 : decode cX6_init 10 = .ok (.putfield 11, 3) := by decide +kernel
theorem dX6_init_13 : decode cX6_init 13 = .ok (.iconst 0, 1) := by decide +kernel
theorem dX6_init_14 : decode cX6_init 14 = .ok (.istore_n 1, 1) := by decide +kernel
theorem dX6_init_15 : decode cX6_init 15 = .ok (.iload_n 1, 1) := by decide +kernel
theorem dX6_init_16 : decode cX6_init 16 = .ok (.bipush 12, 2) := by decide +kernel
theorem dX6_init_18 : decode cX6_init 18 = .ok (.if_icmp .ge 22, 3) := by decide +kernel
theorem dX6_init_21 : decode cX6_init 21 = .ok (.aload_n 0, 1) := by decide +kernel
theorem dX6_init_22 : decode cX6_init 22 = .ok (.getfield 11, 3) := by decide +kernel
theorem dX6_init_25 : decode cX6_init 25 = .ok (.iload_n 1, 1) := by decide +kernel
theorem dX6_init_26 : decode cX6_init 26 = .ok (.new 9, 3) := by decide +kernel
theorem dX6_init_29 : decode cX6_init 29 = .ok (.dup, 1) := by decide +kernel
theorem dX6_init_30 : decode cX6_init 30 = .ok (.invokespecial 17, 3) := by decide +kernel
theorem dX6_init_33 : decode cX6_init 33 = .ok (.aastore, 1) := by decide +kernel
theorem dX6_init_34 : decode cX6_init 34 = .ok (.iinc 1 1, 3) := by decide +kernel
theorem dX6_init_37 : decode cX6_init 37 = .ok (.goto (-22), 3) := by decide +kernel
theorem dX6_init_40 : decode cX6_init 40 = .ok (.return_, 1) := by decide +kernel
theorem dX6_update_0 : decode cX6_update 0 = .ok (.iconst 0, 1) := by decide +kernel
theorem dX6_update_1 : decode cX6_update 1 = .ok (.istore 4, 2) := by decide +kernel
theorem dX6_update_3 : decode cX6_update 3 = .ok (.iload 4, 2) := by decide +kernel
theorem dX6_update_5 : decode cX6_update 5 = .ok (.aload_n 0, 1) := by decide +kernel
theorem dX6_update_6 : decode cX6_update 6 = .ok (.getfield 18, 3) := by decide +kernel
theorem dX6_update_9 : decode cX6_update 9 = .ok (.if_icmp .ge 38, 3) := by decide +kernel
theorem dX6_update_12 : decode cX6_update 12 = .ok (.aload_n 0, 1) := by decide +kernel
theorem dX6_update_13 : decode cX6_update 13 = .ok (.getfield 11, 3) := by decide +kernel
theorem dX6_update_16 : decode cX6_update 16 = .ok (.iload 4, 2) := by decide +kernel
theorem dX6_update_18 : decode cX6_update 18 = .ok (.aaload, 1) := by decide +kernel
theorem dX6_update_19 : decode cX6_update 19 = .ok (.getfield 22, 3) := by decide +kernel
theorem dX6_update_22 : decode cX6_update 22 = .ok (.iload_n 1, 1) := by decide +kernel
theorem dX6_update_23 : decode cX6_update 23 = .ok (.if_icmp .ne 18, 3) := by decide +kernel
theorem dX6_update_26 : decode cX6_update 26 = .ok (.aload_n 0, 1) := by decide +kernel
theorem dX6_update_27 : decode cX6_update 27 = .ok (.getfield 11, 3) := by decide +kernel
theorem dX6_update_30 : decode cX6_update 30 = .ok (.iload 4, 2) := by decide +kernel
theorem dX6_update_32 : decode cX6_update 32 = .ok (.aaload, 1) := by decide +kernel
theorem dX6_update_33 : decode cX6_update 33 = .ok (.iload_n 2, 1) := by decide +kernel
theorem dX6_update_34 : decode cX6_update 34 = .ok (.iload_n 3, 1) := by decide +kernel
theorem dX6_update_35 : decode cX6_update 35 = .ok (.invokevirtual 25, 3) := by decide +kernel
theorem dX6_update_38 : decode cX6_update 38 = .ok (.iload 4, 2) := by decide +kernel
theorem dX6_update_40 : decode cX6_update 40 = .ok (.ireturn, 1) := by decide +kernel
theorem dX6_update_41 : decode cX6_update 41 = .ok (.iinc 4 1, 3) := by decide +kernel
theorem dX6_update_44 : decode cX6_update 44 = .ok (.goto (-41), 3) := by decide +kernel
theorem dX6_update_47 : decode cX6_update 47 = .ok (.aload_n 0, 1) := by decide +kernel
theorem dX6_update_48 : decode cX6_update 48 = .ok (.getfield 18, 3) := by decide +kernel
theorem dX6_update_51 : decode cX6_update 51 = .ok (.bipush 12, 2) := by decide +kernel
theorem dX6_update_53 : decode cX6_update 53 = .ok (.if_icmp .lt 16, 3) := by decide +kernel
theorem dX6_update_56 : decode cX6_update 56 = .ok (.aload_n 0, 1) := by decide +kernel
theorem dX6_update_57 : decode cX6_update 57 = .ok (.dup, 1) := by decide +kernel
theorem dX6_update_58 : decode cX6_update 58 = .ok (.getfield 29, 3) := by decide +kernel
theorem dX6_update_61 : decode cX6_update 61 = .ok (.iconst 1, 1) := by decide +kernel
theorem dX6_update_62 : decode cX6_update 62 = .ok (.iadd, 1) := by decide +kernel
theorem dX6_update_63 : decode cX6_update 63 = .ok (.putfield 29, 3) := by decide +kernel
theorem dX6_update_66 : decode cX6_update 66 = .ok (.bipush (-9), 2) := by decide +kernel
theorem dX6_update_68 : decode cX6_update 68 = .ok (.ireturn, 1) := by decide +kernel
theorem dX6_update_69 : decode cX6_update 69 = .ok (.aload_n 0, 1) := by decide +kernel
theorem dX6_update_70 : decode cX6_update 70 = .ok (.getfield 11, 3) := by decide +kernel
theorem dX6_update_73 : decode cX6_update 73 = .ok (.aload_n 0, 1) := by decide +kernel
theorem dX6_update_74 : decode cX6_update 74 = .ok (.getfield 18, 3) := by decide +kernel
theorem dX6_update_77 : decode cX6_update 77 = .ok (.aaload, 1) := by decide +kernel
theorem dX6_update_78 : decode cX6_update 78 = .ok (.iload_n 1, 1) := by decide +kernel
theorem dX6_update_79 : decode cX6_update 79 = .ok (.iload_n 2, 1) := by decide +kernel
theorem dX6_update_80 : decode cX6_update 80 = .ok (.iload_n 3, 1) := by decide +kernel
theorem dX6_update_81 : decode cX6_update 81 = .ok (.invokevirtual 32, 3) := by decide +kernel
theorem dX6_update_84 : decode cX6_update 84 = .ok (.aload_n 0, 1) := by decide +kernel
theorem dX6_update_85 : decode cX6_update 85 = .ok (.dup, 1) := by decide +kernel
theorem dX6_update_86 : decode cX6_update 86 = .ok (.getfield 18, 3) := by decide +kernel
theorem dX6_update_89 : decode cX6_update 89 = .ok (.iconst 1, 1) := by decide +kernel
theorem dX6_update_90 : decode cX6_update 90 = .ok (.iadd, 1) := by decide +kernel
theorem dX6_update_91 : decode cX6_update 91 = .ok (.putfield 18, 3) := by decide +kernel
theorem dX6_update_94 : decode cX6_update 94 = .ok (.aload_n 0, 1) := by decide +kernel
theorem dX6_update_95 : decode cX6_update 95 = .ok (.getfield 18, 3) := by decide +kernel
theorem dX6_update_98 : decode cX6_update 98 = .ok (.iconst 1, 1) := by decide +kernel
theorem dX6_update_99 : decode cX6_update 99 = .ok (.isub, 1) := by decide +kernel
theorem dX6_update_100 : decode cX6_update 100 = .ok (.ireturn, 1) := by decide +kernel
theorem dX6_passTick_0 : decode cX6_passTick 0 = .ok (.aload_n 0, 1) := by decide +kernel
theorem dX6_passTick_1 : decode cX6_passTick 1 = .ok (.dup, 1) := by decide +kernel
theorem dX6_passTick_2 : decode cX6_passTick 2 = .ok (.getfield 36, 3) := by decide +kernel
theorem dX6_passTick_5 : decode cX6_passTick 5 = .ok (.iconst 1, 1) := by decide +kernel
theorem dX6_passTick_6 : decode cX6_passTick 6 = .ok (.iadd, 1) := by decide +kernel
theorem dX6_passTick_7 : decode cX6_passTick 7 = .ok (.putfield 36, 3) := by decide +kernel
theorem dX6_passTick_10 : decode cX6_passTick 10 = .ok (.iconst 0, 1) := by decide +kernel
theorem dX6_passTick_11 : decode cX6_passTick 11 = .ok (.istore_n 1, 1) := by decide +kernel
theorem dX6_passTick_12 : decode cX6_passTick 12 = .ok (.iconst 0, 1) := by decide +kernel
theorem dX6_passTick_13 : decode cX6_passTick 13 = .ok (.istore_n 2, 1) := by decide +kernel
theorem dX6_passTick_14 : decode cX6_passTick 14 = .ok (.iload_n 2, 1) := by decide +kernel
theorem dX6_passTick_15 : decode cX6_passTick 15 = .ok (.aload_n 0, 1) := by decide +kernel
theorem dX6_passTick_16 : decode cX6_passTick 16 = .ok (.getfield 18, 3) := by decide +kernel
theorem dX6_passTick_19 : decode cX6_passTick 19 = .ok (.if_icmp .ge 51, 3) := by decide +kernel
theorem dX6_passTick_22 : decode cX6_passTick 22 = .ok (.aload_n 0, 1) := by decide +kernel
theorem dX6_passTick_23 : decode cX6_passTick 23 = .ok (.getfield 11, 3) := by decide +kernel
theorem dX6_passTick_26 : decode cX6_passTick 26 = .ok (.iload_n 2, 1) := by decide +kernel
theorem dX6_passTick_27 : decode cX6_passTick 27 = .ok (.aaload, 1) := by decide +kernel
theorem dX6_passTick_28 : decode cX6_passTick 28 = .ok (.astore_n 3, 1) := by decide +kernel
theorem dX6_passTick_29 : decode cX6_passTick 29 = .ok (.aload_n 3, 1) := by decide +kernel
theorem dX6_passTick_30 : decode cX6_passTick 30 = .ok (.invokevirtual 39, 3) := by decide +kernel
theorem dX6_passTick_33 : decode cX6_passTick 33 = .ok (.aload_n 3, 1) := by decide +kernel
theorem dX6_passTick_34 : decode cX6_passTick 34 = .ok (.getfield 42, 3) := by decide +kernel
theorem dX6_passTick_37 : decode cX6_passTick 37 = .ok (.bipush 6, 2) := by decide +kernel
theorem dX6_passTick_39 : decode cX6_passTick 39 = .ok (.if_icmp .ge 25, 3) := by decide +kernel
theorem dX6_passTick_42 : decode cX6_passTick 42 = .ok (.aload_n 0, 1) := by decide +kernel
theorem dX6_passTick_43 : decode cX6_passTick 43 = .ok (.getfield 11, 3) := by decide +kernel
theorem dX6_passTick_46 : decode cX6_passTick 46 = .ok (.iload_n 2, 1) := by decide +kernel
theorem dX6_passTick_47 : decode cX6_passTick 47 = .ok (.aload_n 0, 1) := by decide +kernel
theorem dX6_passTick_48 : decode cX6_passTick 48 = .ok (.getfield 11, 3) := by decide +kernel
theorem dX6_passTick_51 : decode cX6_passTick 51 = .ok (.iload_n 1, 1) := by decide +kernel
theorem dX6_passTick_52 : decode cX6_passTick 52 = .ok (.aaload, 1) := by decide +kernel
theorem dX6_passTick_53 : decode cX6_passTick 53 = .ok (.aastore, 1) := by decide +kernel
theorem dX6_passTick_54 : decode cX6_passTick 54 = .ok (.aload_n 0, 1) := by decide +kernel
theorem dX6_passTick_55 : decode cX6_passTick 55 = .ok (.getfield 11, 3) := by decide +kernel
theorem dX6_passTick_58 : decode cX6_passTick 58 = .ok (.iload_n 1, 1) := by decide +kernel
theorem dX6_passTick_59 : decode cX6_passTick 59 = .ok (.aload_n 3, 1) := by decide +kernel
theorem dX6_passTick_60 : decode cX6_passTick 60 = .ok (.aastore, 1) := by decide +kernel
theorem dX6_passTick_61 : decode cX6_passTick 61 = .ok (.iinc 1 1, 3) := by decide +kernel
theorem dX6_passTick_64 : decode cX6_passTick 64 = .ok (.iinc 2 1, 3) := by decide +kernel
theorem dX6_passTick_67 : decode cX6_passTick 67 = .ok (.goto (-53), 3) := by decide +kernel
theorem dX6_passTick_70 : decode cX6_passTick 70 = .ok (.aload_n 0, 1) := by decide +kernel
theorem dX6_passTick_71 : decode cX6_passTick 71 = .ok (.dup, 1) := by decide +kernel
theorem dX6_passTick_72 : decode cX6_passTick 72 = .ok (.getfield 45, 3) := by decide +kernel
theorem dX6_passTick_75 : decode cX6_passTick 75 = .ok (.aload_n 0, 1) := by decide +kernel
theorem dX6_passTick_76 : decode cX6_passTick 76 = .ok (.getfield 18, 3) := by decide +kernel
theorem dX6_passTick_79 : decode cX6_passTick 79 = .ok (.iload_n 1, 1) := by decide +kernel
theorem dX6_passTick_80 : decode cX6_passTick 80 = .ok (.isub, 1) := by decide +kernel
theorem dX6_passTick_81 : decode cX6_passTick 81 = .ok (.iadd, 1) := by decide +kernel
theorem dX6_passTick_82 : decode cX6_passTick 82 = .ok (.putfield 45, 3) := by decide +kernel
theorem dX6_passTick_85 : decode cX6_passTick 85 = .ok (.aload_n 0, 1) := by decide +kernel
theorem dX6_passTick_86 : decode cX6_passTick 86 = .ok (.iload_n 1, 1) := by decide +kernel
theorem dX6_passTick_87 : decode cX6_passTick 87 = .ok (.putfield 18, 3) := by decide +kernel
theorem dX6_passTick_90 : decode cX6_passTick 90 = .ok (.return_, 1) := by decide +kernel
theorem dX7_init_0 : decode cX7_init 0 = .ok (.aload_n 0, 1) := by decide +kernel
theorem dX7_init_1 : decode cX7_init 1 = .ok (.invokespecial 3, 3) := by decide +kernel
theorem dX7_init_4 : decode cX7_init 4 = .ok (.aload_n 0, 1) := by decide +kernel
theorem dX7_init_5 : decode cX7_init 5 = .ok (.iconst 3, 1) := by decide +kernel
theorem dX7_init_6 : decode cX7_init 6 = .ok (.anewarray 9, 3) := by decide +kernel
theorem dX7_init_9 : decode cX7_init 9 = .ok (.putfield 11, 3) := by decide +kernel
theorem dX7_init_12 : decode cX7_init 12 = .ok (.aload_n 0, 1) := by decide +kernel
theorem dX7_init_13 : decode cX7_init 13 = .ok (.new 15, 3) := by decide +kernel
theorem dX7_init_16 : decode cX7_init 16 = .ok (.dup, 1) := by decide +kernel
theorem dX7_init_17 : decode cX7_init 17 = .ok (.invokespecial 17, 3) := by decide +kernel
theorem dX7_init_20 : decode cX7_init 20 = .ok (.putfield 18, 3) := by decide +kernel
theorem dX7_init_23 : decode cX7_init 23 = .ok (.aload_n 0, 1) := by decide +kernel
theorem dX7_init_24 : decode cX7_init 24 = .ok (.new 22, 3) := by decide +kernel
theorem dX7_init_27 : decode cX7_init 27 = .ok (.dup, 1) := by decide +kernel
theorem dX7_init_28 : decode cX7_init 28 = .ok (.aload_n 0, 1) := by decide +kernel
theorem dX7_init_29 : decode cX7_init 29 = .ok (.getfield 18, 3) := by decide +kernel
theorem dX7_init_32 : decode cX7_init 32 = .ok (.invokespecial 24, 3) := by decide +kernel
theorem dX7_init_35 : decode cX7_init 35 = .ok (.putfield 27, 3) := by decide +kernel
theorem dX7_init_38 : decode cX7_init 38 = .ok (.aload_n 0, 1) := by decide +kernel
theorem dX7_init_39 : decode cX7_init 39 = .ok (.new 31, 3) := by decide +kernel
theorem dX7_init_42 : decode cX7_init 42 = .ok (.dup, 1) := by decide +kernel
theorem dX7_init_43 : decode cX7_init 43 = .ok (.invokespecial 33, 3) := by decide +kernel
theorem dX7_init_46 : decode cX7_init 46 = .ok (.putfield 34, 3) := by decide +kernel
theorem dX7_init_49 : decode cX7_init 49 = .ok (.aload_n 0, 1) := by decide +kernel
theorem dX7_init_50 : decode cX7_init 50 = .ok (.new 31, 3) := by decide +kernel
theorem dX7_init_53 : decode cX7_init 53 = .ok (.dup, 1) := by decide +kernel
theorem dX7_init_54 : decode cX7_init 54 = .ok (.invokespecial 33, 3) := by decide +kernel
theorem dX7_init_57 : decode cX7_init 57 = .ok (.putfield 38, 3) := by decide +kernel
theorem dX7_init_60 : decode cX7_init 60 = .ok (.aload_n 0, 1) := by decide +kernel
theorem dX7_init_61 : decode cX7_init 61 = .ok (.new 41, 3) := by decide +kernel
theorem dX7_init_64 : decode cX7_init 64 = .ok (.dup, 1) := by decide +kernel
theorem dX7_init_65 : decode cX7_init 65 = .ok (.invokespecial 43, 3) := by decide +kernel
theorem dX7_init_68 : decode cX7_init 68 = .ok (.putfield 44, 3) := by decide +kernel
theorem dX7_init_71 : decode cX7_init 71 = .ok (.aload_n 0, 1) := by decide +kernel
theorem dX7_init_72 : decode cX7_init 72 = .ok (.new 48, 3) := by decide +kernel
theorem dX7_init_75 : decode cX7_init 75 = .ok (.dup, 1) := by decide +kernel
theorem dX7_init_76 : decode cX7_init 76 = .ok (.invokespecial 50, 3) := by decide +kernel
theorem dX7_init_79 : decode cX7_init 79 = .ok (.putfield 51, 3) := by decide +kernel
theorem dX7_init_82 : decode cX7_init 82 = .ok (.return_, 1) := by decide +kernel
theorem dX7_category_0 : decode cX7_category 0 = .ok (.iload_n 1, 1) := by decide +kernel
theorem dX7_category_1 : decode cX7_category 1 = .ok (.iconst 1, 1) := by decide +kernel
theorem dX7_category_2 : decode cX7_category 2 = .ok (.if_icmp .lt 20, 3) := by decide +kernel
theorem dX7_category_5 : decode cX7_category 5 = .ok (.iload_n 1, 1) := by decide +kernel
theorem dX7_category_6 : decode cX7_category 6 = .ok (.sipush 255, 3) := by decide +kernel
theorem dX7_category_9 : decode cX7_category 9 = .ok (.if_icmp .gt 13, 3) := by decide +kernel
theorem dX7_category_12 : decode cX7_category 12 = .ok (.aload_n 0, 1) := by decide +kernel
theorem dX7_category_13 : decode cX7_category 13 = .ok (.iload_n 1, 1) := by decide +kernel
theorem dX7_category_14 : decode cX7_category 14 = .ok (.invokevirtual 55, 3) := by decide +kernel
theorem dX7_category_17 : decode cX7_category 17 = .ok (.bipush (-9), 2) := by decide +kernel
theorem dX7_category_19 : decode cX7_category 19 = .ok (.if_icmp .eq 5, 3) := by decide +kernel
theorem dX7_category_22 : decode cX7_category 22 = .ok (.iconst (-1), 1) := by decide +kernel
theorem dX7_category_23 : decode cX7_category 23 = .ok (.ireturn, 1) := by decide +kernel
theorem dX7_category_24 : decode cX7_category 24 = .ok (.aload_n 0, 1) := by decide +kernel
theorem dX7_category_25 : decode cX7_category 25 = .ok (.getfield 59, 3) := by decide +kernel
theorem dX7_category_28 : decode cX7_category 28 = .ok (.iconst 3, 1) := by decide +kernel
theorem dX7_category_29 : decode cX7_category 29 = .ok (.if_icmp .lt 6, 3) := by decide +kernel
theorem dX7_category_32 : decode cX7_category 32 = .ok (.bipush (-3), 2) := by decide +kernel
theorem dX7_category_34 : decode cX7_category 34 = .ok (.ireturn, 1) := by decide +kernel
theorem dX7_category_35 : decode cX7_category 35 = .ok (.aload_n 0, 1) := by decide +kernel
theorem dX7_category_36 : decode cX7_category 36 = .ok (.getfield 11, 3) := by decide +kernel
theorem dX7_category_39 : decode cX7_category 39 = .ok (.aload_n 0, 1) := by decide +kernel
theorem dX7_category_40 : decode cX7_category 40 = .ok (.getfield 59, 3) := by decide +kernel
theorem dX7_category_43 : decode cX7_category 43 = .ok (.new 9, 3) := by decide +kernel
theorem dX7_category_46 : decode cX7_category 46 = .ok (.dup, 1) := by decide +kernel
theorem dX7_category_47 : decode cX7_category 47 = .ok (.iload_n 1, 1) := by decide +kernel
theorem dX7_category_48 : decode cX7_category 48 = .ok (.invokespecial 63, 3) := by decide +kernel
theorem dX7_category_51 : decode cX7_category 51 = .ok (.aastore, 1) := by decide +kernel
theorem dX7_category_52 : decode cX7_category 52 = .ok (.aload_n 0, 1) := by decide +kernel
theorem dX7_category_53 : decode cX7_category 53 = .ok (.dup, 1) := by decide +kernel
theorem dX7_category_54 : decode cX7_category 54 = .ok (.getfield 59, 3) := by decide +kernel
theorem dX7_category_57 : decode cX7_category 57 = .ok (.iconst 1, 1) := by decide +kernel
theorem dX7_category_58 : decode cX7_category 58 = .ok (.iadd, 1) := by decide +kernel
theorem dX7_category_59 : decode cX7_category 59 = .ok (.putfield 59, 3) := by decide +kernel
theorem dX7_category_62 : decode cX7_category 62 = .ok (.aload_n 0, 1) := by decide +kernel
theorem dX7_category_63 : decode cX7_category 63 = .ok (.getfield 59, 3) := by decide +kernel
theorem dX7_category_66 : decode cX7_category 66 = .ok (.iconst 1, 1) := by decide +kernel
theorem dX7_category_67 : decode cX7_category 67 = .ok (.isub, 1) := by decide +kernel
theorem dX7_category_68 : decode cX7_category 68 = .ok (.ireturn, 1) := by decide +kernel
theorem dX7_item_0 : decode cX7_item 0 = .ok (.aload_n 0, 1) := by decide +kernel
theorem dX7_item_1 : decode cX7_item 1 = .ok (.iload_n 1, 1) := by decide +kernel
theorem dX7_item_2 : decode cX7_item 2 = .ok (.invokevirtual 66, 3) := by decide +kernel
theorem dX7_item_5 : decode cX7_item 5 = .ok (.astore 5, 2) := by decide +kernel
theorem dX7_item_7 : decode cX7_item 7 = .ok (.aload 5, 2) := by decide +kernel
theorem dX7_item_9 : decode cX7_item 9 = .ok (.ifnull 19, 3) := by decide +kernel
theorem dX7_item_12 : decode cX7_item 12 = .ok (.iload_n 2, 1) := by decide +kernel
theorem dX7_item_13 : decode cX7_item 13 = .ok (.invokestatic 70, 3) := by decide +kernel
theorem dX7_item_16 : decode cX7_item 16 = .ok (.ifCond .eq 12, 3) := by decide +kernel
theorem dX7_item_19 : decode cX7_item 19 = .ok (.iload_n 3, 1) := by decide +kernel
theorem dX7_item_20 : decode cX7_item 20 = .ok (.iload 4, 2) := by decide +kernel
theorem dX7_item_22 : decode cX7_item 22 = .ok (.invokestatic 74, 3) := by decide +kernel
theorem dX7_item_25 : decode cX7_item 25 = .ok (.ifCond .ne 5, 3) := by decide +kernel
theorem dX7_item_28 : decode cX7_item 28 = .ok (.iconst (-1), 1) := by decide +kernel
theorem dX7_item_29 : decode cX7_item 29 = .ok (.ireturn, 1) := by decide +kernel
theorem dX7_item_30 : decode cX7_item 30 = .ok (.aload_n 0, 1) := by decide +kernel
theorem dX7_item_31 : decode cX7_item 31 = .ok (.iload_n 1, 1) := by decide +kernel
theorem dX7_item_32 : decode cX7_item 32 = .ok (.invokevirtual 78, 3) := by decide +kernel
theorem dX7_item_35 : decode cX7_item 35 = .ok (.ifCond .eq 6, 3) := by decide +kernel
theorem dX7_item_38 : decode cX7_item 38 = .ok (.bipush (-2), 2) := by decide +kernel
theorem dX7_item_40 : decode cX7_item 40 = .ok (.ireturn, 1) := by decide +kernel
theorem dX7_item_41 : decode cX7_item 41 = .ok (.aload 5, 2) := by decide +kernel
theorem dX7_item_43 : decode cX7_item 43 = .ok (.getfield 81, 3) := by decide +kernel
theorem dX7_item_46 : decode cX7_item 46 = .ok (.iload_n 2, 1) := by decide +kernel
theorem dX7_item_47 : decode cX7_item 47 = .ok (.iaload, 1) := by decide +kernel
theorem dX7_item_48 : decode cX7_item 48 = .ok (.istore 6, 2) := by decide +kernel
theorem dX7_item_50 : decode cX7_item 50 = .ok (.aload 5, 2) := by decide +kernel
theorem dX7_item_52 : decode cX7_item 52 = .ok (.iload_n 2, 1) := by decide +kernel
theorem dX7_item_53 : decode cX7_item 53 = .ok (.iload_n 3, 1) := by decide +kernel
theorem dX7_item_54 : decode cX7_item 54 = .ok (.iload 4, 2) := by decide +kernel
theorem dX7_item_56 : decode cX7_item 56 = .ok (.invokevirtual 85, 3) := by decide +kernel
theorem dX7_item_59 : decode cX7_item 59 = .ok (.iload 6, 2) := by decide +kernel
theorem dX7_item_61 : decode cX7_item 61 = .ok (.ireturn, 1) := by decide +kernel
theorem dX7_part_0 : decode cX7_part 0 = .ok (.aload_n 0, 1) := by decide +kernel
theorem dX7_part_1 : decode cX7_part 1 = .ok (.iload_n 1, 1) := by decide +kernel
theorem dX7_part_2 : decode cX7_part 2 = .ok (.invokevirtual 66, 3) := by decide +kernel
theorem dX7_part_5 : decode cX7_part 5 = .ok (.astore 5, 2) := by decide +kernel
theorem dX7_part_7 : decode cX7_part 7 = .ok (.aload 5, 2) := by decide +kernel
theorem dX7_part_9 : decode cX7_part 9 = .ok (.ifnull 21, 3) := by decide +kernel
theorem dX7_part_12 : decode cX7_part 12 = .ok (.iload_n 2, 1) := by decide +kernel
theorem dX7_part_13 : decode cX7_part 13 = .ok (.invokestatic 70, 3) := by decide +kernel
theorem dX7_part_16 : decode cX7_part 16 = .ok (.ifCond .eq 14, 3) := by decide +kernel
theorem dX7_part_19 : decode cX7_part 19 = .ok (.aload 5, 2) := by decide +kernel
theorem dX7_part_21 : decode cX7_part 21 = .ok (.getfield 81, 3) := by decide +kernel
theorem dX7_part_24 : decode cX7_part 24 = .ok (.iload_n 2, 1) := by decide +kernel
theorem dX7_part_25 : decode cX7_part 25 = .ok (.iaload, 1) := by decide +kernel
theorem dX7_part_26 : decode cX7_part 26 = .ok (.iconst 3, 1) := by decide +kernel
theorem dX7_part_27 : decode cX7_part 27 = .ok (.if_icmp .eq 5, 3) := by decide +kernel
theorem dX7_part_30 : decode cX7_part 30 = .ok (.iconst (-1), 1) := by decide +kernel
theorem dX7_part_31 : decode cX7_part 31 = .ok (.ireturn, 1) := by decide +kernel
theorem dX7_part_32 : decode cX7_part 32 = .ok (.iload_n 3, 1) := by decide +kernel
theorem dX7_part_33 : decode cX7_part 33 = .ok (.ifCond .lt 20, 3) := by decide +kernel
theorem dX7_part_36 : decode cX7_part 36 = .ok (.iload_n 3, 1) := by decide +kernel
theorem dX7_part_37 : decode cX7_part 37 = .ok (.bipush 14, 2) := by decide +kernel
theorem dX7_part_39 : decode cX7_part 39 = .ok (.if_icmp .ge 14, 3) := by decide +kernel
theorem dX7_part_42 : decode cX7_part 42 = .ok (.iload 4, 2) := by decide +kernel
theorem dX7_part_44 : decode cX7_part 44 = .ok (.ifCond .lt 9, 3) := by decide +kernel
theorem dX7_part_47 : decode cX7_part 47 = .ok (.iload 4, 2) := by decide +kernel
theorem dX7_part_49 : decode cX7_part 49 = .ok (.iconst 4, 1) := by decide +kernel
theorem dX7_part_50 : decode cX7_part 50 = .ok (.if_icmp .le 5, 3) := by decide +kernel
theorem dX7_part_53 : decode cX7_part 53 = .ok (.iconst (-1), 1) := by decide +kernel
theorem dX7_part_54 : decode cX7_part 54 = .ok (.ireturn, 1) := by decide +kernel
theorem dX7_part_55 : decode cX7_part 55 = .ok (.aload_n 0, 1) := by decide +kernel
theorem dX7_part_56 : decode cX7_part 56 = .ok (.iload_n 1, 1) := by decide +kernel
theorem dX7_part_57 : decode cX7_part 57 = .ok (.invokevirtual 78, 3) := by decide +kernel
theorem dX7_part_60 : decode cX7_part 60 = .ok (.ifCond .eq 6, 3) := by decide +kernel
theorem dX7_part_63 : decode cX7_part 63 = .ok (.bipush (-2), 2) := by decide +kernel
theorem dX7_part_65 : decode cX7_part 65 = .ok (.ireturn, 1) := by decide +kernel
theorem dX7_part_66 : decode cX7_part 66 = .ok (.aload 5, 2) := by decide +kernel
theorem dX7_part_68 : decode cX7_part 68 = .ok (.iload_n 2, 1) := by decide +kernel
theorem dX7_part_69 : decode cX7_part 69 = .ok (.iload_n 3, 1) := by decide +kernel
theorem dX7_part_70 : decode cX7_part 70 = .ok (.invokevirtual 89, 3) := by decide +kernel
theorem dX7_part_73 : decode cX7_part 73 = .ok (.istore 6, 2) := by decide +kernel
theorem dX7_part_75 : decode cX7_part 75 = .ok (.aload 5, 2) := by decide +kernel
theorem dX7_part_77 : decode cX7_part 77 = .ok (.iload_n 2, 1) := by decide +kernel
theorem dX7_part_78 : decode cX7_part 78 = .ok (.iload_n 3, 1) := by decide +kernel
theorem dX7_part_79 : decode cX7_part 79 = .ok (.iload 4, 2) := by decide +kernel
theorem dX7_part_81 : decode cX7_part 81 = .ok (.invokevirtual 93, 3) := by decide +kernel
theorem dX7_part_84 : decode cX7_part 84 = .ok (.iload 6, 2) := by decide +kernel
theorem dX7_part_86 : decode cX7_part 86 = .ok (.ireturn, 1) := by decide +kernel
theorem dX7_tells_0 : decode cX7_tells 0 = .ok (.aload_n 0, 1) := by decide +kernel
theorem dX7_tells_1 : decode cX7_tells 1 = .ok (.iload_n 1, 1) := by decide +kernel
theorem dX7_tells_2 : decode cX7_tells 2 = .ok (.invokevirtual 66, 3) := by decide +kernel
theorem dX7_tells_5 : decode cX7_tells 5 = .ok (.astore 4, 2) := by decide +kernel
theorem dX7_tells_7 : decode cX7_tells 7 = .ok (.aload 4, 2) := by decide +kernel
theorem dX7_tells_9 : decode cX7_tells 9 = .ok (.ifnull 17, 3) := by decide +kernel
theorem dX7_tells_12 : decode cX7_tells 12 = .ok (.iload_n 2, 1) := by decide +kernel
theorem dX7_tells_13 : decode cX7_tells 13 = .ok (.invokestatic 70, 3) := by decide +kernel
theorem dX7_tells_16 : decode cX7_tells 16 = .ok (.ifCond .eq 10, 3) := by decide +kernel
theorem dX7_tells_19 : decode cX7_tells 19 = .ok (.iload_n 3, 1) := by decide +kernel
theorem dX7_tells_20 : decode cX7_tells 20 = .ok (.invokestatic 70, 3) := by decide +kernel
theorem dX7_tells_23 : decode cX7_tells 23 = .ok (.ifCond .ne 5, 3) := by decide +kernel
theorem dX7_tells_26 : decode cX7_tells 26 = .ok (.iconst (-1), 1) := by decide +kernel
theorem dX7_tells_27 : decode cX7_tells 27 = .ok (.ireturn, 1) := by decide +kernel
theorem dX7_tells_28 : decode cX7_tells 28 = .ok (.aload 4, 2) := by decide +kernel
theorem dX7_tells_30 : decode cX7_tells 30 = .ok (.iload_n 2, 1) := by decide +kernel
theorem dX7_tells_31 : decode cX7_tells 31 = .ok (.iconst 2, 1) := by decide +kernel
theorem dX7_tells_32 : decode cX7_tells 32 = .ok (.invokevirtual 96, 3) := by decide +kernel
theorem dX7_tells_35 : decode cX7_tells 35 = .ok (.ifCond .eq 13, 3) := by decide +kernel
theorem dX7_tells_38 : decode cX7_tells 38 = .ok (.aload 4, 2) := by decide +kernel
theorem dX7_tells_40 : decode cX7_tells 40 = .ok (.iload_n 3, 1) := by decide +kernel
theorem dX7_tells_41 : decode cX7_tells 41 = .ok (.iconst 4, 1) := by decide +kernel
theorem dX7_tells_42 : decode cX7_tells 42 = .ok (.invokevirtual 96, 3) := by decide +kernel
theorem dX7_tells_45 : decode cX7_tells 45 = .ok (.ifCond .ne 5, 3) := by decide +kernel
theorem dX7_tells_48 : decode cX7_tells 48 = .ok (.iconst (-1), 1) := by decide +kernel
theorem dX7_tells_49 : decode cX7_tells 49 = .ok (.ireturn, 1) := by decide +kernel
theorem dX7_tells_50 : decode cX7_tells 50 = .ok (.aload 4, 2) := by decide +kernel
theorem dX7_tells_52 : decode cX7_tells 52 = .ok (.iload_n 2, 1) := by decide +kernel
theorem dX7_tells_53 : decode cX7_tells 53 = .ok (.putfield 99, 3) := by decide +kernel
theorem dX7_tells_56 : decode cX7_tells 56 = .ok (.aload 4, 2) := by decide +kernel
theorem dX7_tells_58 : decode cX7_tells 58 = .ok (.iload_n 3, 1) := by decide +kernel
theorem dX7_tells_59 : decode cX7_tells 59 = .ok (.putfield 102, 3) := by decide +kernel
theorem dX7_tells_62 : decode cX7_tells 62 = .ok (.iconst 1, 1) := by decide +kernel
theorem dX7_tells_63 : decode cX7_tells 63 = .ok (.ireturn, 1) := by decide +kernel
theorem dX7_table_0 : decode cX7_table 0 = .ok (.aload_n 0, 1) := by decide +kernel
theorem dX7_table_1 : decode cX7_table 1 = .ok (.iload_n 1, 1) := by decide +kernel
theorem dX7_table_2 : decode cX7_table 2 = .ok (.invokevirtual 66, 3) := by decide +kernel
theorem dX7_table_5 : decode cX7_table 5 = .ok (.astore 4, 2) := by decide +kernel
theorem dX7_table_7 : decode cX7_table 7 = .ok (.aload 4, 2) := by decide +kernel
theorem dX7_table_9 : decode cX7_table 9 = .ok (.ifnull 20, 3) := by decide +kernel
theorem dX7_table_12 : decode cX7_table 12 = .ok (.iload_n 2, 1) := by decide +kernel
theorem dX7_table_13 : decode cX7_table 13 = .ok (.invokestatic 70, 3) := by decide +kernel
theorem dX7_table_16 : decode cX7_table 16 = .ok (.ifCond .eq 13, 3) := by decide +kernel
theorem dX7_table_19 : decode cX7_table 19 = .ok (.iload_n 3, 1) := by decide +kernel
theorem dX7_table_20 : decode cX7_table 20 = .ok (.ifCond .lt 9, 3) := by decide +kernel
theorem dX7_table_23 : decode cX7_table 23 = .ok (.iload_n 3, 1) := by decide +kernel
theorem dX7_table_24 : decode cX7_table 24 = .ok (.bipush 15, 2) := by decide +kernel
theorem dX7_table_26 : decode cX7_table 26 = .ok (.if_icmp .le 5, 3) := by decide +kernel
theorem dX7_table_29 : decode cX7_table 29 = .ok (.iconst (-1), 1) := by decide +kernel
theorem dX7_table_30 : decode cX7_table 30 = .ok (.ireturn, 1) := by decide +kernel
theorem dX7_table_31 : decode cX7_table 31 = .ok (.iload_n 3, 1) := by decide +kernel
theorem dX7_table_32 : decode cX7_table 32 = .ok (.ifCond .ne 11, 3) := by decide +kernel
theorem dX7_table_35 : decode cX7_table 35 = .ok (.aload 4, 2) := by decide +kernel
theorem dX7_table_37 : decode cX7_table 37 = .ok (.getfield 81, 3) := by decide +kernel
theorem dX7_table_40 : decode cX7_table 40 = .ok (.iload_n 2, 1) := by decide +kernel
theorem dX7_table_41 : decode cX7_table 41 = .ok (.iaload, 1) := by decide +kernel
theorem dX7_table_42 : decode cX7_table 42 = .ok (.ireturn, 1) := by decide +kernel
theorem dX7_table_43 : decode cX7_table 43 = .ok (.iload_n 3, 1) := by decide +kernel
theorem dX7_table_44 : decode cX7_table 44 = .ok (.iconst 1, 1) := by decide +kernel
theorem dX7_table_45 : decode cX7_table 45 = .ok (.if_icmp .ne 11, 3) := by decide +kernel
theorem dX7_table_48 : decode cX7_table 48 = .ok (.aload 4, 2) := by decide +kernel
theorem dX7_table_50 : decode cX7_table 50 = .ok (.getfield 105, 3) := by decide +kernel
theorem dX7_table_53 : decode cX7_table 53 = .ok (.iload_n 2, 1) := by decide +kernel
theorem dX7_table_54 : decode cX7_table 54 = .ok (.iaload, 1) := by decide +kernel
theorem dX7_table_55 : decode cX7_table 55 = .ok (.ireturn, 1) := by decide +kernel
theorem dX7_table_56 : decode cX7_table 56 = .ok (.aload 4, 2) := by decide +kernel
theorem dX7_table_58 : decode cX7_table 58 = .ok (.iload_n 2, 1) := by decide +kernel
theorem dX7_table_59 : decode cX7_table 59 = .ok (.iload_n 3, 1) := by decide +kernel
theorem dX7_table_60 : decode cX7_table 60 = .ok (.iconst 2, 1) := by decide +kernel
theorem dX7_table_61 : decode cX7_table 61 = .ok (.isub, 1) := by decide +kernel
theorem dX7_table_62 : decode cX7_table 62 = .ok (.invokevirtual 89, 3) := by decide +kernel
theorem dX7_table_65 : decode cX7_table 65 = .ok (.ireturn, 1) := by decide +kernel
theorem dX7_feed_0 : decode cX7_feed 0 = .ok (.iload_n 3, 1) := by decide +kernel
theorem dX7_feed_1 : decode cX7_feed 1 = .ok (.iconst 1, 1) := by decide +kernel
theorem dX7_feed_2 : decode cX7_feed 2 = .ok (.if_icmp .lt 9, 3) := by decide +kernel
theorem dX7_feed_5 : decode cX7_feed 5 = .ok (.iload_n 3, 1) := by decide +kernel
theorem dX7_feed_6 : decode cX7_feed 6 = .ok (.bipush 8, 2) := by decide +kernel
theorem dX7_feed_8 : decode cX7_feed 8 = .ok (.if_icmp .le 5, 3) := by decide +kernel
theorem dX7_feed_11 : decode cX7_feed 11 = .ok (.iconst (-1), 1) := by decide +kernel
theorem dX7_feed_12 : decode cX7_feed 12 = .ok (.ireturn, 1) := by decide +kernel
theorem dX7_feed_13 : decode cX7_feed 13 = .ok (.aload_n 0, 1) := by decide +kernel
theorem dX7_feed_14 : decode cX7_feed 14 = .ok (.getfield 18, 3) := by decide +kernel
theorem dX7_feed_17 : decode cX7_feed 17 = .ok (.iload_n 3, 1) := by decide +kernel
theorem dX7_feed_18 : decode cX7_feed 18 = .ok (.invokevirtual 108, 3) := by decide +kernel
theorem dX7_feed_21 : decode cX7_feed 21 = .ok (.ifCond .ne 6, 3) := by decide +kernel
theorem dX7_feed_24 : decode cX7_feed 24 = .ok (.bipush (-3), 2) := by decide +kernel
theorem dX7_feed_26 : decode cX7_feed 26 = .ok (.ireturn, 1) := by decide +kernel
theorem dX7_feed_27 : decode cX7_feed 27 = .ok (.iload_n 3, 1) := by decide +kernel
theorem dX7_feed_28 : decode cX7_feed 28 = .ok (.iconst 1, 1) := by decide +kernel
theorem dX7_feed_29 : decode cX7_feed 29 = .ok (.isub, 1) := by decide +kernel
theorem dX7_feed_30 : decode cX7_feed 30 = .ok (.istore 4, 2) := by decide +kernel
theorem dX7_feed_32 : decode cX7_feed 32 = .ok (.iload 4, 2) := by decide +kernel
theorem dX7_feed_34 : decode cX7_feed 34 = .ok (.ifCond .lt 28, 3) := by decide +kernel
theorem dX7_feed_37 : decode cX7_feed 37 = .ok (.aload_n 0, 1) := by decide +kernel
theorem dX7_feed_38 : decode cX7_feed 38 = .ok (.getfield 18, 3) := by decide +kernel
theorem dX7_feed_41 : decode cX7_feed 41 = .ok (.lload_n 1, 1) := by decide +kernel
theorem dX7_feed_42 : decode cX7_feed 42 = .ok (.bipush 8, 2) := by decide +kernel
theorem dX7_feed_44 : decode cX7_feed 44 = .ok (.iload 4, 2) := by decide +kernel
theorem dX7_feed_46 : decode cX7_feed 46 = .ok (.imul, 1) := by decide +kernel
theorem dX7_feed_47 : decode cX7_feed 47 = .ok (.lshr, 1) := by decide +kernel
theorem dX7_feed_48 : decode cX7_feed 48 = .ok (.l2i, 1) := by decide +kernel
theorem dX7_feed_49 : decode cX7_feed 49 = .ok (.sipush 255, 3) := by decide +kernel
theorem dX7_feed_52 : decode cX7_feed 52 = .ok (.iand, 1) := by decide +kernel
theorem dX7_feed_53 : decode cX7_feed 53 = .ok (.invokevirtual 111, 3) := by decide +kernel
theorem dX7_feed_56 : decode cX7_feed 56 = .ok (.iinc 4 (-1), 3) := by decide +kernel
theorem dX7_feed_59 : decode cX7_feed 59 = .ok (.goto (-27), 3) := by decide +kernel
theorem dX7_feed_62 : decode cX7_feed 62 = .ok (.aload_n 0, 1) := by decide +kernel
theorem dX7_feed_63 : decode cX7_feed 63 = .ok (.getfield 18, 3) := by decide +kernel
theorem dX7_feed_66 : decode cX7_feed 66 = .ok (.getfield 114, 3) := by decide +kernel
theorem dX7_feed_69 : decode cX7_feed 69 = .ok (.ireturn, 1) := by decide +kernel
