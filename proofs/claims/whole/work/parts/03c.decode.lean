theorem dX8_init_0 : decode cX8_init 0 = .ok (.aload_n 0, 1) := by decide +kernel
theorem dX8_init_1 : decode cX8_init 1 = .ok (.invokespecial 1, 3) := by decide +kernel
theorem dX8_init_4 : decode cX8_init 4 = .ok (.aload_n 0, 1) := by decide +kernel
theorem dX8_init_5 : decode cX8_init 5 = .ok (.bipush 7, 2) := by decide +kernel
theorem dX8_init_7 : decode cX8_init 7 = .ok (.putfield 7, 3) := by decide +kernel
theorem dX8_init_10 : decode cX8_init 10 = .ok (.aload_n 0, 1) := by decide +kernel
theorem dX8_init_11 : decode cX8_init 11 = .ok (.iconst 1, 1) := by decide +kernel
theorem dX8_init_12 : decode cX8_init 12 = .ok (.putfield 13, 3) := by decide +kernel
theorem dX8_init_15 : decode cX8_init 15 = .ok (.aload_n 0, 1) := by decide +kernel
theorem dX8_init_16 : decode cX8_init 16 = .ok (.bipush 6, 2) := by decide +kernel
theorem dX8_init_18 : decode cX8_init 18 = .ok (.newarray .int, 2) := by decide +kernel
theorem dX8_init_20 : decode cX8_init 20 = .ok (.putfield 16, 3) := by decide +kernel
theorem dX8_init_23 : decode cX8_init 23 = .ok (.aload_n 0, 1) := by decide +kernel
theorem dX8_init_24 : decode cX8_init 24 = .ok (.sipush 384, 3) := by decide +kernel
theorem dX8_init_27 : decode cX8_init 27 = .ok (.newarray .int, 2) := by decide +kernel
theorem dX8_init_29 : decode cX8_init 29 = .ok (.putfield 20, 3) := by decide +kernel
theorem dX8_init_32 : decode cX8_init 32 = .ok (.aload_n 0, 1) := by decide +kernel
theorem dX8_init_33 : decode cX8_init 33 = .ok (.bipush 34, 2) := by decide +kernel
theorem dX8_init_35 : decode cX8_init 35 = .ok (.newarray .int, 2) := by decide +kernel
theorem dX8_init_37 : decode cX8_init 37 = .ok (.putfield 23, 3) := by decide +kernel
theorem dX8_init_40 : decode cX8_init 40 = .ok (.aload_n 0, 1) := by decide +kernel
theorem dX8_init_41 : decode cX8_init 41 = .ok (.bipush 34, 2) := by decide +kernel
theorem dX8_init_43 : decode cX8_init 43 = .ok (.newarray .int, 2) := by decide +kernel
theorem dX8_init_45 : decode cX8_init 45 = .ok (.putfield 26, 3) := by decide +kernel
theorem dX8_init_48 : decode cX8_init 48 = .ok (.aload_n 0, 1) := by decide +kernel
theorem dX8_init_49 : decode cX8_init 49 = .ok (.bipush 34, 2) := by decide +kernel
theorem dX8_init_51 : decode cX8_init 51 = .ok (.newarray .int, 2) := by decide +kernel
theorem dX8_init_53 : decode cX8_init 53 = .ok (.putfield 29, 3) := by decide +kernel
theorem dX8_init_56 : decode cX8_init 56 = .ok (.aload_n 0, 1) := by decide +kernel
theorem dX8_init_57 : decode cX8_init 57 = .ok (.bipush 32, 2) := by decide +kernel
theorem dX8_init_59 : decode cX8_init 59 = .ok (.newarray .int, 2) := by decide +kernel
theorem dX8_init_61 : decode cX8_init 61 = .ok (.putfield 32, 3) := by decide +kernel
theorem dX8_init_64 : decode cX8_init 64 = .ok (.aload_n 0, 1) := by decide +kernel
theorem dX8_init_65 : decode cX8_init 65 = .ok (.sipush 4096, 3) := by decide +kernel
theorem dX8_init_68 : decode cX8_init 68 = .ok (.newarray .int, 2) := by decide +kernel
theorem dX8_init_70 : decode cX8_init 70 = .ok (.putfield 35, 3) := by decide +kernel
theorem dX8_init_73 : decode cX8_init 73 = .ok (.aload_n 0, 1) := by decide +kernel
theorem dX8_init_74 : decode cX8_init 74 = .ok (.bipush 120, 2) := by decide +kernel
theorem dX8_init_76 : decode cX8_init 76 = .ok (.newarray .int, 2) := by decide +kernel
theorem dX8_init_78 : decode cX8_init 78 = .ok (.putfield 38, 3) := by decide +kernel
theorem dX8_init_81 : decode cX8_init 81 = .ok (.aload_n 0, 1) := by decide +kernel
theorem dX8_init_82 : decode cX8_init 82 = .ok (.iconst (-1), 1) := by decide +kernel
theorem dX8_init_83 : decode cX8_init 83 = .ok (.putfield 41, 3) := by decide +kernel
theorem dX8_init_86 : decode cX8_init 86 = .ok (.aload_n 0, 1) := by decide +kernel
theorem dX8_init_87 : decode cX8_init 87 = .ok (.sipush 130, 3) := by decide +kernel
theorem dX8_init_90 : decode cX8_init 90 = .ok (.newarray .int, 2) := by decide +kernel
theorem dX8_init_92 : decode cX8_init 92 = .ok (.putfield 44, 3) := by decide +kernel
theorem dX8_init_95 : decode cX8_init 95 = .ok (.aload_n 0, 1) := by decide +kernel
theorem dX8_init_96 : decode cX8_init 96 = .ok (.sipush 130, 3) := by decide +kernel
theorem dX8_init_99 : decode cX8_init 99 = .ok (.newarray .int, 2) := by decide +kernel
theorem dX8_init_101 : decode cX8_init 101 = .ok (.putfield 47, 3) := by decide +kernel
theorem dX8_init_104 : decode cX8_init 104 = .ok (.aload_n 0, 1) := by decide +kernel
theorem dX8_init_105 : decode cX8_init 105 = .ok (.sipush 130, 3) := by decide +kernel
theorem dX8_init_108 : decode cX8_init 108 = .ok (.newarray .int, 2) := by decide +kernel
theorem dX8_init_110 : decode cX8_init 110 = .ok (.putfield 50, 3) := by decide +kernel
theorem dX8_init_113 : decode cX8_init 113 = .ok (.aload_n 0, 1) := by decide +kernel
theorem dX8_init_114 : decode cX8_init 114 = .ok (.sipush 130, 3) := by decide +kernel
theorem dX8_init_117 : decode cX8_init 117 = .ok (.newarray .boolean, 2) := by decide +kernel
theorem dX8_init_119 : decode cX8_init 119 = .ok (.putfield 53, 3) := by decide +kernel
theorem dX8_init_122 : decode cX8_init 122 = .ok (.aload_n 0, 1) := by decide +kernel
theorem dX8_init_123 : decode cX8_init 123 = .ok (.bipush 12, 2) := by decide +kernel
theorem dX8_init_125 : decode cX8_init 125 = .ok (.newarray .int, 2) := by decide +kernel
theorem dX8_init_127 : decode cX8_init 127 = .ok (.putfield 57, 3) := by decide +kernel
theorem dX8_init_130 : decode cX8_init 130 = .ok (.aload_n 0, 1) := by decide +kernel
theorem dX8_init_131 : decode cX8_init 131 = .ok (.bipush 64, 2) := by decide +kernel
theorem dX8_init_133 : decode cX8_init 133 = .ok (.newarray .long, 2) := by decide +kernel
theorem dX8_init_135 : decode cX8_init 135 = .ok (.putfield 60, 3) := by decide +kernel
theorem dX8_init_138 : decode cX8_init 138 = .ok (.aload_n 0, 1) := by decide +kernel
theorem dX8_init_139 : decode cX8_init 139 = .ok (.iconst 3, 1) := by decide +kernel
theorem dX8_init_140 : decode cX8_init 140 = .ok (.newarray .int, 2) := by decide +kernel
theorem dX8_init_142 : decode cX8_init 142 = .ok (.putfield 64, 3) := by decide +kernel
theorem dX8_init_145 : decode cX8_init 145 = .ok (.aload_n 0, 1) := by decide +kernel
theorem dX8_init_146 : decode cX8_init 146 = .ok (.invokevirtual 67, 3) := by decide +kernel
theorem dX8_init_149 : decode cX8_init 149 = .ok (.return_, 1) := by decide +kernel
theorem dX8_in_0 : decode cX8_in 0 = .ok (.lload_n 0, 1) := by decide +kernel
theorem dX8_in_1 : decode cX8_in 1 = .ok (.lload_n 2, 1) := by decide +kernel
theorem dX8_in_2 : decode cX8_in 2 = .ok (.lcmp, 1) := by decide +kernel
theorem dX8_in_3 : decode cX8_in 3 = .ok (.ifCond .lt 14, 3) := by decide +kernel
theorem dX8_in_6 : decode cX8_in 6 = .ok (.lload_n 0, 1) := by decide +kernel
theorem dX8_in_7 : decode cX8_in 7 = .ok (.lload 4, 2) := by decide +kernel
theorem dX8_in_9 : decode cX8_in 9 = .ok (.lcmp, 1) := by decide +kernel
theorem dX8_in_10 : decode cX8_in 10 = .ok (.ifCond .gt 7, 3) := by decide +kernel
theorem dX8_in_13 : decode cX8_in 13 = .ok (.iconst 1, 1) := by decide +kernel
theorem dX8_in_14 : decode cX8_in 14 = .ok (.goto 4, 3) := by decide +kernel
theorem dX8_in_17 : decode cX8_in 17 = .ok (.iconst 0, 1) := by decide +kernel
theorem dX8_in_18 : decode cX8_in 18 = .ok (.ireturn, 1) := by decide +kernel
theorem dX8_bits_0 : decode cX8_bits 0 = .ok (.iconst 0, 1) := by decide +kernel
theorem dX8_bits_1 : decode cX8_bits 1 = .ok (.istore_n 1, 1) := by decide +kernel
theorem dX8_bits_2 : decode cX8_bits 2 = .ok (.iconst 0, 1) := by decide +kernel
theorem dX8_bits_3 : decode cX8_bits 3 = .ok (.istore_n 2, 1) := by decide +kernel
theorem dX8_bits_4 : decode cX8_bits 4 = .ok (.iload_n 2, 1) := by decide +kernel
theorem dX8_bits_5 : decode cX8_bits 5 = .ok (.bipush 12, 2) := by decide +kernel
theorem dX8_bits_7 : decode cX8_bits 7 = .ok (.if_icmp .ge 17, 3) := by decide +kernel
theorem dX8_bits_10 : decode cX8_bits 10 = .ok (.iload_n 1, 1) := by decide +kernel
theorem dX8_bits_11 : decode cX8_bits 11 = .ok (.iload_n 0, 1) := by decide +kernel
theorem dX8_bits_12 : decode cX8_bits 12 = .ok (.iload_n 2, 1) := by decide +kernel
theorem dX8_bits_13 : decode cX8_bits 13 = .ok (.ishr, 1) := by decide +kernel
theorem dX8_bits_14 : decode cX8_bits 14 = .ok (.iconst 1, 1) := by decide +kernel
theorem dX8_bits_15 : decode cX8_bits 15 = .ok (.iand, 1) := by decide +kernel
theorem dX8_bits_16 : decode cX8_bits 16 = .ok (.iadd, 1) := by decide +kernel
theorem dX8_bits_17 : decode cX8_bits 17 = .ok (.istore_n 1, 1) := by decide +kernel
theorem dX8_bits_18 : decode cX8_bits 18 = .ok (.iinc 2 1, 3) := by decide +kernel
theorem dX8_bits_21 : decode cX8_bits 21 = .ok (.goto (-17), 3) := by decide +kernel
theorem dX8_bits_24 : decode cX8_bits 24 = .ok (.iload_n 1, 1) := by decide +kernel
theorem dX8_bits_25 : decode cX8_bits 25 = .ok (.ireturn, 1) := by decide +kernel
theorem dX8_isMark_0 : decode cX8_isMark 0 = .ok (.iload_n 1, 1) := by decide +kernel
theorem dX8_isMark_1 : decode cX8_isMark 1 = .ok (.i2l, 1) := by decide +kernel
theorem dX8_isMark_2 : decode cX8_isMark 2 = .ok (.lconst 0, 1) := by decide +kernel
theorem dX8_isMark_3 : decode cX8_isMark 3 = .ok (.iconst 1, 1) := by decide +kernel
theorem dX8_isMark_4 : decode cX8_isMark 4 = .ok (.aload_n 0, 1) := by decide +kernel
theorem dX8_isMark_5 : decode cX8_isMark 5 = .ok (.getfield 7, 3) := by decide +kernel
theorem dX8_isMark_8 : decode cX8_isMark 8 = .ok (.ishl, 1) := by decide +kernel
theorem dX8_isMark_9 : decode cX8_isMark 9 = .ok (.iconst 1, 1) := by decide +kernel
theorem dX8_isMark_10 : decode cX8_isMark 10 = .ok (.isub, 1) := by decide +kernel
theorem dX8_isMark_11 : decode cX8_isMark 11 = .ok (.i2l, 1) := by decide +kernel
theorem dX8_isMark_12 : decode cX8_isMark 12 = .ok (.invokestatic 70, 3) := by decide +kernel
theorem dX8_isMark_15 : decode cX8_isMark 15 = .ok (.ireturn, 1) := by decide +kernel
theorem dX8_isList_0 : decode cX8_isList 0 = .ok (.iload_n 0, 1) := by decide +kernel
theorem dX8_isList_1 : decode cX8_isList 1 = .ok (.i2l, 1) := by decide +kernel
theorem dX8_isList_2 : decode cX8_isList 2 = .ok (.lconst 0, 1) := by decide +kernel
theorem dX8_isList_3 : decode cX8_isList 3 = .ok (.ldc2_w 74, 3) := by decide +kernel
theorem dX8_isList_6 : decode cX8_isList 6 = .ok (.invokestatic 70, 3) := by decide +kernel
theorem dX8_isList_9 : decode cX8_isList 9 = .ok (.ireturn, 1) := by decide +kernel
theorem dX8_isOf_0 : decode cX8_isOf 0 = .ok (.iload_n 1, 1) := by decide +kernel
theorem dX8_isOf_1 : decode cX8_isOf 1 = .ok (.invokestatic 76, 3) := by decide +kernel
theorem dX8_isOf_4 : decode cX8_isOf 4 = .ok (.ifCond .eq 25, 3) := by decide +kernel
theorem dX8_isOf_7 : decode cX8_isOf 7 = .ok (.iload_n 2, 1) := by decide +kernel
theorem dX8_isOf_8 : decode cX8_isOf 8 = .ok (.i2l, 1) := by decide +kernel
theorem dX8_isOf_9 : decode cX8_isOf 9 = .ok (.lconst 0, 1) := by decide +kernel
theorem dX8_isOf_10 : decode cX8_isOf 10 = .ok (.aload_n 0, 1) := by decide +kernel
theorem dX8_isOf_11 : decode cX8_isOf 11 = .ok (.getfield 16, 3) := by decide +kernel
theorem dX8_isOf_14 : decode cX8_isOf 14 = .ok (.iload_n 1, 1) := by decide +kernel
theorem dX8_isOf_15 : decode cX8_isOf 15 = .ok (.iaload, 1) := by decide +kernel
theorem dX8_isOf_16 : decode cX8_isOf 16 = .ok (.iconst 1, 1) := by decide +kernel
theorem dX8_isOf_17 : decode cX8_isOf 17 = .ok (.isub, 1) := by decide +kernel
theorem dX8_isOf_18 : decode cX8_isOf 18 = .ok (.i2l, 1) := by decide +kernel
theorem dX8_isOf_19 : decode cX8_isOf 19 = .ok (.invokestatic 70, 3) := by decide +kernel
theorem dX8_isOf_22 : decode cX8_isOf 22 = .ok (.ifCond .eq 7, 3) := by decide +kernel
theorem dX8_isOf_25 : decode cX8_isOf 25 = .ok (.iconst 1, 1) := by decide +kernel
theorem dX8_isOf_26 : decode cX8_isOf 26 = .ok (.goto 4, 3) := by decide +kernel
theorem dX8_isOf_29 : decode cX8_isOf 29 = .ok (.iconst 0, 1) := by decide +kernel
theorem dX8_isOf_30 : decode cX8_isOf 30 = .ok (.ireturn, 1) := by decide +kernel
theorem dX8_at_0 : decode cX8_at 0 = .ok (.aload_n 0, 1) := by decide +kernel
theorem dX8_at_1 : decode cX8_at 1 = .ok (.getfield 20, 3) := by decide +kernel
theorem dX8_at_4 : decode cX8_at 4 = .ok (.bipush 64, 2) := by decide +kernel
theorem dX8_at_6 : decode cX8_at 6 = .ok (.iload_n 1, 1) := by decide +kernel
theorem dX8_at_7 : decode cX8_at 7 = .ok (.imul, 1) := by decide +kernel
theorem dX8_at_8 : decode cX8_at 8 = .ok (.iload_n 2, 1) := by decide +kernel
theorem dX8_at_9 : decode cX8_at 9 = .ok (.iadd, 1) := by decide +kernel
theorem dX8_at_10 : decode cX8_at 10 = .ok (.iaload, 1) := by decide +kernel
theorem dX8_at_11 : decode cX8_at 11 = .ok (.ireturn, 1) := by decide +kernel
theorem dX8_empty_0 : decode cX8_empty 0 = .ok (.iconst 0, 1) := by decide +kernel
theorem dX8_empty_1 : decode cX8_empty 1 = .ok (.istore_n 1, 1) := by decide +kernel
theorem dX8_empty_2 : decode cX8_empty 2 = .ok (.iload_n 1, 1) := by decide +kernel
theorem dX8_empty_3 : decode cX8_empty 3 = .ok (.bipush 6, 2) := by decide +kernel
theorem dX8_empty_5 : decode cX8_empty 5 = .ok (.if_icmp .ge 16, 3) := by decide +kernel
theorem dX8_empty_8 : decode cX8_empty 8 = .ok (.aload_n 0, 1) := by decide +kernel
theorem dX8_empty_9 : decode cX8_empty 9 = .ok (.getfield 16, 3) := by decide +kernel
theorem dX8_empty_12 : decode cX8_empty 12 = .ok (.iload_n 1, 1) := by decide +kernel
theorem dX8_empty_13 : decode cX8_empty 13 = .ok (.iconst 0, 1) := by decide +kernel
theorem dX8_empty_14 : decode cX8_empty 14 = .ok (.iastore, 1) := by decide +kernel
theorem dX8_empty_15 : decode cX8_empty 15 = .ok (.iinc 1 1, 3) := by decide +kernel
theorem dX8_empty_18 : decode cX8_empty 18 = .ok (.goto (-16), 3) := by decide +kernel
theorem dX8_empty_21 : decode cX8_empty 21 = .ok (.iconst 0, 1) := by decide +kernel
theorem dX8_empty_22 : decode cX8_empty 22 = .ok (.istore_n 1, 1) := by decide +kernel
theorem dX8_empty_23 : decode cX8_empty 23 = .ok (.iload_n 1, 1) := by decide +kernel
theorem dX8_empty_24 : decode cX8_empty 24 = .ok (.bipush 12, 2) := by decide +kernel
theorem dX8_empty_26 : decode cX8_empty 26 = .ok (.if_icmp .ge 16, 3) := by decide +kernel
theorem dX8_empty_29 : decode cX8_empty 29 = .ok (.aload_n 0, 1) := by decide +kernel
theorem dX8_empty_30 : decode cX8_empty 30 = .ok (.getfield 57, 3) := by decide +kernel
theorem dX8_empty_33 : decode cX8_empty 33 = .ok (.iload_n 1, 1) := by decide +kernel
theorem dX8_empty_34 : decode cX8_empty 34 = .ok (.iconst (-1), 1) := by decide +kernel
theorem dX8_empty_35 : decode cX8_empty 35 = .ok (.iastore, 1) := by decide +kernel
theorem dX8_empty_36 : decode cX8_empty 36 = .ok (.iinc 1 1, 3) := by decide +kernel
theorem dX8_empty_39 : decode cX8_empty 39 = .ok (.goto (-16), 3) := by decide +kernel
theorem dX8_empty_42 : decode cX8_empty 42 = .ok (.return_, 1) := by decide +kernel
theorem dX8_places_0 : decode cX8_places 0 = .ok (.iload_n 1, 1) := by decide +kernel
theorem dX8_places_1 : decode cX8_places 1 = .ok (.i2l, 1) := by decide +kernel
theorem dX8_places_2 : decode cX8_places 2 = .ok (.ldc2_w 80, 3) := by decide +kernel
theorem dX8_places_5 : decode cX8_places 5 = .ok (.ldc2_w 82, 3) := by decide +kernel
theorem dX8_places_8 : decode cX8_places 8 = .ok (.invokestatic 70, 3) := by decide +kernel
theorem dX8_places_11 : decode cX8_places 11 = .ok (.ifCond .ne 7, 3) := by decide +kernel
theorem dX8_places_14 : decode cX8_places 14 = .ok (.sipush (-1002), 3) := by decide +kernel
theorem dX8_places_17 : decode cX8_places 17 = .ok (.ireturn, 1) := by decide +kernel
theorem dX8_places_18 : decode cX8_places 18 = .ok (.aload_n 0, 1) := by decide +kernel
theorem dX8_places_19 : decode cX8_places 19 = .ok (.iload_n 1, 1) := by decide +kernel
theorem dX8_places_20 : decode cX8_places 20 = .ok (.putfield 7, 3) := by decide +kernel
theorem dX8_places_23 : decode cX8_places 23 = .ok (.aload_n 0, 1) := by decide +kernel
theorem dX8_places_24 : decode cX8_places 24 = .ok (.invokevirtual 67, 3) := by decide +kernel
theorem dX8_places_27 : decode cX8_places 27 = .ok (.aload_n 0, 1) := by decide +kernel
theorem dX8_places_28 : decode cX8_places 28 = .ok (.getfield 7, 3) := by decide +kernel
theorem dX8_places_31 : decode cX8_places 31 = .ok (.ireturn, 1) := by decide +kernel
theorem dX8_island_0 : decode cX8_island 0 = .ok (.iload_n 1, 1) := by decide +kernel
theorem dX8_island_1 : decode cX8_island 1 = .ok (.i2l, 1) := by decide +kernel
theorem dX8_island_2 : decode cX8_island 2 = .ok (.lconst 0, 1) := by decide +kernel
theorem dX8_island_3 : decode cX8_island 3 = .ok (.ldc2_w 84, 3) := by decide +kernel
theorem dX8_island_6 : decode cX8_island 6 = .ok (.invokestatic 70, 3) := by decide +kernel
theorem dX8_island_9 : decode cX8_island 9 = .ok (.ifCond .eq 27, 3) := by decide +kernel
theorem dX8_island_12 : decode cX8_island 12 = .ok (.iload_n 2, 1) := by decide +kernel
theorem dX8_island_13 : decode cX8_island 13 = .ok (.i2l, 1) := by decide +kernel
theorem dX8_island_14 : decode cX8_island 14 = .ok (.lconst 0, 1) := by decide +kernel
theorem dX8_island_15 : decode cX8_island 15 = .ok (.ldc2_w 86, 3) := by decide +kernel
theorem dX8_island_18 : decode cX8_island 18 = .ok (.invokestatic 70, 3) := by decide +kernel
theorem dX8_island_21 : decode cX8_island 21 = .ok (.ifCond .eq 15, 3) := by decide +kernel
theorem dX8_island_24 : decode cX8_island 24 = .ok (.iload_n 3, 1) := by decide +kernel
theorem dX8_island_25 : decode cX8_island 25 = .ok (.i2l, 1) := by decide +kernel
theorem dX8_island_26 : decode cX8_island 26 = .ok (.lconst 0, 1) := by decide +kernel
theorem dX8_island_27 : decode cX8_island 27 = .ok (.ldc2_w 86, 3) := by decide +kernel
theorem dX8_island_30 : decode cX8_island 30 = .ok (.invokestatic 70, 3) := by decide +kernel
theorem dX8_island_33 : decode cX8_island 33 = .ok (.ifCond .ne 7, 3) := by decide +kernel
theorem dX8_island_36 : decode cX8_island 36 = .ok (.sipush (-1002), 3) := by decide +kernel
theorem dX8_island_39 : decode cX8_island 39 = .ok (.ireturn, 1) := by decide +kernel
theorem dX8_island_40 : decode cX8_island 40 = .ok (.aload_n 0, 1) := by decide +kernel
theorem dX8_island_41 : decode cX8_island 41 = .ok (.iload_n 1, 1) := by decide +kernel
theorem dX8_island_42 : decode cX8_island 42 = .ok (.putfield 88, 3) := by decide +kernel
theorem dX8_island_45 : decode cX8_island 45 = .ok (.aload_n 0, 1) := by decide +kernel
theorem dX8_island_46 : decode cX8_island 46 = .ok (.iload_n 2, 1) := by decide +kernel
theorem dX8_island_47 : decode cX8_island 47 = .ok (.putfield 13, 3) := by decide +kernel
theorem dX8_island_50 : decode cX8_island 50 = .ok (.aload_n 0, 1) := by decide +kernel
theorem dX8_island_51 : decode cX8_island 51 = .ok (.iload_n 3, 1) := by decide +kernel
theorem dX8_island_52 : decode cX8_island 52 = .ok (.putfield 91, 3) := by decide +kernel
theorem dX8_island_55 : decode cX8_island 55 = .ok (.iconst 1, 1) := by decide +kernel
theorem dX8_island_56 : decode cX8_island 56 = .ok (.ireturn, 1) := by decide +kernel
theorem dX8_is_0 : decode cX8_is 0 = .ok (.iload_n 1, 1) := by decide +kernel
theorem dX8_is_1 : decode cX8_is 1 = .ok (.tableswitch 51 0 3 #[31, 36, 41, 46], 31) := by decide +kernel
theorem dX8_is_32 : decode cX8_is 32 = .ok (.aload_n 0, 1) := by decide +kernel
theorem dX8_is_33 : decode cX8_is 33 = .ok (.getfield 7, 3) := by decide +kernel
theorem dX8_is_36 : decode cX8_is 36 = .ok (.ireturn, 1) := by decide +kernel
theorem dX8_is_37 : decode cX8_is 37 = .ok (.aload_n 0, 1) := by decide +kernel
theorem dX8_is_38 : decode cX8_is 38 = .ok (.getfield 88, 3) := by decide +kernel
theorem dX8_is_41 : decode cX8_is 41 = .ok (.ireturn, 1) := by decide +kernel
theorem dX8_is_42 : decode cX8_is 42 = .ok (.aload_n 0, 1) := by decide +kernel
theorem dX8_is_43 : decode cX8_is 43 = .ok (.getfield 13, 3) := by decide +kernel
theorem dX8_is_46 : decode cX8_is 46 = .ok (.ireturn, 1) := by decide +kernel
theorem dX8_is_47 : decode cX8_is 47 = .ok (.aload_n 0, 1) := by decide +kernel
theorem dX8_is_48 : decode cX8_is 48 = .ok (.getfield 91, 3) := by decide +kernel
theorem dX8_is_51 : decode cX8_is 51 = .ok (.ireturn, 1) := by decide +kernel
theorem dX8_is_52 : decode cX8_is 52 = .ok (.sipush (-1002), 3) := by decide +kernel
theorem dX8_is_55 : decode cX8_is 55 = .ok (.ireturn, 1) := by decide +kernel
theorem dX8_turnedOf_0 : decode cX8_turnedOf 0 = .ok (.iconst 0, 1) := by decide +kernel
theorem dX8_turnedOf_1 : decode cX8_turnedOf 1 = .ok (.istore_n 2, 1) := by decide +kernel
theorem dX8_turnedOf_2 : decode cX8_turnedOf 2 = .ok (.iconst 0, 1) := by decide +kernel
theorem dX8_turnedOf_3 : decode cX8_turnedOf 3 = .ok (.istore_n 3, 1) := by decide +kernel
theorem dX8_turnedOf_4 : decode cX8_turnedOf 4 = .ok (.iload_n 3, 1) := by decide +kernel
theorem dX8_turnedOf_5 : decode cX8_turnedOf 5 = .ok (.aload_n 0, 1) := by decide +kernel
theorem dX8_turnedOf_6 : decode cX8_turnedOf 6 = .ok (.getfield 7, 3) := by decide +kernel
theorem dX8_turnedOf_9 : decode cX8_turnedOf 9 = .ok (.if_icmp .ge 26, 3) := by decide +kernel
theorem dX8_turnedOf_12 : decode cX8_turnedOf 12 = .ok (.iload_n 2, 1) := by decide +kernel
theorem dX8_turnedOf_13 : decode cX8_turnedOf 13 = .ok (.iload_n 1, 1) := by decide +kernel
theorem dX8_turnedOf_14 : decode cX8_turnedOf 14 = .ok (.iload_n 3, 1) := by decide +kernel
theorem dX8_turnedOf_15 : decode cX8_turnedOf 15 = .ok (.ishr, 1) := by decide +kernel
theorem dX8_turnedOf_16 : decode cX8_turnedOf 16 = .ok (.iconst 1, 1) := by decide +kernel
theorem dX8_turnedOf_17 : decode cX8_turnedOf 17 = .ok (.iand, 1) := by decide +kernel
theorem dX8_turnedOf_18 : decode cX8_turnedOf 18 = .ok (.aload_n 0, 1) := by decide +kernel
theorem dX8_turnedOf_19 : decode cX8_turnedOf 19 = .ok (.getfield 7, 3) := by decide +kernel
theorem dX8_turnedOf_22 : decode cX8_turnedOf 22 = .ok (.iconst 1, 1) := by decide +kernel
theorem dX8_turnedOf_23 : decode cX8_turnedOf 23 = .ok (.isub, 1) := by decide +kernel
theorem dX8_turnedOf_24 : decode cX8_turnedOf 24 = .ok (.iload_n 3, 1) := by decide +kernel
theorem dX8_turnedOf_25 : decode cX8_turnedOf 25 = .ok (.isub, 1) := by decide +kernel
theorem dX8_turnedOf_26 : decode cX8_turnedOf 26 = .ok (.ishl, 1) := by decide +kernel
theorem dX8_turnedOf_27 : decode cX8_turnedOf 27 = .ok (.ior, 1) := by decide +kernel
theorem dX8_turnedOf_28 : decode cX8_turnedOf 28 = .ok (.istore_n 2, 1) := by decide +kernel
theorem dX8_turnedOf_29 : decode cX8_turnedOf 29 = .ok (.iinc 3 1, 3) := by decide +kernel
theorem dX8_turnedOf_32 : decode cX8_turnedOf 32 = .ok (.goto (-28), 3) := by decide +kernel
theorem dX8_turnedOf_35 : decode cX8_turnedOf 35 = .ok (.iload_n 2, 1) := by decide +kernel
theorem dX8_turnedOf_36 : decode cX8_turnedOf 36 = .ok (.ireturn, 1) := by decide +kernel
theorem dX8_turned_0 : decode cX8_turned 0 = .ok (.aload_n 0, 1) := by decide +kernel
theorem dX8_turned_1 : decode cX8_turned 1 = .ok (.iload_n 1, 1) := by decide +kernel
theorem dX8_turned_2 : decode cX8_turned 2 = .ok (.invokevirtual 94, 3) := by decide +kernel
theorem dX8_turned_5 : decode cX8_turned 5 = .ok (.ifCond .eq 11, 3) := by decide +kernel
theorem dX8_turned_8 : decode cX8_turned 8 = .ok (.aload_n 0, 1) := by decide +kernel
theorem dX8_turned_9 : decode cX8_turned 9 = .ok (.iload_n 1, 1) := by decide +kernel
theorem dX8_turned_10 : decode cX8_turned 10 = .ok (.invokevirtual 97, 3) := by decide +kernel
theorem dX8_turned_13 : decode cX8_turned 13 = .ok (.goto 6, 3) := by decide +kernel
theorem dX8_turned_16 : decode cX8_turned 16 = .ok (.sipush (-1002), 3) := by decide +kernel
theorem dX8_turned_19 : decode cX8_turned 19 = .ok (.ireturn, 1) := by decide +kernel
theorem dX8_isNear_0 : decode cX8_isNear 0 = .ok (.iload_n 1, 1) := by decide +kernel
theorem dX8_isNear_1 : decode cX8_isNear 1 = .ok (.iload_n 2, 1) := by decide +kernel
theorem dX8_isNear_2 : decode cX8_isNear 2 = .ok (.iconst (-1), 1) := by decide +kernel
theorem dX8_isNear_3 : decode cX8_isNear 3 = .ok (.ixor, 1) := by decide +kernel
theorem dX8_isNear_4 : decode cX8_isNear 4 = .ok (.iand, 1) := by decide +kernel
theorem dX8_isNear_5 : decode cX8_isNear 5 = .ok (.invokestatic 101, 3) := by decide +kernel
theorem dX8_isNear_8 : decode cX8_isNear 8 = .ok (.aload_n 0, 1) := by decide +kernel
theorem dX8_isNear_9 : decode cX8_isNear 9 = .ok (.getfield 13, 3) := by decide +kernel
theorem dX8_isNear_12 : decode cX8_isNear 12 = .ok (.if_icmp .gt 34, 3) := by decide +kernel
theorem dX8_isNear_15 : decode cX8_isNear 15 = .ok (.iload_n 2, 1) := by decide +kernel
theorem dX8_isNear_16 : decode cX8_isNear 16 = .ok (.iload_n 1, 1) := by decide +kernel
theorem dX8_isNear_17 : decode cX8_isNear 17 = .ok (.iconst (-1), 1) := by decide +kernel
theorem dX8_isNear_18 : decode cX8_isNear 18 = .ok (.ixor, 1) := by decide +kernel
theorem dX8_isNear_19 : decode cX8_isNear 19 = .ok (.iand, 1) := by decide +kernel
theorem dX8_isNear_20 : decode cX8_isNear 20 = .ok (.invokestatic 101, 3) := by decide +kernel
theorem dX8_isNear_23 : decode cX8_isNear 23 = .ok (.aload_n 0, 1) := by decide +kernel
theorem dX8_isNear_24 : decode cX8_isNear 24 = .ok (.getfield 88, 3) := by decide +kernel
theorem dX8_isNear_27 : decode cX8_isNear 27 = .ok (.iconst 2, 1) := by decide +kernel
theorem dX8_isNear_28 : decode cX8_isNear 28 = .ok (.if_icmp .ge 7, 3) := by decide +kernel
theorem dX8_isNear_31 : decode cX8_isNear 31 = .ok (.iconst 0, 1) := by decide +kernel
theorem dX8_isNear_32 : decode cX8_isNear 32 = .ok (.goto 7, 3) := by decide +kernel
theorem dX8_isNear_35 : decode cX8_isNear 35 = .ok (.aload_n 0, 1) := by decide +kernel
theorem dX8_isNear_36 : decode cX8_isNear 36 = .ok (.getfield 91, 3) := by decide +kernel
theorem dX8_isNear_39 : decode cX8_isNear 39 = .ok (.if_icmp .gt 7, 3) := by decide +kernel
theorem dX8_isNear_42 : decode cX8_isNear 42 = .ok (.iconst 1, 1) := by decide +kernel
theorem dX8_isNear_43 : decode cX8_isNear 43 = .ok (.goto 4, 3) := by decide +kernel
theorem dX8_isNear_46 : decode cX8_isNear 46 = .ok (.iconst 0, 1) := by decide +kernel
theorem dX8_isNear_47 : decode cX8_isNear 47 = .ok (.ireturn, 1) := by decide +kernel
theorem dX8_maySee_0 : decode cX8_maySee 0 = .ok (.aload_n 0, 1) := by decide +kernel
theorem dX8_maySee_1 : decode cX8_maySee 1 = .ok (.getfield 88, 3) := by decide +kernel
theorem dX8_maySee_4 : decode cX8_maySee 4 = .ok (.ifCond .ne 29, 3) := by decide +kernel
theorem dX8_maySee_7 : decode cX8_maySee 7 = .ok (.iload_n 3, 1) := by decide +kernel
theorem dX8_maySee_8 : decode cX8_maySee 8 = .ok (.invokestatic 101, 3) := by decide +kernel
theorem dX8_maySee_11 : decode cX8_maySee 11 = .ok (.aload_n 0, 1) := by decide +kernel
theorem dX8_maySee_12 : decode cX8_maySee 12 = .ok (.getfield 13, 3) := by decide +kernel
theorem dX8_maySee_15 : decode cX8_maySee 15 = .ok (.if_icmp .gt 16, 3) := by decide +kernel
theorem dX8_maySee_18 : decode cX8_maySee 18 = .ok (.iload_n 1, 1) := by decide +kernel
theorem dX8_maySee_19 : decode cX8_maySee 19 = .ok (.iload_n 3, 1) := by decide +kernel
theorem dX8_maySee_20 : decode cX8_maySee 20 = .ok (.iconst (-1), 1) := by decide +kernel
theorem dX8_maySee_21 : decode cX8_maySee 21 = .ok (.ixor, 1) := by decide +kernel
theorem dX8_maySee_22 : decode cX8_maySee 22 = .ok (.iand, 1) := by decide +kernel
theorem dX8_maySee_23 : decode cX8_maySee 23 = .ok (.iload_n 2, 1) := by decide +kernel
theorem dX8_maySee_24 : decode cX8_maySee 24 = .ok (.if_icmp .ne 7, 3) := by decide +kernel
theorem dX8_maySee_27 : decode cX8_maySee 27 = .ok (.iconst 1, 1) := by decide +kernel
theorem dX8_maySee_28 : decode cX8_maySee 28 = .ok (.goto 4, 3) := by decide +kernel
theorem dX8_maySee_31 : decode cX8_maySee 31 = .ok (.iconst 0, 1) := by decide +kernel
theorem dX8_maySee_32 : decode cX8_maySee 32 = .ok (.ireturn, 1) := by decide +kernel
theorem dX8_maySee_33 : decode cX8_maySee 33 = .ok (.iload_n 3, 1) := by decide +kernel
theorem dX8_maySee_34 : decode cX8_maySee 34 = .ok (.ifCond .ne 37, 3) := by decide +kernel
theorem dX8_maySee_37 : decode cX8_maySee 37 = .ok (.aload_n 0, 1) := by decide +kernel
theorem dX8_maySee_38 : decode cX8_maySee 38 = .ok (.iload_n 1, 1) := by decide +kernel
theorem dX8_maySee_39 : decode cX8_maySee 39 = .ok (.iload_n 2, 1) := by decide +kernel
theorem dX8_maySee_40 : decode cX8_maySee 40 = .ok (.invokevirtual 104, 3) := by decide +kernel
theorem dX8_maySee_43 : decode cX8_maySee 43 = .ok (.ifCond .ne 24, 3) := by decide +kernel
theorem dX8_maySee_46 : decode cX8_maySee 46 = .ok (.aload_n 0, 1) := by decide +kernel
theorem dX8_maySee_47 : decode cX8_maySee 47 = .ok (.getfield 88, 3) := by decide +kernel
theorem dX8_maySee_50 : decode cX8_maySee 50 = .ok (.iconst 3, 1) := by decide +kernel
theorem dX8_maySee_51 : decode cX8_maySee 51 = .ok (.if_icmp .ne 20, 3) := by decide +kernel
theorem dX8_maySee_54 : decode cX8_maySee 54 = .ok (.aload_n 0, 1) := by decide +kernel
theorem dX8_maySee_55 : decode cX8_maySee 55 = .ok (.aload_n 0, 1) := by decide +kernel
theorem dX8_maySee_56 : decode cX8_maySee 56 = .ok (.iload_n 1, 1) := by decide +kernel
theorem dX8_maySee_57 : decode cX8_maySee 57 = .ok (.invokevirtual 97, 3) := by decide +kernel
theorem dX8_maySee_60 : decode cX8_maySee 60 = .ok (.iload_n 2, 1) := by decide +kernel
theorem dX8_maySee_61 : decode cX8_maySee 61 = .ok (.invokevirtual 104, 3) := by decide +kernel
theorem dX8_maySee_64 : decode cX8_maySee 64 = .ok (.ifCond .eq 7, 3) := by decide +kernel
theorem dX8_maySee_67 : decode cX8_maySee 67 = .ok (.iconst 1, 1) := by decide +kernel
theorem dX8_maySee_68 : decode cX8_maySee 68 = .ok (.goto 4, 3) := by decide +kernel
theorem dX8_maySee_71 : decode cX8_maySee 71 = .ok (.iconst 0, 1) := by decide +kernel
theorem dX8_maySee_72 : decode cX8_maySee 72 = .ok (.ireturn, 1) := by decide +kernel
theorem dX8_isSeen_0 : decode cX8_isSeen 0 = .ok (.aload_n 0, 1) := by decide +kernel
theorem dX8_isSeen_1 : decode cX8_isSeen 1 = .ok (.iload_n 1, 1) := by decide +kernel
theorem dX8_isSeen_2 : decode cX8_isSeen 2 = .ok (.invokevirtual 94, 3) := by decide +kernel
theorem dX8_isSeen_5 : decode cX8_isSeen 5 = .ok (.ifCond .eq 21, 3) := by decide +kernel
theorem dX8_isSeen_8 : decode cX8_isSeen 8 = .ok (.aload_n 0, 1) := by decide +kernel
theorem dX8_isSeen_9 : decode cX8_isSeen 9 = .ok (.iload_n 2, 1) := by decide +kernel
theorem dX8_isSeen_10 : decode cX8_isSeen 10 = .ok (.invokevirtual 94, 3) := by decide +kernel
theorem dX8_isSeen_13 : decode cX8_isSeen 13 = .ok (.ifCond .eq 13, 3) := by decide +kernel
theorem dX8_isSeen_16 : decode cX8_isSeen 16 = .ok (.iload_n 1, 1) := by decide +kernel
theorem dX8_isSeen_17 : decode cX8_isSeen 17 = .ok (.iload_n 2, 1) := by decide +kernel
theorem dX8_isSeen_18 : decode cX8_isSeen 18 = .ok (.iand, 1) := by decide +kernel
theorem dX8_isSeen_19 : decode cX8_isSeen 19 = .ok (.ifCond .ne 7, 3) := by decide +kernel
theorem dX8_isSeen_22 : decode cX8_isSeen 22 = .ok (.iconst 1, 1) := by decide +kernel
theorem dX8_isSeen_23 : decode cX8_isSeen 23 = .ok (.goto 4, 3) := by decide +kernel
theorem dX8_isSeen_26 : decode cX8_isSeen 26 = .ok (.iconst 0, 1) := by decide +kernel
theorem dX8_isSeen_27 : decode cX8_isSeen 27 = .ok (.ireturn, 1) := by decide +kernel
theorem dX8_may_0 : decode cX8_may 0 = .ok (.aload_n 0, 1) := by decide +kernel
theorem dX8_may_1 : decode cX8_may 1 = .ok (.iload_n 1, 1) := by decide +kernel
theorem dX8_may_2 : decode cX8_may 2 = .ok (.invokevirtual 94, 3) := by decide +kernel
theorem dX8_may_5 : decode cX8_may 5 = .ok (.ifCond .eq 12, 3) := by decide +kernel
theorem dX8_may_8 : decode cX8_may 8 = .ok (.aload_n 0, 1) := by decide +kernel
theorem dX8_may_9 : decode cX8_may 9 = .ok (.iload_n 2, 1) := by decide +kernel
theorem dX8_may_10 : decode cX8_may 10 = .ok (.iload_n 3, 1) := by decide +kernel
theorem dX8_may_11 : decode cX8_may 11 = .ok (.invokevirtual 108, 3) := by decide +kernel
theorem dX8_may_14 : decode cX8_may 14 = .ok (.ifCond .ne 7, 3) := by decide +kernel
theorem dX8_may_17 : decode cX8_may 17 = .ok (.sipush (-1002), 3) := by decide +kernel
theorem dX8_may_20 : decode cX8_may 20 = .ok (.ireturn, 1) := by decide +kernel
theorem dX8_may_21 : decode cX8_may 21 = .ok (.aload_n 0, 1) := by decide +kernel
theorem dX8_may_22 : decode cX8_may 22 = .ok (.iload_n 1, 1) := by decide +kernel
theorem dX8_may_23 : decode cX8_may 23 = .ok (.iload_n 2, 1) := by decide +kernel
theorem dX8_may_24 : decode cX8_may 24 = .ok (.iload_n 3, 1) := by decide +kernel
theorem dX8_may_25 : decode cX8_may 25 = .ok (.invokevirtual 111, 3) := by decide +kernel
theorem dX8_may_28 : decode cX8_may 28 = .ok (.ifCond .eq 7, 3) := by decide +kernel
theorem dX8_may_31 : decode cX8_may 31 = .ok (.iconst 1, 1) := by decide +kernel
theorem dX8_may_32 : decode cX8_may 32 = .ok (.goto 4, 3) := by decide +kernel
theorem dX8_may_35 : decode cX8_may 35 = .ok (.iconst 0, 1) := by decide +kernel
theorem dX8_may_36 : decode cX8_may 36 = .ok (.ireturn, 1) := by decide +kernel
theorem dX8_meet_0 : decode cX8_meet 0 = .ok (.aload_n 0, 1) := by decide +kernel
theorem dX8_meet_1 : decode cX8_meet 1 = .ok (.getfield 13, 3) := by decide +kernel
theorem dX8_meet_4 : decode cX8_meet 4 = .ok (.aload_n 0, 1) := by decide +kernel
theorem dX8_meet_5 : decode cX8_meet 5 = .ok (.getfield 88, 3) := by decide +kernel
theorem dX8_meet_8 : decode cX8_meet 8 = .ok (.iconst 2, 1) := by decide +kernel
theorem dX8_meet_9 : decode cX8_meet 9 = .ok (.if_icmp .ge 7, 3) := by decide +kernel
theorem dX8_meet_12 : decode cX8_meet 12 = .ok (.iconst 0, 1) := by decide +kernel
theorem dX8_meet_13 : decode cX8_meet 13 = .ok (.goto 7, 3) := by decide +kernel
theorem dX8_meet_16 : decode cX8_meet 16 = .ok (.aload_n 0, 1) := by decide +kernel
theorem dX8_meet_17 : decode cX8_meet 17 = .ok (.getfield 91, 3) := by decide +kernel
theorem dX8_meet_20 : decode cX8_meet 20 = .ok (.iadd, 1) := by decide +kernel
theorem dX8_meet_21 : decode cX8_meet 21 = .ok (.istore_n 3, 1) := by decide +kernel
theorem dX8_meet_22 : decode cX8_meet 22 = .ok (.iload_n 1, 1) := by decide +kernel
theorem dX8_meet_23 : decode cX8_meet 23 = .ok (.iload_n 2, 1) := by decide +kernel
theorem dX8_meet_24 : decode cX8_meet 24 = .ok (.iconst (-1), 1) := by decide +kernel
theorem dX8_meet_25 : decode cX8_meet 25 = .ok (.ixor, 1) := by decide +kernel
theorem dX8_meet_26 : decode cX8_meet 26 = .ok (.iand, 1) := by decide +kernel
theorem dX8_meet_27 : decode cX8_meet 27 = .ok (.invokestatic 101, 3) := by decide +kernel
theorem dX8_meet_30 : decode cX8_meet 30 = .ok (.iload_n 3, 1) := by decide +kernel
theorem dX8_meet_31 : decode cX8_meet 31 = .ok (.if_icmp .gt 19, 3) := by decide +kernel
theorem dX8_meet_34 : decode cX8_meet 34 = .ok (.iload_n 2, 1) := by decide +kernel
theorem dX8_meet_35 : decode cX8_meet 35 = .ok (.iload_n 1, 1) := by decide +kernel
theorem dX8_meet_36 : decode cX8_meet 36 = .ok (.iconst (-1), 1) := by decide +kernel
theorem dX8_meet_37 : decode cX8_meet 37 = .ok (.ixor, 1) := by decide +kernel
theorem dX8_meet_38 : decode cX8_meet 38 = .ok (.iand, 1) := by decide +kernel
theorem dX8_meet_39 : decode cX8_meet 39 = .ok (.invokestatic 101, 3) := by decide +kernel
theorem dX8_meet_42 : decode cX8_meet 42 = .ok (.iload_n 3, 1) := by decide +kernel
theorem dX8_meet_43 : decode cX8_meet 43 = .ok (.if_icmp .gt 7, 3) := by decide +kernel
theorem dX8_meet_46 : decode cX8_meet 46 = .ok (.iconst 1, 1) := by decide +kernel
theorem dX8_meet_47 : decode cX8_meet 47 = .ok (.goto 4, 3) := by decide +kernel
theorem dX8_meet_50 : decode cX8_meet 50 = .ok (.iconst 0, 1) := by decide +kernel
theorem dX8_meet_51 : decode cX8_meet 51 = .ok (.ireturn, 1) := by decide +kernel
theorem dX8_areAlike_0 : decode cX8_areAlike 0 = .ok (.aload_n 0, 1) := by decide +kernel
theorem dX8_areAlike_1 : decode cX8_areAlike 1 = .ok (.getfield 88, 3) := by decide +kernel
theorem dX8_areAlike_4 : decode cX8_areAlike 4 = .ok (.ifCond .ne 22, 3) := by decide +kernel
theorem dX8_areAlike_7 : decode cX8_areAlike 7 = .ok (.iload_n 1, 1) := by decide +kernel
theorem dX8_areAlike_8 : decode cX8_areAlike 8 = .ok (.iload_n 2, 1) := by decide +kernel
theorem dX8_areAlike_9 : decode cX8_areAlike 9 = .ok (.ixor, 1) := by decide +kernel
theorem dX8_areAlike_10 : decode cX8_areAlike 10 = .ok (.invokestatic 101, 3) := by decide +kernel
theorem dX8_areAlike_13 : decode cX8_areAlike 13 = .ok (.aload_n 0, 1) := by decide +kernel
theorem dX8_areAlike_14 : decode cX8_areAlike 14 = .ok (.getfield 13, 3) := by decide +kernel
theorem dX8_areAlike_17 : decode cX8_areAlike 17 = .ok (.if_icmp .gt 7, 3) := by decide +kernel
theorem dX8_areAlike_20 : decode cX8_areAlike 20 = .ok (.iconst 1, 1) := by decide +kernel
theorem dX8_areAlike_21 : decode cX8_areAlike 21 = .ok (.goto 4, 3) := by decide +kernel
theorem dX8_areAlike_24 : decode cX8_areAlike 24 = .ok (.iconst 0, 1) := by decide +kernel
theorem dX8_areAlike_25 : decode cX8_areAlike 25 = .ok (.ireturn, 1) := by decide +kernel
theorem dX8_areAlike_26 : decode cX8_areAlike 26 = .ok (.aload_n 0, 1) := by decide +kernel
theorem dX8_areAlike_27 : decode cX8_areAlike 27 = .ok (.iload_n 1, 1) := by decide +kernel
theorem dX8_areAlike_28 : decode cX8_areAlike 28 = .ok (.iload_n 2, 1) := by decide +kernel
theorem dX8_areAlike_29 : decode cX8_areAlike 29 = .ok (.invokevirtual 115, 3) := by decide +kernel
theorem dX8_areAlike_32 : decode cX8_areAlike 32 = .ok (.ifCond .ne 54, 3) := by decide +kernel
theorem dX8_areAlike_35 : decode cX8_areAlike 35 = .ok (.aload_n 0, 1) := by decide +kernel
theorem dX8_areAlike_36 : decode cX8_areAlike 36 = .ok (.getfield 88, 3) := by decide +kernel
theorem dX8_areAlike_39 : decode cX8_areAlike 39 = .ok (.iconst 3, 1) := by decide +kernel
theorem dX8_areAlike_40 : decode cX8_areAlike 40 = .ok (.if_icmp .ne 50, 3) := by decide +kernel
theorem dX8_areAlike_43 : decode cX8_areAlike 43 = .ok (.aload_n 0, 1) := by decide +kernel
theorem dX8_areAlike_44 : decode cX8_areAlike 44 = .ok (.aload_n 0, 1) := by decide +kernel
theorem dX8_areAlike_45 : decode cX8_areAlike 45 = .ok (.iload_n 1, 1) := by decide +kernel
theorem dX8_areAlike_46 : decode cX8_areAlike 46 = .ok (.invokevirtual 97, 3) := by decide +kernel
theorem dX8_areAlike_49 : decode cX8_areAlike 49 = .ok (.iload_n 2, 1) := by decide +kernel
theorem dX8_areAlike_50 : decode cX8_areAlike 50 = .ok (.invokevirtual 115, 3) := by decide +kernel
theorem dX8_areAlike_53 : decode cX8_areAlike 53 = .ok (.ifCond .ne 33, 3) := by decide +kernel
theorem dX8_areAlike_56 : decode cX8_areAlike 56 = .ok (.aload_n 0, 1) := by decide +kernel
theorem dX8_areAlike_57 : decode cX8_areAlike 57 = .ok (.iload_n 1, 1) := by decide +kernel
theorem dX8_areAlike_58 : decode cX8_areAlike 58 = .ok (.aload_n 0, 1) := by decide +kernel
theorem dX8_areAlike_59 : decode cX8_areAlike 59 = .ok (.iload_n 2, 1) := by decide +kernel
theorem dX8_areAlike_60 : decode cX8_areAlike 60 = .ok (.invokevirtual 97, 3) := by decide +kernel
theorem dX8_areAlike_63 : decode cX8_areAlike 63 = .ok (.invokevirtual 115, 3) := by decide +kernel
theorem dX8_areAlike_66 : decode cX8_areAlike 66 = .ok (.ifCond .ne 20, 3) := by decide +kernel
theorem dX8_areAlike_69 : decode cX8_areAlike 69 = .ok (.aload_n 0, 1) := by decide +kernel
theorem dX8_areAlike_70 : decode cX8_areAlike 70 = .ok (.aload_n 0, 1) := by decide +kernel
theorem dX8_areAlike_71 : decode cX8_areAlike 71 = .ok (.iload_n 1, 1) := by decide +kernel
theorem dX8_areAlike_72 : decode cX8_areAlike 72 = .ok (.invokevirtual 97, 3) := by decide +kernel
theorem dX8_areAlike_75 : decode cX8_areAlike 75 = .ok (.aload_n 0, 1) := by decide +kernel
theorem dX8_areAlike_76 : decode cX8_areAlike 76 = .ok (.iload_n 2, 1) := by decide +kernel
theorem dX8_areAlike_77 : decode cX8_areAlike 77 = .ok (.invokevirtual 97, 3) := by decide +kernel
theorem dX8_areAlike_80 : decode cX8_areAlike 80 = .ok (.invokevirtual 115, 3) := by decide +kernel
theorem dX8_areAlike_83 : decode cX8_areAlike 83 = .ok (.ifCond .eq 7, 3) := by decide +kernel
theorem dX8_areAlike_86 : decode cX8_areAlike 86 = .ok (.iconst 1, 1) := by decide +kernel
theorem dX8_areAlike_87 : decode cX8_areAlike 87 = .ok (.goto 4, 3) := by decide +kernel
theorem dX8_areAlike_90 : decode cX8_areAlike 90 = .ok (.iconst 0, 1) := by decide +kernel
theorem dX8_areAlike_91 : decode cX8_areAlike 91 = .ok (.ireturn, 1) := by decide +kernel
theorem dX8_witness_0 : decode cX8_witness 0 = .ok (.aload_n 0, 1) := by decide +kernel
theorem dX8_witness_1 : decode cX8_witness 1 = .ok (.getfield 88, 3) := by decide +kernel
theorem dX8_witness_4 : decode cX8_witness 4 = .ok (.ifCond .ne 21, 3) := by decide +kernel
theorem dX8_witness_7 : decode cX8_witness 7 = .ok (.iload_n 3, 1) := by decide +kernel
theorem dX8_witness_8 : decode cX8_witness 8 = .ok (.ifCond .eq 9, 3) := by decide +kernel
theorem dX8_witness_11 : decode cX8_witness 11 = .ok (.iload_n 1, 1) := by decide +kernel
theorem dX8_witness_12 : decode cX8_witness 12 = .ok (.iload_n 2, 1) := by decide +kernel
theorem dX8_witness_13 : decode cX8_witness 13 = .ok (.ixor, 1) := by decide +kernel
theorem dX8_witness_14 : decode cX8_witness 14 = .ok (.goto 10, 3) := by decide +kernel
theorem dX8_witness_17 : decode cX8_witness 17 = .ok (.iload_n 1, 1) := by decide +kernel
theorem dX8_witness_18 : decode cX8_witness 18 = .ok (.iload_n 1, 1) := by decide +kernel
theorem dX8_witness_19 : decode cX8_witness 19 = .ok (.iload_n 2, 1) := by decide +kernel
theorem dX8_witness_20 : decode cX8_witness 20 = .ok (.ixor, 1) := by decide +kernel
theorem dX8_witness_21 : decode cX8_witness 21 = .ok (.iconst (-1), 1) := by decide +kernel
theorem dX8_witness_22 : decode cX8_witness 22 = .ok (.ixor, 1) := by decide +kernel
theorem dX8_witness_23 : decode cX8_witness 23 = .ok (.iand, 1) := by decide +kernel
theorem dX8_witness_24 : decode cX8_witness 24 = .ok (.ireturn, 1) := by decide +kernel
theorem dX8_witness_25 : decode cX8_witness 25 = .ok (.iconst 0, 1) := by decide +kernel
theorem dX8_witness_26 : decode cX8_witness 26 = .ok (.istore 4, 2) := by decide +kernel
theorem dX8_witness_28 : decode cX8_witness 28 = .ok (.aload_n 0, 1) := by decide +kernel
theorem dX8_witness_29 : decode cX8_witness 29 = .ok (.iload_n 1, 1) := by decide +kernel
theorem dX8_witness_30 : decode cX8_witness 30 = .ok (.iload 4, 2) := by decide +kernel
theorem dX8_witness_32 : decode cX8_witness 32 = .ok (.iconst 0, 1) := by decide +kernel
theorem dX8_witness_33 : decode cX8_witness 33 = .ok (.invokevirtual 111, 3) := by decide +kernel
theorem dX8_witness_36 : decode cX8_witness 36 = .ok (.ifCond .eq 14, 3) := by decide +kernel
theorem dX8_witness_39 : decode cX8_witness 39 = .ok (.aload_n 0, 1) := by decide +kernel
theorem dX8_witness_40 : decode cX8_witness 40 = .ok (.iload_n 2, 1) := by decide +kernel
theorem dX8_witness_41 : decode cX8_witness 41 = .ok (.iload 4, 2) := by decide +kernel
theorem dX8_witness_43 : decode cX8_witness 43 = .ok (.iconst 0, 1) := by decide +kernel
theorem dX8_witness_44 : decode cX8_witness 44 = .ok (.invokevirtual 111, 3) := by decide +kernel
theorem dX8_witness_47 : decode cX8_witness 47 = .ok (.ifCond .ne 9, 3) := by decide +kernel
theorem dX8_witness_50 : decode cX8_witness 50 = .ok (.iinc 4 1, 3) := by decide +kernel
theorem dX8_witness_53 : decode cX8_witness 53 = .ok (.goto (-25), 3) := by decide +kernel
theorem dX8_witness_56 : decode cX8_witness 56 = .ok (.iload_n 3, 1) := by decide +kernel
theorem dX8_witness_57 : decode cX8_witness 57 = .ok (.ifCond .eq 7, 3) := by decide +kernel
theorem dX8_witness_60 : decode cX8_witness 60 = .ok (.iconst 0, 1) := by decide +kernel
theorem dX8_witness_61 : decode cX8_witness 61 = .ok (.goto 5, 3) := by decide +kernel
theorem dX8_witness_64 : decode cX8_witness 64 = .ok (.iload 4, 2) := by decide +kernel
theorem dX8_witness_66 : decode cX8_witness 66 = .ok (.ireturn, 1) := by decide +kernel
theorem dX8_between_0 : decode cX8_between 0 = .ok (.aload_n 0, 1) := by decide +kernel
theorem dX8_between_1 : decode cX8_between 1 = .ok (.iload_n 1, 1) := by decide +kernel
theorem dX8_between_2 : decode cX8_between 2 = .ok (.invokevirtual 94, 3) := by decide +kernel
theorem dX8_between_5 : decode cX8_between 5 = .ok (.ifCond .eq 21, 3) := by decide +kernel
theorem dX8_between_8 : decode cX8_between 8 = .ok (.aload_n 0, 1) := by decide +kernel
theorem dX8_between_9 : decode cX8_between 9 = .ok (.iload_n 2, 1) := by decide +kernel
theorem dX8_between_10 : decode cX8_between 10 = .ok (.invokevirtual 94, 3) := by decide +kernel
theorem dX8_between_13 : decode cX8_between 13 = .ok (.ifCond .eq 13, 3) := by decide +kernel
theorem dX8_between_16 : decode cX8_between 16 = .ok (.iload_n 3, 1) := by decide +kernel
theorem dX8_between_17 : decode cX8_between 17 = .ok (.i2l, 1) := by decide +kernel
theorem dX8_between_18 : decode cX8_between 18 = .ok (.lconst 0, 1) := by decide +kernel
theorem dX8_between_19 : decode cX8_between 19 = .ok (.lconst 1, 1) := by decide +kernel
theorem dX8_between_20 : decode cX8_between 20 = .ok (.invokestatic 70, 3) := by decide +kernel
theorem dX8_between_23 : decode cX8_between 23 = .ok (.ifCond .ne 7, 3) := by decide +kernel
theorem dX8_between_26 : decode cX8_between 26 = .ok (.sipush (-1002), 3) := by decide +kernel
theorem dX8_between_29 : decode cX8_between 29 = .ok (.ireturn, 1) := by decide +kernel
theorem dX8_between_30 : decode cX8_between 30 = .ok (.aload_n 0, 1) := by decide +kernel
theorem dX8_between_31 : decode cX8_between 31 = .ok (.iload_n 1, 1) := by decide +kernel
theorem dX8_between_32 : decode cX8_between 32 = .ok (.iload_n 2, 1) := by decide +kernel
theorem dX8_between_33 : decode cX8_between 33 = .ok (.invokevirtual 118, 3) := by decide +kernel
theorem dX8_between_36 : decode cX8_between 36 = .ok (.ifCond .eq 22, 3) := by decide +kernel
theorem dX8_between_39 : decode cX8_between 39 = .ok (.aload_n 0, 1) := by decide +kernel
theorem dX8_between_40 : decode cX8_between 40 = .ok (.iload_n 1, 1) := by decide +kernel
theorem dX8_between_41 : decode cX8_between 41 = .ok (.iload_n 2, 1) := by decide +kernel
theorem dX8_between_42 : decode cX8_between 42 = .ok (.iload_n 3, 1) := by decide +kernel
theorem dX8_between_43 : decode cX8_between 43 = .ok (.iconst 1, 1) := by decide +kernel
theorem dX8_between_44 : decode cX8_between 44 = .ok (.if_icmp .ne 7, 3) := by decide +kernel
theorem dX8_between_47 : decode cX8_between 47 = .ok (.iconst 1, 1) := by decide +kernel
theorem dX8_between_48 : decode cX8_between 48 = .ok (.goto 4, 3) := by decide +kernel
theorem dX8_between_51 : decode cX8_between 51 = .ok (.iconst 0, 1) := by decide +kernel
theorem dX8_between_52 : decode cX8_between 52 = .ok (.invokevirtual 121, 3) := by decide +kernel
theorem dX8_between_55 : decode cX8_between 55 = .ok (.goto 4, 3) := by decide +kernel
theorem dX8_between_58 : decode cX8_between 58 = .ok (.iconst (-1), 1) := by decide +kernel
theorem dX8_between_59 : decode cX8_between 59 = .ok (.ireturn, 1) := by decide +kernel
theorem dX8_choose_0 : decode cX8_choose 0 = .ok (.iconst 1, 1) := by decide +kernel
theorem dX8_choose_1 : decode cX8_choose 1 = .ok (.istore_n 2, 1) := by decide +kernel
theorem dX8_choose_2 : decode cX8_choose 2 = .ok (.iconst 1, 1) := by decide +kernel
theorem dX8_choose_3 : decode cX8_choose 3 = .ok (.istore_n 3, 1) := by decide +kernel
theorem dX8_choose_4 : decode cX8_choose 4 = .ok (.iload_n 3, 1) := by decide +kernel
theorem dX8_choose_5 : decode cX8_choose 5 = .ok (.iload_n 1, 1) := by decide +kernel
theorem dX8_choose_6 : decode cX8_choose 6 = .ok (.if_icmp .gt 19, 3) := by decide +kernel
theorem dX8_choose_9 : decode cX8_choose 9 = .ok (.iload_n 2, 1) := by decide +kernel
theorem dX8_choose_10 : decode cX8_choose 10 = .ok (.iload_n 0, 1) := by decide +kernel
theorem dX8_choose_11 : decode cX8_choose 11 = .ok (.iload_n 3, 1) := by decide +kernel
theorem dX8_choose_12 : decode cX8_choose 12 = .ok (.isub, 1) := by decide +kernel
theorem dX8_choose_13 : decode cX8_choose 13 = .ok (.iconst 1, 1) := by decide +kernel
theorem dX8_choose_14 : decode cX8_choose 14 = .ok (.iadd, 1) := by decide +kernel
theorem dX8_choose_15 : decode cX8_choose 15 = .ok (.imul, 1) := by decide +kernel
theorem dX8_choose_16 : decode cX8_choose 16 = .ok (.iload_n 3, 1) := by decide +kernel
theorem dX8_choose_17 : decode cX8_choose 17 = .ok (.idiv, 1) := by decide +kernel
theorem dX8_choose_18 : decode cX8_choose 18 = .ok (.istore_n 2, 1) := by decide +kernel
theorem dX8_choose_19 : decode cX8_choose 19 = .ok (.iinc 3 1, 3) := by decide +kernel
theorem dX8_choose_22 : decode cX8_choose 22 = .ok (.goto (-18), 3) := by decide +kernel
theorem dX8_choose_25 : decode cX8_choose 25 = .ok (.iload_n 1, 1) := by decide +kernel
theorem dX8_choose_26 : decode cX8_choose 26 = .ok (.iload_n 0, 1) := by decide +kernel
theorem dX8_choose_27 : decode cX8_choose 27 = .ok (.if_icmp .le 7, 3) := by decide +kernel
theorem dX8_choose_30 : decode cX8_choose 30 = .ok (.iconst 0, 1) := by decide +kernel
theorem dX8_choose_31 : decode cX8_choose 31 = .ok (.goto 4, 3) := by decide +kernel
theorem dX8_choose_34 : decode cX8_choose 34 = .ok (.iload_n 2, 1) := by decide +kernel
theorem dX8_choose_35 : decode cX8_choose 35 = .ok (.ireturn, 1) := by decide +kernel
theorem dX8_upTo_0 : decode cX8_upTo 0 = .ok (.iconst 0, 1) := by decide +kernel
theorem dX8_upTo_1 : decode cX8_upTo 1 = .ok (.istore_n 2, 1) := by decide +kernel
theorem dX8_upTo_2 : decode cX8_upTo 2 = .ok (.iconst 0, 1) := by decide +kernel
theorem dX8_upTo_3 : decode cX8_upTo 3 = .ok (.istore_n 3, 1) := by decide +kernel
theorem dX8_upTo_4 : decode cX8_upTo 4 = .ok (.iload_n 3, 1) := by decide +kernel
theorem dX8_upTo_5 : decode cX8_upTo 5 = .ok (.iload_n 1, 1) := by decide +kernel
theorem dX8_upTo_6 : decode cX8_upTo 6 = .ok (.if_icmp .gt 17, 3) := by decide +kernel
theorem dX8_upTo_9 : decode cX8_upTo 9 = .ok (.iload_n 2, 1) := by decide +kernel
theorem dX8_upTo_10 : decode cX8_upTo 10 = .ok (.iload_n 0, 1) := by decide +kernel
theorem dX8_upTo_11 : decode cX8_upTo 11 = .ok (.iload_n 3, 1) := by decide +kernel
theorem dX8_upTo_12 : decode cX8_upTo 12 = .ok (.invokestatic 125, 3) := by decide +kernel
theorem dX8_upTo_15 : decode cX8_upTo 15 = .ok (.iadd, 1) := by decide +kernel
theorem dX8_upTo_16 : decode cX8_upTo 16 = .ok (.istore_n 2, 1) := by decide +kernel
theorem dX8_upTo_17 : decode cX8_upTo 17 = .ok (.iinc 3 1, 3) := by decide +kernel
theorem dX8_upTo_20 : decode cX8_upTo 20 = .ok (.goto (-16), 3) := by decide +kernel
theorem dX8_upTo_23 : decode cX8_upTo 23 = .ok (.iload_n 2, 1) := by decide +kernel
theorem dX8_upTo_24 : decode cX8_upTo 24 = .ok (.ireturn, 1) := by decide +kernel
theorem dX8_filledBy_0 : decode cX8_filledBy 0 = .ok (.iload_n 1, 1) := by decide +kernel
theorem dX8_filledBy_1 : decode cX8_filledBy 1 = .ok (.invokestatic 101, 3) := by decide +kernel
theorem dX8_filledBy_4 : decode cX8_filledBy 4 = .ok (.istore_n 2, 1) := by decide +kernel
theorem dX8_filledBy_5 : decode cX8_filledBy 5 = .ok (.aload_n 0, 1) := by decide +kernel
theorem dX8_filledBy_6 : decode cX8_filledBy 6 = .ok (.getfield 88, 3) := by decide +kernel
theorem dX8_filledBy_9 : decode cX8_filledBy 9 = .ok (.ifCond .ne 15, 3) := by decide +kernel
theorem dX8_filledBy_12 : decode cX8_filledBy 12 = .ok (.aload_n 0, 1) := by decide +kernel
theorem dX8_filledBy_13 : decode cX8_filledBy 13 = .ok (.getfield 7, 3) := by decide +kernel
theorem dX8_filledBy_16 : decode cX8_filledBy 16 = .ok (.aload_n 0, 1) := by decide +kernel
theorem dX8_filledBy_17 : decode cX8_filledBy 17 = .ok (.getfield 13, 3) := by decide +kernel
theorem dX8_filledBy_20 : decode cX8_filledBy 20 = .ok (.invokestatic 129, 3) := by decide +kernel
theorem dX8_filledBy_23 : decode cX8_filledBy 23 = .ok (.ireturn, 1) := by decide +kernel
theorem dX8_filledBy_24 : decode cX8_filledBy 24 = .ok (.iload_n 2, 1) := by decide +kernel
theorem dX8_filledBy_25 : decode cX8_filledBy 25 = .ok (.aload_n 0, 1) := by decide +kernel
theorem dX8_filledBy_26 : decode cX8_filledBy 26 = .ok (.getfield 13, 3) := by decide +kernel
theorem dX8_filledBy_29 : decode cX8_filledBy 29 = .ok (.invokestatic 129, 3) := by decide +kernel
theorem dX8_filledBy_32 : decode cX8_filledBy 32 = .ok (.aload_n 0, 1) := by decide +kernel
theorem dX8_filledBy_33 : decode cX8_filledBy 33 = .ok (.getfield 7, 3) := by decide +kernel
theorem dX8_filledBy_36 : decode cX8_filledBy 36 = .ok (.iload_n 2, 1) := by decide +kernel
theorem dX8_filledBy_37 : decode cX8_filledBy 37 = .ok (.isub, 1) := by decide +kernel
theorem dX8_filledBy_38 : decode cX8_filledBy 38 = .ok (.aload_n 0, 1) := by decide +kernel
theorem dX8_filledBy_39 : decode cX8_filledBy 39 = .ok (.getfield 88, 3) := by decide +kernel
theorem dX8_filledBy_42 : decode cX8_filledBy 42 = .ok (.iconst 2, 1) := by decide +kernel
theorem dX8_filledBy_43 : decode cX8_filledBy 43 = .ok (.if_icmp .ge 7, 3) := by decide +kernel
theorem dX8_filledBy_46 : decode cX8_filledBy 46 = .ok (.iconst 0, 1) := by decide +kernel
theorem dX8_filledBy_47 : decode cX8_filledBy 47 = .ok (.goto 7, 3) := by decide +kernel
theorem dX8_filledBy_50 : decode cX8_filledBy 50 = .ok (.aload_n 0, 1) := by decide +kernel
theorem dX8_filledBy_51 : decode cX8_filledBy 51 = .ok (.getfield 91, 3) := by decide +kernel
theorem dX8_filledBy_54 : decode cX8_filledBy 54 = .ok (.invokestatic 129, 3) := by decide +kernel
theorem dX8_filledBy_57 : decode cX8_filledBy 57 = .ok (.imul, 1) := by decide +kernel
theorem dX8_filledBy_58 : decode cX8_filledBy 58 = .ok (.istore_n 3, 1) := by decide +kernel
theorem dX8_filledBy_59 : decode cX8_filledBy 59 = .ok (.aload_n 0, 1) := by decide +kernel
theorem dX8_filledBy_60 : decode cX8_filledBy 60 = .ok (.getfield 88, 3) := by decide +kernel
theorem dX8_filledBy_63 : decode cX8_filledBy 63 = .ok (.iconst 3, 1) := by decide +kernel
theorem dX8_filledBy_64 : decode cX8_filledBy 64 = .ok (.if_icmp .lt 12, 3) := by decide +kernel
theorem dX8_filledBy_67 : decode cX8_filledBy 67 = .ok (.aload_n 0, 1) := by decide +kernel
theorem dX8_filledBy_68 : decode cX8_filledBy 68 = .ok (.iload_n 1, 1) := by decide +kernel
theorem dX8_filledBy_69 : decode cX8_filledBy 69 = .ok (.invokevirtual 97, 3) := by decide +kernel
theorem dX8_filledBy_72 : decode cX8_filledBy 72 = .ok (.iload_n 1, 1) := by decide +kernel
theorem dX8_filledBy_73 : decode cX8_filledBy 73 = .ok (.if_icmp .ne 7, 3) := by decide +kernel
theorem dX8_filledBy_76 : decode cX8_filledBy 76 = .ok (.iload_n 3, 1) := by decide +kernel
theorem dX8_filledBy_77 : decode cX8_filledBy 77 = .ok (.goto 12, 3) := by decide +kernel
theorem dX8_filledBy_80 : decode cX8_filledBy 80 = .ok (.iconst 2, 1) := by decide +kernel
theorem dX8_filledBy_81 : decode cX8_filledBy 81 = .ok (.iload_n 3, 1) := by decide +kernel
theorem dX8_filledBy_82 : decode cX8_filledBy 82 = .ok (.imul, 1) := by decide +kernel
theorem dX8_filledBy_83 : decode cX8_filledBy 83 = .ok (.aload_n 0, 1) := by decide +kernel
theorem dX8_filledBy_84 : decode cX8_filledBy 84 = .ok (.iload_n 1, 1) := by decide +kernel
theorem dX8_filledBy_85 : decode cX8_filledBy 85 = .ok (.invokevirtual 132, 3) := by decide +kernel
theorem dX8_filledBy_88 : decode cX8_filledBy 88 = .ok (.isub, 1) := by decide +kernel
theorem dX8_filledBy_89 : decode cX8_filledBy 89 = .ok (.ireturn, 1) := by decide +kernel
theorem dX8_filledByBoth_0 : decode cX8_filledByBoth 0 = .ok (.iload_n 1, 1) := by decide +kernel
theorem dX8_filledByBoth_1 : decode cX8_filledByBoth 1 = .ok (.aload_n 0, 1) := by decide +kernel
theorem dX8_filledByBoth_2 : decode cX8_filledByBoth 2 = .ok (.iload_n 1, 1) := by decide +kernel
theorem dX8_filledByBoth_3 : decode cX8_filledByBoth 3 = .ok (.invokevirtual 97, 3) := by decide +kernel
theorem dX8_filledByBoth_6 : decode cX8_filledByBoth 6 = .ok (.iconst (-1), 1) := by decide +kernel
theorem dX8_filledByBoth_7 : decode cX8_filledByBoth 7 = .ok (.ixor, 1) := by decide +kernel
theorem dX8_filledByBoth_8 : decode cX8_filledByBoth 8 = .ok (.iand, 1) := by decide +kernel
theorem dX8_filledByBoth_9 : decode cX8_filledByBoth 9 = .ok (.invokestatic 101, 3) := by decide +kernel
theorem dX8_filledByBoth_12 : decode cX8_filledByBoth 12 = .ok (.istore_n 2, 1) := by decide +kernel
theorem dX8_filledByBoth_13 : decode cX8_filledByBoth 13 = .ok (.iload_n 1, 1) := by decide +kernel
theorem dX8_filledByBoth_14 : decode cX8_filledByBoth 14 = .ok (.invokestatic 101, 3) := by decide +kernel
theorem dX8_filledByBoth_17 : decode cX8_filledByBoth 17 = .ok (.iload_n 2, 1) := by decide +kernel
theorem dX8_filledByBoth_18 : decode cX8_filledByBoth 18 = .ok (.isub, 1) := by decide +kernel
theorem dX8_filledByBoth_19 : decode cX8_filledByBoth 19 = .ok (.istore_n 3, 1) := by decide +kernel
theorem dX8_filledByBoth_20 : decode cX8_filledByBoth 20 = .ok (.aload_n 0, 1) := by decide +kernel
theorem dX8_filledByBoth_21 : decode cX8_filledByBoth 21 = .ok (.getfield 7, 3) := by decide +kernel
theorem dX8_filledByBoth_24 : decode cX8_filledByBoth 24 = .ok (.iload_n 3, 1) := by decide +kernel
theorem dX8_filledByBoth_25 : decode cX8_filledByBoth 25 = .ok (.isub, 1) := by decide +kernel
theorem dX8_filledByBoth_26 : decode cX8_filledByBoth 26 = .ok (.iconst 2, 1) := by decide +kernel
theorem dX8_filledByBoth_27 : decode cX8_filledByBoth 27 = .ok (.iload_n 2, 1) := by decide +kernel
theorem dX8_filledByBoth_28 : decode cX8_filledByBoth 28 = .ok (.imul, 1) := by decide +kernel
theorem dX8_filledByBoth_29 : decode cX8_filledByBoth 29 = .ok (.isub, 1) := by decide +kernel
theorem dX8_filledByBoth_30 : decode cX8_filledByBoth 30 = .ok (.istore 4, 2) := by decide +kernel
theorem dX8_filledByBoth_32 : decode cX8_filledByBoth 32 = .ok (.iconst 0, 1) := by decide +kernel
theorem dX8_filledByBoth_33 : decode cX8_filledByBoth 33 = .ok (.istore 5, 2) := by decide +kernel
theorem dX8_filledByBoth_35 : decode cX8_filledByBoth 35 = .ok (.iconst 0, 1) := by decide +kernel
theorem dX8_filledByBoth_36 : decode cX8_filledByBoth 36 = .ok (.istore 6, 2) := by decide +kernel
theorem dX8_filledByBoth_38 : decode cX8_filledByBoth 38 = .ok (.iload 6, 2) := by decide +kernel
theorem dX8_filledByBoth_40 : decode cX8_filledByBoth 40 = .ok (.iload_n 2, 1) := by decide +kernel
theorem dX8_filledByBoth_41 : decode cX8_filledByBoth 41 = .ok (.if_icmp .gt 135, 3) := by decide +kernel
theorem dX8_filledByBoth_44 : decode cX8_filledByBoth 44 = .ok (.iconst 0, 1) := by decide +kernel
theorem dX8_filledByBoth_45 : decode cX8_filledByBoth 45 = .ok (.istore 7, 2) := by decide +kernel
theorem dX8_filledByBoth_47 : decode cX8_filledByBoth 47 = .ok (.iload 7, 2) := by decide +kernel
theorem dX8_filledByBoth_49 : decode cX8_filledByBoth 49 = .ok (.iload_n 2, 1) := by decide +kernel
theorem dX8_filledByBoth_50 : decode cX8_filledByBoth 50 = .ok (.if_icmp .gt 120, 3) := by decide +kernel
theorem dX8_filledByBoth_53 : decode cX8_filledByBoth 53 = .ok (.iload_n 2, 1) := by decide +kernel
theorem dX8_filledByBoth_54 : decode cX8_filledByBoth 54 = .ok (.iload 6, 2) := by decide +kernel
theorem dX8_filledByBoth_56 : decode cX8_filledByBoth 56 = .ok (.iload 7, 2) := by decide +kernel
theorem dX8_filledByBoth_58 : decode cX8_filledByBoth 58 = .ok (.if_icmp .ge 8, 3) := by decide +kernel
theorem dX8_filledByBoth_61 : decode cX8_filledByBoth 61 = .ok (.iload 6, 2) := by decide +kernel
theorem dX8_filledByBoth_63 : decode cX8_filledByBoth 63 = .ok (.goto 5, 3) := by decide +kernel
theorem dX8_filledByBoth_66 : decode cX8_filledByBoth 66 = .ok (.iload 7, 2) := by decide +kernel
theorem dX8_filledByBoth_68 : decode cX8_filledByBoth 68 = .ok (.isub, 1) := by decide +kernel
theorem dX8_filledByBoth_69 : decode cX8_filledByBoth 69 = .ok (.istore 8, 2) := by decide +kernel
theorem dX8_filledByBoth_71 : decode cX8_filledByBoth 71 = .ok (.iload 6, 2) := by decide +kernel
theorem dX8_filledByBoth_73 : decode cX8_filledByBoth 73 = .ok (.iload 7, 2) := by decide +kernel
theorem dX8_filledByBoth_75 : decode cX8_filledByBoth 75 = .ok (.if_icmp .le 8, 3) := by decide +kernel
theorem dX8_filledByBoth_78 : decode cX8_filledByBoth 78 = .ok (.iload 6, 2) := by decide +kernel
theorem dX8_filledByBoth_80 : decode cX8_filledByBoth 80 = .ok (.goto 5, 3) := by decide +kernel
theorem dX8_filledByBoth_83 : decode cX8_filledByBoth 83 = .ok (.iload 7, 2) := by decide +kernel
theorem dX8_filledByBoth_85 : decode cX8_filledByBoth 85 = .ok (.istore 9, 2) := by decide +kernel
theorem dX8_filledByBoth_87 : decode cX8_filledByBoth 87 = .ok (.iload 8, 2) := by decide +kernel
theorem dX8_filledByBoth_89 : decode cX8_filledByBoth 89 = .ok (.aload_n 0, 1) := by decide +kernel
theorem dX8_filledByBoth_90 : decode cX8_filledByBoth 90 = .ok (.getfield 13, 3) := by decide +kernel
theorem dX8_filledByBoth_93 : decode cX8_filledByBoth 93 = .ok (.if_icmp .gt 16, 3) := by decide +kernel
theorem dX8_filledByBoth_96 : decode cX8_filledByBoth 96 = .ok (.iload 9, 2) := by decide +kernel
theorem dX8_filledByBoth_98 : decode cX8_filledByBoth 98 = .ok (.aload_n 0, 1) := by decide +kernel
theorem dX8_filledByBoth_99 : decode cX8_filledByBoth 99 = .ok (.getfield 91, 3) := by decide +kernel
theorem dX8_filledByBoth_102 : decode cX8_filledByBoth 102 = .ok (.if_icmp .gt 7, 3) := by decide +kernel
theorem dX8_filledByBoth_105 : decode cX8_filledByBoth 105 = .ok (.iconst 1, 1) := by decide +kernel
theorem dX8_filledByBoth_106 : decode cX8_filledByBoth 106 = .ok (.goto 4, 3) := by decide +kernel
theorem dX8_filledByBoth_109 : decode cX8_filledByBoth 109 = .ok (.iconst 0, 1) := by decide +kernel
theorem dX8_filledByBoth_110 : decode cX8_filledByBoth 110 = .ok (.istore 10, 2) := by decide +kernel
theorem dX8_filledByBoth_112 : decode cX8_filledByBoth 112 = .ok (.iload 5, 2) := by decide +kernel
theorem dX8_filledByBoth_114 : decode cX8_filledByBoth 114 = .ok (.iload 10, 2) := by decide +kernel
theorem dX8_filledByBoth_116 : decode cX8_filledByBoth 116 = .ok (.ifCond .eq 44, 3) := by decide +kernel
theorem dX8_filledByBoth_119 : decode cX8_filledByBoth 119 = .ok (.iload_n 2, 1) := by decide +kernel
theorem dX8_filledByBoth_120 : decode cX8_filledByBoth 120 = .ok (.iload 6, 2) := by decide +kernel
theorem dX8_filledByBoth_122 : decode cX8_filledByBoth 122 = .ok (.invokestatic 125, 3) := by decide +kernel
theorem dX8_filledByBoth_125 : decode cX8_filledByBoth 125 = .ok (.iload_n 2, 1) := by decide +kernel
theorem dX8_filledByBoth_126 : decode cX8_filledByBoth 126 = .ok (.iload 7, 2) := by decide +kernel
theorem dX8_filledByBoth_128 : decode cX8_filledByBoth 128 = .ok (.invokestatic 125, 3) := by decide +kernel
theorem dX8_filledByBoth_131 : decode cX8_filledByBoth 131 = .ok (.imul, 1) := by decide +kernel
theorem dX8_filledByBoth_132 : decode cX8_filledByBoth 132 = .ok (.iload_n 3, 1) := by decide +kernel
theorem dX8_filledByBoth_133 : decode cX8_filledByBoth 133 = .ok (.aload_n 0, 1) := by decide +kernel
theorem dX8_filledByBoth_134 : decode cX8_filledByBoth 134 = .ok (.getfield 13, 3) := by decide +kernel
theorem dX8_filledByBoth_137 : decode cX8_filledByBoth 137 = .ok (.iload 8, 2) := by decide +kernel
theorem dX8_filledByBoth_139 : decode cX8_filledByBoth 139 = .ok (.isub, 1) := by decide +kernel
theorem dX8_filledByBoth_140 : decode cX8_filledByBoth 140 = .ok (.invokestatic 129, 3) := by decide +kernel
theorem dX8_filledByBoth_143 : decode cX8_filledByBoth 143 = .ok (.imul, 1) := by decide +kernel
theorem dX8_filledByBoth_144 : decode cX8_filledByBoth 144 = .ok (.iload 4, 2) := by decide +kernel
theorem dX8_filledByBoth_146 : decode cX8_filledByBoth 146 = .ok (.aload_n 0, 1) := by decide +kernel
theorem dX8_filledByBoth_147 : decode cX8_filledByBoth 147 = .ok (.getfield 91, 3) := by decide +kernel
theorem dX8_filledByBoth_150 : decode cX8_filledByBoth 150 = .ok (.iload 9, 2) := by decide +kernel
theorem dX8_filledByBoth_152 : decode cX8_filledByBoth 152 = .ok (.isub, 1) := by decide +kernel
theorem dX8_filledByBoth_153 : decode cX8_filledByBoth 153 = .ok (.invokestatic 129, 3) := by decide +kernel
theorem dX8_filledByBoth_156 : decode cX8_filledByBoth 156 = .ok (.imul, 1) := by decide +kernel
theorem dX8_filledByBoth_157 : decode cX8_filledByBoth 157 = .ok (.goto 4, 3) := by decide +kernel
theorem dX8_filledByBoth_160 : decode cX8_filledByBoth 160 = .ok (.iconst 0, 1) := by decide +kernel
theorem dX8_filledByBoth_161 : decode cX8_filledByBoth 161 = .ok (.iadd, 1) := by decide +kernel
theorem dX8_filledByBoth_162 : decode cX8_filledByBoth 162 = .ok (.istore 5, 2) := by decide +kernel
theorem dX8_filledByBoth_164 : decode cX8_filledByBoth 164 = .ok (.iinc 7 1, 3) := by decide +kernel
theorem dX8_filledByBoth_167 : decode cX8_filledByBoth 167 = .ok (.goto (-120), 3) := by decide +kernel
theorem dX8_filledByBoth_170 : decode cX8_filledByBoth 170 = .ok (.iinc 6 1, 3) := by decide +kernel
theorem dX8_filledByBoth_173 : decode cX8_filledByBoth 173 = .ok (.goto (-135), 3) := by decide +kernel
theorem dX8_filledByBoth_176 : decode cX8_filledByBoth 176 = .ok (.iload 5, 2) := by decide +kernel
theorem dX8_filledByBoth_178 : decode cX8_filledByBoth 178 = .ok (.ireturn, 1) := by decide +kernel
theorem dX8_fills_0 : decode cX8_fills 0 = .ok (.aload_n 0, 1) := by decide +kernel
theorem dX8_fills_1 : decode cX8_fills 1 = .ok (.iload_n 1, 1) := by decide +kernel
theorem dX8_fills_2 : decode cX8_fills 2 = .ok (.invokevirtual 94, 3) := by decide +kernel
theorem dX8_fills_5 : decode cX8_fills 5 = .ok (.ifCond .eq 11, 3) := by decide +kernel
theorem dX8_fills_8 : decode cX8_fills 8 = .ok (.aload_n 0, 1) := by decide +kernel
theorem dX8_fills_9 : decode cX8_fills 9 = .ok (.iload_n 1, 1) := by decide +kernel
theorem dX8_fills_10 : decode cX8_fills 10 = .ok (.invokevirtual 135, 3) := by decide +kernel
theorem dX8_fills_13 : decode cX8_fills 13 = .ok (.goto 6, 3) := by decide +kernel
theorem dX8_fills_16 : decode cX8_fills 16 = .ok (.sipush (-1002), 3) := by decide +kernel
theorem dX8_fills_19 : decode cX8_fills 19 = .ok (.ireturn, 1) := by decide +kernel
theorem dX8_has_0 : decode cX8_has 0 = .ok (.iconst 0, 1) := by decide +kernel
theorem dX8_has_1 : decode cX8_has 1 = .ok (.istore_n 3, 1) := by decide +kernel
theorem dX8_has_2 : decode cX8_has 2 = .ok (.iconst 0, 1) := by decide +kernel
theorem dX8_has_3 : decode cX8_has 3 = .ok (.istore 4, 2) := by decide +kernel
theorem dX8_has_5 : decode cX8_has 5 = .ok (.iload 4, 2) := by decide +kernel
theorem dX8_has_7 : decode cX8_has 7 = .ok (.aload_n 0, 1) := by decide +kernel
theorem dX8_has_8 : decode cX8_has 8 = .ok (.getfield 16, 3) := by decide +kernel
theorem dX8_has_11 : decode cX8_has 11 = .ok (.iload_n 1, 1) := by decide +kernel
theorem dX8_has_12 : decode cX8_has 12 = .ok (.iaload, 1) := by decide +kernel
theorem dX8_has_13 : decode cX8_has 13 = .ok (.if_icmp .ge 30, 3) := by decide +kernel
theorem dX8_has_16 : decode cX8_has 16 = .ok (.iload_n 3, 1) := by decide +kernel
theorem dX8_has_17 : decode cX8_has 17 = .ok (.ifCond .ne 14, 3) := by decide +kernel
theorem dX8_has_20 : decode cX8_has 20 = .ok (.aload_n 0, 1) := by decide +kernel
theorem dX8_has_21 : decode cX8_has 21 = .ok (.iload_n 1, 1) := by decide +kernel
theorem dX8_has_22 : decode cX8_has 22 = .ok (.iload 4, 2) := by decide +kernel
theorem dX8_has_24 : decode cX8_has 24 = .ok (.invokevirtual 138, 3) := by decide +kernel
theorem dX8_has_27 : decode cX8_has 27 = .ok (.iload_n 2, 1) := by decide +kernel
theorem dX8_has_28 : decode cX8_has 28 = .ok (.if_icmp .ne 7, 3) := by decide +kernel
theorem dX8_has_31 : decode cX8_has 31 = .ok (.iconst 1, 1) := by decide +kernel
theorem dX8_has_32 : decode cX8_has 32 = .ok (.goto 4, 3) := by decide +kernel
theorem dX8_has_35 : decode cX8_has 35 = .ok (.iconst 0, 1) := by decide +kernel
theorem dX8_has_36 : decode cX8_has 36 = .ok (.istore_n 3, 1) := by decide +kernel
theorem dX8_has_37 : decode cX8_has 37 = .ok (.iinc 4 1, 3) := by decide +kernel
theorem dX8_has_40 : decode cX8_has 40 = .ok (.goto (-35), 3) := by decide +kernel
theorem dX8_has_43 : decode cX8_has 43 = .ok (.iload_n 3, 1) := by decide +kernel
theorem dX8_has_44 : decode cX8_has 44 = .ok (.ireturn, 1) := by decide +kernel
theorem dX8_put_0 : decode cX8_put 0 = .ok (.aload_n 0, 1) := by decide +kernel
theorem dX8_put_1 : decode cX8_put 1 = .ok (.getfield 20, 3) := by decide +kernel
theorem dX8_put_4 : decode cX8_put 4 = .ok (.bipush 64, 2) := by decide +kernel
theorem dX8_put_6 : decode cX8_put 6 = .ok (.iload_n 1, 1) := by decide +kernel
theorem dX8_put_7 : decode cX8_put 7 = .ok (.imul, 1) := by decide +kernel
theorem dX8_put_8 : decode cX8_put 8 = .ok (.aload_n 0, 1) := by decide +kernel
theorem dX8_put_9 : decode cX8_put 9 = .ok (.getfield 16, 3) := by decide +kernel
theorem dX8_put_12 : decode cX8_put 12 = .ok (.iload_n 1, 1) := by decide +kernel
theorem dX8_put_13 : decode cX8_put 13 = .ok (.iaload, 1) := by decide +kernel
theorem dX8_put_14 : decode cX8_put 14 = .ok (.iadd, 1) := by decide +kernel
theorem dX8_put_15 : decode cX8_put 15 = .ok (.iload_n 2, 1) := by decide +kernel
theorem dX8_put_16 : decode cX8_put 16 = .ok (.iastore, 1) := by decide +kernel
theorem dX8_put_17 : decode cX8_put 17 = .ok (.aload_n 0, 1) := by decide +kernel
theorem dX8_put_18 : decode cX8_put 18 = .ok (.getfield 16, 3) := by decide +kernel
theorem dX8_put_21 : decode cX8_put 21 = .ok (.iload_n 1, 1) := by decide +kernel
theorem dX8_put_22 : decode cX8_put 22 = .ok (.dup2, 1) := by decide +kernel
theorem dX8_put_23 : decode cX8_put 23 = .ok (.iaload, 1) := by decide +kernel
theorem dX8_put_24 : decode cX8_put 24 = .ok (.iconst 1, 1) := by decide +kernel
theorem dX8_put_25 : decode cX8_put 25 = .ok (.iadd, 1) := by decide +kernel
theorem dX8_put_26 : decode cX8_put 26 = .ok (.iastore, 1) := by decide +kernel
theorem dX8_put_27 : decode cX8_put 27 = .ok (.return_, 1) := by decide +kernel
theorem dX8_add_0 : decode cX8_add 0 = .ok (.iload_n 1, 1) := by decide +kernel
theorem dX8_add_1 : decode cX8_add 1 = .ok (.invokestatic 76, 3) := by decide +kernel
theorem dX8_add_4 : decode cX8_add 4 = .ok (.ifCond .ne 7, 3) := by decide +kernel
theorem dX8_add_7 : decode cX8_add 7 = .ok (.sipush (-1001), 3) := by decide +kernel
theorem dX8_add_10 : decode cX8_add 10 = .ok (.ireturn, 1) := by decide +kernel
theorem dX8_add_11 : decode cX8_add 11 = .ok (.aload_n 0, 1) := by decide +kernel
theorem dX8_add_12 : decode cX8_add 12 = .ok (.iload_n 2, 1) := by decide +kernel
theorem dX8_add_13 : decode cX8_add 13 = .ok (.invokevirtual 94, 3) := by decide +kernel
theorem dX8_add_16 : decode cX8_add 16 = .ok (.ifCond .ne 7, 3) := by decide +kernel
theorem dX8_add_19 : decode cX8_add 19 = .ok (.sipush (-1002), 3) := by decide +kernel
theorem dX8_add_22 : decode cX8_add 22 = .ok (.ireturn, 1) := by decide +kernel
theorem dX8_add_23 : decode cX8_add 23 = .ok (.aload_n 0, 1) := by decide +kernel
theorem dX8_add_24 : decode cX8_add 24 = .ok (.iload_n 1, 1) := by decide +kernel
theorem dX8_add_25 : decode cX8_add 25 = .ok (.iload_n 2, 1) := by decide +kernel
theorem dX8_add_26 : decode cX8_add 26 = .ok (.invokevirtual 141, 3) := by decide +kernel
theorem dX8_add_29 : decode cX8_add 29 = .ok (.ifCond .eq 7, 3) := by decide +kernel
theorem dX8_add_32 : decode cX8_add 32 = .ok (.sipush (-1003), 3) := by decide +kernel
theorem dX8_add_35 : decode cX8_add 35 = .ok (.ireturn, 1) := by decide +kernel
theorem dX8_add_36 : decode cX8_add 36 = .ok (.aload_n 0, 1) := by decide +kernel
theorem dX8_add_37 : decode cX8_add 37 = .ok (.getfield 16, 3) := by decide +kernel
theorem dX8_add_40 : decode cX8_add 40 = .ok (.iload_n 1, 1) := by decide +kernel
theorem dX8_add_41 : decode cX8_add 41 = .ok (.iaload, 1) := by decide +kernel
theorem dX8_add_42 : decode cX8_add 42 = .ok (.bipush 64, 2) := by decide +kernel
theorem dX8_add_44 : decode cX8_add 44 = .ok (.if_icmp .ne 7, 3) := by decide +kernel
theorem dX8_add_47 : decode cX8_add 47 = .ok (.sipush (-1004), 3) := by decide +kernel
theorem dX8_add_50 : decode cX8_add 50 = .ok (.ireturn, 1) := by decide +kernel
theorem dX8_add_51 : decode cX8_add 51 = .ok (.aload_n 0, 1) := by decide +kernel
theorem dX8_add_52 : decode cX8_add 52 = .ok (.iload_n 1, 1) := by decide +kernel
theorem dX8_add_53 : decode cX8_add 53 = .ok (.iload_n 2, 1) := by decide +kernel
theorem dX8_add_54 : decode cX8_add 54 = .ok (.invokevirtual 144, 3) := by decide +kernel
theorem dX8_add_57 : decode cX8_add 57 = .ok (.aload_n 0, 1) := by decide +kernel
theorem dX8_add_58 : decode cX8_add 58 = .ok (.getfield 16, 3) := by decide +kernel
theorem dX8_add_61 : decode cX8_add 61 = .ok (.iload_n 1, 1) := by decide +kernel
theorem dX8_add_62 : decode cX8_add 62 = .ok (.iaload, 1) := by decide +kernel
theorem dX8_add_63 : decode cX8_add 63 = .ok (.ireturn, 1) := by decide +kernel
theorem dX8_drop_0 : decode cX8_drop 0 = .ok (.aload_n 0, 1) := by decide +kernel
theorem dX8_drop_1 : decode cX8_drop 1 = .ok (.iload_n 1, 1) := by decide +kernel
theorem dX8_drop_2 : decode cX8_drop 2 = .ok (.iload_n 2, 1) := by decide +kernel
theorem dX8_drop_3 : decode cX8_drop 3 = .ok (.invokevirtual 148, 3) := by decide +kernel
theorem dX8_drop_6 : decode cX8_drop 6 = .ok (.ifCond .ne 7, 3) := by decide +kernel
theorem dX8_drop_9 : decode cX8_drop 9 = .ok (.sipush (-1001), 3) := by decide +kernel
theorem dX8_drop_12 : decode cX8_drop 12 = .ok (.ireturn, 1) := by decide +kernel
theorem dX8_drop_13 : decode cX8_drop 13 = .ok (.aload_n 0, 1) := by decide +kernel
theorem dX8_drop_14 : decode cX8_drop 14 = .ok (.getfield 16, 3) := by decide +kernel
theorem dX8_drop_17 : decode cX8_drop 17 = .ok (.iload_n 1, 1) := by decide +kernel
theorem dX8_drop_18 : decode cX8_drop 18 = .ok (.dup2, 1) := by decide +kernel
theorem dX8_drop_19 : decode cX8_drop 19 = .ok (.iaload, 1) := by decide +kernel
theorem dX8_drop_20 : decode cX8_drop 20 = .ok (.iconst 1, 1) := by decide +kernel
theorem dX8_drop_21 : decode cX8_drop 21 = .ok (.isub, 1) := by decide +kernel
theorem dX8_drop_22 : decode cX8_drop 22 = .ok (.iastore, 1) := by decide +kernel
theorem dX8_drop_23 : decode cX8_drop 23 = .ok (.iload_n 2, 1) := by decide +kernel
theorem dX8_drop_24 : decode cX8_drop 24 = .ok (.istore_n 3, 1) := by decide +kernel
theorem dX8_drop_25 : decode cX8_drop 25 = .ok (.iload_n 3, 1) := by decide +kernel
theorem dX8_drop_26 : decode cX8_drop 26 = .ok (.aload_n 0, 1) := by decide +kernel
theorem dX8_drop_27 : decode cX8_drop 27 = .ok (.getfield 16, 3) := by decide +kernel
theorem dX8_drop_30 : decode cX8_drop 30 = .ok (.iload_n 1, 1) := by decide +kernel
theorem dX8_drop_31 : decode cX8_drop 31 = .ok (.iaload, 1) := by decide +kernel
theorem dX8_drop_32 : decode cX8_drop 32 = .ok (.if_icmp .ge 33, 3) := by decide +kernel
theorem dX8_drop_35 : decode cX8_drop 35 = .ok (.aload_n 0, 1) := by decide +kernel
theorem dX8_drop_36 : decode cX8_drop 36 = .ok (.getfield 20, 3) := by decide +kernel
theorem dX8_drop_39 : decode cX8_drop 39 = .ok (.bipush 64, 2) := by decide +kernel
theorem dX8_drop_41 : decode cX8_drop 41 = .ok (.iload_n 1, 1) := by decide +kernel
theorem dX8_drop_42 : decode cX8_drop 42 = .ok (.imul, 1) := by decide +kernel
theorem dX8_drop_43 : decode cX8_drop 43 = .ok (.iload_n 3, 1) := by decide +kernel
theorem dX8_drop_44 : decode cX8_drop 44 = .ok (.iadd, 1) := by decide +kernel
theorem dX8_drop_45 : decode cX8_drop 45 = .ok (.aload_n 0, 1) := by decide +kernel
theorem dX8_drop_46 : decode cX8_drop 46 = .ok (.getfield 20, 3) := by decide +kernel
theorem dX8_drop_49 : decode cX8_drop 49 = .ok (.bipush 64, 2) := by decide +kernel
theorem dX8_drop_51 : decode cX8_drop 51 = .ok (.iload_n 1, 1) := by decide +kernel
theorem dX8_drop_52 : decode cX8_drop 52 = .ok (.imul, 1) := by decide +kernel
theorem dX8_drop_53 : decode cX8_drop 53 = .ok (.iload_n 3, 1) := by decide +kernel
theorem dX8_drop_54 : decode cX8_drop 54 = .ok (.iadd, 1) := by decide +kernel
theorem dX8_drop_55 : decode cX8_drop 55 = .ok (.iconst 1, 1) := by decide +kernel
theorem dX8_drop_56 : decode cX8_drop 56 = .ok (.iadd, 1) := by decide +kernel
theorem dX8_drop_57 : decode cX8_drop 57 = .ok (.iaload, 1) := by decide +kernel
theorem dX8_drop_58 : decode cX8_drop 58 = .ok (.iastore, 1) := by decide +kernel
theorem dX8_drop_59 : decode cX8_drop 59 = .ok (.iinc 3 1, 3) := by decide +kernel
theorem dX8_drop_62 : decode cX8_drop 62 = .ok (.goto (-37), 3) := by decide +kernel
theorem dX8_drop_65 : decode cX8_drop 65 = .ok (.aload_n 0, 1) := by decide +kernel
theorem dX8_drop_66 : decode cX8_drop 66 = .ok (.getfield 16, 3) := by decide +kernel
theorem dX8_drop_69 : decode cX8_drop 69 = .ok (.iload_n 1, 1) := by decide +kernel
theorem dX8_drop_70 : decode cX8_drop 70 = .ok (.iaload, 1) := by decide +kernel
theorem dX8_drop_71 : decode cX8_drop 71 = .ok (.ireturn, 1) := by decide +kernel
theorem dX8_clear_0 : decode cX8_clear 0 = .ok (.iload_n 1, 1) := by decide +kernel
theorem dX8_clear_1 : decode cX8_clear 1 = .ok (.invokestatic 76, 3) := by decide +kernel
theorem dX8_clear_4 : decode cX8_clear 4 = .ok (.ifCond .ne 7, 3) := by decide +kernel
theorem dX8_clear_7 : decode cX8_clear 7 = .ok (.sipush (-1001), 3) := by decide +kernel
theorem dX8_clear_10 : decode cX8_clear 10 = .ok (.ireturn, 1) := by decide +kernel
theorem dX8_clear_11 : decode cX8_clear 11 = .ok (.aload_n 0, 1) := by decide +kernel
theorem dX8_clear_12 : decode cX8_clear 12 = .ok (.getfield 16, 3) := by decide +kernel
theorem dX8_clear_15 : decode cX8_clear 15 = .ok (.iload_n 1, 1) := by decide +kernel
theorem dX8_clear_16 : decode cX8_clear 16 = .ok (.iaload, 1) := by decide +kernel
theorem dX8_clear_17 : decode cX8_clear 17 = .ok (.istore_n 2, 1) := by decide +kernel
theorem dX8_clear_18 : decode cX8_clear 18 = .ok (.aload_n 0, 1) := by decide +kernel
theorem dX8_clear_19 : decode cX8_clear 19 = .ok (.getfield 16, 3) := by decide +kernel
theorem dX8_clear_22 : decode cX8_clear 22 = .ok (.iload_n 1, 1) := by decide +kernel
theorem dX8_clear_23 : decode cX8_clear 23 = .ok (.iconst 0, 1) := by decide +kernel
theorem dX8_clear_24 : decode cX8_clear 24 = .ok (.iastore, 1) := by decide +kernel
theorem dX8_clear_25 : decode cX8_clear 25 = .ok (.iload_n 2, 1) := by decide +kernel
theorem dX8_clear_26 : decode cX8_clear 26 = .ok (.ireturn, 1) := by decide +kernel
theorem dX8_mark_0 : decode cX8_mark 0 = .ok (.iload_n 1, 1) := by decide +kernel
theorem dX8_mark_1 : decode cX8_mark 1 = .ok (.invokestatic 76, 3) := by decide +kernel
theorem dX8_mark_4 : decode cX8_mark 4 = .ok (.ifCond .eq 17, 3) := by decide +kernel
theorem dX8_mark_7 : decode cX8_mark 7 = .ok (.iload_n 2, 1) := by decide +kernel
theorem dX8_mark_8 : decode cX8_mark 8 = .ok (.iconst (-1), 1) := by decide +kernel
theorem dX8_mark_9 : decode cX8_mark 9 = .ok (.if_icmp .eq 16, 3) := by decide +kernel
theorem dX8_mark_12 : decode cX8_mark 12 = .ok (.aload_n 0, 1) := by decide +kernel
theorem dX8_mark_13 : decode cX8_mark 13 = .ok (.iload_n 1, 1) := by decide +kernel
theorem dX8_mark_14 : decode cX8_mark 14 = .ok (.iload_n 2, 1) := by decide +kernel
theorem dX8_mark_15 : decode cX8_mark 15 = .ok (.invokevirtual 148, 3) := by decide +kernel
theorem dX8_mark_18 : decode cX8_mark 18 = .ok (.ifCond .ne 7, 3) := by decide +kernel
theorem dX8_mark_21 : decode cX8_mark 21 = .ok (.sipush (-1001), 3) := by decide +kernel
theorem dX8_mark_24 : decode cX8_mark 24 = .ok (.ireturn, 1) := by decide +kernel
theorem dX8_mark_25 : decode cX8_mark 25 = .ok (.iload_n 2, 1) := by decide +kernel
theorem dX8_mark_26 : decode cX8_mark 26 = .ok (.iconst (-1), 1) := by decide +kernel
theorem dX8_mark_27 : decode cX8_mark 27 = .ok (.if_icmp .ne 12, 3) := by decide +kernel
theorem dX8_mark_30 : decode cX8_mark 30 = .ok (.aload_n 0, 1) := by decide +kernel
theorem dX8_mark_31 : decode cX8_mark 31 = .ok (.getfield 16, 3) := by decide +kernel
theorem dX8_mark_34 : decode cX8_mark 34 = .ok (.iload_n 1, 1) := by decide +kernel
theorem dX8_mark_35 : decode cX8_mark 35 = .ok (.iaload, 1) := by decide +kernel
theorem dX8_mark_36 : decode cX8_mark 36 = .ok (.goto 9, 3) := by decide +kernel
theorem dX8_mark_39 : decode cX8_mark 39 = .ok (.aload_n 0, 1) := by decide +kernel
theorem dX8_mark_40 : decode cX8_mark 40 = .ok (.iload_n 1, 1) := by decide +kernel
theorem dX8_mark_41 : decode cX8_mark 41 = .ok (.iload_n 2, 1) := by decide +kernel
theorem dX8_mark_42 : decode cX8_mark 42 = .ok (.invokevirtual 138, 3) := by decide +kernel
theorem dX8_mark_45 : decode cX8_mark 45 = .ok (.ireturn, 1) := by decide +kernel
theorem dX8_good_0 : decode cX8_good 0 = .ok (.iload_n 1, 1) := by decide +kernel
theorem dX8_good_1 : decode cX8_good 1 = .ok (.invokestatic 76, 3) := by decide +kernel
theorem dX8_good_4 : decode cX8_good 4 = .ok (.ifCond .ne 7, 3) := by decide +kernel
theorem dX8_good_7 : decode cX8_good 7 = .ok (.sipush (-1001), 3) := by decide +kernel
theorem dX8_good_10 : decode cX8_good 10 = .ok (.ireturn, 1) := by decide +kernel
theorem dX8_good_11 : decode cX8_good 11 = .ok (.iload_n 2, 1) := by decide +kernel
theorem dX8_good_12 : decode cX8_good 12 = .ok (.i2l, 1) := by decide +kernel
theorem dX8_good_13 : decode cX8_good 13 = .ok (.lconst 0, 1) := by decide +kernel
theorem dX8_good_14 : decode cX8_good 14 = .ok (.ldc2_w 86, 3) := by decide +kernel
theorem dX8_good_17 : decode cX8_good 17 = .ok (.invokestatic 70, 3) := by decide +kernel
theorem dX8_good_20 : decode cX8_good 20 = .ok (.ifCond .ne 7, 3) := by decide +kernel
theorem dX8_good_23 : decode cX8_good 23 = .ok (.sipush (-1002), 3) := by decide +kernel
theorem dX8_good_26 : decode cX8_good 26 = .ok (.ireturn, 1) := by decide +kernel
theorem dX8_good_27 : decode cX8_good 27 = .ok (.iconst 0, 1) := by decide +kernel
theorem dX8_good_28 : decode cX8_good 28 = .ok (.istore_n 3, 1) := by decide +kernel
theorem dX8_good_29 : decode cX8_good 29 = .ok (.iload_n 3, 1) := by decide +kernel
theorem dX8_good_30 : decode cX8_good 30 = .ok (.aload_n 0, 1) := by decide +kernel
theorem dX8_good_31 : decode cX8_good 31 = .ok (.getfield 16, 3) := by decide +kernel
theorem dX8_good_34 : decode cX8_good 34 = .ok (.iload_n 1, 1) := by decide +kernel
theorem dX8_good_35 : decode cX8_good 35 = .ok (.iaload, 1) := by decide +kernel
theorem dX8_good_36 : decode cX8_good 36 = .ok (.if_icmp .ge 106, 3) := by decide +kernel
theorem dX8_good_39 : decode cX8_good 39 = .ok (.iload_n 3, 1) := by decide +kernel
theorem dX8_good_40 : decode cX8_good 40 = .ok (.iconst 1, 1) := by decide +kernel
theorem dX8_good_41 : decode cX8_good 41 = .ok (.iadd, 1) := by decide +kernel
theorem dX8_good_42 : decode cX8_good 42 = .ok (.istore 4, 2) := by decide +kernel
theorem dX8_good_44 : decode cX8_good 44 = .ok (.iload 4, 2) := by decide +kernel
theorem dX8_good_46 : decode cX8_good 46 = .ok (.aload_n 0, 1) := by decide +kernel
theorem dX8_good_47 : decode cX8_good 47 = .ok (.getfield 16, 3) := by decide +kernel
theorem dX8_good_50 : decode cX8_good 50 = .ok (.iload_n 1, 1) := by decide +kernel
theorem dX8_good_51 : decode cX8_good 51 = .ok (.iaload, 1) := by decide +kernel
theorem dX8_good_52 : decode cX8_good 52 = .ok (.if_icmp .ge 84, 3) := by decide +kernel
theorem dX8_good_55 : decode cX8_good 55 = .ok (.aload_n 0, 1) := by decide +kernel
theorem dX8_good_56 : decode cX8_good 56 = .ok (.aload_n 0, 1) := by decide +kernel
theorem dX8_good_57 : decode cX8_good 57 = .ok (.iload_n 1, 1) := by decide +kernel
theorem dX8_good_58 : decode cX8_good 58 = .ok (.iload_n 3, 1) := by decide +kernel
theorem dX8_good_59 : decode cX8_good 59 = .ok (.invokevirtual 138, 3) := by decide +kernel
theorem dX8_good_62 : decode cX8_good 62 = .ok (.aload_n 0, 1) := by decide +kernel
theorem dX8_good_63 : decode cX8_good 63 = .ok (.iload_n 1, 1) := by decide +kernel
theorem dX8_good_64 : decode cX8_good 64 = .ok (.iload 4, 2) := by decide +kernel
theorem dX8_good_66 : decode cX8_good 66 = .ok (.invokevirtual 138, 3) := by decide +kernel
theorem dX8_good_69 : decode cX8_good 69 = .ok (.invokevirtual 118, 3) := by decide +kernel
theorem dX8_good_72 : decode cX8_good 72 = .ok (.ifCond .eq 58, 3) := by decide +kernel
theorem dX8_good_75 : decode cX8_good 75 = .ok (.iload_n 2, 1) := by decide +kernel
theorem dX8_good_76 : decode cX8_good 76 = .ok (.ifCond .ne 7, 3) := by decide +kernel
theorem dX8_good_79 : decode cX8_good 79 = .ok (.iconst 0, 1) := by decide +kernel
theorem dX8_good_80 : decode cX8_good 80 = .ok (.goto 49, 3) := by decide +kernel
theorem dX8_good_83 : decode cX8_good 83 = .ok (.iload_n 2, 1) := by decide +kernel
theorem dX8_good_84 : decode cX8_good 84 = .ok (.iconst 1, 1) := by decide +kernel
theorem dX8_good_85 : decode cX8_good 85 = .ok (.if_icmp .ne 7, 3) := by decide +kernel
theorem dX8_good_88 : decode cX8_good 88 = .ok (.iload_n 3, 1) := by decide +kernel
theorem dX8_good_89 : decode cX8_good 89 = .ok (.goto 40, 3) := by decide +kernel
theorem dX8_good_92 : decode cX8_good 92 = .ok (.iload_n 2, 1) := by decide +kernel
theorem dX8_good_93 : decode cX8_good 93 = .ok (.iconst 2, 1) := by decide +kernel
theorem dX8_good_94 : decode cX8_good 94 = .ok (.if_icmp .ne 8, 3) := by decide +kernel
theorem dX8_good_97 : decode cX8_good 97 = .ok (.iload 4, 2) := by decide +kernel
theorem dX8_good_99 : decode cX8_good 99 = .ok (.goto 30, 3) := by decide +kernel
theorem dX8_good_102 : decode cX8_good 102 = .ok (.aload_n 0, 1) := by decide +kernel
theorem dX8_good_103 : decode cX8_good 103 = .ok (.aload_n 0, 1) := by decide +kernel
theorem dX8_good_104 : decode cX8_good 104 = .ok (.iload_n 1, 1) := by decide +kernel
theorem dX8_good_105 : decode cX8_good 105 = .ok (.iload_n 3, 1) := by decide +kernel
theorem dX8_good_106 : decode cX8_good 106 = .ok (.invokevirtual 138, 3) := by decide +kernel
theorem dX8_good_109 : decode cX8_good 109 = .ok (.aload_n 0, 1) := by decide +kernel
theorem dX8_good_110 : decode cX8_good 110 = .ok (.iload_n 1, 1) := by decide +kernel
theorem dX8_good_111 : decode cX8_good 111 = .ok (.iload 4, 2) := by decide +kernel
theorem dX8_good_113 : decode cX8_good 113 = .ok (.invokevirtual 138, 3) := by decide +kernel
theorem dX8_good_116 : decode cX8_good 116 = .ok (.iload_n 2, 1) := by decide +kernel
theorem dX8_good_117 : decode cX8_good 117 = .ok (.iconst 4, 1) := by decide +kernel
theorem dX8_good_118 : decode cX8_good 118 = .ok (.if_icmp .ne 7, 3) := by decide +kernel
theorem dX8_good_121 : decode cX8_good 121 = .ok (.iconst 1, 1) := by decide +kernel
theorem dX8_good_122 : decode cX8_good 122 = .ok (.goto 4, 3) := by decide +kernel
theorem dX8_good_125 : decode cX8_good 125 = .ok (.iconst 0, 1) := by decide +kernel
theorem dX8_good_126 : decode cX8_good 126 = .ok (.invokevirtual 121, 3) := by decide +kernel
theorem dX8_good_129 : decode cX8_good 129 = .ok (.ireturn, 1) := by decide +kernel
theorem dX8_good_130 : decode cX8_good 130 = .ok (.iinc 4 1, 3) := by decide +kernel
theorem dX8_good_133 : decode cX8_good 133 = .ok (.goto (-89), 3) := by decide +kernel
theorem dX8_good_136 : decode cX8_good 136 = .ok (.iinc 3 1, 3) := by decide +kernel
theorem dX8_good_139 : decode cX8_good 139 = .ok (.goto (-110), 3) := by decide +kernel
theorem dX8_good_142 : decode cX8_good 142 = .ok (.iload_n 2, 1) := by decide +kernel
theorem dX8_good_143 : decode cX8_good 143 = .ok (.ifCond .ne 7, 3) := by decide +kernel
theorem dX8_good_146 : decode cX8_good 146 = .ok (.iconst 1, 1) := by decide +kernel
theorem dX8_good_147 : decode cX8_good 147 = .ok (.goto 4, 3) := by decide +kernel
theorem dX8_good_150 : decode cX8_good 150 = .ok (.iconst (-1), 1) := by decide +kernel
theorem dX8_good_151 : decode cX8_good 151 = .ok (.ireturn, 1) := by decide +kernel
theorem dX8_isApart_0 : decode cX8_isApart 0 = .ok (.iconst 0, 1) := by decide +kernel
theorem dX8_isApart_1 : decode cX8_isApart 1 = .ok (.istore_n 3, 1) := by decide +kernel
theorem dX8_isApart_2 : decode cX8_isApart 2 = .ok (.iload_n 3, 1) := by decide +kernel
theorem dX8_isApart_3 : decode cX8_isApart 3 = .ok (.aload_n 0, 1) := by decide +kernel
theorem dX8_isApart_4 : decode cX8_isApart 4 = .ok (.getfield 16, 3) := by decide +kernel
theorem dX8_isApart_7 : decode cX8_isApart 7 = .ok (.iload_n 1, 1) := by decide +kernel
theorem dX8_isApart_8 : decode cX8_isApart 8 = .ok (.iaload, 1) := by decide +kernel
theorem dX8_isApart_9 : decode cX8_isApart 9 = .ok (.if_icmp .ge 25, 3) := by decide +kernel
theorem dX8_isApart_12 : decode cX8_isApart 12 = .ok (.aload_n 0, 1) := by decide +kernel
theorem dX8_isApart_13 : decode cX8_isApart 13 = .ok (.aload_n 0, 1) := by decide +kernel
theorem dX8_isApart_14 : decode cX8_isApart 14 = .ok (.iload_n 1, 1) := by decide +kernel
theorem dX8_isApart_15 : decode cX8_isApart 15 = .ok (.iload_n 3, 1) := by decide +kernel
theorem dX8_isApart_16 : decode cX8_isApart 16 = .ok (.invokevirtual 138, 3) := by decide +kernel
theorem dX8_isApart_19 : decode cX8_isApart 19 = .ok (.iload_n 2, 1) := by decide +kernel
theorem dX8_isApart_20 : decode cX8_isApart 20 = .ok (.invokevirtual 118, 3) := by decide +kernel
theorem dX8_isApart_23 : decode cX8_isApart 23 = .ok (.ifCond .eq 5, 3) := by decide +kernel
theorem dX8_isApart_26 : decode cX8_isApart 26 = .ok (.iconst 0, 1) := by decide +kernel
theorem dX8_isApart_27 : decode cX8_isApart 27 = .ok (.ireturn, 1) := by decide +kernel
theorem dX8_isApart_28 : decode cX8_isApart 28 = .ok (.iinc 3 1, 3) := by decide +kernel
theorem dX8_isApart_31 : decode cX8_isApart 31 = .ok (.goto (-29), 3) := by decide +kernel
theorem dX8_isApart_34 : decode cX8_isApart 34 = .ok (.iconst 1, 1) := by decide +kernel
theorem dX8_isApart_35 : decode cX8_isApart 35 = .ok (.ireturn, 1) := by decide +kernel
theorem dX8_build_0 : decode cX8_build 0 = .ok (.iload_n 1, 1) := by decide +kernel
theorem dX8_build_1 : decode cX8_build 1 = .ok (.invokestatic 76, 3) := by decide +kernel
theorem dX8_build_4 : decode cX8_build 4 = .ok (.ifCond .ne 7, 3) := by decide +kernel
theorem dX8_build_7 : decode cX8_build 7 = .ok (.sipush (-1001), 3) := by decide +kernel
theorem dX8_build_10 : decode cX8_build 10 = .ok (.ireturn, 1) := by decide +kernel
theorem dX8_build_11 : decode cX8_build 11 = .ok (.iload_n 2, 1) := by decide +kernel
theorem dX8_build_12 : decode cX8_build 12 = .ok (.i2l, 1) := by decide +kernel
theorem dX8_build_13 : decode cX8_build 13 = .ok (.lconst 0, 1) := by decide +kernel
theorem dX8_build_14 : decode cX8_build 14 = .ok (.ldc2_w 151, 3) := by decide +kernel
theorem dX8_build_17 : decode cX8_build 17 = .ok (.invokestatic 70, 3) := by decide +kernel
theorem dX8_build_20 : decode cX8_build 20 = .ok (.ifCond .eq 15, 3) := by decide +kernel
theorem dX8_build_23 : decode cX8_build 23 = .ok (.iload_n 3, 1) := by decide +kernel
theorem dX8_build_24 : decode cX8_build 24 = .ok (.i2l, 1) := by decide +kernel
theorem dX8_build_25 : decode cX8_build 25 = .ok (.lconst 0, 1) := by decide +kernel
theorem dX8_build_26 : decode cX8_build 26 = .ok (.ldc2_w 153, 3) := by decide +kernel
theorem dX8_build_29 : decode cX8_build 29 = .ok (.invokestatic 70, 3) := by decide +kernel
theorem dX8_build_32 : decode cX8_build 32 = .ok (.ifCond .ne 7, 3) := by decide +kernel
theorem dX8_build_35 : decode cX8_build 35 = .ok (.sipush (-1002), 3) := by decide +kernel
theorem dX8_build_38 : decode cX8_build 38 = .ok (.ireturn, 1) := by decide +kernel
theorem dX8_build_39 : decode cX8_build 39 = .ok (.iconst 1, 1) := by decide +kernel
theorem dX8_build_40 : decode cX8_build 40 = .ok (.aload_n 0, 1) := by decide +kernel
theorem dX8_build_41 : decode cX8_build 41 = .ok (.getfield 7, 3) := by decide +kernel
theorem dX8_build_44 : decode cX8_build 44 = .ok (.ishl, 1) := by decide +kernel
theorem dX8_build_45 : decode cX8_build 45 = .ok (.istore 4, 2) := by decide +kernel
theorem dX8_build_47 : decode cX8_build 47 = .ok (.iconst 0, 1) := by decide +kernel
theorem dX8_build_48 : decode cX8_build 48 = .ok (.istore 5, 2) := by decide +kernel
theorem dX8_build_50 : decode cX8_build 50 = .ok (.iload 5, 2) := by decide +kernel
theorem dX8_build_52 : decode cX8_build 52 = .ok (.iload 4, 2) := by decide +kernel
theorem dX8_build_54 : decode cX8_build 54 = .ok (.if_icmp .ge 51, 3) := by decide +kernel
theorem dX8_build_57 : decode cX8_build 57 = .ok (.aload_n 0, 1) := by decide +kernel
theorem dX8_build_58 : decode cX8_build 58 = .ok (.getfield 16, 3) := by decide +kernel
theorem dX8_build_61 : decode cX8_build 61 = .ok (.iload_n 1, 1) := by decide +kernel
theorem dX8_build_62 : decode cX8_build 62 = .ok (.iaload, 1) := by decide +kernel
theorem dX8_build_63 : decode cX8_build 63 = .ok (.iload_n 3, 1) := by decide +kernel
theorem dX8_build_64 : decode cX8_build 64 = .ok (.if_icmp .ge 41, 3) := by decide +kernel
theorem dX8_build_67 : decode cX8_build 67 = .ok (.iload 5, 2) := by decide +kernel
theorem dX8_build_69 : decode cX8_build 69 = .ok (.iconst 2, 1) := by decide +kernel
theorem dX8_build_70 : decode cX8_build 70 = .ok (.iload_n 2, 1) := by decide +kernel
theorem dX8_build_71 : decode cX8_build 71 = .ok (.imul, 1) := by decide +kernel
theorem dX8_build_72 : decode cX8_build 72 = .ok (.iconst 1, 1) := by decide +kernel
theorem dX8_build_73 : decode cX8_build 73 = .ok (.iadd, 1) := by decide +kernel
theorem dX8_build_74 : decode cX8_build 74 = .ok (.imul, 1) := by decide +kernel
theorem dX8_build_75 : decode cX8_build 75 = .ok (.iload_n 2, 1) := by decide +kernel
theorem dX8_build_76 : decode cX8_build 76 = .ok (.iadd, 1) := by decide +kernel
theorem dX8_build_77 : decode cX8_build 77 = .ok (.iload 4, 2) := by decide +kernel
theorem dX8_build_79 : decode cX8_build 79 = .ok (.irem, 1) := by decide +kernel
theorem dX8_build_80 : decode cX8_build 80 = .ok (.istore 6, 2) := by decide +kernel
theorem dX8_build_82 : decode cX8_build 82 = .ok (.aload_n 0, 1) := by decide +kernel
theorem dX8_build_83 : decode cX8_build 83 = .ok (.iload_n 1, 1) := by decide +kernel
theorem dX8_build_84 : decode cX8_build 84 = .ok (.iload 6, 2) := by decide +kernel
theorem dX8_build_86 : decode cX8_build 86 = .ok (.invokevirtual 155, 3) := by decide +kernel
theorem dX8_build_89 : decode cX8_build 89 = .ok (.ifCond .eq 10, 3) := by decide +kernel
theorem dX8_build_92 : decode cX8_build 92 = .ok (.aload_n 0, 1) := by decide +kernel
theorem dX8_build_93 : decode cX8_build 93 = .ok (.iload_n 1, 1) := by decide +kernel
theorem dX8_build_94 : decode cX8_build 94 = .ok (.iload 6, 2) := by decide +kernel
theorem dX8_build_96 : decode cX8_build 96 = .ok (.invokevirtual 144, 3) := by decide +kernel
theorem dX8_build_99 : decode cX8_build 99 = .ok (.iinc 5 1, 3) := by decide +kernel
theorem dX8_build_102 : decode cX8_build 102 = .ok (.goto (-52), 3) := by decide +kernel
theorem dX8_build_105 : decode cX8_build 105 = .ok (.aload_n 0, 1) := by decide +kernel
theorem dX8_build_106 : decode cX8_build 106 = .ok (.getfield 16, 3) := by decide +kernel
theorem dX8_build_109 : decode cX8_build 109 = .ok (.iload_n 1, 1) := by decide +kernel
theorem dX8_build_110 : decode cX8_build 110 = .ok (.iaload, 1) := by decide +kernel
theorem dX8_build_111 : decode cX8_build 111 = .ok (.ireturn, 1) := by decide +kernel
theorem dX8_bits32_0 : decode cX8_bits32 0 = .ok (.iconst 0, 1) := by decide +kernel
theorem dX8_bits32_1 : decode cX8_bits32 1 = .ok (.istore_n 1, 1) := by decide +kernel
theorem dX8_bits32_2 : decode cX8_bits32 2 = .ok (.iconst 0, 1) := by decide +kernel
theorem dX8_bits32_3 : decode cX8_bits32 3 = .ok (.istore_n 2, 1) := by decide +kernel
theorem dX8_bits32_4 : decode cX8_bits32 4 = .ok (.iload_n 2, 1) := by decide +kernel
theorem dX8_bits32_5 : decode cX8_bits32 5 = .ok (.bipush 32, 2) := by decide +kernel
theorem dX8_bits32_7 : decode cX8_bits32 7 = .ok (.if_icmp .ge 17, 3) := by decide +kernel
theorem dX8_bits32_10 : decode cX8_bits32 10 = .ok (.iload_n 1, 1) := by decide +kernel
theorem dX8_bits32_11 : decode cX8_bits32 11 = .ok (.iload_n 0, 1) := by decide +kernel
theorem dX8_bits32_12 : decode cX8_bits32 12 = .ok (.iload_n 2, 1) := by decide +kernel
theorem dX8_bits32_13 : decode cX8_bits32 13 = .ok (.iushr, 1) := by decide +kernel
theorem dX8_bits32_14 : decode cX8_bits32 14 = .ok (.iconst 1, 1) := by decide +kernel
theorem dX8_bits32_15 : decode cX8_bits32 15 = .ok (.iand, 1) := by decide +kernel
theorem dX8_bits32_16 : decode cX8_bits32 16 = .ok (.iadd, 1) := by decide +kernel
theorem dX8_bits32_17 : decode cX8_bits32 17 = .ok (.istore_n 1, 1) := by decide +kernel
theorem dX8_bits32_18 : decode cX8_bits32 18 = .ok (.iinc 2 1, 3) := by decide +kernel
theorem dX8_bits32_21 : decode cX8_bits32 21 = .ok (.goto (-17), 3) := by decide +kernel
theorem dX8_bits32_24 : decode cX8_bits32 24 = .ok (.iload_n 1, 1) := by decide +kernel
theorem dX8_bits32_25 : decode cX8_bits32 25 = .ok (.ireturn, 1) := by decide +kernel
theorem dX8_findMost_0 : decode cX8_findMost 0 = .ok (.iconst 1, 1) := by decide +kernel
theorem dX8_findMost_1 : decode cX8_findMost 1 = .ok (.aload_n 0, 1) := by decide +kernel
theorem dX8_findMost_2 : decode cX8_findMost 2 = .ok (.getfield 7, 3) := by decide +kernel
theorem dX8_findMost_5 : decode cX8_findMost 5 = .ok (.ishl, 1) := by decide +kernel
theorem dX8_findMost_6 : decode cX8_findMost 6 = .ok (.istore_n 2, 1) := by decide +kernel
theorem dX8_findMost_7 : decode cX8_findMost 7 = .ok (.iconst 0, 1) := by decide +kernel
theorem dX8_findMost_8 : decode cX8_findMost 8 = .ok (.istore_n 3, 1) := by decide +kernel
theorem dX8_findMost_9 : decode cX8_findMost 9 = .ok (.iconst 0, 1) := by decide +kernel
theorem dX8_findMost_10 : decode cX8_findMost 10 = .ok (.istore 4, 2) := by decide +kernel
theorem dX8_findMost_12 : decode cX8_findMost 12 = .ok (.iload 4, 2) := by decide +kernel
theorem dX8_findMost_14 : decode cX8_findMost 14 = .ok (.iload_n 2, 1) := by decide +kernel
theorem dX8_findMost_15 : decode cX8_findMost 15 = .ok (.if_icmp .ge 86, 3) := by decide +kernel
theorem dX8_findMost_18 : decode cX8_findMost 18 = .ok (.iload_n 3, 1) := by decide +kernel
theorem dX8_findMost_19 : decode cX8_findMost 19 = .ok (.iload_n 1, 1) := by decide +kernel
theorem dX8_findMost_20 : decode cX8_findMost 20 = .ok (.iconst (-1), 1) := by decide +kernel
theorem dX8_findMost_21 : decode cX8_findMost 21 = .ok (.if_icmp .eq 12, 3) := by decide +kernel
theorem dX8_findMost_24 : decode cX8_findMost 24 = .ok (.iload 4, 2) := by decide +kernel
theorem dX8_findMost_26 : decode cX8_findMost 26 = .ok (.invokestatic 101, 3) := by decide +kernel
theorem dX8_findMost_29 : decode cX8_findMost 29 = .ok (.iload_n 1, 1) := by decide +kernel
theorem dX8_findMost_30 : decode cX8_findMost 30 = .ok (.if_icmp .ne 10, 3) := by decide +kernel
theorem dX8_findMost_33 : decode cX8_findMost 33 = .ok (.iconst 1, 1) := by decide +kernel
theorem dX8_findMost_34 : decode cX8_findMost 34 = .ok (.iload 4, 2) := by decide +kernel
theorem dX8_findMost_36 : decode cX8_findMost 36 = .ok (.ishl, 1) := by decide +kernel
theorem dX8_findMost_37 : decode cX8_findMost 37 = .ok (.goto 4, 3) := by decide +kernel
theorem dX8_findMost_40 : decode cX8_findMost 40 = .ok (.iconst 0, 1) := by decide +kernel
theorem dX8_findMost_41 : decode cX8_findMost 41 = .ok (.ior, 1) := by decide +kernel
theorem dX8_findMost_42 : decode cX8_findMost 42 = .ok (.istore_n 3, 1) := by decide +kernel
theorem dX8_findMost_43 : decode cX8_findMost 43 = .ok (.aload_n 0, 1) := by decide +kernel
theorem dX8_findMost_44 : decode cX8_findMost 44 = .ok (.getfield 32, 3) := by decide +kernel
theorem dX8_findMost_47 : decode cX8_findMost 47 = .ok (.iload 4, 2) := by decide +kernel
theorem dX8_findMost_49 : decode cX8_findMost 49 = .ok (.iconst 0, 1) := by decide +kernel
theorem dX8_findMost_50 : decode cX8_findMost 50 = .ok (.iastore, 1) := by decide +kernel
theorem dX8_findMost_51 : decode cX8_findMost 51 = .ok (.iconst 0, 1) := by decide +kernel
theorem dX8_findMost_52 : decode cX8_findMost 52 = .ok (.istore 5, 2) := by decide +kernel
theorem dX8_findMost_54 : decode cX8_findMost 54 = .ok (.iload 5, 2) := by decide +kernel
theorem dX8_findMost_56 : decode cX8_findMost 56 = .ok (.iload_n 2, 1) := by decide +kernel
theorem dX8_findMost_57 : decode cX8_findMost 57 = .ok (.if_icmp .ge 38, 3) := by decide +kernel
theorem dX8_findMost_60 : decode cX8_findMost 60 = .ok (.aload_n 0, 1) := by decide +kernel
theorem dX8_findMost_61 : decode cX8_findMost 61 = .ok (.getfield 32, 3) := by decide +kernel
theorem dX8_findMost_64 : decode cX8_findMost 64 = .ok (.iload 4, 2) := by decide +kernel
theorem dX8_findMost_66 : decode cX8_findMost 66 = .ok (.dup2, 1) := by decide +kernel
theorem dX8_findMost_67 : decode cX8_findMost 67 = .ok (.iaload, 1) := by decide +kernel
theorem dX8_findMost_68 : decode cX8_findMost 68 = .ok (.aload_n 0, 1) := by decide +kernel
theorem dX8_findMost_69 : decode cX8_findMost 69 = .ok (.iload 4, 2) := by decide +kernel
theorem dX8_findMost_71 : decode cX8_findMost 71 = .ok (.iload 5, 2) := by decide +kernel
theorem dX8_findMost_73 : decode cX8_findMost 73 = .ok (.invokevirtual 118, 3) := by decide +kernel
theorem dX8_findMost_76 : decode cX8_findMost 76 = .ok (.ifCond .eq 10, 3) := by decide +kernel
theorem dX8_findMost_79 : decode cX8_findMost 79 = .ok (.iconst 1, 1) := by decide +kernel
theorem dX8_findMost_80 : decode cX8_findMost 80 = .ok (.iload 5, 2) := by decide +kernel
theorem dX8_findMost_82 : decode cX8_findMost 82 = .ok (.ishl, 1) := by decide +kernel
theorem dX8_findMost_83 : decode cX8_findMost 83 = .ok (.goto 4, 3) := by decide +kernel
theorem dX8_findMost_86 : decode cX8_findMost 86 = .ok (.iconst 0, 1) := by decide +kernel
theorem dX8_findMost_87 : decode cX8_findMost 87 = .ok (.ior, 1) := by decide +kernel
theorem dX8_findMost_88 : decode cX8_findMost 88 = .ok (.iastore, 1) := by decide +kernel
theorem dX8_findMost_89 : decode cX8_findMost 89 = .ok (.iinc 5 1, 3) := by decide +kernel
theorem dX8_findMost_92 : decode cX8_findMost 92 = .ok (.goto (-38), 3) := by decide +kernel
theorem dX8_findMost_95 : decode cX8_findMost 95 = .ok (.iinc 4 1, 3) := by decide +kernel
theorem dX8_findMost_98 : decode cX8_findMost 98 = .ok (.goto (-86), 3) := by decide +kernel
theorem dX8_findMost_101 : decode cX8_findMost 101 = .ok (.aload_n 0, 1) := by decide +kernel
theorem dX8_findMost_102 : decode cX8_findMost 102 = .ok (.iconst 0, 1) := by decide +kernel
theorem dX8_findMost_103 : decode cX8_findMost 103 = .ok (.putfield 158, 3) := by decide +kernel
theorem dX8_findMost_106 : decode cX8_findMost 106 = .ok (.iconst 0, 1) := by decide +kernel
theorem dX8_findMost_107 : decode cX8_findMost 107 = .ok (.istore 4, 2) := by decide +kernel
theorem dX8_findMost_109 : decode cX8_findMost 109 = .ok (.aload_n 0, 1) := by decide +kernel
theorem dX8_findMost_110 : decode cX8_findMost 110 = .ok (.getfield 26, 3) := by decide +kernel
theorem dX8_findMost_113 : decode cX8_findMost 113 = .ok (.iconst 0, 1) := by decide +kernel
theorem dX8_findMost_114 : decode cX8_findMost 114 = .ok (.iload_n 3, 1) := by decide +kernel
theorem dX8_findMost_115 : decode cX8_findMost 115 = .ok (.iastore, 1) := by decide +kernel
theorem dX8_findMost_116 : decode cX8_findMost 116 = .ok (.iload 4, 2) := by decide +kernel
theorem dX8_findMost_118 : decode cX8_findMost 118 = .ok (.ifCond .lt 165, 3) := by decide +kernel
theorem dX8_findMost_121 : decode cX8_findMost 121 = .ok (.iload 4, 2) := by decide +kernel
theorem dX8_findMost_123 : decode cX8_findMost 123 = .ok (.aload_n 0, 1) := by decide +kernel
theorem dX8_findMost_124 : decode cX8_findMost 124 = .ok (.getfield 158, 3) := by decide +kernel
theorem dX8_findMost_127 : decode cX8_findMost 127 = .ok (.if_icmp .le 39, 3) := by decide +kernel
theorem dX8_findMost_130 : decode cX8_findMost 130 = .ok (.aload_n 0, 1) := by decide +kernel
theorem dX8_findMost_131 : decode cX8_findMost 131 = .ok (.iload 4, 2) := by decide +kernel
theorem dX8_findMost_133 : decode cX8_findMost 133 = .ok (.putfield 158, 3) := by decide +kernel
theorem dX8_findMost_136 : decode cX8_findMost 136 = .ok (.iconst 0, 1) := by decide +kernel
theorem dX8_findMost_137 : decode cX8_findMost 137 = .ok (.istore 5, 2) := by decide +kernel
theorem dX8_findMost_139 : decode cX8_findMost 139 = .ok (.iload 5, 2) := by decide +kernel
theorem dX8_findMost_141 : decode cX8_findMost 141 = .ok (.iload 4, 2) := by decide +kernel
theorem dX8_findMost_143 : decode cX8_findMost 143 = .ok (.if_icmp .ge 23, 3) := by decide +kernel
theorem dX8_findMost_146 : decode cX8_findMost 146 = .ok (.aload_n 0, 1) := by decide +kernel
theorem dX8_findMost_147 : decode cX8_findMost 147 = .ok (.getfield 29, 3) := by decide +kernel
theorem dX8_findMost_150 : decode cX8_findMost 150 = .ok (.iload 5, 2) := by decide +kernel
theorem dX8_findMost_152 : decode cX8_findMost 152 = .ok (.aload_n 0, 1) := by decide +kernel
theorem dX8_findMost_153 : decode cX8_findMost 153 = .ok (.getfield 23, 3) := by decide +kernel
theorem dX8_findMost_156 : decode cX8_findMost 156 = .ok (.iload 5, 2) := by decide +kernel
theorem dX8_findMost_158 : decode cX8_findMost 158 = .ok (.iaload, 1) := by decide +kernel
theorem dX8_findMost_159 : decode cX8_findMost 159 = .ok (.iastore, 1) := by decide +kernel
theorem dX8_findMost_160 : decode cX8_findMost 160 = .ok (.iinc 5 1, 3) := by decide +kernel
theorem dX8_findMost_163 : decode cX8_findMost 163 = .ok (.goto (-24), 3) := by decide +kernel
theorem dX8_findMost_166 : decode cX8_findMost 166 = .ok (.aload_n 0, 1) := by decide +kernel
theorem dX8_findMost_167 : decode cX8_findMost 167 = .ok (.getfield 26, 3) := by decide +kernel
theorem dX8_findMost_170 : decode cX8_findMost 170 = .ok (.iload 4, 2) := by decide +kernel
theorem dX8_findMost_172 : decode cX8_findMost 172 = .ok (.iaload, 1) := by decide +kernel
theorem dX8_findMost_173 : decode cX8_findMost 173 = .ok (.ifCond .eq 23, 3) := by decide +kernel
theorem dX8_findMost_176 : decode cX8_findMost 176 = .ok (.iload 4, 2) := by decide +kernel
theorem dX8_findMost_178 : decode cX8_findMost 178 = .ok (.aload_n 0, 1) := by decide +kernel
theorem dX8_findMost_179 : decode cX8_findMost 179 = .ok (.getfield 26, 3) := by decide +kernel
theorem dX8_findMost_182 : decode cX8_findMost 182 = .ok (.iload 4, 2) := by decide +kernel
theorem dX8_findMost_184 : decode cX8_findMost 184 = .ok (.iaload, 1) := by decide +kernel
theorem dX8_findMost_185 : decode cX8_findMost 185 = .ok (.invokestatic 161, 3) := by decide +kernel
theorem dX8_findMost_188 : decode cX8_findMost 188 = .ok (.iadd, 1) := by decide +kernel
theorem dX8_findMost_189 : decode cX8_findMost 189 = .ok (.aload_n 0, 1) := by decide +kernel
theorem dX8_findMost_190 : decode cX8_findMost 190 = .ok (.getfield 158, 3) := by decide +kernel
theorem dX8_findMost_193 : decode cX8_findMost 193 = .ok (.if_icmp .gt 9, 3) := by decide +kernel
theorem dX8_findMost_196 : decode cX8_findMost 196 = .ok (.iinc 4 (-1), 3) := by decide +kernel
theorem dX8_findMost_199 : decode cX8_findMost 199 = .ok (.goto (-83), 3) := by decide +kernel
theorem dX8_findMost_202 : decode cX8_findMost 202 = .ok (.iconst 0, 1) := by decide +kernel
theorem dX8_findMost_203 : decode cX8_findMost 203 = .ok (.istore 5, 2) := by decide +kernel
theorem dX8_findMost_205 : decode cX8_findMost 205 = .ok (.aload_n 0, 1) := by decide +kernel
theorem dX8_findMost_206 : decode cX8_findMost 206 = .ok (.getfield 26, 3) := by decide +kernel
theorem dX8_findMost_209 : decode cX8_findMost 209 = .ok (.iload 4, 2) := by decide +kernel
theorem dX8_findMost_211 : decode cX8_findMost 211 = .ok (.iaload, 1) := by decide +kernel
theorem dX8_findMost_212 : decode cX8_findMost 212 = .ok (.iload 5, 2) := by decide +kernel
theorem dX8_findMost_214 : decode cX8_findMost 214 = .ok (.iushr, 1) := by decide +kernel
theorem dX8_findMost_215 : decode cX8_findMost 215 = .ok (.iconst 1, 1) := by decide +kernel
theorem dX8_findMost_216 : decode cX8_findMost 216 = .ok (.iand, 1) := by decide +kernel
theorem dX8_findMost_217 : decode cX8_findMost 217 = .ok (.ifCond .ne 9, 3) := by decide +kernel
theorem dX8_findMost_220 : decode cX8_findMost 220 = .ok (.iinc 5 1, 3) := by decide +kernel
theorem dX8_findMost_223 : decode cX8_findMost 223 = .ok (.goto (-18), 3) := by decide +kernel
theorem dX8_findMost_226 : decode cX8_findMost 226 = .ok (.aload_n 0, 1) := by decide +kernel
theorem dX8_findMost_227 : decode cX8_findMost 227 = .ok (.getfield 26, 3) := by decide +kernel
theorem dX8_findMost_230 : decode cX8_findMost 230 = .ok (.iload 4, 2) := by decide +kernel
theorem dX8_findMost_232 : decode cX8_findMost 232 = .ok (.dup2, 1) := by decide +kernel
theorem dX8_findMost_233 : decode cX8_findMost 233 = .ok (.iaload, 1) := by decide +kernel
theorem dX8_findMost_234 : decode cX8_findMost 234 = .ok (.iconst 1, 1) := by decide +kernel
theorem dX8_findMost_235 : decode cX8_findMost 235 = .ok (.iload 5, 2) := by decide +kernel
theorem dX8_findMost_237 : decode cX8_findMost 237 = .ok (.ishl, 1) := by decide +kernel
theorem dX8_findMost_238 : decode cX8_findMost 238 = .ok (.iconst (-1), 1) := by decide +kernel
theorem dX8_findMost_239 : decode cX8_findMost 239 = .ok (.ixor, 1) := by decide +kernel
theorem dX8_findMost_240 : decode cX8_findMost 240 = .ok (.iand, 1) := by decide +kernel
theorem dX8_findMost_241 : decode cX8_findMost 241 = .ok (.iastore, 1) := by decide +kernel
theorem dX8_findMost_242 : decode cX8_findMost 242 = .ok (.aload_n 0, 1) := by decide +kernel
theorem dX8_findMost_243 : decode cX8_findMost 243 = .ok (.getfield 23, 3) := by decide +kernel
theorem dX8_findMost_246 : decode cX8_findMost 246 = .ok (.iload 4, 2) := by decide +kernel
theorem dX8_findMost_248 : decode cX8_findMost 248 = .ok (.iload 5, 2) := by decide +kernel
theorem dX8_findMost_250 : decode cX8_findMost 250 = .ok (.iastore, 1) := by decide +kernel
theorem dX8_findMost_251 : decode cX8_findMost 251 = .ok (.aload_n 0, 1) := by decide +kernel
theorem dX8_findMost_252 : decode cX8_findMost 252 = .ok (.getfield 26, 3) := by decide +kernel
theorem dX8_findMost_255 : decode cX8_findMost 255 = .ok (.iload 4, 2) := by decide +kernel
theorem dX8_findMost_257 : decode cX8_findMost 257 = .ok (.iconst 1, 1) := by decide +kernel
theorem dX8_findMost_258 : decode cX8_findMost 258 = .ok (.iadd, 1) := by decide +kernel
theorem dX8_findMost_259 : decode cX8_findMost 259 = .ok (.aload_n 0, 1) := by decide +kernel
theorem dX8_findMost_260 : decode cX8_findMost 260 = .ok (.getfield 26, 3) := by decide +kernel
theorem dX8_findMost_263 : decode cX8_findMost 263 = .ok (.iload 4, 2) := by decide +kernel
theorem dX8_findMost_265 : decode cX8_findMost 265 = .ok (.iaload, 1) := by decide +kernel
theorem dX8_findMost_266 : decode cX8_findMost 266 = .ok (.aload_n 0, 1) := by decide +kernel
theorem dX8_findMost_267 : decode cX8_findMost 267 = .ok (.getfield 32, 3) := by decide +kernel
theorem dX8_findMost_270 : decode cX8_findMost 270 = .ok (.iload 5, 2) := by decide +kernel
theorem dX8_findMost_272 : decode cX8_findMost 272 = .ok (.iaload, 1) := by decide +kernel
theorem dX8_findMost_273 : decode cX8_findMost 273 = .ok (.iconst (-1), 1) := by decide +kernel
theorem dX8_findMost_274 : decode cX8_findMost 274 = .ok (.ixor, 1) := by decide +kernel
theorem dX8_findMost_275 : decode cX8_findMost 275 = .ok (.iand, 1) := by decide +kernel
theorem dX8_findMost_276 : decode cX8_findMost 276 = .ok (.iastore, 1) := by decide +kernel
theorem dX8_findMost_277 : decode cX8_findMost 277 = .ok (.iinc 4 1, 3) := by decide +kernel
theorem dX8_findMost_280 : decode cX8_findMost 280 = .ok (.goto (-164), 3) := by decide +kernel
theorem dX8_findMost_283 : decode cX8_findMost 283 = .ok (.return_, 1) := by decide +kernel
theorem dX8_most_0 : decode cX8_most 0 = .ok (.iload_n 1, 1) := by decide +kernel
theorem dX8_most_1 : decode cX8_most 1 = .ok (.i2l, 1) := by decide +kernel
theorem dX8_most_2 : decode cX8_most 2 = .ok (.ldc2_w 164, 3) := by decide +kernel
theorem dX8_most_5 : decode cX8_most 5 = .ok (.ldc2_w 74, 3) := by decide +kernel
theorem dX8_most_8 : decode cX8_most 8 = .ok (.invokestatic 70, 3) := by decide +kernel
theorem dX8_most_11 : decode cX8_most 11 = .ok (.ifCond .ne 7, 3) := by decide +kernel
theorem dX8_most_14 : decode cX8_most 14 = .ok (.sipush (-1002), 3) := by decide +kernel
theorem dX8_most_17 : decode cX8_most 17 = .ok (.ireturn, 1) := by decide +kernel
theorem dX8_most_18 : decode cX8_most 18 = .ok (.aload_n 0, 1) := by decide +kernel
theorem dX8_most_19 : decode cX8_most 19 = .ok (.getfield 7, 3) := by decide +kernel
theorem dX8_most_22 : decode cX8_most 22 = .ok (.iconst 5, 1) := by decide +kernel
theorem dX8_most_23 : decode cX8_most 23 = .ok (.if_icmp .le 7, 3) := by decide +kernel
theorem dX8_most_26 : decode cX8_most 26 = .ok (.sipush (-1005), 3) := by decide +kernel
theorem dX8_most_29 : decode cX8_most 29 = .ok (.ireturn, 1) := by decide +kernel
theorem dX8_most_30 : decode cX8_most 30 = .ok (.aload_n 0, 1) := by decide +kernel
theorem dX8_most_31 : decode cX8_most 31 = .ok (.iload_n 1, 1) := by decide +kernel
theorem dX8_most_32 : decode cX8_most 32 = .ok (.invokevirtual 166, 3) := by decide +kernel
theorem dX8_most_35 : decode cX8_most 35 = .ok (.iload_n 2, 1) := by decide +kernel
theorem dX8_most_36 : decode cX8_most 36 = .ok (.iconst (-1), 1) := by decide +kernel
theorem dX8_most_37 : decode cX8_most 37 = .ok (.if_icmp .ne 10, 3) := by decide +kernel
theorem dX8_most_40 : decode cX8_most 40 = .ok (.aload_n 0, 1) := by decide +kernel
theorem dX8_most_41 : decode cX8_most 41 = .ok (.getfield 158, 3) := by decide +kernel
theorem dX8_most_44 : decode cX8_most 44 = .ok (.goto 29, 3) := by decide +kernel
theorem dX8_most_47 : decode cX8_most 47 = .ok (.iload_n 2, 1) := by decide +kernel
theorem dX8_most_48 : decode cX8_most 48 = .ok (.i2l, 1) := by decide +kernel
theorem dX8_most_49 : decode cX8_most 49 = .ok (.lconst 0, 1) := by decide +kernel
theorem dX8_most_50 : decode cX8_most 50 = .ok (.aload_n 0, 1) := by decide +kernel
theorem dX8_most_51 : decode cX8_most 51 = .ok (.getfield 158, 3) := by decide +kernel
theorem dX8_most_54 : decode cX8_most 54 = .ok (.iconst 1, 1) := by decide +kernel
theorem dX8_most_55 : decode cX8_most 55 = .ok (.isub, 1) := by decide +kernel
theorem dX8_most_56 : decode cX8_most 56 = .ok (.i2l, 1) := by decide +kernel
theorem dX8_most_57 : decode cX8_most 57 = .ok (.invokestatic 70, 3) := by decide +kernel
theorem dX8_most_60 : decode cX8_most 60 = .ok (.ifCond .eq 12, 3) := by decide +kernel
theorem dX8_most_63 : decode cX8_most 63 = .ok (.aload_n 0, 1) := by decide +kernel
theorem dX8_most_64 : decode cX8_most 64 = .ok (.getfield 29, 3) := by decide +kernel
theorem dX8_most_67 : decode cX8_most 67 = .ok (.iload_n 2, 1) := by decide +kernel
theorem dX8_most_68 : decode cX8_most 68 = .ok (.iaload, 1) := by decide +kernel
theorem dX8_most_69 : decode cX8_most 69 = .ok (.goto 4, 3) := by decide +kernel
theorem dX8_most_72 : decode cX8_most 72 = .ok (.iconst (-1), 1) := by decide +kernel
theorem dX8_most_73 : decode cX8_most 73 = .ok (.ireturn, 1) := by decide +kernel
theorem dX8_bound_0 : decode cX8_bound 0 = .ok (.iconst 1, 1) := by decide +kernel
theorem dX8_bound_1 : decode cX8_bound 1 = .ok (.aload_n 0, 1) := by decide +kernel
theorem dX8_bound_2 : decode cX8_bound 2 = .ok (.getfield 7, 3) := by decide +kernel
theorem dX8_bound_5 : decode cX8_bound 5 = .ok (.ishl, 1) := by decide +kernel
theorem dX8_bound_6 : decode cX8_bound 6 = .ok (.istore_n 1, 1) := by decide +kernel
theorem dX8_bound_7 : decode cX8_bound 7 = .ok (.aload_n 0, 1) := by decide +kernel
theorem dX8_bound_8 : decode cX8_bound 8 = .ok (.iconst 0, 1) := by decide +kernel
theorem dX8_bound_9 : decode cX8_bound 9 = .ok (.invokevirtual 135, 3) := by decide +kernel
theorem dX8_bound_12 : decode cX8_bound 12 = .ok (.istore_n 2, 1) := by decide +kernel
theorem dX8_bound_13 : decode cX8_bound 13 = .ok (.iconst 1, 1) := by decide +kernel
theorem dX8_bound_14 : decode cX8_bound 14 = .ok (.istore_n 3, 1) := by decide +kernel
theorem dX8_bound_15 : decode cX8_bound 15 = .ok (.iload_n 3, 1) := by decide +kernel
theorem dX8_bound_16 : decode cX8_bound 16 = .ok (.iload_n 1, 1) := by decide +kernel
theorem dX8_bound_17 : decode cX8_bound 17 = .ok (.if_icmp .ge 29, 3) := by decide +kernel
theorem dX8_bound_20 : decode cX8_bound 20 = .ok (.aload_n 0, 1) := by decide +kernel
theorem dX8_bound_21 : decode cX8_bound 21 = .ok (.iload_n 3, 1) := by decide +kernel
theorem dX8_bound_22 : decode cX8_bound 22 = .ok (.invokevirtual 135, 3) := by decide +kernel
theorem dX8_bound_25 : decode cX8_bound 25 = .ok (.istore 4, 2) := by decide +kernel
theorem dX8_bound_27 : decode cX8_bound 27 = .ok (.iload 4, 2) := by decide +kernel
theorem dX8_bound_29 : decode cX8_bound 29 = .ok (.iload_n 2, 1) := by decide +kernel
theorem dX8_bound_30 : decode cX8_bound 30 = .ok (.if_icmp .ge 8, 3) := by decide +kernel
theorem dX8_bound_33 : decode cX8_bound 33 = .ok (.iload 4, 2) := by decide +kernel
theorem dX8_bound_35 : decode cX8_bound 35 = .ok (.goto 4, 3) := by decide +kernel
theorem dX8_bound_38 : decode cX8_bound 38 = .ok (.iload_n 2, 1) := by decide +kernel
theorem dX8_bound_39 : decode cX8_bound 39 = .ok (.istore_n 2, 1) := by decide +kernel
theorem dX8_bound_40 : decode cX8_bound 40 = .ok (.iinc 3 1, 3) := by decide +kernel
theorem dX8_bound_43 : decode cX8_bound 43 = .ok (.goto (-28), 3) := by decide +kernel
theorem dX8_bound_46 : decode cX8_bound 46 = .ok (.iload_n 1, 1) := by decide +kernel
theorem dX8_bound_47 : decode cX8_bound 47 = .ok (.istore_n 3, 1) := by decide +kernel
theorem dX8_bound_48 : decode cX8_bound 48 = .ok (.aload_n 0, 1) := by decide +kernel
theorem dX8_bound_49 : decode cX8_bound 49 = .ok (.getfield 88, 3) := by decide +kernel
theorem dX8_bound_52 : decode cX8_bound 52 = .ok (.ifCond .ne 56, 3) := by decide +kernel
theorem dX8_bound_55 : decode cX8_bound 55 = .ok (.iconst 0, 1) := by decide +kernel
theorem dX8_bound_56 : decode cX8_bound 56 = .ok (.istore_n 3, 1) := by decide +kernel
theorem dX8_bound_57 : decode cX8_bound 57 = .ok (.iconst 0, 1) := by decide +kernel
theorem dX8_bound_58 : decode cX8_bound 58 = .ok (.istore 4, 2) := by decide +kernel
theorem dX8_bound_60 : decode cX8_bound 60 = .ok (.iload 4, 2) := by decide +kernel
theorem dX8_bound_62 : decode cX8_bound 62 = .ok (.aload_n 0, 1) := by decide +kernel
theorem dX8_bound_63 : decode cX8_bound 63 = .ok (.getfield 13, 3) := by decide +kernel
theorem dX8_bound_66 : decode cX8_bound 66 = .ok (.if_icmp .gt 42, 3) := by decide +kernel
theorem dX8_bound_69 : decode cX8_bound 69 = .ok (.iload_n 3, 1) := by decide +kernel
theorem dX8_bound_70 : decode cX8_bound 70 = .ok (.iload 4, 2) := by decide +kernel
theorem dX8_bound_72 : decode cX8_bound 72 = .ok (.aload_n 0, 1) := by decide +kernel
theorem dX8_bound_73 : decode cX8_bound 73 = .ok (.getfield 7, 3) := by decide +kernel
theorem dX8_bound_76 : decode cX8_bound 76 = .ok (.if_icmp .le 7, 3) := by decide +kernel
theorem dX8_bound_79 : decode cX8_bound 79 = .ok (.iconst 0, 1) := by decide +kernel
theorem dX8_bound_80 : decode cX8_bound 80 = .ok (.goto 20, 3) := by decide +kernel
theorem dX8_bound_83 : decode cX8_bound 83 = .ok (.aload_n 0, 1) := by decide +kernel
theorem dX8_bound_84 : decode cX8_bound 84 = .ok (.getfield 7, 3) := by decide +kernel
theorem dX8_bound_87 : decode cX8_bound 87 = .ok (.iload 4, 2) := by decide +kernel
theorem dX8_bound_89 : decode cX8_bound 89 = .ok (.invokestatic 125, 3) := by decide +kernel
theorem dX8_bound_92 : decode cX8_bound 92 = .ok (.aload_n 0, 1) := by decide +kernel
theorem dX8_bound_93 : decode cX8_bound 93 = .ok (.getfield 7, 3) := by decide +kernel
theorem dX8_bound_96 : decode cX8_bound 96 = .ok (.iload 4, 2) := by decide +kernel
theorem dX8_bound_98 : decode cX8_bound 98 = .ok (.isub, 1) := by decide +kernel
theorem dX8_bound_99 : decode cX8_bound 99 = .ok (.ishl, 1) := by decide +kernel
theorem dX8_bound_100 : decode cX8_bound 100 = .ok (.iadd, 1) := by decide +kernel
theorem dX8_bound_101 : decode cX8_bound 101 = .ok (.istore_n 3, 1) := by decide +kernel
theorem dX8_bound_102 : decode cX8_bound 102 = .ok (.iinc 4 1, 3) := by decide +kernel
theorem dX8_bound_105 : decode cX8_bound 105 = .ok (.goto (-45), 3) := by decide +kernel
theorem dX8_bound_108 : decode cX8_bound 108 = .ok (.iload_n 3, 1) := by decide +kernel
theorem dX8_bound_109 : decode cX8_bound 109 = .ok (.iload_n 2, 1) := by decide +kernel
theorem dX8_bound_110 : decode cX8_bound 110 = .ok (.idiv, 1) := by decide +kernel
theorem dX8_bound_111 : decode cX8_bound 111 = .ok (.ireturn, 1) := by decide +kernel
theorem dX8_come_0 : decode cX8_come 0 = .ok (.iconst 0, 1) := by decide +kernel
theorem dX8_come_1 : decode cX8_come 1 = .ok (.istore_n 2, 1) := by decide +kernel
theorem dX8_come_2 : decode cX8_come 2 = .ok (.iload_n 2, 1) := by decide +kernel
theorem dX8_come_3 : decode cX8_come 3 = .ok (.aload_n 0, 1) := by decide +kernel
theorem dX8_come_4 : decode cX8_come 4 = .ok (.getfield 170, 3) := by decide +kernel
theorem dX8_come_7 : decode cX8_come 7 = .ok (.if_icmp .ge 20, 3) := by decide +kernel
theorem dX8_come_10 : decode cX8_come 10 = .ok (.aload_n 0, 1) := by decide +kernel
theorem dX8_come_11 : decode cX8_come 11 = .ok (.getfield 35, 3) := by decide +kernel
theorem dX8_come_14 : decode cX8_come 14 = .ok (.iload_n 2, 1) := by decide +kernel
theorem dX8_come_15 : decode cX8_come 15 = .ok (.iaload, 1) := by decide +kernel
theorem dX8_come_16 : decode cX8_come 16 = .ok (.iload_n 1, 1) := by decide +kernel
theorem dX8_come_17 : decode cX8_come 17 = .ok (.if_icmp .ne 4, 3) := by decide +kernel
theorem dX8_come_20 : decode cX8_come 20 = .ok (.return_, 1) := by decide +kernel
theorem dX8_come_21 : decode cX8_come 21 = .ok (.iinc 2 1, 3) := by decide +kernel
theorem dX8_come_24 : decode cX8_come 24 = .ok (.goto (-22), 3) := by decide +kernel
theorem dX8_come_27 : decode cX8_come 27 = .ok (.aload_n 0, 1) := by decide +kernel
theorem dX8_come_28 : decode cX8_come 28 = .ok (.getfield 35, 3) := by decide +kernel
theorem dX8_come_31 : decode cX8_come 31 = .ok (.aload_n 0, 1) := by decide +kernel
theorem dX8_come_32 : decode cX8_come 32 = .ok (.getfield 170, 3) := by decide +kernel
theorem dX8_come_35 : decode cX8_come 35 = .ok (.iload_n 1, 1) := by decide +kernel
theorem dX8_come_36 : decode cX8_come 36 = .ok (.iastore, 1) := by decide +kernel
theorem dX8_come_37 : decode cX8_come 37 = .ok (.aload_n 0, 1) := by decide +kernel
theorem dX8_come_38 : decode cX8_come 38 = .ok (.dup, 1) := by decide +kernel
theorem dX8_come_39 : decode cX8_come 39 = .ok (.getfield 170, 3) := by decide +kernel
theorem dX8_come_42 : decode cX8_come 42 = .ok (.iconst 1, 1) := by decide +kernel
theorem dX8_come_43 : decode cX8_come 43 = .ok (.iadd, 1) := by decide +kernel
theorem dX8_come_44 : decode cX8_come 44 = .ok (.putfield 170, 3) := by decide +kernel
theorem dX8_come_47 : decode cX8_come 47 = .ok (.return_, 1) := by decide +kernel
theorem dX8_keep_0 : decode cX8_keep 0 = .ok (.aload_n 0, 1) := by decide +kernel
theorem dX8_keep_1 : decode cX8_keep 1 = .ok (.getfield 170, 3) := by decide +kernel
theorem dX8_keep_4 : decode cX8_keep 4 = .ok (.bipush 64, 2) := by decide +kernel
theorem dX8_keep_6 : decode cX8_keep 6 = .ok (.if_icmp .le 7, 3) := by decide +kernel
theorem dX8_keep_9 : decode cX8_keep 9 = .ok (.sipush (-1004), 3) := by decide +kernel
theorem dX8_keep_12 : decode cX8_keep 12 = .ok (.ireturn, 1) := by decide +kernel
theorem dX8_keep_13 : decode cX8_keep 13 = .ok (.aload_n 0, 1) := by decide +kernel
theorem dX8_keep_14 : decode cX8_keep 14 = .ok (.getfield 16, 3) := by decide +kernel
theorem dX8_keep_17 : decode cX8_keep 17 = .ok (.iload_n 1, 1) := by decide +kernel
theorem dX8_keep_18 : decode cX8_keep 18 = .ok (.iconst 0, 1) := by decide +kernel
theorem dX8_keep_19 : decode cX8_keep 19 = .ok (.iastore, 1) := by decide +kernel
theorem dX8_keep_20 : decode cX8_keep 20 = .ok (.iconst 0, 1) := by decide +kernel
theorem dX8_keep_21 : decode cX8_keep 21 = .ok (.istore_n 2, 1) := by decide +kernel
theorem dX8_keep_22 : decode cX8_keep 22 = .ok (.iload_n 2, 1) := by decide +kernel
theorem dX8_keep_23 : decode cX8_keep 23 = .ok (.aload_n 0, 1) := by decide +kernel
theorem dX8_keep_24 : decode cX8_keep 24 = .ok (.getfield 170, 3) := by decide +kernel
theorem dX8_keep_27 : decode cX8_keep 27 = .ok (.if_icmp .ge 20, 3) := by decide +kernel
theorem dX8_keep_30 : decode cX8_keep 30 = .ok (.aload_n 0, 1) := by decide +kernel
theorem dX8_keep_31 : decode cX8_keep 31 = .ok (.iload_n 1, 1) := by decide +kernel
theorem dX8_keep_32 : decode cX8_keep 32 = .ok (.aload_n 0, 1) := by decide +kernel
theorem dX8_keep_33 : decode cX8_keep 33 = .ok (.getfield 35, 3) := by decide +kernel
theorem dX8_keep_36 : decode cX8_keep 36 = .ok (.iload_n 2, 1) := by decide +kernel
theorem dX8_keep_37 : decode cX8_keep 37 = .ok (.iaload, 1) := by decide +kernel
theorem dX8_keep_38 : decode cX8_keep 38 = .ok (.invokevirtual 144, 3) := by decide +kernel
theorem dX8_keep_41 : decode cX8_keep 41 = .ok (.iinc 2 1, 3) := by decide +kernel
theorem dX8_keep_44 : decode cX8_keep 44 = .ok (.goto (-22), 3) := by decide +kernel
theorem dX8_keep_47 : decode cX8_keep 47 = .ok (.aload_n 0, 1) := by decide +kernel
theorem dX8_keep_48 : decode cX8_keep 48 = .ok (.getfield 170, 3) := by decide +kernel
theorem dX8_keep_51 : decode cX8_keep 51 = .ok (.ireturn, 1) := by decide +kernel
theorem dX8_lay_0 : decode cX8_lay 0 = .ok (.iload_n 1, 1) := by decide +kernel
theorem dX8_lay_1 : decode cX8_lay 1 = .ok (.invokestatic 76, 3) := by decide +kernel
theorem dX8_lay_4 : decode cX8_lay 4 = .ok (.ifCond .eq 17, 3) := by decide +kernel
theorem dX8_lay_7 : decode cX8_lay 7 = .ok (.iload_n 2, 1) := by decide +kernel
theorem dX8_lay_8 : decode cX8_lay 8 = .ok (.invokestatic 76, 3) := by decide +kernel
theorem dX8_lay_11 : decode cX8_lay 11 = .ok (.ifCond .eq 10, 3) := by decide +kernel
theorem dX8_lay_14 : decode cX8_lay 14 = .ok (.iload_n 3, 1) := by decide +kernel
theorem dX8_lay_15 : decode cX8_lay 15 = .ok (.invokestatic 76, 3) := by decide +kernel
theorem dX8_lay_18 : decode cX8_lay 18 = .ok (.ifCond .ne 7, 3) := by decide +kernel
theorem dX8_lay_21 : decode cX8_lay 21 = .ok (.sipush (-1001), 3) := by decide +kernel
theorem dX8_lay_24 : decode cX8_lay 24 = .ok (.ireturn, 1) := by decide +kernel
theorem dX8_lay_25 : decode cX8_lay 25 = .ok (.iload 4, 2) := by decide +kernel
theorem dX8_lay_27 : decode cX8_lay 27 = .ok (.i2l, 1) := by decide +kernel
theorem dX8_lay_28 : decode cX8_lay 28 = .ok (.lconst 1, 1) := by decide +kernel
theorem dX8_lay_29 : decode cX8_lay 29 = .ok (.aload_n 0, 1) := by decide +kernel
theorem dX8_lay_30 : decode cX8_lay 30 = .ok (.getfield 7, 3) := by decide +kernel
theorem dX8_lay_33 : decode cX8_lay 33 = .ok (.iconst 1, 1) := by decide +kernel
theorem dX8_lay_34 : decode cX8_lay 34 = .ok (.isub, 1) := by decide +kernel
theorem dX8_lay_35 : decode cX8_lay 35 = .ok (.i2l, 1) := by decide +kernel
theorem dX8_lay_36 : decode cX8_lay 36 = .ok (.invokestatic 70, 3) := by decide +kernel
theorem dX8_lay_39 : decode cX8_lay 39 = .ok (.ifCond .ne 7, 3) := by decide +kernel
theorem dX8_lay_42 : decode cX8_lay 42 = .ok (.sipush (-1002), 3) := by decide +kernel
theorem dX8_lay_45 : decode cX8_lay 45 = .ok (.ireturn, 1) := by decide +kernel
theorem dX8_lay_46 : decode cX8_lay 46 = .ok (.aload_n 0, 1) := by decide +kernel
theorem dX8_lay_47 : decode cX8_lay 47 = .ok (.iconst 0, 1) := by decide +kernel
theorem dX8_lay_48 : decode cX8_lay 48 = .ok (.putfield 170, 3) := by decide +kernel
theorem dX8_lay_51 : decode cX8_lay 51 = .ok (.iconst 0, 1) := by decide +kernel
theorem dX8_lay_52 : decode cX8_lay 52 = .ok (.istore 5, 2) := by decide +kernel
theorem dX8_lay_54 : decode cX8_lay 54 = .ok (.iload 5, 2) := by decide +kernel
theorem dX8_lay_56 : decode cX8_lay 56 = .ok (.aload_n 0, 1) := by decide +kernel
theorem dX8_lay_57 : decode cX8_lay 57 = .ok (.getfield 16, 3) := by decide +kernel
theorem dX8_lay_60 : decode cX8_lay 60 = .ok (.iload_n 2, 1) := by decide +kernel
theorem dX8_lay_61 : decode cX8_lay 61 = .ok (.iaload, 1) := by decide +kernel
theorem dX8_lay_62 : decode cX8_lay 62 = .ok (.if_icmp .ge 78, 3) := by decide +kernel
theorem dX8_lay_65 : decode cX8_lay 65 = .ok (.iconst 0, 1) := by decide +kernel
theorem dX8_lay_66 : decode cX8_lay 66 = .ok (.istore 6, 2) := by decide +kernel
theorem dX8_lay_68 : decode cX8_lay 68 = .ok (.iload 6, 2) := by decide +kernel
theorem dX8_lay_70 : decode cX8_lay 70 = .ok (.aload_n 0, 1) := by decide +kernel
theorem dX8_lay_71 : decode cX8_lay 71 = .ok (.getfield 16, 3) := by decide +kernel
theorem dX8_lay_74 : decode cX8_lay 74 = .ok (.iload_n 3, 1) := by decide +kernel
theorem dX8_lay_75 : decode cX8_lay 75 = .ok (.iaload, 1) := by decide +kernel
theorem dX8_lay_76 : decode cX8_lay 76 = .ok (.if_icmp .ge 58, 3) := by decide +kernel
theorem dX8_lay_79 : decode cX8_lay 79 = .ok (.aload_n 0, 1) := by decide +kernel
theorem dX8_lay_80 : decode cX8_lay 80 = .ok (.iload_n 2, 1) := by decide +kernel
theorem dX8_lay_81 : decode cX8_lay 81 = .ok (.iload 5, 2) := by decide +kernel
theorem dX8_lay_83 : decode cX8_lay 83 = .ok (.invokevirtual 138, 3) := by decide +kernel
theorem dX8_lay_86 : decode cX8_lay 86 = .ok (.iconst 1, 1) := by decide +kernel
theorem dX8_lay_87 : decode cX8_lay 87 = .ok (.iload 4, 2) := by decide +kernel
theorem dX8_lay_89 : decode cX8_lay 89 = .ok (.ishl, 1) := by decide +kernel
theorem dX8_lay_90 : decode cX8_lay 90 = .ok (.iconst 1, 1) := by decide +kernel
theorem dX8_lay_91 : decode cX8_lay 91 = .ok (.isub, 1) := by decide +kernel
theorem dX8_lay_92 : decode cX8_lay 92 = .ok (.iand, 1) := by decide +kernel
theorem dX8_lay_93 : decode cX8_lay 93 = .ok (.istore 7, 2) := by decide +kernel
theorem dX8_lay_95 : decode cX8_lay 95 = .ok (.aload_n 0, 1) := by decide +kernel
theorem dX8_lay_96 : decode cX8_lay 96 = .ok (.iload_n 3, 1) := by decide +kernel
theorem dX8_lay_97 : decode cX8_lay 97 = .ok (.iload 6, 2) := by decide +kernel
theorem dX8_lay_99 : decode cX8_lay 99 = .ok (.invokevirtual 138, 3) := by decide +kernel
theorem dX8_lay_102 : decode cX8_lay 102 = .ok (.iconst 1, 1) := by decide +kernel
theorem dX8_lay_103 : decode cX8_lay 103 = .ok (.aload_n 0, 1) := by decide +kernel
theorem dX8_lay_104 : decode cX8_lay 104 = .ok (.getfield 7, 3) := by decide +kernel
theorem dX8_lay_107 : decode cX8_lay 107 = .ok (.iload 4, 2) := by decide +kernel
theorem dX8_lay_109 : decode cX8_lay 109 = .ok (.isub, 1) := by decide +kernel
theorem dX8_lay_110 : decode cX8_lay 110 = .ok (.ishl, 1) := by decide +kernel
theorem dX8_lay_111 : decode cX8_lay 111 = .ok (.iconst 1, 1) := by decide +kernel
theorem dX8_lay_112 : decode cX8_lay 112 = .ok (.isub, 1) := by decide +kernel
theorem dX8_lay_113 : decode cX8_lay 113 = .ok (.iand, 1) := by decide +kernel
theorem dX8_lay_114 : decode cX8_lay 114 = .ok (.istore 8, 2) := by decide +kernel
theorem dX8_lay_116 : decode cX8_lay 116 = .ok (.aload_n 0, 1) := by decide +kernel
theorem dX8_lay_117 : decode cX8_lay 117 = .ok (.iload 7, 2) := by decide +kernel
theorem dX8_lay_119 : decode cX8_lay 119 = .ok (.iload 8, 2) := by decide +kernel
theorem dX8_lay_121 : decode cX8_lay 121 = .ok (.iload 4, 2) := by decide +kernel
theorem dX8_lay_123 : decode cX8_lay 123 = .ok (.ishl, 1) := by decide +kernel
theorem dX8_lay_124 : decode cX8_lay 124 = .ok (.ior, 1) := by decide +kernel
theorem dX8_lay_125 : decode cX8_lay 125 = .ok (.invokevirtual 173, 3) := by decide +kernel
theorem dX8_lay_128 : decode cX8_lay 128 = .ok (.iinc 6 1, 3) := by decide +kernel
theorem dX8_lay_131 : decode cX8_lay 131 = .ok (.goto (-63), 3) := by decide +kernel
theorem dX8_lay_134 : decode cX8_lay 134 = .ok (.iinc 5 1, 3) := by decide +kernel
theorem dX8_lay_137 : decode cX8_lay 137 = .ok (.goto (-83), 3) := by decide +kernel
theorem dX8_lay_140 : decode cX8_lay 140 = .ok (.aload_n 0, 1) := by decide +kernel
theorem dX8_lay_141 : decode cX8_lay 141 = .ok (.iload_n 1, 1) := by decide +kernel
theorem dX8_lay_142 : decode cX8_lay 142 = .ok (.invokevirtual 176, 3) := by decide +kernel
theorem dX8_lay_145 : decode cX8_lay 145 = .ok (.ireturn, 1) := by decide +kernel
theorem dX8_join_0 : decode cX8_join 0 = .ok (.iload_n 1, 1) := by decide +kernel
theorem dX8_join_1 : decode cX8_join 1 = .ok (.invokestatic 76, 3) := by decide +kernel
theorem dX8_join_4 : decode cX8_join 4 = .ok (.ifCond .eq 17, 3) := by decide +kernel
theorem dX8_join_7 : decode cX8_join 7 = .ok (.iload_n 2, 1) := by decide +kernel
theorem dX8_join_8 : decode cX8_join 8 = .ok (.invokestatic 76, 3) := by decide +kernel
theorem dX8_join_11 : decode cX8_join 11 = .ok (.ifCond .eq 10, 3) := by decide +kernel
theorem dX8_join_14 : decode cX8_join 14 = .ok (.iload_n 3, 1) := by decide +kernel
theorem dX8_join_15 : decode cX8_join 15 = .ok (.invokestatic 76, 3) := by decide +kernel
theorem dX8_join_18 : decode cX8_join 18 = .ok (.ifCond .ne 7, 3) := by decide +kernel
theorem dX8_join_21 : decode cX8_join 21 = .ok (.sipush (-1001), 3) := by decide +kernel
theorem dX8_join_24 : decode cX8_join 24 = .ok (.ireturn, 1) := by decide +kernel
theorem dX8_join_25 : decode cX8_join 25 = .ok (.aload_n 0, 1) := by decide +kernel
theorem dX8_join_26 : decode cX8_join 26 = .ok (.iconst 0, 1) := by decide +kernel
theorem dX8_join_27 : decode cX8_join 27 = .ok (.putfield 170, 3) := by decide +kernel
theorem dX8_join_30 : decode cX8_join 30 = .ok (.iconst 0, 1) := by decide +kernel
theorem dX8_join_31 : decode cX8_join 31 = .ok (.istore 4, 2) := by decide +kernel
theorem dX8_join_33 : decode cX8_join 33 = .ok (.iload 4, 2) := by decide +kernel
theorem dX8_join_35 : decode cX8_join 35 = .ok (.aload_n 0, 1) := by decide +kernel
theorem dX8_join_36 : decode cX8_join 36 = .ok (.getfield 16, 3) := by decide +kernel
theorem dX8_join_39 : decode cX8_join 39 = .ok (.iload_n 2, 1) := by decide +kernel
theorem dX8_join_40 : decode cX8_join 40 = .ok (.iaload, 1) := by decide +kernel
theorem dX8_join_41 : decode cX8_join 41 = .ok (.if_icmp .ge 20, 3) := by decide +kernel
theorem dX8_join_44 : decode cX8_join 44 = .ok (.aload_n 0, 1) := by decide +kernel
theorem dX8_join_45 : decode cX8_join 45 = .ok (.aload_n 0, 1) := by decide +kernel
theorem dX8_join_46 : decode cX8_join 46 = .ok (.iload_n 2, 1) := by decide +kernel
theorem dX8_join_47 : decode cX8_join 47 = .ok (.iload 4, 2) := by decide +kernel
theorem dX8_join_49 : decode cX8_join 49 = .ok (.invokevirtual 138, 3) := by decide +kernel
theorem dX8_join_52 : decode cX8_join 52 = .ok (.invokevirtual 173, 3) := by decide +kernel
theorem dX8_join_55 : decode cX8_join 55 = .ok (.iinc 4 1, 3) := by decide +kernel
theorem dX8_join_58 : decode cX8_join 58 = .ok (.goto (-25), 3) := by decide +kernel
theorem dX8_join_61 : decode cX8_join 61 = .ok (.iconst 0, 1) := by decide +kernel
theorem dX8_join_62 : decode cX8_join 62 = .ok (.istore 4, 2) := by decide +kernel
theorem dX8_join_64 : decode cX8_join 64 = .ok (.iload 4, 2) := by decide +kernel
theorem dX8_join_66 : decode cX8_join 66 = .ok (.aload_n 0, 1) := by decide +kernel
theorem dX8_join_67 : decode cX8_join 67 = .ok (.getfield 16, 3) := by decide +kernel
theorem dX8_join_70 : decode cX8_join 70 = .ok (.iload_n 3, 1) := by decide +kernel
theorem dX8_join_71 : decode cX8_join 71 = .ok (.iaload, 1) := by decide +kernel
theorem dX8_join_72 : decode cX8_join 72 = .ok (.if_icmp .ge 20, 3) := by decide +kernel
theorem dX8_join_75 : decode cX8_join 75 = .ok (.aload_n 0, 1) := by decide +kernel
theorem dX8_join_76 : decode cX8_join 76 = .ok (.aload_n 0, 1) := by decide +kernel
theorem dX8_join_77 : decode cX8_join 77 = .ok (.iload_n 3, 1) := by decide +kernel
theorem dX8_join_78 : decode cX8_join 78 = .ok (.iload 4, 2) := by decide +kernel
theorem dX8_join_80 : decode cX8_join 80 = .ok (.invokevirtual 138, 3) := by decide +kernel
theorem dX8_join_83 : decode cX8_join 83 = .ok (.invokevirtual 173, 3) := by decide +kernel
theorem dX8_join_86 : decode cX8_join 86 = .ok (.iinc 4 1, 3) := by decide +kernel
theorem dX8_join_89 : decode cX8_join 89 = .ok (.goto (-25), 3) := by decide +kernel
theorem dX8_join_92 : decode cX8_join 92 = .ok (.aload_n 0, 1) := by decide +kernel
theorem dX8_join_93 : decode cX8_join 93 = .ok (.iload_n 1, 1) := by decide +kernel
theorem dX8_join_94 : decode cX8_join 94 = .ok (.invokevirtual 176, 3) := by decide +kernel
theorem dX8_join_97 : decode cX8_join 97 = .ok (.ireturn, 1) := by decide +kernel
theorem dX8_shorten_0 : decode cX8_shorten 0 = .ok (.iload_n 1, 1) := by decide +kernel
theorem dX8_shorten_1 : decode cX8_shorten 1 = .ok (.invokestatic 76, 3) := by decide +kernel
theorem dX8_shorten_4 : decode cX8_shorten 4 = .ok (.ifCond .eq 10, 3) := by decide +kernel
theorem dX8_shorten_7 : decode cX8_shorten 7 = .ok (.iload_n 2, 1) := by decide +kernel
theorem dX8_shorten_8 : decode cX8_shorten 8 = .ok (.invokestatic 76, 3) := by decide +kernel
theorem dX8_shorten_11 : decode cX8_shorten 11 = .ok (.ifCond .ne 7, 3) := by decide +kernel
theorem dX8_shorten_14 : decode cX8_shorten 14 = .ok (.sipush (-1001), 3) := by decide +kernel
theorem dX8_shorten_17 : decode cX8_shorten 17 = .ok (.ireturn, 1) := by decide +kernel
theorem dX8_shorten_18 : decode cX8_shorten 18 = .ok (.iload_n 3, 1) := by decide +kernel
theorem dX8_shorten_19 : decode cX8_shorten 19 = .ok (.i2l, 1) := by decide +kernel
theorem dX8_shorten_20 : decode cX8_shorten 20 = .ok (.lconst 0, 1) := by decide +kernel
theorem dX8_shorten_21 : decode cX8_shorten 21 = .ok (.aload_n 0, 1) := by decide +kernel
theorem dX8_shorten_22 : decode cX8_shorten 22 = .ok (.getfield 7, 3) := by decide +kernel
theorem dX8_shorten_25 : decode cX8_shorten 25 = .ok (.iconst 1, 1) := by decide +kernel
theorem dX8_shorten_26 : decode cX8_shorten 26 = .ok (.isub, 1) := by decide +kernel
theorem dX8_shorten_27 : decode cX8_shorten 27 = .ok (.i2l, 1) := by decide +kernel
theorem dX8_shorten_28 : decode cX8_shorten 28 = .ok (.invokestatic 70, 3) := by decide +kernel
theorem dX8_shorten_31 : decode cX8_shorten 31 = .ok (.ifCond .ne 7, 3) := by decide +kernel
theorem dX8_shorten_34 : decode cX8_shorten 34 = .ok (.sipush (-1002), 3) := by decide +kernel
theorem dX8_shorten_37 : decode cX8_shorten 37 = .ok (.ireturn, 1) := by decide +kernel
theorem dX8_shorten_38 : decode cX8_shorten 38 = .ok (.aload_n 0, 1) := by decide +kernel
theorem dX8_shorten_39 : decode cX8_shorten 39 = .ok (.iconst 0, 1) := by decide +kernel
theorem dX8_shorten_40 : decode cX8_shorten 40 = .ok (.putfield 170, 3) := by decide +kernel
theorem dX8_shorten_43 : decode cX8_shorten 43 = .ok (.iconst 0, 1) := by decide +kernel
theorem dX8_shorten_44 : decode cX8_shorten 44 = .ok (.istore 4, 2) := by decide +kernel
theorem dX8_shorten_46 : decode cX8_shorten 46 = .ok (.iload 4, 2) := by decide +kernel
theorem dX8_shorten_48 : decode cX8_shorten 48 = .ok (.aload_n 0, 1) := by decide +kernel
theorem dX8_shorten_49 : decode cX8_shorten 49 = .ok (.getfield 16, 3) := by decide +kernel
theorem dX8_shorten_52 : decode cX8_shorten 52 = .ok (.iload_n 2, 1) := by decide +kernel
theorem dX8_shorten_53 : decode cX8_shorten 53 = .ok (.iaload, 1) := by decide +kernel
theorem dX8_shorten_54 : decode cX8_shorten 54 = .ok (.if_icmp .ge 39, 3) := by decide +kernel
theorem dX8_shorten_57 : decode cX8_shorten 57 = .ok (.aload_n 0, 1) := by decide +kernel
theorem dX8_shorten_58 : decode cX8_shorten 58 = .ok (.iload_n 2, 1) := by decide +kernel
theorem dX8_shorten_59 : decode cX8_shorten 59 = .ok (.iload 4, 2) := by decide +kernel
theorem dX8_shorten_61 : decode cX8_shorten 61 = .ok (.invokevirtual 138, 3) := by decide +kernel
theorem dX8_shorten_64 : decode cX8_shorten 64 = .ok (.istore 5, 2) := by decide +kernel
theorem dX8_shorten_66 : decode cX8_shorten 66 = .ok (.aload_n 0, 1) := by decide +kernel
theorem dX8_shorten_67 : decode cX8_shorten 67 = .ok (.iload 5, 2) := by decide +kernel
theorem dX8_shorten_69 : decode cX8_shorten 69 = .ok (.iconst 1, 1) := by decide +kernel
theorem dX8_shorten_70 : decode cX8_shorten 70 = .ok (.iload_n 3, 1) := by decide +kernel
theorem dX8_shorten_71 : decode cX8_shorten 71 = .ok (.ishl, 1) := by decide +kernel
theorem dX8_shorten_72 : decode cX8_shorten 72 = .ok (.iconst 1, 1) := by decide +kernel
theorem dX8_shorten_73 : decode cX8_shorten 73 = .ok (.isub, 1) := by decide +kernel
theorem dX8_shorten_74 : decode cX8_shorten 74 = .ok (.iand, 1) := by decide +kernel
theorem dX8_shorten_75 : decode cX8_shorten 75 = .ok (.iload 5, 2) := by decide +kernel
theorem dX8_shorten_77 : decode cX8_shorten 77 = .ok (.iload_n 3, 1) := by decide +kernel
theorem dX8_shorten_78 : decode cX8_shorten 78 = .ok (.iconst 1, 1) := by decide +kernel
theorem dX8_shorten_79 : decode cX8_shorten 79 = .ok (.iadd, 1) := by decide +kernel
theorem dX8_shorten_80 : decode cX8_shorten 80 = .ok (.ishr, 1) := by decide +kernel
theorem dX8_shorten_81 : decode cX8_shorten 81 = .ok (.iload_n 3, 1) := by decide +kernel
theorem dX8_shorten_82 : decode cX8_shorten 82 = .ok (.ishl, 1) := by decide +kernel
theorem dX8_shorten_83 : decode cX8_shorten 83 = .ok (.ior, 1) := by decide +kernel
theorem dX8_shorten_84 : decode cX8_shorten 84 = .ok (.invokevirtual 173, 3) := by decide +kernel
theorem dX8_shorten_87 : decode cX8_shorten 87 = .ok (.iinc 4 1, 3) := by decide +kernel
theorem dX8_shorten_90 : decode cX8_shorten 90 = .ok (.goto (-44), 3) := by decide +kernel
theorem dX8_shorten_93 : decode cX8_shorten 93 = .ok (.aload_n 0, 1) := by decide +kernel
theorem dX8_shorten_94 : decode cX8_shorten 94 = .ok (.iload_n 1, 1) := by decide +kernel
theorem dX8_shorten_95 : decode cX8_shorten 95 = .ok (.invokevirtual 176, 3) := by decide +kernel
theorem dX8_shorten_98 : decode cX8_shorten 98 = .ok (.ireturn, 1) := by decide +kernel
theorem dX8_turn_0 : decode cX8_turn 0 = .ok (.iload_n 1, 1) := by decide +kernel
theorem dX8_turn_1 : decode cX8_turn 1 = .ok (.invokestatic 76, 3) := by decide +kernel
theorem dX8_turn_4 : decode cX8_turn 4 = .ok (.ifCond .eq 10, 3) := by decide +kernel
theorem dX8_turn_7 : decode cX8_turn 7 = .ok (.iload_n 2, 1) := by decide +kernel
theorem dX8_turn_8 : decode cX8_turn 8 = .ok (.invokestatic 76, 3) := by decide +kernel
theorem dX8_turn_11 : decode cX8_turn 11 = .ok (.ifCond .ne 7, 3) := by decide +kernel
theorem dX8_turn_14 : decode cX8_turn 14 = .ok (.sipush (-1001), 3) := by decide +kernel
theorem dX8_turn_17 : decode cX8_turn 17 = .ok (.ireturn, 1) := by decide +kernel
theorem dX8_turn_18 : decode cX8_turn 18 = .ok (.aload_n 0, 1) := by decide +kernel
theorem dX8_turn_19 : decode cX8_turn 19 = .ok (.iconst 0, 1) := by decide +kernel
theorem dX8_turn_20 : decode cX8_turn 20 = .ok (.putfield 170, 3) := by decide +kernel
theorem dX8_turn_23 : decode cX8_turn 23 = .ok (.iconst 0, 1) := by decide +kernel
theorem dX8_turn_24 : decode cX8_turn 24 = .ok (.istore_n 3, 1) := by decide +kernel
theorem dX8_turn_25 : decode cX8_turn 25 = .ok (.iload_n 3, 1) := by decide +kernel
theorem dX8_turn_26 : decode cX8_turn 26 = .ok (.aload_n 0, 1) := by decide +kernel
theorem dX8_turn_27 : decode cX8_turn 27 = .ok (.getfield 16, 3) := by decide +kernel
theorem dX8_turn_30 : decode cX8_turn 30 = .ok (.iload_n 2, 1) := by decide +kernel
theorem dX8_turn_31 : decode cX8_turn 31 = .ok (.iaload, 1) := by decide +kernel
theorem dX8_turn_32 : decode cX8_turn 32 = .ok (.if_icmp .ge 23, 3) := by decide +kernel
theorem dX8_turn_35 : decode cX8_turn 35 = .ok (.aload_n 0, 1) := by decide +kernel
theorem dX8_turn_36 : decode cX8_turn 36 = .ok (.aload_n 0, 1) := by decide +kernel
theorem dX8_turn_37 : decode cX8_turn 37 = .ok (.aload_n 0, 1) := by decide +kernel
theorem dX8_turn_38 : decode cX8_turn 38 = .ok (.iload_n 2, 1) := by decide +kernel
theorem dX8_turn_39 : decode cX8_turn 39 = .ok (.iload_n 3, 1) := by decide +kernel
theorem dX8_turn_40 : decode cX8_turn 40 = .ok (.invokevirtual 138, 3) := by decide +kernel
theorem dX8_turn_43 : decode cX8_turn 43 = .ok (.invokevirtual 97, 3) := by decide +kernel
theorem dX8_turn_46 : decode cX8_turn 46 = .ok (.invokevirtual 173, 3) := by decide +kernel
theorem dX8_turn_49 : decode cX8_turn 49 = .ok (.iinc 3 1, 3) := by decide +kernel
theorem dX8_turn_52 : decode cX8_turn 52 = .ok (.goto (-27), 3) := by decide +kernel
theorem dX8_turn_55 : decode cX8_turn 55 = .ok (.aload_n 0, 1) := by decide +kernel
theorem dX8_turn_56 : decode cX8_turn 56 = .ok (.iload_n 1, 1) := by decide +kernel
theorem dX8_turn_57 : decode cX8_turn 57 = .ok (.invokevirtual 176, 3) := by decide +kernel
theorem dX8_turn_60 : decode cX8_turn 60 = .ok (.ireturn, 1) := by decide +kernel
theorem dX8_even_0 : decode cX8_even 0 = .ok (.iload_n 1, 1) := by decide +kernel
theorem dX8_even_1 : decode cX8_even 1 = .ok (.invokestatic 76, 3) := by decide +kernel
theorem dX8_even_4 : decode cX8_even 4 = .ok (.ifCond .eq 10, 3) := by decide +kernel
theorem dX8_even_7 : decode cX8_even 7 = .ok (.iload_n 2, 1) := by decide +kernel
theorem dX8_even_8 : decode cX8_even 8 = .ok (.invokestatic 76, 3) := by decide +kernel
theorem dX8_even_11 : decode cX8_even 11 = .ok (.ifCond .ne 7, 3) := by decide +kernel
theorem dX8_even_14 : decode cX8_even 14 = .ok (.sipush (-1001), 3) := by decide +kernel
theorem dX8_even_17 : decode cX8_even 17 = .ok (.ireturn, 1) := by decide +kernel
theorem dX8_even_18 : decode cX8_even 18 = .ok (.iload_n 3, 1) := by decide +kernel
theorem dX8_even_19 : decode cX8_even 19 = .ok (.i2l, 1) := by decide +kernel
theorem dX8_even_20 : decode cX8_even 20 = .ok (.lconst 0, 1) := by decide +kernel
theorem dX8_even_21 : decode cX8_even 21 = .ok (.aload_n 0, 1) := by decide +kernel
theorem dX8_even_22 : decode cX8_even 22 = .ok (.getfield 7, 3) := by decide +kernel
theorem dX8_even_25 : decode cX8_even 25 = .ok (.iconst 1, 1) := by decide +kernel
theorem dX8_even_26 : decode cX8_even 26 = .ok (.isub, 1) := by decide +kernel
theorem dX8_even_27 : decode cX8_even 27 = .ok (.i2l, 1) := by decide +kernel
theorem dX8_even_28 : decode cX8_even 28 = .ok (.invokestatic 70, 3) := by decide +kernel
theorem dX8_even_31 : decode cX8_even 31 = .ok (.ifCond .ne 7, 3) := by decide +kernel
theorem dX8_even_34 : decode cX8_even 34 = .ok (.sipush (-1002), 3) := by decide +kernel
theorem dX8_even_37 : decode cX8_even 37 = .ok (.ireturn, 1) := by decide +kernel
theorem dX8_even_38 : decode cX8_even 38 = .ok (.aload_n 0, 1) := by decide +kernel
theorem dX8_even_39 : decode cX8_even 39 = .ok (.iconst 0, 1) := by decide +kernel
theorem dX8_even_40 : decode cX8_even 40 = .ok (.putfield 170, 3) := by decide +kernel
theorem dX8_even_43 : decode cX8_even 43 = .ok (.iconst 0, 1) := by decide +kernel
theorem dX8_even_44 : decode cX8_even 44 = .ok (.istore 4, 2) := by decide +kernel
theorem dX8_even_46 : decode cX8_even 46 = .ok (.iload 4, 2) := by decide +kernel
theorem dX8_even_48 : decode cX8_even 48 = .ok (.aload_n 0, 1) := by decide +kernel
theorem dX8_even_49 : decode cX8_even 49 = .ok (.getfield 16, 3) := by decide +kernel
theorem dX8_even_52 : decode cX8_even 52 = .ok (.iload_n 2, 1) := by decide +kernel
theorem dX8_even_53 : decode cX8_even 53 = .ok (.iaload, 1) := by decide +kernel
theorem dX8_even_54 : decode cX8_even 54 = .ok (.if_icmp .ge 50, 3) := by decide +kernel
theorem dX8_even_57 : decode cX8_even 57 = .ok (.aload_n 0, 1) := by decide +kernel
theorem dX8_even_58 : decode cX8_even 58 = .ok (.iload_n 2, 1) := by decide +kernel
theorem dX8_even_59 : decode cX8_even 59 = .ok (.iload 4, 2) := by decide +kernel
theorem dX8_even_61 : decode cX8_even 61 = .ok (.invokevirtual 138, 3) := by decide +kernel
theorem dX8_even_64 : decode cX8_even 64 = .ok (.iconst 1, 1) := by decide +kernel
theorem dX8_even_65 : decode cX8_even 65 = .ok (.iload_n 3, 1) := by decide +kernel
theorem dX8_even_66 : decode cX8_even 66 = .ok (.ishl, 1) := by decide +kernel
theorem dX8_even_67 : decode cX8_even 67 = .ok (.iconst (-1), 1) := by decide +kernel
theorem dX8_even_68 : decode cX8_even 68 = .ok (.ixor, 1) := by decide +kernel
theorem dX8_even_69 : decode cX8_even 69 = .ok (.iand, 1) := by decide +kernel
theorem dX8_even_70 : decode cX8_even 70 = .ok (.istore 5, 2) := by decide +kernel
theorem dX8_even_72 : decode cX8_even 72 = .ok (.aload_n 0, 1) := by decide +kernel
theorem dX8_even_73 : decode cX8_even 73 = .ok (.iload 5, 2) := by decide +kernel
theorem dX8_even_75 : decode cX8_even 75 = .ok (.invokestatic 101, 3) := by decide +kernel
theorem dX8_even_78 : decode cX8_even 78 = .ok (.iconst 2, 1) := by decide +kernel
theorem dX8_even_79 : decode cX8_even 79 = .ok (.irem, 1) := by decide +kernel
theorem dX8_even_80 : decode cX8_even 80 = .ok (.iconst 1, 1) := by decide +kernel
theorem dX8_even_81 : decode cX8_even 81 = .ok (.if_icmp .ne 12, 3) := by decide +kernel
theorem dX8_even_84 : decode cX8_even 84 = .ok (.iload 5, 2) := by decide +kernel
theorem dX8_even_86 : decode cX8_even 86 = .ok (.iconst 1, 1) := by decide +kernel
theorem dX8_even_87 : decode cX8_even 87 = .ok (.iload_n 3, 1) := by decide +kernel
theorem dX8_even_88 : decode cX8_even 88 = .ok (.ishl, 1) := by decide +kernel
theorem dX8_even_89 : decode cX8_even 89 = .ok (.ior, 1) := by decide +kernel
theorem dX8_even_90 : decode cX8_even 90 = .ok (.goto 5, 3) := by decide +kernel
theorem dX8_even_93 : decode cX8_even 93 = .ok (.iload 5, 2) := by decide +kernel
theorem dX8_even_95 : decode cX8_even 95 = .ok (.invokevirtual 173, 3) := by decide +kernel
theorem dX8_even_98 : decode cX8_even 98 = .ok (.iinc 4 1, 3) := by decide +kernel
theorem dX8_even_101 : decode cX8_even 101 = .ok (.goto (-55), 3) := by decide +kernel
theorem dX8_even_104 : decode cX8_even 104 = .ok (.aload_n 0, 1) := by decide +kernel
theorem dX8_even_105 : decode cX8_even 105 = .ok (.iload_n 1, 1) := by decide +kernel
theorem dX8_even_106 : decode cX8_even 106 = .ok (.invokevirtual 176, 3) := by decide +kernel
theorem dX8_even_109 : decode cX8_even 109 = .ok (.ireturn, 1) := by decide +kernel
theorem dX8_feed_0 : decode cX8_feed 0 = .ok (.iload_n 1, 1) := by decide +kernel
theorem dX8_feed_1 : decode cX8_feed 1 = .ok (.i2l, 1) := by decide +kernel
theorem dX8_feed_2 : decode cX8_feed 2 = .ok (.lconst 1, 1) := by decide +kernel
theorem dX8_feed_3 : decode cX8_feed 3 = .ok (.ldc2_w 179, 3) := by decide +kernel
theorem dX8_feed_6 : decode cX8_feed 6 = .ok (.invokestatic 70, 3) := by decide +kernel
theorem dX8_feed_9 : decode cX8_feed 9 = .ok (.ifCond .ne 7, 3) := by decide +kernel
theorem dX8_feed_12 : decode cX8_feed 12 = .ok (.sipush (-1002), 3) := by decide +kernel
theorem dX8_feed_15 : decode cX8_feed 15 = .ok (.ireturn, 1) := by decide +kernel
theorem dX8_feed_16 : decode cX8_feed 16 = .ok (.aload_n 0, 1) := by decide +kernel
theorem dX8_feed_17 : decode cX8_feed 17 = .ok (.getfield 181, 3) := by decide +kernel
theorem dX8_feed_20 : decode cX8_feed 20 = .ok (.iload_n 1, 1) := by decide +kernel
theorem dX8_feed_21 : decode cX8_feed 21 = .ok (.iadd, 1) := by decide +kernel
theorem dX8_feed_22 : decode cX8_feed 22 = .ok (.bipush 120, 2) := by decide +kernel
theorem dX8_feed_24 : decode cX8_feed 24 = .ok (.if_icmp .le 7, 3) := by decide +kernel
theorem dX8_feed_27 : decode cX8_feed 27 = .ok (.sipush (-1004), 3) := by decide +kernel
theorem dX8_feed_30 : decode cX8_feed 30 = .ok (.ireturn, 1) := by decide +kernel
theorem dX8_feed_31 : decode cX8_feed 31 = .ok (.iload_n 1, 1) := by decide +kernel
theorem dX8_feed_32 : decode cX8_feed 32 = .ok (.iconst 1, 1) := by decide +kernel
theorem dX8_feed_33 : decode cX8_feed 33 = .ok (.isub, 1) := by decide +kernel
theorem dX8_feed_34 : decode cX8_feed 34 = .ok (.istore 4, 2) := by decide +kernel
theorem dX8_feed_36 : decode cX8_feed 36 = .ok (.iload 4, 2) := by decide +kernel
theorem dX8_feed_38 : decode cX8_feed 38 = .ok (.ifCond .lt 40, 3) := by decide +kernel
theorem dX8_feed_41 : decode cX8_feed 41 = .ok (.aload_n 0, 1) := by decide +kernel
theorem dX8_feed_42 : decode cX8_feed 42 = .ok (.getfield 38, 3) := by decide +kernel
theorem dX8_feed_45 : decode cX8_feed 45 = .ok (.aload_n 0, 1) := by decide +kernel
theorem dX8_feed_46 : decode cX8_feed 46 = .ok (.getfield 181, 3) := by decide +kernel
theorem dX8_feed_49 : decode cX8_feed 49 = .ok (.lload_n 2, 1) := by decide +kernel
theorem dX8_feed_50 : decode cX8_feed 50 = .ok (.bipush 8, 2) := by decide +kernel
theorem dX8_feed_52 : decode cX8_feed 52 = .ok (.iload 4, 2) := by decide +kernel
theorem dX8_feed_54 : decode cX8_feed 54 = .ok (.imul, 1) := by decide +kernel
theorem dX8_feed_55 : decode cX8_feed 55 = .ok (.lshr, 1) := by decide +kernel
theorem dX8_feed_56 : decode cX8_feed 56 = .ok (.ldc2_w 184, 3) := by decide +kernel
theorem dX8_feed_59 : decode cX8_feed 59 = .ok (.land, 1) := by decide +kernel
theorem dX8_feed_60 : decode cX8_feed 60 = .ok (.l2i, 1) := by decide +kernel
theorem dX8_feed_61 : decode cX8_feed 61 = .ok (.iastore, 1) := by decide +kernel
theorem dX8_feed_62 : decode cX8_feed 62 = .ok (.aload_n 0, 1) := by decide +kernel
theorem dX8_feed_63 : decode cX8_feed 63 = .ok (.dup, 1) := by decide +kernel
theorem dX8_feed_64 : decode cX8_feed 64 = .ok (.getfield 181, 3) := by decide +kernel
theorem dX8_feed_67 : decode cX8_feed 67 = .ok (.iconst 1, 1) := by decide +kernel
theorem dX8_feed_68 : decode cX8_feed 68 = .ok (.iadd, 1) := by decide +kernel
theorem dX8_feed_69 : decode cX8_feed 69 = .ok (.putfield 181, 3) := by decide +kernel
theorem dX8_feed_72 : decode cX8_feed 72 = .ok (.iinc 4 (-1), 3) := by decide +kernel
theorem dX8_feed_75 : decode cX8_feed 75 = .ok (.goto (-39), 3) := by decide +kernel
theorem dX8_feed_78 : decode cX8_feed 78 = .ok (.aload_n 0, 1) := by decide +kernel
theorem dX8_feed_79 : decode cX8_feed 79 = .ok (.getfield 181, 3) := by decide +kernel
theorem dX8_feed_82 : decode cX8_feed 82 = .ok (.ireturn, 1) := by decide +kernel
theorem dX8_here_0 : decode cX8_here 0 = .ok (.aload_n 0, 1) := by decide +kernel
theorem dX8_here_1 : decode cX8_here 1 = .ok (.getfield 186, 3) := by decide +kernel
theorem dX8_here_4 : decode cX8_here 4 = .ok (.aload_n 0, 1) := by decide +kernel
theorem dX8_here_5 : decode cX8_here 5 = .ok (.getfield 181, 3) := by decide +kernel
theorem dX8_here_8 : decode cX8_here 8 = .ok (.if_icmp .ge 30, 3) := by decide +kernel
theorem dX8_here_11 : decode cX8_here 11 = .ok (.aload_n 0, 1) := by decide +kernel
theorem dX8_here_12 : decode cX8_here 12 = .ok (.getfield 38, 3) := by decide +kernel
theorem dX8_here_15 : decode cX8_here 15 = .ok (.aload_n 0, 1) := by decide +kernel
theorem dX8_here_16 : decode cX8_here 16 = .ok (.getfield 186, 3) := by decide +kernel
theorem dX8_here_19 : decode cX8_here 19 = .ok (.iaload, 1) := by decide +kernel
theorem dX8_here_20 : decode cX8_here 20 = .ok (.bipush 32, 2) := by decide +kernel
theorem dX8_here_22 : decode cX8_here 22 = .ok (.if_icmp .ne 16, 3) := by decide +kernel
theorem dX8_here_25 : decode cX8_here 25 = .ok (.aload_n 0, 1) := by decide +kernel
theorem dX8_here_26 : decode cX8_here 26 = .ok (.dup, 1) := by decide +kernel
theorem dX8_here_27 : decode cX8_here 27 = .ok (.getfield 186, 3) := by decide +kernel
theorem dX8_here_30 : decode cX8_here 30 = .ok (.iconst 1, 1) := by decide +kernel
theorem dX8_here_31 : decode cX8_here 31 = .ok (.iadd, 1) := by decide +kernel
theorem dX8_here_32 : decode cX8_here 32 = .ok (.putfield 186, 3) := by decide +kernel
theorem dX8_here_35 : decode cX8_here 35 = .ok (.goto (-35), 3) := by decide +kernel
theorem dX8_here_38 : decode cX8_here 38 = .ok (.aload_n 0, 1) := by decide +kernel
theorem dX8_here_39 : decode cX8_here 39 = .ok (.getfield 186, 3) := by decide +kernel
theorem dX8_here_42 : decode cX8_here 42 = .ok (.aload_n 0, 1) := by decide +kernel
theorem dX8_here_43 : decode cX8_here 43 = .ok (.getfield 181, 3) := by decide +kernel
theorem dX8_here_46 : decode cX8_here 46 = .ok (.if_icmp .ge 15, 3) := by decide +kernel
theorem dX8_here_49 : decode cX8_here 49 = .ok (.aload_n 0, 1) := by decide +kernel
theorem dX8_here_50 : decode cX8_here 50 = .ok (.getfield 38, 3) := by decide +kernel
theorem dX8_here_53 : decode cX8_here 53 = .ok (.aload_n 0, 1) := by decide +kernel
theorem dX8_here_54 : decode cX8_here 54 = .ok (.getfield 186, 3) := by decide +kernel
theorem dX8_here_57 : decode cX8_here 57 = .ok (.iaload, 1) := by decide +kernel
theorem dX8_here_58 : decode cX8_here 58 = .ok (.goto 4, 3) := by decide +kernel
theorem dX8_here_61 : decode cX8_here 61 = .ok (.iconst (-1), 1) := by decide +kernel
theorem dX8_here_62 : decode cX8_here 62 = .ok (.ireturn, 1) := by decide +kernel
theorem dX8_fails_0 : decode cX8_fails 0 = .ok (.aload_n 0, 1) := by decide +kernel
theorem dX8_fails_1 : decode cX8_fails 1 = .ok (.iload_n 2, 1) := by decide +kernel
theorem dX8_fails_2 : decode cX8_fails 2 = .ok (.putfield 41, 3) := by decide +kernel
theorem dX8_fails_5 : decode cX8_fails 5 = .ok (.iload_n 1, 1) := by decide +kernel
theorem dX8_fails_6 : decode cX8_fails 6 = .ok (.ireturn, 1) := by decide +kernel
theorem dX8_readWord_0 : decode cX8_readWord 0 = .ok (.aload_n 0, 1) := by decide +kernel
theorem dX8_readWord_1 : decode cX8_readWord 1 = .ok (.invokevirtual 189, 3) := by decide +kernel
theorem dX8_readWord_4 : decode cX8_readWord 4 = .ok (.istore_n 1, 1) := by decide +kernel
theorem dX8_readWord_5 : decode cX8_readWord 5 = .ok (.aload_n 0, 1) := by decide +kernel
theorem dX8_readWord_6 : decode cX8_readWord 6 = .ok (.lconst 0, 1) := by decide +kernel
theorem dX8_readWord_7 : decode cX8_readWord 7 = .ok (.putfield 193, 3) := by decide +kernel
theorem dX8_readWord_10 : decode cX8_readWord 10 = .ok (.aload_n 0, 1) := by decide +kernel
theorem dX8_readWord_11 : decode cX8_readWord 11 = .ok (.aload_n 0, 1) := by decide +kernel
theorem dX8_readWord_12 : decode cX8_readWord 12 = .ok (.getfield 186, 3) := by decide +kernel
theorem dX8_readWord_15 : decode cX8_readWord 15 = .ok (.putfield 197, 3) := by decide +kernel
theorem dX8_readWord_18 : decode cX8_readWord 18 = .ok (.aload_n 0, 1) := by decide +kernel
theorem dX8_readWord_19 : decode cX8_readWord 19 = .ok (.getfield 197, 3) := by decide +kernel
theorem dX8_readWord_22 : decode cX8_readWord 22 = .ok (.aload_n 0, 1) := by decide +kernel
theorem dX8_readWord_23 : decode cX8_readWord 23 = .ok (.getfield 181, 3) := by decide +kernel
theorem dX8_readWord_26 : decode cX8_readWord 26 = .ok (.if_icmp .ge 82, 3) := by decide +kernel
theorem dX8_readWord_29 : decode cX8_readWord 29 = .ok (.aload_n 0, 1) := by decide +kernel
theorem dX8_readWord_30 : decode cX8_readWord 30 = .ok (.getfield 38, 3) := by decide +kernel
theorem dX8_readWord_33 : decode cX8_readWord 33 = .ok (.aload_n 0, 1) := by decide +kernel
theorem dX8_readWord_34 : decode cX8_readWord 34 = .ok (.getfield 197, 3) := by decide +kernel
theorem dX8_readWord_37 : decode cX8_readWord 37 = .ok (.iaload, 1) := by decide +kernel
theorem dX8_readWord_38 : decode cX8_readWord 38 = .ok (.i2l, 1) := by decide +kernel
theorem dX8_readWord_39 : decode cX8_readWord 39 = .ok (.ldc2_w 200, 3) := by decide +kernel
theorem dX8_readWord_42 : decode cX8_readWord 42 = .ok (.ldc2_w 202, 3) := by decide +kernel
theorem dX8_readWord_45 : decode cX8_readWord 45 = .ok (.invokestatic 70, 3) := by decide +kernel
theorem dX8_readWord_48 : decode cX8_readWord 48 = .ok (.ifCond .eq 60, 3) := by decide +kernel
theorem dX8_readWord_51 : decode cX8_readWord 51 = .ok (.aload_n 0, 1) := by decide +kernel
theorem dX8_readWord_52 : decode cX8_readWord 52 = .ok (.aload_n 0, 1) := by decide +kernel
theorem dX8_readWord_53 : decode cX8_readWord 53 = .ok (.getfield 193, 3) := by decide +kernel
theorem dX8_readWord_56 : decode cX8_readWord 56 = .ok (.ldc2_w 204, 3) := by decide +kernel
theorem dX8_readWord_59 : decode cX8_readWord 59 = .ok (.lcmp, 1) := by decide +kernel
theorem dX8_readWord_60 : decode cX8_readWord 60 = .ok (.ifCond .le 9, 3) := by decide +kernel
theorem dX8_readWord_63 : decode cX8_readWord 63 = .ok (.ldc2_w 206, 3) := by decide +kernel
theorem dX8_readWord_66 : decode cX8_readWord 66 = .ok (.goto 26, 3) := by decide +kernel
theorem dX8_readWord_69 : decode cX8_readWord 69 = .ok (.ldc2_w 208, 3) := by decide +kernel
theorem dX8_readWord_72 : decode cX8_readWord 72 = .ok (.aload_n 0, 1) := by decide +kernel
theorem dX8_readWord_73 : decode cX8_readWord 73 = .ok (.getfield 193, 3) := by decide +kernel
theorem dX8_readWord_76 : decode cX8_readWord 76 = .ok (.lmul, 1) := by decide +kernel
theorem dX8_readWord_77 : decode cX8_readWord 77 = .ok (.aload_n 0, 1) := by decide +kernel
theorem dX8_readWord_78 : decode cX8_readWord 78 = .ok (.getfield 38, 3) := by decide +kernel
theorem dX8_readWord_81 : decode cX8_readWord 81 = .ok (.aload_n 0, 1) := by decide +kernel
theorem dX8_readWord_82 : decode cX8_readWord 82 = .ok (.getfield 197, 3) := by decide +kernel
theorem dX8_readWord_85 : decode cX8_readWord 85 = .ok (.iaload, 1) := by decide +kernel
theorem dX8_readWord_86 : decode cX8_readWord 86 = .ok (.i2l, 1) := by decide +kernel
theorem dX8_readWord_87 : decode cX8_readWord 87 = .ok (.ladd, 1) := by decide +kernel
theorem dX8_readWord_88 : decode cX8_readWord 88 = .ok (.ldc2_w 210, 3) := by decide +kernel
theorem dX8_readWord_91 : decode cX8_readWord 91 = .ok (.lsub, 1) := by decide +kernel
theorem dX8_readWord_92 : decode cX8_readWord 92 = .ok (.putfield 193, 3) := by decide +kernel
theorem dX8_readWord_95 : decode cX8_readWord 95 = .ok (.aload_n 0, 1) := by decide +kernel
theorem dX8_readWord_96 : decode cX8_readWord 96 = .ok (.dup, 1) := by decide +kernel
theorem dX8_readWord_97 : decode cX8_readWord 97 = .ok (.getfield 197, 3) := by decide +kernel
theorem dX8_readWord_100 : decode cX8_readWord 100 = .ok (.iconst 1, 1) := by decide +kernel
theorem dX8_readWord_101 : decode cX8_readWord 101 = .ok (.iadd, 1) := by decide +kernel
theorem dX8_readWord_102 : decode cX8_readWord 102 = .ok (.putfield 197, 3) := by decide +kernel
theorem dX8_readWord_105 : decode cX8_readWord 105 = .ok (.goto (-87), 3) := by decide +kernel
theorem dX8_readWord_108 : decode cX8_readWord 108 = .ok (.return_, 1) := by decide +kernel
theorem dX8_code_0 : decode cX8_code 0 = .ok (.ldc2_w 208, 3) := by decide +kernel
theorem dX8_code_3 : decode cX8_code 3 = .ok (.iload_n 0, 1) := by decide +kernel
theorem dX8_code_4 : decode cX8_code 4 = .ok (.i2l, 1) := by decide +kernel
theorem dX8_code_5 : decode cX8_code 5 = .ok (.ldc2_w 210, 3) := by decide +kernel
theorem dX8_code_8 : decode cX8_code 8 = .ok (.lsub, 1) := by decide +kernel
theorem dX8_code_9 : decode cX8_code 9 = .ok (.lmul, 1) := by decide +kernel
theorem dX8_code_10 : decode cX8_code 10 = .ok (.iload_n 1, 1) := by decide +kernel
theorem dX8_code_11 : decode cX8_code 11 = .ok (.i2l, 1) := by decide +kernel
theorem dX8_code_12 : decode cX8_code 12 = .ok (.ladd, 1) := by decide +kernel
theorem dX8_code_13 : decode cX8_code 13 = .ok (.ldc2_w 210, 3) := by decide +kernel
theorem dX8_code_16 : decode cX8_code 16 = .ok (.lsub, 1) := by decide +kernel
theorem dX8_code_17 : decode cX8_code 17 = .ok (.lstore 5, 2) := by decide +kernel
theorem dX8_code_19 : decode cX8_code 19 = .ok (.iload_n 2, 1) := by decide +kernel
theorem dX8_code_20 : decode cX8_code 20 = .ok (.ifCond .ne 8, 3) := by decide +kernel
theorem dX8_code_23 : decode cX8_code 23 = .ok (.lload 5, 2) := by decide +kernel
theorem dX8_code_25 : decode cX8_code 25 = .ok (.goto 16, 3) := by decide +kernel
theorem dX8_code_28 : decode cX8_code 28 = .ok (.ldc2_w 208, 3) := by decide +kernel
theorem dX8_code_31 : decode cX8_code 31 = .ok (.lload 5, 2) := by decide +kernel
theorem dX8_code_33 : decode cX8_code 33 = .ok (.lmul, 1) := by decide +kernel
theorem dX8_code_34 : decode cX8_code 34 = .ok (.iload_n 2, 1) := by decide +kernel
theorem dX8_code_35 : decode cX8_code 35 = .ok (.i2l, 1) := by decide +kernel
theorem dX8_code_36 : decode cX8_code 36 = .ok (.ladd, 1) := by decide +kernel
theorem dX8_code_37 : decode cX8_code 37 = .ok (.ldc2_w 210, 3) := by decide +kernel
theorem dX8_code_40 : decode cX8_code 40 = .ok (.lsub, 1) := by decide +kernel
theorem dX8_code_41 : decode cX8_code 41 = .ok (.lstore 5, 2) := by decide +kernel
theorem dX8_code_43 : decode cX8_code 43 = .ok (.iload_n 3, 1) := by decide +kernel
theorem dX8_code_44 : decode cX8_code 44 = .ok (.ifCond .ne 8, 3) := by decide +kernel
theorem dX8_code_47 : decode cX8_code 47 = .ok (.lload 5, 2) := by decide +kernel
theorem dX8_code_49 : decode cX8_code 49 = .ok (.goto 16, 3) := by decide +kernel
theorem dX8_code_52 : decode cX8_code 52 = .ok (.ldc2_w 208, 3) := by decide +kernel
theorem dX8_code_55 : decode cX8_code 55 = .ok (.lload 5, 2) := by decide +kernel
theorem dX8_code_57 : decode cX8_code 57 = .ok (.lmul, 1) := by decide +kernel
theorem dX8_code_58 : decode cX8_code 58 = .ok (.iload_n 3, 1) := by decide +kernel
theorem dX8_code_59 : decode cX8_code 59 = .ok (.i2l, 1) := by decide +kernel
theorem dX8_code_60 : decode cX8_code 60 = .ok (.ladd, 1) := by decide +kernel
theorem dX8_code_61 : decode cX8_code 61 = .ok (.ldc2_w 210, 3) := by decide +kernel
theorem dX8_code_64 : decode cX8_code 64 = .ok (.lsub, 1) := by decide +kernel
theorem dX8_code_65 : decode cX8_code 65 = .ok (.lstore 5, 2) := by decide +kernel
theorem dX8_code_67 : decode cX8_code 67 = .ok (.iload 4, 2) := by decide +kernel
theorem dX8_code_69 : decode cX8_code 69 = .ok (.ifCond .ne 8, 3) := by decide +kernel
theorem dX8_code_72 : decode cX8_code 72 = .ok (.lload 5, 2) := by decide +kernel
theorem dX8_code_74 : decode cX8_code 74 = .ok (.goto 17, 3) := by decide +kernel
theorem dX8_code_77 : decode cX8_code 77 = .ok (.ldc2_w 208, 3) := by decide +kernel
theorem dX8_code_80 : decode cX8_code 80 = .ok (.lload 5, 2) := by decide +kernel
theorem dX8_code_82 : decode cX8_code 82 = .ok (.lmul, 1) := by decide +kernel
theorem dX8_code_83 : decode cX8_code 83 = .ok (.iload 4, 2) := by decide +kernel
theorem dX8_code_85 : decode cX8_code 85 = .ok (.i2l, 1) := by decide +kernel
theorem dX8_code_86 : decode cX8_code 86 = .ok (.ladd, 1) := by decide +kernel
theorem dX8_code_87 : decode cX8_code 87 = .ok (.ldc2_w 210, 3) := by decide +kernel
theorem dX8_code_90 : decode cX8_code 90 = .ok (.lsub, 1) := by decide +kernel
theorem dX8_code_91 : decode cX8_code 91 = .ok (.lreturn, 1) := by decide +kernel
theorem dX8_readNumber_0 : decode cX8_readNumber 0 = .ok (.aload_n 0, 1) := by decide +kernel
theorem dX8_readNumber_1 : decode cX8_readNumber 1 = .ok (.invokevirtual 189, 3) := by decide +kernel
theorem dX8_readNumber_4 : decode cX8_readNumber 4 = .ok (.istore_n 3, 1) := by decide +kernel
theorem dX8_readNumber_5 : decode cX8_readNumber 5 = .ok (.iload_n 3, 1) := by decide +kernel
theorem dX8_readNumber_6 : decode cX8_readNumber 6 = .ok (.i2l, 1) := by decide +kernel
theorem dX8_readNumber_7 : decode cX8_readNumber 7 = .ok (.ldc2_w 212, 3) := by decide +kernel
theorem dX8_readNumber_10 : decode cX8_readNumber 10 = .ok (.ldc2_w 214, 3) := by decide +kernel
theorem dX8_readNumber_13 : decode cX8_readNumber 13 = .ok (.invokestatic 70, 3) := by decide +kernel
theorem dX8_readNumber_16 : decode cX8_readNumber 16 = .ok (.ifCond .ne 13, 3) := by decide +kernel
theorem dX8_readNumber_19 : decode cX8_readNumber 19 = .ok (.aload_n 0, 1) := by decide +kernel
theorem dX8_readNumber_20 : decode cX8_readNumber 20 = .ok (.iconst 1, 1) := by decide +kernel
theorem dX8_readNumber_21 : decode cX8_readNumber 21 = .ok (.aload_n 0, 1) := by decide +kernel
theorem dX8_readNumber_22 : decode cX8_readNumber 22 = .ok (.getfield 186, 3) := by decide +kernel
theorem dX8_readNumber_25 : decode cX8_readNumber 25 = .ok (.invokevirtual 216, 3) := by decide +kernel
theorem dX8_readNumber_28 : decode cX8_readNumber 28 = .ok (.ireturn, 1) := by decide +kernel
theorem dX8_readNumber_29 : decode cX8_readNumber 29 = .ok (.aload_n 0, 1) := by decide +kernel
theorem dX8_readNumber_30 : decode cX8_readNumber 30 = .ok (.getfield 186, 3) := by decide +kernel
theorem dX8_readNumber_33 : decode cX8_readNumber 33 = .ok (.istore 4, 2) := by decide +kernel
theorem dX8_readNumber_35 : decode cX8_readNumber 35 = .ok (.aload_n 0, 1) := by decide +kernel
theorem dX8_readNumber_36 : decode cX8_readNumber 36 = .ok (.iconst 0, 1) := by decide +kernel
theorem dX8_readNumber_37 : decode cX8_readNumber 37 = .ok (.putfield 219, 3) := by decide +kernel
theorem dX8_readNumber_40 : decode cX8_readNumber 40 = .ok (.aload_n 0, 1) := by decide +kernel
theorem dX8_readNumber_41 : decode cX8_readNumber 41 = .ok (.getfield 186, 3) := by decide +kernel
theorem dX8_readNumber_44 : decode cX8_readNumber 44 = .ok (.aload_n 0, 1) := by decide +kernel
theorem dX8_readNumber_45 : decode cX8_readNumber 45 = .ok (.getfield 181, 3) := by decide +kernel
theorem dX8_readNumber_48 : decode cX8_readNumber 48 = .ok (.if_icmp .ge 79, 3) := by decide +kernel
theorem dX8_readNumber_51 : decode cX8_readNumber 51 = .ok (.aload_n 0, 1) := by decide +kernel
theorem dX8_readNumber_52 : decode cX8_readNumber 52 = .ok (.getfield 38, 3) := by decide +kernel
theorem dX8_readNumber_55 : decode cX8_readNumber 55 = .ok (.aload_n 0, 1) := by decide +kernel
theorem dX8_readNumber_56 : decode cX8_readNumber 56 = .ok (.getfield 186, 3) := by decide +kernel
theorem dX8_readNumber_59 : decode cX8_readNumber 59 = .ok (.iaload, 1) := by decide +kernel
theorem dX8_readNumber_60 : decode cX8_readNumber 60 = .ok (.i2l, 1) := by decide +kernel
theorem dX8_readNumber_61 : decode cX8_readNumber 61 = .ok (.ldc2_w 212, 3) := by decide +kernel
theorem dX8_readNumber_64 : decode cX8_readNumber 64 = .ok (.ldc2_w 214, 3) := by decide +kernel
theorem dX8_readNumber_67 : decode cX8_readNumber 67 = .ok (.invokestatic 70, 3) := by decide +kernel
theorem dX8_readNumber_70 : decode cX8_readNumber 70 = .ok (.ifCond .eq 57, 3) := by decide +kernel
theorem dX8_readNumber_73 : decode cX8_readNumber 73 = .ok (.aload_n 0, 1) := by decide +kernel
theorem dX8_readNumber_74 : decode cX8_readNumber 74 = .ok (.aload_n 0, 1) := by decide +kernel
theorem dX8_readNumber_75 : decode cX8_readNumber 75 = .ok (.getfield 219, 3) := by decide +kernel
theorem dX8_readNumber_78 : decode cX8_readNumber 78 = .ok (.sipush 10000, 3) := by decide +kernel
theorem dX8_readNumber_81 : decode cX8_readNumber 81 = .ok (.if_icmp .le 10, 3) := by decide +kernel
theorem dX8_readNumber_84 : decode cX8_readNumber 84 = .ok (.aload_n 0, 1) := by decide +kernel
theorem dX8_readNumber_85 : decode cX8_readNumber 85 = .ok (.getfield 219, 3) := by decide +kernel
theorem dX8_readNumber_88 : decode cX8_readNumber 88 = .ok (.goto 23, 3) := by decide +kernel
theorem dX8_readNumber_91 : decode cX8_readNumber 91 = .ok (.bipush 10, 2) := by decide +kernel
theorem dX8_readNumber_93 : decode cX8_readNumber 93 = .ok (.aload_n 0, 1) := by decide +kernel
theorem dX8_readNumber_94 : decode cX8_readNumber 94 = .ok (.getfield 219, 3) := by decide +kernel
theorem dX8_readNumber_97 : decode cX8_readNumber 97 = .ok (.imul, 1) := by decide +kernel
theorem dX8_readNumber_98 : decode cX8_readNumber 98 = .ok (.aload_n 0, 1) := by decide +kernel
theorem dX8_readNumber_99 : decode cX8_readNumber 99 = .ok (.getfield 38, 3) := by decide +kernel
theorem dX8_readNumber_102 : decode cX8_readNumber 102 = .ok (.aload_n 0, 1) := by decide +kernel
theorem dX8_readNumber_103 : decode cX8_readNumber 103 = .ok (.getfield 186, 3) := by decide +kernel
theorem dX8_readNumber_106 : decode cX8_readNumber 106 = .ok (.iaload, 1) := by decide +kernel
theorem dX8_readNumber_107 : decode cX8_readNumber 107 = .ok (.iadd, 1) := by decide +kernel
theorem dX8_readNumber_108 : decode cX8_readNumber 108 = .ok (.bipush 48, 2) := by decide +kernel
theorem dX8_readNumber_110 : decode cX8_readNumber 110 = .ok (.isub, 1) := by decide +kernel
theorem dX8_readNumber_111 : decode cX8_readNumber 111 = .ok (.putfield 219, 3) := by decide +kernel
theorem dX8_readNumber_114 : decode cX8_readNumber 114 = .ok (.aload_n 0, 1) := by decide +kernel
theorem dX8_readNumber_115 : decode cX8_readNumber 115 = .ok (.dup, 1) := by decide +kernel
theorem dX8_readNumber_116 : decode cX8_readNumber 116 = .ok (.getfield 186, 3) := by decide +kernel
theorem dX8_readNumber_119 : decode cX8_readNumber 119 = .ok (.iconst 1, 1) := by decide +kernel
theorem dX8_readNumber_120 : decode cX8_readNumber 120 = .ok (.iadd, 1) := by decide +kernel
theorem dX8_readNumber_121 : decode cX8_readNumber 121 = .ok (.putfield 186, 3) := by decide +kernel
theorem dX8_readNumber_124 : decode cX8_readNumber 124 = .ok (.goto (-84), 3) := by decide +kernel
theorem dX8_readNumber_127 : decode cX8_readNumber 127 = .ok (.aload_n 0, 1) := by decide +kernel
theorem dX8_readNumber_128 : decode cX8_readNumber 128 = .ok (.getfield 186, 3) := by decide +kernel
theorem dX8_readNumber_131 : decode cX8_readNumber 131 = .ok (.iload 4, 2) := by decide +kernel
theorem dX8_readNumber_133 : decode cX8_readNumber 133 = .ok (.isub, 1) := by decide +kernel
theorem dX8_readNumber_134 : decode cX8_readNumber 134 = .ok (.iconst 2, 1) := by decide +kernel
theorem dX8_readNumber_135 : decode cX8_readNumber 135 = .ok (.if_icmp .gt 18, 3) := by decide +kernel
theorem dX8_readNumber_138 : decode cX8_readNumber 138 = .ok (.aload_n 0, 1) := by decide +kernel
theorem dX8_readNumber_139 : decode cX8_readNumber 139 = .ok (.getfield 219, 3) := by decide +kernel
theorem dX8_readNumber_142 : decode cX8_readNumber 142 = .ok (.i2l, 1) := by decide +kernel
theorem dX8_readNumber_143 : decode cX8_readNumber 143 = .ok (.iload_n 1, 1) := by decide +kernel
theorem dX8_readNumber_144 : decode cX8_readNumber 144 = .ok (.i2l, 1) := by decide +kernel
theorem dX8_readNumber_145 : decode cX8_readNumber 145 = .ok (.iload_n 2, 1) := by decide +kernel
theorem dX8_readNumber_146 : decode cX8_readNumber 146 = .ok (.i2l, 1) := by decide +kernel
theorem dX8_readNumber_147 : decode cX8_readNumber 147 = .ok (.invokestatic 70, 3) := by decide +kernel
theorem dX8_readNumber_150 : decode cX8_readNumber 150 = .ok (.ifCond .ne 13, 3) := by decide +kernel
theorem dX8_readNumber_153 : decode cX8_readNumber 153 = .ok (.aload_n 0, 1) := by decide +kernel
theorem dX8_readNumber_154 : decode cX8_readNumber 154 = .ok (.iconst 2, 1) := by decide +kernel
theorem dX8_readNumber_155 : decode cX8_readNumber 155 = .ok (.iload 4, 2) := by decide +kernel
theorem dX8_readNumber_157 : decode cX8_readNumber 157 = .ok (.invokevirtual 216, 3) := by decide +kernel
theorem dX8_readNumber_160 : decode cX8_readNumber 160 = .ok (.goto 4, 3) := by decide +kernel
theorem dX8_readNumber_163 : decode cX8_readNumber 163 = .ok (.iconst 0, 1) := by decide +kernel
theorem dX8_readNumber_164 : decode cX8_readNumber 164 = .ok (.ireturn, 1) := by decide +kernel
theorem dX8_step_0 : decode cX8_step 0 = .ok (.aload_n 0, 1) := by decide +kernel
theorem dX8_step_1 : decode cX8_step 1 = .ok (.getfield 44, 3) := by decide +kernel
theorem dX8_step_4 : decode cX8_step 4 = .ok (.aload_n 0, 1) := by decide +kernel
theorem dX8_step_5 : decode cX8_step 5 = .ok (.getfield 222, 3) := by decide +kernel
theorem dX8_step_8 : decode cX8_step 8 = .ok (.iload_n 1, 1) := by decide +kernel
theorem dX8_step_9 : decode cX8_step 9 = .ok (.iastore, 1) := by decide +kernel
theorem dX8_step_10 : decode cX8_step 10 = .ok (.aload_n 0, 1) := by decide +kernel
theorem dX8_step_11 : decode cX8_step 11 = .ok (.getfield 47, 3) := by decide +kernel
theorem dX8_step_14 : decode cX8_step 14 = .ok (.aload_n 0, 1) := by decide +kernel
theorem dX8_step_15 : decode cX8_step 15 = .ok (.getfield 222, 3) := by decide +kernel
theorem dX8_step_18 : decode cX8_step 18 = .ok (.iload_n 2, 1) := by decide +kernel
theorem dX8_step_19 : decode cX8_step 19 = .ok (.iastore, 1) := by decide +kernel
theorem dX8_step_20 : decode cX8_step 20 = .ok (.aload_n 0, 1) := by decide +kernel
theorem dX8_step_21 : decode cX8_step 21 = .ok (.dup, 1) := by decide +kernel
theorem dX8_step_22 : decode cX8_step 22 = .ok (.getfield 222, 3) := by decide +kernel
theorem dX8_step_25 : decode cX8_step 25 = .ok (.iconst 1, 1) := by decide +kernel
theorem dX8_step_26 : decode cX8_step 26 = .ok (.iadd, 1) := by decide +kernel
theorem dX8_step_27 : decode cX8_step 27 = .ok (.putfield 222, 3) := by decide +kernel
theorem dX8_step_30 : decode cX8_step 30 = .ok (.return_, 1) := by decide +kernel
theorem dX8_work_0 : decode cX8_work 0 = .ok (.aload_n 0, 1) := by decide +kernel
theorem dX8_work_1 : decode cX8_work 1 = .ok (.getfield 225, 3) := by decide +kernel
theorem dX8_work_4 : decode cX8_work 4 = .ok (.ifCond .le 60, 3) := by decide +kernel
theorem dX8_work_7 : decode cX8_work 7 = .ok (.aload_n 0, 1) := by decide +kernel
theorem dX8_work_8 : decode cX8_work 8 = .ok (.getfield 50, 3) := by decide +kernel
theorem dX8_work_11 : decode cX8_work 11 = .ok (.aload_n 0, 1) := by decide +kernel
theorem dX8_work_12 : decode cX8_work 12 = .ok (.getfield 225, 3) := by decide +kernel
theorem dX8_work_15 : decode cX8_work 15 = .ok (.iconst 1, 1) := by decide +kernel
theorem dX8_work_16 : decode cX8_work 16 = .ok (.isub, 1) := by decide +kernel
theorem dX8_work_17 : decode cX8_work 17 = .ok (.iaload, 1) := by decide +kernel
theorem dX8_work_18 : decode cX8_work 18 = .ok (.iconst 3, 1) := by decide +kernel
theorem dX8_work_19 : decode cX8_work 19 = .ok (.if_icmp .eq 45, 3) := by decide +kernel
theorem dX8_work_22 : decode cX8_work 22 = .ok (.aload_n 0, 1) := by decide +kernel
theorem dX8_work_23 : decode cX8_work 23 = .ok (.getfield 50, 3) := by decide +kernel
theorem dX8_work_26 : decode cX8_work 26 = .ok (.aload_n 0, 1) := by decide +kernel
theorem dX8_work_27 : decode cX8_work 27 = .ok (.getfield 225, 3) := by decide +kernel
theorem dX8_work_30 : decode cX8_work 30 = .ok (.iconst 1, 1) := by decide +kernel
theorem dX8_work_31 : decode cX8_work 31 = .ok (.isub, 1) := by decide +kernel
theorem dX8_work_32 : decode cX8_work 32 = .ok (.iaload, 1) := by decide +kernel
theorem dX8_work_33 : decode cX8_work 33 = .ok (.iload_n 1, 1) := by decide +kernel
theorem dX8_work_34 : decode cX8_work 34 = .ok (.if_icmp .lt 30, 3) := by decide +kernel
theorem dX8_work_37 : decode cX8_work 37 = .ok (.aload_n 0, 1) := by decide +kernel
theorem dX8_work_38 : decode cX8_work 38 = .ok (.dup, 1) := by decide +kernel
theorem dX8_work_39 : decode cX8_work 39 = .ok (.getfield 225, 3) := by decide +kernel
theorem dX8_work_42 : decode cX8_work 42 = .ok (.iconst 1, 1) := by decide +kernel
theorem dX8_work_43 : decode cX8_work 43 = .ok (.isub, 1) := by decide +kernel
theorem dX8_work_44 : decode cX8_work 44 = .ok (.putfield 225, 3) := by decide +kernel
theorem dX8_work_47 : decode cX8_work 47 = .ok (.aload_n 0, 1) := by decide +kernel
theorem dX8_work_48 : decode cX8_work 48 = .ok (.aload_n 0, 1) := by decide +kernel
theorem dX8_work_49 : decode cX8_work 49 = .ok (.getfield 50, 3) := by decide +kernel
theorem dX8_work_52 : decode cX8_work 52 = .ok (.aload_n 0, 1) := by decide +kernel
theorem dX8_work_53 : decode cX8_work 53 = .ok (.getfield 225, 3) := by decide +kernel
theorem dX8_work_56 : decode cX8_work 56 = .ok (.iaload, 1) := by decide +kernel
theorem dX8_work_57 : decode cX8_work 57 = .ok (.iconst 0, 1) := by decide +kernel
theorem dX8_work_58 : decode cX8_work 58 = .ok (.invokevirtual 228, 3) := by decide +kernel
theorem dX8_work_61 : decode cX8_work 61 = .ok (.goto (-61), 3) := by decide +kernel
theorem dX8_work_64 : decode cX8_work 64 = .ok (.return_, 1) := by decide +kernel
theorem dX8_hold_0 : decode cX8_hold 0 = .ok (.aload_n 0, 1) := by decide +kernel
theorem dX8_hold_1 : decode cX8_hold 1 = .ok (.getfield 50, 3) := by decide +kernel
theorem dX8_hold_4 : decode cX8_hold 4 = .ok (.aload_n 0, 1) := by decide +kernel
theorem dX8_hold_5 : decode cX8_hold 5 = .ok (.getfield 225, 3) := by decide +kernel
theorem dX8_hold_8 : decode cX8_hold 8 = .ok (.iload_n 1, 1) := by decide +kernel
theorem dX8_hold_9 : decode cX8_hold 9 = .ok (.iastore, 1) := by decide +kernel
theorem dX8_hold_10 : decode cX8_hold 10 = .ok (.aload_n 0, 1) := by decide +kernel
theorem dX8_hold_11 : decode cX8_hold 11 = .ok (.dup, 1) := by decide +kernel
theorem dX8_hold_12 : decode cX8_hold 12 = .ok (.getfield 225, 3) := by decide +kernel
theorem dX8_hold_15 : decode cX8_hold 15 = .ok (.iconst 1, 1) := by decide +kernel
theorem dX8_hold_16 : decode cX8_hold 16 = .ok (.iadd, 1) := by decide +kernel
theorem dX8_hold_17 : decode cX8_hold 17 = .ok (.putfield 225, 3) := by decide +kernel
theorem dX8_hold_20 : decode cX8_hold 20 = .ok (.return_, 1) := by decide +kernel
theorem dX8_readSum_0 : decode cX8_readSum 0 = .ok (.aload_n 0, 1) := by decide +kernel
theorem dX8_readSum_1 : decode cX8_readSum 1 = .ok (.iconst 0, 1) := by decide +kernel
theorem dX8_readSum_2 : decode cX8_readSum 2 = .ok (.bipush 98, 2) := by decide +kernel
theorem dX8_readSum_4 : decode cX8_readSum 4 = .ok (.invokevirtual 231, 3) := by decide +kernel
theorem dX8_readSum_7 : decode cX8_readSum 7 = .ok (.istore_n 1, 1) := by decide +kernel
theorem dX8_readSum_8 : decode cX8_readSum 8 = .ok (.aload_n 0, 1) := by decide +kernel
theorem dX8_readSum_9 : decode cX8_readSum 9 = .ok (.getfield 219, 3) := by decide +kernel
theorem dX8_readSum_12 : decode cX8_readSum 12 = .ok (.istore_n 2, 1) := by decide +kernel
theorem dX8_readSum_13 : decode cX8_readSum 13 = .ok (.iload_n 1, 1) := by decide +kernel
theorem dX8_readSum_14 : decode cX8_readSum 14 = .ok (.ifCond .le 5, 3) := by decide +kernel
theorem dX8_readSum_17 : decode cX8_readSum 17 = .ok (.iload_n 1, 1) := by decide +kernel
theorem dX8_readSum_18 : decode cX8_readSum 18 = .ok (.ireturn, 1) := by decide +kernel
theorem dX8_readSum_19 : decode cX8_readSum 19 = .ok (.aload_n 0, 1) := by decide +kernel
theorem dX8_readSum_20 : decode cX8_readSum 20 = .ok (.invokevirtual 234, 3) := by decide +kernel
theorem dX8_readSum_23 : decode cX8_readSum 23 = .ok (.aload_n 0, 1) := by decide +kernel
theorem dX8_readSum_24 : decode cX8_readSum 24 = .ok (.getfield 193, 3) := by decide +kernel
theorem dX8_readSum_27 : decode cX8_readSum 27 = .ok (.bipush 111, 2) := by decide +kernel
theorem dX8_readSum_29 : decode cX8_readSum 29 = .ok (.bipush 102, 2) := by decide +kernel
theorem dX8_readSum_31 : decode cX8_readSum 31 = .ok (.iconst 0, 1) := by decide +kernel
theorem dX8_readSum_32 : decode cX8_readSum 32 = .ok (.iconst 0, 1) := by decide +kernel
theorem dX8_readSum_33 : decode cX8_readSum 33 = .ok (.iconst 0, 1) := by decide +kernel
theorem dX8_readSum_34 : decode cX8_readSum 34 = .ok (.invokestatic 237, 3) := by decide +kernel
theorem dX8_readSum_37 : decode cX8_readSum 37 = .ok (.lcmp, 1) := by decide +kernel
theorem dX8_readSum_38 : decode cX8_readSum 38 = .ok (.ifCond .eq 13, 3) := by decide +kernel
theorem dX8_readSum_41 : decode cX8_readSum 41 = .ok (.aload_n 0, 1) := by decide +kernel
theorem dX8_readSum_42 : decode cX8_readSum 42 = .ok (.iconst 1, 1) := by decide +kernel
theorem dX8_readSum_43 : decode cX8_readSum 43 = .ok (.aload_n 0, 1) := by decide +kernel
theorem dX8_readSum_44 : decode cX8_readSum 44 = .ok (.getfield 186, 3) := by decide +kernel
theorem dX8_readSum_47 : decode cX8_readSum 47 = .ok (.invokevirtual 216, 3) := by decide +kernel
theorem dX8_readSum_50 : decode cX8_readSum 50 = .ok (.ireturn, 1) := by decide +kernel
theorem dX8_readSum_51 : decode cX8_readSum 51 = .ok (.aload_n 0, 1) := by decide +kernel
theorem dX8_readSum_52 : decode cX8_readSum 52 = .ok (.aload_n 0, 1) := by decide +kernel
theorem dX8_readSum_53 : decode cX8_readSum 53 = .ok (.getfield 197, 3) := by decide +kernel
theorem dX8_readSum_56 : decode cX8_readSum 56 = .ok (.putfield 186, 3) := by decide +kernel
theorem dX8_readSum_59 : decode cX8_readSum 59 = .ok (.aload_n 0, 1) := by decide +kernel
theorem dX8_readSum_60 : decode cX8_readSum 60 = .ok (.iconst 1, 1) := by decide +kernel
theorem dX8_readSum_61 : decode cX8_readSum 61 = .ok (.bipush 99, 2) := by decide +kernel
theorem dX8_readSum_63 : decode cX8_readSum 63 = .ok (.invokevirtual 231, 3) := by decide +kernel
theorem dX8_readSum_66 : decode cX8_readSum 66 = .ok (.istore_n 1, 1) := by decide +kernel
theorem dX8_readSum_67 : decode cX8_readSum 67 = .ok (.aload_n 0, 1) := by decide +kernel
theorem dX8_readSum_68 : decode cX8_readSum 68 = .ok (.bipush 100, 2) := by decide +kernel
theorem dX8_readSum_70 : decode cX8_readSum 70 = .ok (.iload_n 2, 1) := by decide +kernel
theorem dX8_readSum_71 : decode cX8_readSum 71 = .ok (.imul, 1) := by decide +kernel
theorem dX8_readSum_72 : decode cX8_readSum 72 = .ok (.aload_n 0, 1) := by decide +kernel
theorem dX8_readSum_73 : decode cX8_readSum 73 = .ok (.getfield 219, 3) := by decide +kernel
theorem dX8_readSum_76 : decode cX8_readSum 76 = .ok (.iadd, 1) := by decide +kernel
theorem dX8_readSum_77 : decode cX8_readSum 77 = .ok (.putfield 219, 3) := by decide +kernel
theorem dX8_readSum_80 : decode cX8_readSum 80 = .ok (.iload_n 1, 1) := by decide +kernel
theorem dX8_readSum_81 : decode cX8_readSum 81 = .ok (.ireturn, 1) := by decide +kernel
theorem dX8_readLeaf_0 : decode cX8_readLeaf 0 = .ok (.aload_n 0, 1) := by decide +kernel
theorem dX8_readLeaf_1 : decode cX8_readLeaf 1 = .ok (.getfield 193, 3) := by decide +kernel
theorem dX8_readLeaf_4 : decode cX8_readLeaf 4 = .ok (.bipush 112, 2) := by decide +kernel
theorem dX8_readLeaf_6 : decode cX8_readLeaf 6 = .ok (.bipush 105, 2) := by decide +kernel
theorem dX8_readLeaf_8 : decode cX8_readLeaf 8 = .ok (.bipush 110, 2) := by decide +kernel
theorem dX8_readLeaf_10 : decode cX8_readLeaf 10 = .ok (.bipush 115, 2) := by decide +kernel
theorem dX8_readLeaf_12 : decode cX8_readLeaf 12 = .ok (.iconst 0, 1) := by decide +kernel
theorem dX8_readLeaf_13 : decode cX8_readLeaf 13 = .ok (.invokestatic 237, 3) := by decide +kernel
theorem dX8_readLeaf_16 : decode cX8_readLeaf 16 = .ok (.lcmp, 1) := by decide +kernel
theorem dX8_readLeaf_17 : decode cX8_readLeaf 17 = .ok (.ifCond .ne 7, 3) := by decide +kernel
theorem dX8_readLeaf_20 : decode cX8_readLeaf 20 = .ok (.iconst 3, 1) := by decide +kernel
theorem dX8_readLeaf_21 : decode cX8_readLeaf 21 = .ok (.goto 124, 3) := by decide +kernel
theorem dX8_readLeaf_24 : decode cX8_readLeaf 24 = .ok (.aload_n 0, 1) := by decide +kernel
theorem dX8_readLeaf_25 : decode cX8_readLeaf 25 = .ok (.getfield 193, 3) := by decide +kernel
theorem dX8_readLeaf_28 : decode cX8_readLeaf 28 = .ok (.bipush 115, 2) := by decide +kernel
theorem dX8_readLeaf_30 : decode cX8_readLeaf 30 = .ok (.bipush 117, 2) := by decide +kernel
theorem dX8_readLeaf_32 : decode cX8_readLeaf 32 = .ok (.bipush 109, 2) := by decide +kernel
theorem dX8_readLeaf_34 : decode cX8_readLeaf 34 = .ok (.iconst 0, 1) := by decide +kernel
theorem dX8_readLeaf_35 : decode cX8_readLeaf 35 = .ok (.iconst 0, 1) := by decide +kernel
theorem dX8_readLeaf_36 : decode cX8_readLeaf 36 = .ok (.invokestatic 237, 3) := by decide +kernel
theorem dX8_readLeaf_39 : decode cX8_readLeaf 39 = .ok (.lcmp, 1) := by decide +kernel
theorem dX8_readLeaf_40 : decode cX8_readLeaf 40 = .ok (.ifCond .ne 7, 3) := by decide +kernel
theorem dX8_readLeaf_43 : decode cX8_readLeaf 43 = .ok (.iconst 4, 1) := by decide +kernel
theorem dX8_readLeaf_44 : decode cX8_readLeaf 44 = .ok (.goto 101, 3) := by decide +kernel
theorem dX8_readLeaf_47 : decode cX8_readLeaf 47 = .ok (.aload_n 0, 1) := by decide +kernel
theorem dX8_readLeaf_48 : decode cX8_readLeaf 48 = .ok (.getfield 193, 3) := by decide +kernel
theorem dX8_readLeaf_51 : decode cX8_readLeaf 51 = .ok (.bipush 104, 2) := by decide +kernel
theorem dX8_readLeaf_53 : decode cX8_readLeaf 53 = .ok (.bipush 97, 2) := by decide +kernel
theorem dX8_readLeaf_55 : decode cX8_readLeaf 55 = .ok (.bipush 115, 2) := by decide +kernel
theorem dX8_readLeaf_57 : decode cX8_readLeaf 57 = .ok (.iconst 0, 1) := by decide +kernel
theorem dX8_readLeaf_58 : decode cX8_readLeaf 58 = .ok (.iconst 0, 1) := by decide +kernel
theorem dX8_readLeaf_59 : decode cX8_readLeaf 59 = .ok (.invokestatic 237, 3) := by decide +kernel
theorem dX8_readLeaf_62 : decode cX8_readLeaf 62 = .ok (.lcmp, 1) := by decide +kernel
theorem dX8_readLeaf_63 : decode cX8_readLeaf 63 = .ok (.ifCond .ne 7, 3) := by decide +kernel
theorem dX8_readLeaf_66 : decode cX8_readLeaf 66 = .ok (.iconst 5, 1) := by decide +kernel
theorem dX8_readLeaf_67 : decode cX8_readLeaf 67 = .ok (.goto 78, 3) := by decide +kernel
theorem dX8_readLeaf_70 : decode cX8_readLeaf 70 = .ok (.aload_n 0, 1) := by decide +kernel
theorem dX8_readLeaf_71 : decode cX8_readLeaf 71 = .ok (.getfield 193, 3) := by decide +kernel
theorem dX8_readLeaf_74 : decode cX8_readLeaf 74 = .ok (.bipush 114, 2) := by decide +kernel
theorem dX8_readLeaf_76 : decode cX8_readLeaf 76 = .ok (.bipush 117, 2) := by decide +kernel
theorem dX8_readLeaf_78 : decode cX8_readLeaf 78 = .ok (.bipush 110, 2) := by decide +kernel
theorem dX8_readLeaf_80 : decode cX8_readLeaf 80 = .ok (.bipush 115, 2) := by decide +kernel
theorem dX8_readLeaf_82 : decode cX8_readLeaf 82 = .ok (.iconst 0, 1) := by decide +kernel
theorem dX8_readLeaf_83 : decode cX8_readLeaf 83 = .ok (.invokestatic 237, 3) := by decide +kernel
theorem dX8_readLeaf_86 : decode cX8_readLeaf 86 = .ok (.lcmp, 1) := by decide +kernel
theorem dX8_readLeaf_87 : decode cX8_readLeaf 87 = .ok (.ifCond .ne 8, 3) := by decide +kernel
theorem dX8_readLeaf_90 : decode cX8_readLeaf 90 = .ok (.bipush 6, 2) := by decide +kernel
theorem dX8_readLeaf_92 : decode cX8_readLeaf 92 = .ok (.goto 53, 3) := by decide +kernel
theorem dX8_readLeaf_95 : decode cX8_readLeaf 95 = .ok (.aload_n 0, 1) := by decide +kernel
theorem dX8_readLeaf_96 : decode cX8_readLeaf 96 = .ok (.getfield 193, 3) := by decide +kernel
theorem dX8_readLeaf_99 : decode cX8_readLeaf 99 = .ok (.bipush 116, 2) := by decide +kernel
theorem dX8_readLeaf_101 : decode cX8_readLeaf 101 = .ok (.bipush 117, 2) := by decide +kernel
theorem dX8_readLeaf_103 : decode cX8_readLeaf 103 = .ok (.bipush 114, 2) := by decide +kernel
theorem dX8_readLeaf_105 : decode cX8_readLeaf 105 = .ok (.bipush 110, 2) := by decide +kernel
theorem dX8_readLeaf_107 : decode cX8_readLeaf 107 = .ok (.bipush 115, 2) := by decide +kernel
theorem dX8_readLeaf_109 : decode cX8_readLeaf 109 = .ok (.invokestatic 237, 3) := by decide +kernel
theorem dX8_readLeaf_112 : decode cX8_readLeaf 112 = .ok (.lcmp, 1) := by decide +kernel
theorem dX8_readLeaf_113 : decode cX8_readLeaf 113 = .ok (.ifCond .ne 8, 3) := by decide +kernel
theorem dX8_readLeaf_116 : decode cX8_readLeaf 116 = .ok (.bipush 7, 2) := by decide +kernel
theorem dX8_readLeaf_118 : decode cX8_readLeaf 118 = .ok (.goto 27, 3) := by decide +kernel
theorem dX8_readLeaf_121 : decode cX8_readLeaf 121 = .ok (.aload_n 0, 1) := by decide +kernel
theorem dX8_readLeaf_122 : decode cX8_readLeaf 122 = .ok (.getfield 193, 3) := by decide +kernel
theorem dX8_readLeaf_125 : decode cX8_readLeaf 125 = .ok (.bipush 105, 2) := by decide +kernel
theorem dX8_readLeaf_127 : decode cX8_readLeaf 127 = .ok (.bipush 110, 2) := by decide +kernel
theorem dX8_readLeaf_129 : decode cX8_readLeaf 129 = .ok (.iconst 0, 1) := by decide +kernel
theorem dX8_readLeaf_130 : decode cX8_readLeaf 130 = .ok (.iconst 0, 1) := by decide +kernel
theorem dX8_readLeaf_131 : decode cX8_readLeaf 131 = .ok (.iconst 0, 1) := by decide +kernel
theorem dX8_readLeaf_132 : decode cX8_readLeaf 132 = .ok (.invokestatic 237, 3) := by decide +kernel
theorem dX8_readLeaf_135 : decode cX8_readLeaf 135 = .ok (.lcmp, 1) := by decide +kernel
theorem dX8_readLeaf_136 : decode cX8_readLeaf 136 = .ok (.ifCond .ne 8, 3) := by decide +kernel
theorem dX8_readLeaf_139 : decode cX8_readLeaf 139 = .ok (.bipush 8, 2) := by decide +kernel
theorem dX8_readLeaf_141 : decode cX8_readLeaf 141 = .ok (.goto 4, 3) := by decide +kernel
theorem dX8_readLeaf_144 : decode cX8_readLeaf 144 = .ok (.iconst (-1), 1) := by decide +kernel
theorem dX8_readLeaf_145 : decode cX8_readLeaf 145 = .ok (.istore_n 1, 1) := by decide +kernel
theorem dX8_readLeaf_146 : decode cX8_readLeaf 146 = .ok (.iload_n 1, 1) := by decide +kernel
theorem dX8_readLeaf_147 : decode cX8_readLeaf 147 = .ok (.ifCond .ge 13, 3) := by decide +kernel
theorem dX8_readLeaf_150 : decode cX8_readLeaf 150 = .ok (.aload_n 0, 1) := by decide +kernel
theorem dX8_readLeaf_151 : decode cX8_readLeaf 151 = .ok (.iconst 1, 1) := by decide +kernel
theorem dX8_readLeaf_152 : decode cX8_readLeaf 152 = .ok (.aload_n 0, 1) := by decide +kernel
theorem dX8_readLeaf_153 : decode cX8_readLeaf 153 = .ok (.getfield 186, 3) := by decide +kernel
theorem dX8_readLeaf_156 : decode cX8_readLeaf 156 = .ok (.invokevirtual 216, 3) := by decide +kernel
theorem dX8_readLeaf_159 : decode cX8_readLeaf 159 = .ok (.ireturn, 1) := by decide +kernel
theorem dX8_readLeaf_160 : decode cX8_readLeaf 160 = .ok (.aload_n 0, 1) := by decide +kernel
theorem dX8_readLeaf_161 : decode cX8_readLeaf 161 = .ok (.aload_n 0, 1) := by decide +kernel
theorem dX8_readLeaf_162 : decode cX8_readLeaf 162 = .ok (.getfield 197, 3) := by decide +kernel
theorem dX8_readLeaf_165 : decode cX8_readLeaf 165 = .ok (.putfield 186, 3) := by decide +kernel
theorem dX8_readLeaf_168 : decode cX8_readLeaf 168 = .ok (.iload_n 1, 1) := by decide +kernel
theorem dX8_readLeaf_169 : decode cX8_readLeaf 169 = .ok (.bipush 7, 2) := by decide +kernel
theorem dX8_readLeaf_171 : decode cX8_readLeaf 171 = .ok (.if_icmp .ne 7, 3) := by decide +kernel
theorem dX8_readLeaf_174 : decode cX8_readLeaf 174 = .ok (.iconst 0, 1) := by decide +kernel
theorem dX8_readLeaf_175 : decode cX8_readLeaf 175 = .ok (.goto 42, 3) := by decide +kernel
theorem dX8_readLeaf_178 : decode cX8_readLeaf 178 = .ok (.iload_n 1, 1) := by decide +kernel
theorem dX8_readLeaf_179 : decode cX8_readLeaf 179 = .ok (.iconst 4, 1) := by decide +kernel
theorem dX8_readLeaf_180 : decode cX8_readLeaf 180 = .ok (.if_icmp .ne 10, 3) := by decide +kernel
theorem dX8_readLeaf_183 : decode cX8_readLeaf 183 = .ok (.aload_n 0, 1) := by decide +kernel
theorem dX8_readLeaf_184 : decode cX8_readLeaf 184 = .ok (.invokevirtual 241, 3) := by decide +kernel
theorem dX8_readLeaf_187 : decode cX8_readLeaf 187 = .ok (.goto 30, 3) := by decide +kernel
theorem dX8_readLeaf_190 : decode cX8_readLeaf 190 = .ok (.aload_n 0, 1) := by decide +kernel
theorem dX8_readLeaf_191 : decode cX8_readLeaf 191 = .ok (.iconst 0, 1) := by decide +kernel
theorem dX8_readLeaf_192 : decode cX8_readLeaf 192 = .ok (.iload_n 1, 1) := by decide +kernel
theorem dX8_readLeaf_193 : decode cX8_readLeaf 193 = .ok (.iconst 5, 1) := by decide +kernel
theorem dX8_readLeaf_194 : decode cX8_readLeaf 194 = .ok (.if_icmp .ne 8, 3) := by decide +kernel
theorem dX8_readLeaf_197 : decode cX8_readLeaf 197 = .ok (.bipush 11, 2) := by decide +kernel
theorem dX8_readLeaf_199 : decode cX8_readLeaf 199 = .ok (.goto 15, 3) := by decide +kernel
theorem dX8_readLeaf_202 : decode cX8_readLeaf 202 = .ok (.iload_n 1, 1) := by decide +kernel
theorem dX8_readLeaf_203 : decode cX8_readLeaf 203 = .ok (.bipush 8, 2) := by decide +kernel
theorem dX8_readLeaf_205 : decode cX8_readLeaf 205 = .ok (.if_icmp .ne 7, 3) := by decide +kernel
theorem dX8_readLeaf_208 : decode cX8_readLeaf 208 = .ok (.iconst 5, 1) := by decide +kernel
theorem dX8_readLeaf_209 : decode cX8_readLeaf 209 = .ok (.goto 5, 3) := by decide +kernel
theorem dX8_readLeaf_212 : decode cX8_readLeaf 212 = .ok (.bipush 12, 2) := by decide +kernel
theorem dX8_readLeaf_214 : decode cX8_readLeaf 214 = .ok (.invokevirtual 231, 3) := by decide +kernel
theorem dX8_readLeaf_217 : decode cX8_readLeaf 217 = .ok (.istore_n 2, 1) := by decide +kernel
theorem dX8_readLeaf_218 : decode cX8_readLeaf 218 = .ok (.iload_n 2, 1) := by decide +kernel
theorem dX8_readLeaf_219 : decode cX8_readLeaf 219 = .ok (.ifCond .ne 22, 3) := by decide +kernel
theorem dX8_readLeaf_222 : decode cX8_readLeaf 222 = .ok (.aload_n 0, 1) := by decide +kernel
theorem dX8_readLeaf_223 : decode cX8_readLeaf 223 = .ok (.iload_n 1, 1) := by decide +kernel
theorem dX8_readLeaf_224 : decode cX8_readLeaf 224 = .ok (.aload_n 0, 1) := by decide +kernel
theorem dX8_readLeaf_225 : decode cX8_readLeaf 225 = .ok (.getfield 219, 3) := by decide +kernel
theorem dX8_readLeaf_228 : decode cX8_readLeaf 228 = .ok (.invokevirtual 228, 3) := by decide +kernel
theorem dX8_readLeaf_231 : decode cX8_readLeaf 231 = .ok (.aload_n 0, 1) := by decide +kernel
theorem dX8_readLeaf_232 : decode cX8_readLeaf 232 = .ok (.iconst 2, 1) := by decide +kernel
theorem dX8_readLeaf_233 : decode cX8_readLeaf 233 = .ok (.invokevirtual 244, 3) := by decide +kernel
theorem dX8_readLeaf_236 : decode cX8_readLeaf 236 = .ok (.aload_n 0, 1) := by decide +kernel
theorem dX8_readLeaf_237 : decode cX8_readLeaf 237 = .ok (.iconst 0, 1) := by decide +kernel
theorem dX8_readLeaf_238 : decode cX8_readLeaf 238 = .ok (.putfield 247, 3) := by decide +kernel
theorem dX8_readLeaf_241 : decode cX8_readLeaf 241 = .ok (.iload_n 2, 1) := by decide +kernel
theorem dX8_readLeaf_242 : decode cX8_readLeaf 242 = .ok (.ireturn, 1) := by decide +kernel
theorem dX8_readOne_0 : decode cX8_readOne 0 = .ok (.aload_n 0, 1) := by decide +kernel
theorem dX8_readOne_1 : decode cX8_readOne 1 = .ok (.invokevirtual 234, 3) := by decide +kernel
theorem dX8_readOne_4 : decode cX8_readOne 4 = .ok (.aload_n 0, 1) := by decide +kernel
theorem dX8_readOne_5 : decode cX8_readOne 5 = .ok (.getfield 193, 3) := by decide +kernel
theorem dX8_readOne_8 : decode cX8_readOne 8 = .ok (.bipush 110, 2) := by decide +kernel
theorem dX8_readOne_10 : decode cX8_readOne 10 = .ok (.bipush 111, 2) := by decide +kernel
theorem dX8_readOne_12 : decode cX8_readOne 12 = .ok (.bipush 116, 2) := by decide +kernel
theorem dX8_readOne_14 : decode cX8_readOne 14 = .ok (.iconst 0, 1) := by decide +kernel
theorem dX8_readOne_15 : decode cX8_readOne 15 = .ok (.iconst 0, 1) := by decide +kernel
theorem dX8_readOne_16 : decode cX8_readOne 16 = .ok (.invokestatic 237, 3) := by decide +kernel
theorem dX8_readOne_19 : decode cX8_readOne 19 = .ok (.lcmp, 1) := by decide +kernel
theorem dX8_readOne_20 : decode cX8_readOne 20 = .ok (.ifCond .ne 18, 3) := by decide +kernel
theorem dX8_readOne_23 : decode cX8_readOne 23 = .ok (.aload_n 0, 1) := by decide +kernel
theorem dX8_readOne_24 : decode cX8_readOne 24 = .ok (.aload_n 0, 1) := by decide +kernel
theorem dX8_readOne_25 : decode cX8_readOne 25 = .ok (.getfield 197, 3) := by decide +kernel
theorem dX8_readOne_28 : decode cX8_readOne 28 = .ok (.putfield 186, 3) := by decide +kernel
theorem dX8_readOne_31 : decode cX8_readOne 31 = .ok (.aload_n 0, 1) := by decide +kernel
theorem dX8_readOne_32 : decode cX8_readOne 32 = .ok (.iconst 2, 1) := by decide +kernel
theorem dX8_readOne_33 : decode cX8_readOne 33 = .ok (.invokevirtual 251, 3) := by decide +kernel
theorem dX8_readOne_36 : decode cX8_readOne 36 = .ok (.iconst 0, 1) := by decide +kernel
theorem dX8_readOne_37 : decode cX8_readOne 37 = .ok (.ireturn, 1) := by decide +kernel
theorem dX8_readOne_38 : decode cX8_readOne 38 = .ok (.aload_n 0, 1) := by decide +kernel
theorem dX8_readOne_39 : decode cX8_readOne 39 = .ok (.invokevirtual 189, 3) := by decide +kernel
theorem dX8_readOne_42 : decode cX8_readOne 42 = .ok (.bipush 40, 2) := by decide +kernel
theorem dX8_readOne_44 : decode cX8_readOne 44 = .ok (.if_icmp .ne 48, 3) := by decide +kernel
theorem dX8_readOne_47 : decode cX8_readOne 47 = .ok (.aload_n 0, 1) := by decide +kernel
theorem dX8_readOne_48 : decode cX8_readOne 48 = .ok (.getfield 254, 3) := by decide +kernel
theorem dX8_readOne_51 : decode cX8_readOne 51 = .ok (.iconst 4, 1) := by decide +kernel
theorem dX8_readOne_52 : decode cX8_readOne 52 = .ok (.if_icmp .ne 13, 3) := by decide +kernel
theorem dX8_readOne_55 : decode cX8_readOne 55 = .ok (.aload_n 0, 1) := by decide +kernel
theorem dX8_readOne_56 : decode cX8_readOne 56 = .ok (.iconst 3, 1) := by decide +kernel
theorem dX8_readOne_57 : decode cX8_readOne 57 = .ok (.aload_n 0, 1) := by decide +kernel
theorem dX8_readOne_58 : decode cX8_readOne 58 = .ok (.getfield 186, 3) := by decide +kernel
theorem dX8_readOne_61 : decode cX8_readOne 61 = .ok (.invokevirtual 216, 3) := by decide +kernel
theorem dX8_readOne_64 : decode cX8_readOne 64 = .ok (.ireturn, 1) := by decide +kernel
theorem dX8_readOne_65 : decode cX8_readOne 65 = .ok (.aload_n 0, 1) := by decide +kernel
theorem dX8_readOne_66 : decode cX8_readOne 66 = .ok (.dup, 1) := by decide +kernel
theorem dX8_readOne_67 : decode cX8_readOne 67 = .ok (.getfield 254, 3) := by decide +kernel
theorem dX8_readOne_70 : decode cX8_readOne 70 = .ok (.iconst 1, 1) := by decide +kernel
theorem dX8_readOne_71 : decode cX8_readOne 71 = .ok (.iadd, 1) := by decide +kernel
theorem dX8_readOne_72 : decode cX8_readOne 72 = .ok (.putfield 254, 3) := by decide +kernel
theorem dX8_readOne_75 : decode cX8_readOne 75 = .ok (.aload_n 0, 1) := by decide +kernel
theorem dX8_readOne_76 : decode cX8_readOne 76 = .ok (.dup, 1) := by decide +kernel
theorem dX8_readOne_77 : decode cX8_readOne 77 = .ok (.getfield 186, 3) := by decide +kernel
theorem dX8_readOne_80 : decode cX8_readOne 80 = .ok (.iconst 1, 1) := by decide +kernel
theorem dX8_readOne_81 : decode cX8_readOne 81 = .ok (.iadd, 1) := by decide +kernel
theorem dX8_readOne_82 : decode cX8_readOne 82 = .ok (.putfield 186, 3) := by decide +kernel
theorem dX8_readOne_85 : decode cX8_readOne 85 = .ok (.aload_n 0, 1) := by decide +kernel
theorem dX8_readOne_86 : decode cX8_readOne 86 = .ok (.iconst 3, 1) := by decide +kernel
theorem dX8_readOne_87 : decode cX8_readOne 87 = .ok (.invokevirtual 251, 3) := by decide +kernel
theorem dX8_readOne_90 : decode cX8_readOne 90 = .ok (.iconst 0, 1) := by decide +kernel
theorem dX8_readOne_91 : decode cX8_readOne 91 = .ok (.ireturn, 1) := by decide +kernel
theorem dX8_readOne_92 : decode cX8_readOne 92 = .ok (.aload_n 0, 1) := by decide +kernel
theorem dX8_readOne_93 : decode cX8_readOne 93 = .ok (.invokevirtual 257, 3) := by decide +kernel
theorem dX8_readOne_96 : decode cX8_readOne 96 = .ok (.ireturn, 1) := by decide +kernel
theorem dX8_readBehind_0 : decode cX8_readBehind 0 = .ok (.aload_n 0, 1) := by decide +kernel
theorem dX8_readBehind_1 : decode cX8_readBehind 1 = .ok (.invokevirtual 234, 3) := by decide +kernel
theorem dX8_readBehind_4 : decode cX8_readBehind 4 = .ok (.aload_n 0, 1) := by decide +kernel
theorem dX8_readBehind_5 : decode cX8_readBehind 5 = .ok (.getfield 193, 3) := by decide +kernel
theorem dX8_readBehind_8 : decode cX8_readBehind 8 = .ok (.bipush 97, 2) := by decide +kernel
theorem dX8_readBehind_10 : decode cX8_readBehind 10 = .ok (.bipush 110, 2) := by decide +kernel
theorem dX8_readBehind_12 : decode cX8_readBehind 12 = .ok (.bipush 100, 2) := by decide +kernel
theorem dX8_readBehind_14 : decode cX8_readBehind 14 = .ok (.iconst 0, 1) := by decide +kernel
theorem dX8_readBehind_15 : decode cX8_readBehind 15 = .ok (.iconst 0, 1) := by decide +kernel
theorem dX8_readBehind_16 : decode cX8_readBehind 16 = .ok (.invokestatic 237, 3) := by decide +kernel
theorem dX8_readBehind_19 : decode cX8_readBehind 19 = .ok (.lcmp, 1) := by decide +kernel
theorem dX8_readBehind_20 : decode cX8_readBehind 20 = .ok (.ifCond .ne 7, 3) := by decide +kernel
theorem dX8_readBehind_23 : decode cX8_readBehind 23 = .ok (.iconst 1, 1) := by decide +kernel
theorem dX8_readBehind_24 : decode cX8_readBehind 24 = .ok (.goto 4, 3) := by decide +kernel
theorem dX8_readBehind_27 : decode cX8_readBehind 27 = .ok (.iconst 0, 1) := by decide +kernel
theorem dX8_readBehind_28 : decode cX8_readBehind 28 = .ok (.istore_n 1, 1) := by decide +kernel
theorem dX8_readBehind_29 : decode cX8_readBehind 29 = .ok (.iload_n 1, 1) := by decide +kernel
theorem dX8_readBehind_30 : decode cX8_readBehind 30 = .ok (.ifCond .ne 21, 3) := by decide +kernel
theorem dX8_readBehind_33 : decode cX8_readBehind 33 = .ok (.aload_n 0, 1) := by decide +kernel
theorem dX8_readBehind_34 : decode cX8_readBehind 34 = .ok (.getfield 193, 3) := by decide +kernel
theorem dX8_readBehind_37 : decode cX8_readBehind 37 = .ok (.bipush 111, 2) := by decide +kernel
theorem dX8_readBehind_39 : decode cX8_readBehind 39 = .ok (.bipush 114, 2) := by decide +kernel
theorem dX8_readBehind_41 : decode cX8_readBehind 41 = .ok (.iconst 0, 1) := by decide +kernel
theorem dX8_readBehind_42 : decode cX8_readBehind 42 = .ok (.iconst 0, 1) := by decide +kernel
theorem dX8_readBehind_43 : decode cX8_readBehind 43 = .ok (.iconst 0, 1) := by decide +kernel
theorem dX8_readBehind_44 : decode cX8_readBehind 44 = .ok (.invokestatic 237, 3) := by decide +kernel
theorem dX8_readBehind_47 : decode cX8_readBehind 47 = .ok (.lcmp, 1) := by decide +kernel
theorem dX8_readBehind_48 : decode cX8_readBehind 48 = .ok (.ifCond .ne 44, 3) := by decide +kernel
theorem dX8_readBehind_51 : decode cX8_readBehind 51 = .ok (.aload_n 0, 1) := by decide +kernel
theorem dX8_readBehind_52 : decode cX8_readBehind 52 = .ok (.aload_n 0, 1) := by decide +kernel
theorem dX8_readBehind_53 : decode cX8_readBehind 53 = .ok (.getfield 197, 3) := by decide +kernel
theorem dX8_readBehind_56 : decode cX8_readBehind 56 = .ok (.putfield 186, 3) := by decide +kernel
theorem dX8_readBehind_59 : decode cX8_readBehind 59 = .ok (.aload_n 0, 1) := by decide +kernel
theorem dX8_readBehind_60 : decode cX8_readBehind 60 = .ok (.iload_n 1, 1) := by decide +kernel
theorem dX8_readBehind_61 : decode cX8_readBehind 61 = .ok (.ifCond .eq 7, 3) := by decide +kernel
theorem dX8_readBehind_64 : decode cX8_readBehind 64 = .ok (.iconst 1, 1) := by decide +kernel
theorem dX8_readBehind_65 : decode cX8_readBehind 65 = .ok (.goto 4, 3) := by decide +kernel
theorem dX8_readBehind_68 : decode cX8_readBehind 68 = .ok (.iconst 0, 1) := by decide +kernel
theorem dX8_readBehind_69 : decode cX8_readBehind 69 = .ok (.invokevirtual 244, 3) := by decide +kernel
theorem dX8_readBehind_72 : decode cX8_readBehind 72 = .ok (.aload_n 0, 1) := by decide +kernel
theorem dX8_readBehind_73 : decode cX8_readBehind 73 = .ok (.iload_n 1, 1) := by decide +kernel
theorem dX8_readBehind_74 : decode cX8_readBehind 74 = .ok (.ifCond .eq 7, 3) := by decide +kernel
theorem dX8_readBehind_77 : decode cX8_readBehind 77 = .ok (.iconst 1, 1) := by decide +kernel
theorem dX8_readBehind_78 : decode cX8_readBehind 78 = .ok (.goto 4, 3) := by decide +kernel
theorem dX8_readBehind_81 : decode cX8_readBehind 81 = .ok (.iconst 0, 1) := by decide +kernel
theorem dX8_readBehind_82 : decode cX8_readBehind 82 = .ok (.invokevirtual 251, 3) := by decide +kernel
theorem dX8_readBehind_85 : decode cX8_readBehind 85 = .ok (.aload_n 0, 1) := by decide +kernel
theorem dX8_readBehind_86 : decode cX8_readBehind 86 = .ok (.iconst 1, 1) := by decide +kernel
theorem dX8_readBehind_87 : decode cX8_readBehind 87 = .ok (.putfield 247, 3) := by decide +kernel
theorem dX8_readBehind_90 : decode cX8_readBehind 90 = .ok (.iconst 0, 1) := by decide +kernel
theorem dX8_readBehind_91 : decode cX8_readBehind 91 = .ok (.ireturn, 1) := by decide +kernel
theorem dX8_readBehind_92 : decode cX8_readBehind 92 = .ok (.aload_n 0, 1) := by decide +kernel
theorem dX8_readBehind_93 : decode cX8_readBehind 93 = .ok (.invokevirtual 189, 3) := by decide +kernel
theorem dX8_readBehind_96 : decode cX8_readBehind 96 = .ok (.bipush 41, 2) := by decide +kernel
theorem dX8_readBehind_98 : decode cX8_readBehind 98 = .ok (.if_icmp .ne 52, 3) := by decide +kernel
theorem dX8_readBehind_101 : decode cX8_readBehind 101 = .ok (.aload_n 0, 1) := by decide +kernel
theorem dX8_readBehind_102 : decode cX8_readBehind 102 = .ok (.getfield 254, 3) := by decide +kernel
theorem dX8_readBehind_105 : decode cX8_readBehind 105 = .ok (.ifCond .le 45, 3) := by decide +kernel
theorem dX8_readBehind_108 : decode cX8_readBehind 108 = .ok (.aload_n 0, 1) := by decide +kernel
theorem dX8_readBehind_109 : decode cX8_readBehind 109 = .ok (.dup, 1) := by decide +kernel
theorem dX8_readBehind_110 : decode cX8_readBehind 110 = .ok (.getfield 186, 3) := by decide +kernel
theorem dX8_readBehind_113 : decode cX8_readBehind 113 = .ok (.iconst 1, 1) := by decide +kernel
theorem dX8_readBehind_114 : decode cX8_readBehind 114 = .ok (.iadd, 1) := by decide +kernel
theorem dX8_readBehind_115 : decode cX8_readBehind 115 = .ok (.putfield 186, 3) := by decide +kernel
theorem dX8_readBehind_118 : decode cX8_readBehind 118 = .ok (.aload_n 0, 1) := by decide +kernel
theorem dX8_readBehind_119 : decode cX8_readBehind 119 = .ok (.dup, 1) := by decide +kernel
theorem dX8_readBehind_120 : decode cX8_readBehind 120 = .ok (.getfield 254, 3) := by decide +kernel
theorem dX8_readBehind_123 : decode cX8_readBehind 123 = .ok (.iconst 1, 1) := by decide +kernel
theorem dX8_readBehind_124 : decode cX8_readBehind 124 = .ok (.isub, 1) := by decide +kernel
theorem dX8_readBehind_125 : decode cX8_readBehind 125 = .ok (.putfield 254, 3) := by decide +kernel
theorem dX8_readBehind_128 : decode cX8_readBehind 128 = .ok (.aload_n 0, 1) := by decide +kernel
theorem dX8_readBehind_129 : decode cX8_readBehind 129 = .ok (.iconst 0, 1) := by decide +kernel
theorem dX8_readBehind_130 : decode cX8_readBehind 130 = .ok (.invokevirtual 244, 3) := by decide +kernel
theorem dX8_readBehind_133 : decode cX8_readBehind 133 = .ok (.aload_n 0, 1) := by decide +kernel
theorem dX8_readBehind_134 : decode cX8_readBehind 134 = .ok (.dup, 1) := by decide +kernel
theorem dX8_readBehind_135 : decode cX8_readBehind 135 = .ok (.getfield 225, 3) := by decide +kernel
theorem dX8_readBehind_138 : decode cX8_readBehind 138 = .ok (.iconst 1, 1) := by decide +kernel
theorem dX8_readBehind_139 : decode cX8_readBehind 139 = .ok (.isub, 1) := by decide +kernel
theorem dX8_readBehind_140 : decode cX8_readBehind 140 = .ok (.putfield 225, 3) := by decide +kernel
theorem dX8_readBehind_143 : decode cX8_readBehind 143 = .ok (.aload_n 0, 1) := by decide +kernel
theorem dX8_readBehind_144 : decode cX8_readBehind 144 = .ok (.iconst 2, 1) := by decide +kernel
theorem dX8_readBehind_145 : decode cX8_readBehind 145 = .ok (.invokevirtual 244, 3) := by decide +kernel
theorem dX8_readBehind_148 : decode cX8_readBehind 148 = .ok (.iconst 0, 1) := by decide +kernel
theorem dX8_readBehind_149 : decode cX8_readBehind 149 = .ok (.ireturn, 1) := by decide +kernel
theorem dX8_readBehind_150 : decode cX8_readBehind 150 = .ok (.aload_n 0, 1) := by decide +kernel
theorem dX8_readBehind_151 : decode cX8_readBehind 151 = .ok (.iconst 1, 1) := by decide +kernel
theorem dX8_readBehind_152 : decode cX8_readBehind 152 = .ok (.aload_n 0, 1) := by decide +kernel
theorem dX8_readBehind_153 : decode cX8_readBehind 153 = .ok (.getfield 186, 3) := by decide +kernel
theorem dX8_readBehind_156 : decode cX8_readBehind 156 = .ok (.invokevirtual 216, 3) := by decide +kernel
theorem dX8_readBehind_159 : decode cX8_readBehind 159 = .ok (.ireturn, 1) := by decide +kernel
theorem dX8_sumOf_0 : decode cX8_sumOf 0 = .ok (.iconst 0, 1) := by decide +kernel
theorem dX8_sumOf_1 : decode cX8_sumOf 1 = .ok (.istore_n 2, 1) := by decide +kernel
theorem dX8_sumOf_2 : decode cX8_sumOf 2 = .ok (.iconst 0, 1) := by decide +kernel
theorem dX8_sumOf_3 : decode cX8_sumOf 3 = .ok (.istore_n 3, 1) := by decide +kernel
theorem dX8_sumOf_4 : decode cX8_sumOf 4 = .ok (.iload_n 3, 1) := by decide +kernel
theorem dX8_sumOf_5 : decode cX8_sumOf 5 = .ok (.aload_n 0, 1) := by decide +kernel
theorem dX8_sumOf_6 : decode cX8_sumOf 6 = .ok (.getfield 7, 3) := by decide +kernel
theorem dX8_sumOf_9 : decode cX8_sumOf 9 = .ok (.if_icmp .ge 21, 3) := by decide +kernel
theorem dX8_sumOf_12 : decode cX8_sumOf 12 = .ok (.iload_n 2, 1) := by decide +kernel
theorem dX8_sumOf_13 : decode cX8_sumOf 13 = .ok (.iload_n 1, 1) := by decide +kernel
theorem dX8_sumOf_14 : decode cX8_sumOf 14 = .ok (.iload_n 3, 1) := by decide +kernel
theorem dX8_sumOf_15 : decode cX8_sumOf 15 = .ok (.ishr, 1) := by decide +kernel
theorem dX8_sumOf_16 : decode cX8_sumOf 16 = .ok (.iconst 1, 1) := by decide +kernel
theorem dX8_sumOf_17 : decode cX8_sumOf 17 = .ok (.iand, 1) := by decide +kernel
theorem dX8_sumOf_18 : decode cX8_sumOf 18 = .ok (.iload_n 3, 1) := by decide +kernel
theorem dX8_sumOf_19 : decode cX8_sumOf 19 = .ok (.iconst 1, 1) := by decide +kernel
theorem dX8_sumOf_20 : decode cX8_sumOf 20 = .ok (.iadd, 1) := by decide +kernel
theorem dX8_sumOf_21 : decode cX8_sumOf 21 = .ok (.imul, 1) := by decide +kernel
theorem dX8_sumOf_22 : decode cX8_sumOf 22 = .ok (.iadd, 1) := by decide +kernel
theorem dX8_sumOf_23 : decode cX8_sumOf 23 = .ok (.istore_n 2, 1) := by decide +kernel
theorem dX8_sumOf_24 : decode cX8_sumOf 24 = .ok (.iinc 3 1, 3) := by decide +kernel
theorem dX8_sumOf_27 : decode cX8_sumOf 27 = .ok (.goto (-23), 3) := by decide +kernel
theorem dX8_sumOf_30 : decode cX8_sumOf 30 = .ok (.iload_n 2, 1) := by decide +kernel
theorem dX8_sumOf_31 : decode cX8_sumOf 31 = .ok (.ireturn, 1) := by decide +kernel
theorem dX8_isSo_0 : decode cX8_isSo 0 = .ok (.iload_n 1, 1) := by decide +kernel
theorem dX8_isSo_1 : decode cX8_isSo 1 = .ok (.tableswitch 122 3 7 #[35, 49, 72, 87, 107], 35) := by decide +kernel
theorem dX8_isSo_36 : decode cX8_isSo 36 = .ok (.iload_n 3, 1) := by decide +kernel
theorem dX8_isSo_37 : decode cX8_isSo 37 = .ok (.invokestatic 101, 3) := by decide +kernel
theorem dX8_isSo_40 : decode cX8_isSo 40 = .ok (.iload_n 2, 1) := by decide +kernel
theorem dX8_isSo_41 : decode cX8_isSo 41 = .ok (.if_icmp .ne 7, 3) := by decide +kernel
theorem dX8_isSo_44 : decode cX8_isSo 44 = .ok (.iconst 1, 1) := by decide +kernel
theorem dX8_isSo_45 : decode cX8_isSo 45 = .ok (.goto 4, 3) := by decide +kernel
theorem dX8_isSo_48 : decode cX8_isSo 48 = .ok (.iconst 0, 1) := by decide +kernel
theorem dX8_isSo_49 : decode cX8_isSo 49 = .ok (.ireturn, 1) := by decide +kernel
theorem dX8_isSo_50 : decode cX8_isSo 50 = .ok (.aload_n 0, 1) := by decide +kernel
theorem dX8_isSo_51 : decode cX8_isSo 51 = .ok (.iload_n 3, 1) := by decide +kernel
theorem dX8_isSo_52 : decode cX8_isSo 52 = .ok (.invokevirtual 260, 3) := by decide +kernel
theorem dX8_isSo_55 : decode cX8_isSo 55 = .ok (.iload_n 2, 1) := by decide +kernel
theorem dX8_isSo_56 : decode cX8_isSo 56 = .ok (.bipush 100, 2) := by decide +kernel
theorem dX8_isSo_58 : decode cX8_isSo 58 = .ok (.irem, 1) := by decide +kernel
theorem dX8_isSo_59 : decode cX8_isSo 59 = .ok (.irem, 1) := by decide +kernel
theorem dX8_isSo_60 : decode cX8_isSo 60 = .ok (.iload_n 2, 1) := by decide +kernel
theorem dX8_isSo_61 : decode cX8_isSo 61 = .ok (.bipush 100, 2) := by decide +kernel
theorem dX8_isSo_63 : decode cX8_isSo 63 = .ok (.idiv, 1) := by decide +kernel
theorem dX8_isSo_64 : decode cX8_isSo 64 = .ok (.if_icmp .ne 7, 3) := by decide +kernel
theorem dX8_isSo_67 : decode cX8_isSo 67 = .ok (.iconst 1, 1) := by decide +kernel
theorem dX8_isSo_68 : decode cX8_isSo 68 = .ok (.goto 4, 3) := by decide +kernel
theorem dX8_isSo_71 : decode cX8_isSo 71 = .ok (.iconst 0, 1) := by decide +kernel
theorem dX8_isSo_72 : decode cX8_isSo 72 = .ok (.ireturn, 1) := by decide +kernel
theorem dX8_isSo_73 : decode cX8_isSo 73 = .ok (.iload_n 3, 1) := by decide +kernel
theorem dX8_isSo_74 : decode cX8_isSo 74 = .ok (.iload_n 2, 1) := by decide +kernel
theorem dX8_isSo_75 : decode cX8_isSo 75 = .ok (.ishr, 1) := by decide +kernel
theorem dX8_isSo_76 : decode cX8_isSo 76 = .ok (.iconst 1, 1) := by decide +kernel
theorem dX8_isSo_77 : decode cX8_isSo 77 = .ok (.iand, 1) := by decide +kernel
theorem dX8_isSo_78 : decode cX8_isSo 78 = .ok (.iconst 1, 1) := by decide +kernel
theorem dX8_isSo_79 : decode cX8_isSo 79 = .ok (.if_icmp .ne 7, 3) := by decide +kernel
theorem dX8_isSo_82 : decode cX8_isSo 82 = .ok (.iconst 1, 1) := by decide +kernel
theorem dX8_isSo_83 : decode cX8_isSo 83 = .ok (.goto 4, 3) := by decide +kernel
theorem dX8_isSo_86 : decode cX8_isSo 86 = .ok (.iconst 0, 1) := by decide +kernel
theorem dX8_isSo_87 : decode cX8_isSo 87 = .ok (.ireturn, 1) := by decide +kernel
theorem dX8_isSo_88 : decode cX8_isSo 88 = .ok (.iload_n 3, 1) := by decide +kernel
theorem dX8_isSo_89 : decode cX8_isSo 89 = .ok (.iload_n 3, 1) := by decide +kernel
theorem dX8_isSo_90 : decode cX8_isSo 90 = .ok (.iconst 1, 1) := by decide +kernel
theorem dX8_isSo_91 : decode cX8_isSo 91 = .ok (.ishl, 1) := by decide +kernel
theorem dX8_isSo_92 : decode cX8_isSo 92 = .ok (.iconst (-1), 1) := by decide +kernel
theorem dX8_isSo_93 : decode cX8_isSo 93 = .ok (.ixor, 1) := by decide +kernel
theorem dX8_isSo_94 : decode cX8_isSo 94 = .ok (.iand, 1) := by decide +kernel
theorem dX8_isSo_95 : decode cX8_isSo 95 = .ok (.invokestatic 101, 3) := by decide +kernel
theorem dX8_isSo_98 : decode cX8_isSo 98 = .ok (.iload_n 2, 1) := by decide +kernel
theorem dX8_isSo_99 : decode cX8_isSo 99 = .ok (.if_icmp .ne 7, 3) := by decide +kernel
theorem dX8_isSo_102 : decode cX8_isSo 102 = .ok (.iconst 1, 1) := by decide +kernel
theorem dX8_isSo_103 : decode cX8_isSo 103 = .ok (.goto 4, 3) := by decide +kernel
theorem dX8_isSo_106 : decode cX8_isSo 106 = .ok (.iconst 0, 1) := by decide +kernel
theorem dX8_isSo_107 : decode cX8_isSo 107 = .ok (.ireturn, 1) := by decide +kernel
theorem dX8_isSo_108 : decode cX8_isSo 108 = .ok (.aload_n 0, 1) := by decide +kernel
theorem dX8_isSo_109 : decode cX8_isSo 109 = .ok (.iload_n 3, 1) := by decide +kernel
theorem dX8_isSo_110 : decode cX8_isSo 110 = .ok (.invokevirtual 97, 3) := by decide +kernel
theorem dX8_isSo_113 : decode cX8_isSo 113 = .ok (.iload_n 3, 1) := by decide +kernel
theorem dX8_isSo_114 : decode cX8_isSo 114 = .ok (.if_icmp .ne 7, 3) := by decide +kernel
theorem dX8_isSo_117 : decode cX8_isSo 117 = .ok (.iconst 1, 1) := by decide +kernel
theorem dX8_isSo_118 : decode cX8_isSo 118 = .ok (.goto 4, 3) := by decide +kernel
theorem dX8_isSo_121 : decode cX8_isSo 121 = .ok (.iconst 0, 1) := by decide +kernel
theorem dX8_isSo_122 : decode cX8_isSo 122 = .ok (.ireturn, 1) := by decide +kernel
theorem dX8_isSo_123 : decode cX8_isSo 123 = .ok (.aload_n 0, 1) := by decide +kernel
theorem dX8_isSo_124 : decode cX8_isSo 124 = .ok (.iload_n 2, 1) := by decide +kernel
theorem dX8_isSo_125 : decode cX8_isSo 125 = .ok (.iload_n 3, 1) := by decide +kernel
theorem dX8_isSo_126 : decode cX8_isSo 126 = .ok (.invokevirtual 141, 3) := by decide +kernel
theorem dX8_isSo_129 : decode cX8_isSo 129 = .ok (.ireturn, 1) := by decide +kernel
theorem dX8_holds_0 : decode cX8_holds 0 = .ok (.iconst 0, 1) := by decide +kernel
theorem dX8_holds_1 : decode cX8_holds 1 = .ok (.istore_n 2, 1) := by decide +kernel
theorem dX8_holds_2 : decode cX8_holds 2 = .ok (.iconst 0, 1) := by decide +kernel
theorem dX8_holds_3 : decode cX8_holds 3 = .ok (.istore_n 3, 1) := by decide +kernel
theorem dX8_holds_4 : decode cX8_holds 4 = .ok (.iload_n 3, 1) := by decide +kernel
theorem dX8_holds_5 : decode cX8_holds 5 = .ok (.aload_n 0, 1) := by decide +kernel
theorem dX8_holds_6 : decode cX8_holds 6 = .ok (.getfield 222, 3) := by decide +kernel
theorem dX8_holds_9 : decode cX8_holds 9 = .ok (.if_icmp .ge 158, 3) := by decide +kernel
theorem dX8_holds_12 : decode cX8_holds 12 = .ok (.aload_n 0, 1) := by decide +kernel
theorem dX8_holds_13 : decode cX8_holds 13 = .ok (.getfield 44, 3) := by decide +kernel
theorem dX8_holds_16 : decode cX8_holds 16 = .ok (.iload_n 3, 1) := by decide +kernel
theorem dX8_holds_17 : decode cX8_holds 17 = .ok (.iaload, 1) := by decide +kernel
theorem dX8_holds_18 : decode cX8_holds 18 = .ok (.iconst 2, 1) := by decide +kernel
theorem dX8_holds_19 : decode cX8_holds 19 = .ok (.if_icmp .ge 79, 3) := by decide +kernel
theorem dX8_holds_22 : decode cX8_holds 22 = .ok (.iinc 2 (-1), 3) := by decide +kernel
theorem dX8_holds_25 : decode cX8_holds 25 = .ok (.aload_n 0, 1) := by decide +kernel
theorem dX8_holds_26 : decode cX8_holds 26 = .ok (.getfield 53, 3) := by decide +kernel
theorem dX8_holds_29 : decode cX8_holds 29 = .ok (.iload_n 2, 1) := by decide +kernel
theorem dX8_holds_30 : decode cX8_holds 30 = .ok (.iconst 1, 1) := by decide +kernel
theorem dX8_holds_31 : decode cX8_holds 31 = .ok (.isub, 1) := by decide +kernel
theorem dX8_holds_32 : decode cX8_holds 32 = .ok (.aload_n 0, 1) := by decide +kernel
theorem dX8_holds_33 : decode cX8_holds 33 = .ok (.getfield 44, 3) := by decide +kernel
theorem dX8_holds_36 : decode cX8_holds 36 = .ok (.iload_n 3, 1) := by decide +kernel
theorem dX8_holds_37 : decode cX8_holds 37 = .ok (.iaload, 1) := by decide +kernel
theorem dX8_holds_38 : decode cX8_holds 38 = .ok (.ifCond .ne 31, 3) := by decide +kernel
theorem dX8_holds_41 : decode cX8_holds 41 = .ok (.aload_n 0, 1) := by decide +kernel
theorem dX8_holds_42 : decode cX8_holds 42 = .ok (.getfield 53, 3) := by decide +kernel
theorem dX8_holds_45 : decode cX8_holds 45 = .ok (.iload_n 2, 1) := by decide +kernel
theorem dX8_holds_46 : decode cX8_holds 46 = .ok (.iconst 1, 1) := by decide +kernel
theorem dX8_holds_47 : decode cX8_holds 47 = .ok (.isub, 1) := by decide +kernel
theorem dX8_holds_48 : decode cX8_holds 48 = .ok (.baload, 1) := by decide +kernel
theorem dX8_holds_49 : decode cX8_holds 49 = .ok (.ifCond .ne 12, 3) := by decide +kernel
theorem dX8_holds_52 : decode cX8_holds 52 = .ok (.aload_n 0, 1) := by decide +kernel
theorem dX8_holds_53 : decode cX8_holds 53 = .ok (.getfield 53, 3) := by decide +kernel
theorem dX8_holds_56 : decode cX8_holds 56 = .ok (.iload_n 2, 1) := by decide +kernel
theorem dX8_holds_57 : decode cX8_holds 57 = .ok (.baload, 1) := by decide +kernel
theorem dX8_holds_58 : decode cX8_holds 58 = .ok (.ifCond .eq 7, 3) := by decide +kernel
theorem dX8_holds_61 : decode cX8_holds 61 = .ok (.iconst 1, 1) := by decide +kernel
theorem dX8_holds_62 : decode cX8_holds 62 = .ok (.goto 32, 3) := by decide +kernel
theorem dX8_holds_65 : decode cX8_holds 65 = .ok (.iconst 0, 1) := by decide +kernel
theorem dX8_holds_66 : decode cX8_holds 66 = .ok (.goto 28, 3) := by decide +kernel
theorem dX8_holds_69 : decode cX8_holds 69 = .ok (.aload_n 0, 1) := by decide +kernel
theorem dX8_holds_70 : decode cX8_holds 70 = .ok (.getfield 53, 3) := by decide +kernel
theorem dX8_holds_73 : decode cX8_holds 73 = .ok (.iload_n 2, 1) := by decide +kernel
theorem dX8_holds_74 : decode cX8_holds 74 = .ok (.iconst 1, 1) := by decide +kernel
theorem dX8_holds_75 : decode cX8_holds 75 = .ok (.isub, 1) := by decide +kernel
theorem dX8_holds_76 : decode cX8_holds 76 = .ok (.baload, 1) := by decide +kernel
theorem dX8_holds_77 : decode cX8_holds 77 = .ok (.ifCond .eq 16, 3) := by decide +kernel
theorem dX8_holds_80 : decode cX8_holds 80 = .ok (.aload_n 0, 1) := by decide +kernel
theorem dX8_holds_81 : decode cX8_holds 81 = .ok (.getfield 53, 3) := by decide +kernel
theorem dX8_holds_84 : decode cX8_holds 84 = .ok (.iload_n 2, 1) := by decide +kernel
theorem dX8_holds_85 : decode cX8_holds 85 = .ok (.baload, 1) := by decide +kernel
theorem dX8_holds_86 : decode cX8_holds 86 = .ok (.ifCond .eq 7, 3) := by decide +kernel
theorem dX8_holds_89 : decode cX8_holds 89 = .ok (.iconst 1, 1) := by decide +kernel
theorem dX8_holds_90 : decode cX8_holds 90 = .ok (.goto 4, 3) := by decide +kernel
theorem dX8_holds_93 : decode cX8_holds 93 = .ok (.iconst 0, 1) := by decide +kernel
theorem dX8_holds_94 : decode cX8_holds 94 = .ok (.bastore, 1) := by decide +kernel
theorem dX8_holds_95 : decode cX8_holds 95 = .ok (.goto 66, 3) := by decide +kernel
theorem dX8_holds_98 : decode cX8_holds 98 = .ok (.aload_n 0, 1) := by decide +kernel
theorem dX8_holds_99 : decode cX8_holds 99 = .ok (.getfield 44, 3) := by decide +kernel
theorem dX8_holds_102 : decode cX8_holds 102 = .ok (.iload_n 3, 1) := by decide +kernel
theorem dX8_holds_103 : decode cX8_holds 103 = .ok (.iaload, 1) := by decide +kernel
theorem dX8_holds_104 : decode cX8_holds 104 = .ok (.iconst 2, 1) := by decide +kernel
theorem dX8_holds_105 : decode cX8_holds 105 = .ok (.if_icmp .ne 30, 3) := by decide +kernel
theorem dX8_holds_108 : decode cX8_holds 108 = .ok (.aload_n 0, 1) := by decide +kernel
theorem dX8_holds_109 : decode cX8_holds 109 = .ok (.getfield 53, 3) := by decide +kernel
theorem dX8_holds_112 : decode cX8_holds 112 = .ok (.iload_n 2, 1) := by decide +kernel
theorem dX8_holds_113 : decode cX8_holds 113 = .ok (.iconst 1, 1) := by decide +kernel
theorem dX8_holds_114 : decode cX8_holds 114 = .ok (.isub, 1) := by decide +kernel
theorem dX8_holds_115 : decode cX8_holds 115 = .ok (.aload_n 0, 1) := by decide +kernel
theorem dX8_holds_116 : decode cX8_holds 116 = .ok (.getfield 53, 3) := by decide +kernel
theorem dX8_holds_119 : decode cX8_holds 119 = .ok (.iload_n 2, 1) := by decide +kernel
theorem dX8_holds_120 : decode cX8_holds 120 = .ok (.iconst 1, 1) := by decide +kernel
theorem dX8_holds_121 : decode cX8_holds 121 = .ok (.isub, 1) := by decide +kernel
theorem dX8_holds_122 : decode cX8_holds 122 = .ok (.baload, 1) := by decide +kernel
theorem dX8_holds_123 : decode cX8_holds 123 = .ok (.ifCond .ne 7, 3) := by decide +kernel
theorem dX8_holds_126 : decode cX8_holds 126 = .ok (.iconst 1, 1) := by decide +kernel
theorem dX8_holds_127 : decode cX8_holds 127 = .ok (.goto 4, 3) := by decide +kernel
theorem dX8_holds_130 : decode cX8_holds 130 = .ok (.iconst 0, 1) := by decide +kernel
theorem dX8_holds_131 : decode cX8_holds 131 = .ok (.bastore, 1) := by decide +kernel
theorem dX8_holds_132 : decode cX8_holds 132 = .ok (.goto 29, 3) := by decide +kernel
theorem dX8_holds_135 : decode cX8_holds 135 = .ok (.aload_n 0, 1) := by decide +kernel
theorem dX8_holds_136 : decode cX8_holds 136 = .ok (.getfield 53, 3) := by decide +kernel
theorem dX8_holds_139 : decode cX8_holds 139 = .ok (.iload_n 2, 1) := by decide +kernel
theorem dX8_holds_140 : decode cX8_holds 140 = .ok (.aload_n 0, 1) := by decide +kernel
theorem dX8_holds_141 : decode cX8_holds 141 = .ok (.aload_n 0, 1) := by decide +kernel
theorem dX8_holds_142 : decode cX8_holds 142 = .ok (.getfield 44, 3) := by decide +kernel
theorem dX8_holds_145 : decode cX8_holds 145 = .ok (.iload_n 3, 1) := by decide +kernel
theorem dX8_holds_146 : decode cX8_holds 146 = .ok (.iaload, 1) := by decide +kernel
theorem dX8_holds_147 : decode cX8_holds 147 = .ok (.aload_n 0, 1) := by decide +kernel
theorem dX8_holds_148 : decode cX8_holds 148 = .ok (.getfield 47, 3) := by decide +kernel
theorem dX8_holds_151 : decode cX8_holds 151 = .ok (.iload_n 3, 1) := by decide +kernel
theorem dX8_holds_152 : decode cX8_holds 152 = .ok (.iaload, 1) := by decide +kernel
theorem dX8_holds_153 : decode cX8_holds 153 = .ok (.iload_n 1, 1) := by decide +kernel
theorem dX8_holds_154 : decode cX8_holds 154 = .ok (.invokevirtual 263, 3) := by decide +kernel
theorem dX8_holds_157 : decode cX8_holds 157 = .ok (.bastore, 1) := by decide +kernel
theorem dX8_holds_158 : decode cX8_holds 158 = .ok (.iinc 2 1, 3) := by decide +kernel
theorem dX8_holds_161 : decode cX8_holds 161 = .ok (.iinc 3 1, 3) := by decide +kernel
theorem dX8_holds_164 : decode cX8_holds 164 = .ok (.goto (-160), 3) := by decide +kernel
theorem dX8_holds_167 : decode cX8_holds 167 = .ok (.aload_n 0, 1) := by decide +kernel
theorem dX8_holds_168 : decode cX8_holds 168 = .ok (.getfield 53, 3) := by decide +kernel
theorem dX8_holds_171 : decode cX8_holds 171 = .ok (.iconst 0, 1) := by decide +kernel
theorem dX8_holds_172 : decode cX8_holds 172 = .ok (.baload, 1) := by decide +kernel
theorem dX8_holds_173 : decode cX8_holds 173 = .ok (.ireturn, 1) := by decide +kernel
theorem dX8_read_0 : decode cX8_read 0 = .ok (.iload_n 1, 1) := by decide +kernel
theorem dX8_read_1 : decode cX8_read 1 = .ok (.invokestatic 76, 3) := by decide +kernel
theorem dX8_read_4 : decode cX8_read 4 = .ok (.ifCond .ne 7, 3) := by decide +kernel
theorem dX8_read_7 : decode cX8_read 7 = .ok (.sipush (-1001), 3) := by decide +kernel
theorem dX8_read_10 : decode cX8_read 10 = .ok (.ireturn, 1) := by decide +kernel
theorem dX8_read_11 : decode cX8_read 11 = .ok (.aload_n 0, 1) := by decide +kernel
theorem dX8_read_12 : decode cX8_read 12 = .ok (.iconst (-1), 1) := by decide +kernel
theorem dX8_read_13 : decode cX8_read 13 = .ok (.putfield 41, 3) := by decide +kernel
theorem dX8_read_16 : decode cX8_read 16 = .ok (.aload_n 0, 1) := by decide +kernel
theorem dX8_read_17 : decode cX8_read 17 = .ok (.iconst 0, 1) := by decide +kernel
theorem dX8_read_18 : decode cX8_read 18 = .ok (.putfield 186, 3) := by decide +kernel
theorem dX8_read_21 : decode cX8_read 21 = .ok (.aload_n 0, 1) := by decide +kernel
theorem dX8_read_22 : decode cX8_read 22 = .ok (.iconst 0, 1) := by decide +kernel
theorem dX8_read_23 : decode cX8_read 23 = .ok (.putfield 222, 3) := by decide +kernel
theorem dX8_read_26 : decode cX8_read 26 = .ok (.aload_n 0, 1) := by decide +kernel
theorem dX8_read_27 : decode cX8_read 27 = .ok (.iconst 0, 1) := by decide +kernel
theorem dX8_read_28 : decode cX8_read 28 = .ok (.putfield 225, 3) := by decide +kernel
theorem dX8_read_31 : decode cX8_read 31 = .ok (.aload_n 0, 1) := by decide +kernel
theorem dX8_read_32 : decode cX8_read 32 = .ok (.iconst 0, 1) := by decide +kernel
theorem dX8_read_33 : decode cX8_read 33 = .ok (.putfield 254, 3) := by decide +kernel
theorem dX8_read_36 : decode cX8_read 36 = .ok (.aload_n 0, 1) := by decide +kernel
theorem dX8_read_37 : decode cX8_read 37 = .ok (.iconst 1, 1) := by decide +kernel
theorem dX8_read_38 : decode cX8_read 38 = .ok (.putfield 247, 3) := by decide +kernel
theorem dX8_read_41 : decode cX8_read 41 = .ok (.iconst 0, 1) := by decide +kernel
theorem dX8_read_42 : decode cX8_read 42 = .ok (.istore_n 2, 1) := by decide +kernel
theorem dX8_read_43 : decode cX8_read 43 = .ok (.iload_n 2, 1) := by decide +kernel
theorem dX8_read_44 : decode cX8_read 44 = .ok (.ifCond .ne 46, 3) := by decide +kernel
theorem dX8_read_47 : decode cX8_read 47 = .ok (.aload_n 0, 1) := by decide +kernel
theorem dX8_read_48 : decode cX8_read 48 = .ok (.getfield 247, 3) := by decide +kernel
theorem dX8_read_51 : decode cX8_read 51 = .ok (.ifCond .ne 17, 3) := by decide +kernel
theorem dX8_read_54 : decode cX8_read 54 = .ok (.aload_n 0, 1) := by decide +kernel
theorem dX8_read_55 : decode cX8_read 55 = .ok (.getfield 254, 3) := by decide +kernel
theorem dX8_read_58 : decode cX8_read 58 = .ok (.ifCond .gt 10, 3) := by decide +kernel
theorem dX8_read_61 : decode cX8_read 61 = .ok (.aload_n 0, 1) := by decide +kernel
theorem dX8_read_62 : decode cX8_read 62 = .ok (.invokevirtual 189, 3) := by decide +kernel
theorem dX8_read_65 : decode cX8_read 65 = .ok (.ifCond .lt 25, 3) := by decide +kernel
theorem dX8_read_68 : decode cX8_read 68 = .ok (.aload_n 0, 1) := by decide +kernel
theorem dX8_read_69 : decode cX8_read 69 = .ok (.getfield 247, 3) := by decide +kernel
theorem dX8_read_72 : decode cX8_read 72 = .ok (.ifCond .eq 10, 3) := by decide +kernel
theorem dX8_read_75 : decode cX8_read 75 = .ok (.aload_n 0, 1) := by decide +kernel
theorem dX8_read_76 : decode cX8_read 76 = .ok (.invokevirtual 266, 3) := by decide +kernel
theorem dX8_read_79 : decode cX8_read 79 = .ok (.goto 7, 3) := by decide +kernel
theorem dX8_read_82 : decode cX8_read 82 = .ok (.aload_n 0, 1) := by decide +kernel
theorem dX8_read_83 : decode cX8_read 83 = .ok (.invokevirtual 269, 3) := by decide +kernel
theorem dX8_read_86 : decode cX8_read 86 = .ok (.istore_n 2, 1) := by decide +kernel
theorem dX8_read_87 : decode cX8_read 87 = .ok (.goto (-44), 3) := by decide +kernel
theorem dX8_read_90 : decode cX8_read 90 = .ok (.aload_n 0, 1) := by decide +kernel
theorem dX8_read_91 : decode cX8_read 91 = .ok (.iconst 0, 1) := by decide +kernel
theorem dX8_read_92 : decode cX8_read 92 = .ok (.putfield 181, 3) := by decide +kernel
theorem dX8_read_95 : decode cX8_read 95 = .ok (.iload_n 2, 1) := by decide +kernel
theorem dX8_read_96 : decode cX8_read 96 = .ok (.ifCond .le 8, 3) := by decide +kernel
theorem dX8_read_99 : decode cX8_read 99 = .ok (.bipush (-10), 2) := by decide +kernel
theorem dX8_read_101 : decode cX8_read 101 = .ok (.iload_n 2, 1) := by decide +kernel
theorem dX8_read_102 : decode cX8_read 102 = .ok (.isub, 1) := by decide +kernel
theorem dX8_read_103 : decode cX8_read 103 = .ok (.ireturn, 1) := by decide +kernel
theorem dX8_read_104 : decode cX8_read 104 = .ok (.aload_n 0, 1) := by decide +kernel
theorem dX8_read_105 : decode cX8_read 105 = .ok (.iconst 0, 1) := by decide +kernel
theorem dX8_read_106 : decode cX8_read 106 = .ok (.invokevirtual 244, 3) := by decide +kernel
theorem dX8_read_109 : decode cX8_read 109 = .ok (.aload_n 0, 1) := by decide +kernel
theorem dX8_read_110 : decode cX8_read 110 = .ok (.iconst 0, 1) := by decide +kernel
theorem dX8_read_111 : decode cX8_read 111 = .ok (.putfield 170, 3) := by decide +kernel
theorem dX8_read_114 : decode cX8_read 114 = .ok (.iconst 0, 1) := by decide +kernel
theorem dX8_read_115 : decode cX8_read 115 = .ok (.istore_n 3, 1) := by decide +kernel
theorem dX8_read_116 : decode cX8_read 116 = .ok (.iload_n 3, 1) := by decide +kernel
theorem dX8_read_117 : decode cX8_read 117 = .ok (.iconst 1, 1) := by decide +kernel
theorem dX8_read_118 : decode cX8_read 118 = .ok (.aload_n 0, 1) := by decide +kernel
theorem dX8_read_119 : decode cX8_read 119 = .ok (.getfield 7, 3) := by decide +kernel
theorem dX8_read_122 : decode cX8_read 122 = .ok (.ishl, 1) := by decide +kernel
theorem dX8_read_123 : decode cX8_read 123 = .ok (.if_icmp .ge 46, 3) := by decide +kernel
theorem dX8_read_126 : decode cX8_read 126 = .ok (.aload_n 0, 1) := by decide +kernel
theorem dX8_read_127 : decode cX8_read 127 = .ok (.getfield 170, 3) := by decide +kernel
theorem dX8_read_130 : decode cX8_read 130 = .ok (.bipush 64, 2) := by decide +kernel
theorem dX8_read_132 : decode cX8_read 132 = .ok (.if_icmp .gt 31, 3) := by decide +kernel
theorem dX8_read_135 : decode cX8_read 135 = .ok (.aload_n 0, 1) := by decide +kernel
theorem dX8_read_136 : decode cX8_read 136 = .ok (.iload_n 3, 1) := by decide +kernel
theorem dX8_read_137 : decode cX8_read 137 = .ok (.invokevirtual 272, 3) := by decide +kernel
theorem dX8_read_140 : decode cX8_read 140 = .ok (.ifCond .eq 23, 3) := by decide +kernel
theorem dX8_read_143 : decode cX8_read 143 = .ok (.aload_n 0, 1) := by decide +kernel
theorem dX8_read_144 : decode cX8_read 144 = .ok (.getfield 35, 3) := by decide +kernel
theorem dX8_read_147 : decode cX8_read 147 = .ok (.aload_n 0, 1) := by decide +kernel
theorem dX8_read_148 : decode cX8_read 148 = .ok (.getfield 170, 3) := by decide +kernel
theorem dX8_read_151 : decode cX8_read 151 = .ok (.iload_n 3, 1) := by decide +kernel
theorem dX8_read_152 : decode cX8_read 152 = .ok (.iastore, 1) := by decide +kernel
theorem dX8_read_153 : decode cX8_read 153 = .ok (.aload_n 0, 1) := by decide +kernel
theorem dX8_read_154 : decode cX8_read 154 = .ok (.dup, 1) := by decide +kernel
theorem dX8_read_155 : decode cX8_read 155 = .ok (.getfield 170, 3) := by decide +kernel
theorem dX8_read_158 : decode cX8_read 158 = .ok (.iconst 1, 1) := by decide +kernel
theorem dX8_read_159 : decode cX8_read 159 = .ok (.iadd, 1) := by decide +kernel
theorem dX8_read_160 : decode cX8_read 160 = .ok (.putfield 170, 3) := by decide +kernel
theorem dX8_read_163 : decode cX8_read 163 = .ok (.iinc 3 1, 3) := by decide +kernel
theorem dX8_read_166 : decode cX8_read 166 = .ok (.goto (-50), 3) := by decide +kernel
theorem dX8_read_169 : decode cX8_read 169 = .ok (.aload_n 0, 1) := by decide +kernel
theorem dX8_read_170 : decode cX8_read 170 = .ok (.getfield 170, 3) := by decide +kernel
theorem dX8_read_173 : decode cX8_read 173 = .ok (.bipush 64, 2) := by decide +kernel
theorem dX8_read_175 : decode cX8_read 175 = .ok (.if_icmp .le 9, 3) := by decide +kernel
theorem dX8_read_178 : decode cX8_read 178 = .ok (.sipush (-1005), 3) := by decide +kernel
theorem dX8_read_181 : decode cX8_read 181 = .ok (.goto 8, 3) := by decide +kernel
theorem dX8_read_184 : decode cX8_read 184 = .ok (.aload_n 0, 1) := by decide +kernel
theorem dX8_read_185 : decode cX8_read 185 = .ok (.iload_n 1, 1) := by decide +kernel
theorem dX8_read_186 : decode cX8_read 186 = .ok (.invokevirtual 176, 3) := by decide +kernel
theorem dX8_read_189 : decode cX8_read 189 = .ok (.ireturn, 1) := by decide +kernel
theorem dX8_fault_0 : decode cX8_fault 0 = .ok (.aload_n 0, 1) := by decide +kernel
theorem dX8_fault_1 : decode cX8_fault 1 = .ok (.getfield 41, 3) := by decide +kernel
theorem dX8_fault_4 : decode cX8_fault 4 = .ok (.ireturn, 1) := by decide +kernel
theorem dX8_count_0 : decode cX8_count 0 = .ok (.iconst 0, 1) := by decide +kernel
theorem dX8_count_1 : decode cX8_count 1 = .ok (.istore_n 2, 1) := by decide +kernel
theorem dX8_count_2 : decode cX8_count 2 = .ok (.iconst 0, 1) := by decide +kernel
theorem dX8_count_3 : decode cX8_count 3 = .ok (.istore_n 3, 1) := by decide +kernel
theorem dX8_count_4 : decode cX8_count 4 = .ok (.iload_n 3, 1) := by decide +kernel
theorem dX8_count_5 : decode cX8_count 5 = .ok (.bipush 6, 2) := by decide +kernel
theorem dX8_count_7 : decode cX8_count 7 = .ok (.if_icmp .ge 18, 3) := by decide +kernel
theorem dX8_count_10 : decode cX8_count 10 = .ok (.iload_n 2, 1) := by decide +kernel
theorem dX8_count_11 : decode cX8_count 11 = .ok (.aload_n 0, 1) := by decide +kernel
theorem dX8_count_12 : decode cX8_count 12 = .ok (.getfield 16, 3) := by decide +kernel
theorem dX8_count_15 : decode cX8_count 15 = .ok (.iload_n 3, 1) := by decide +kernel
theorem dX8_count_16 : decode cX8_count 16 = .ok (.iaload, 1) := by decide +kernel
theorem dX8_count_17 : decode cX8_count 17 = .ok (.iadd, 1) := by decide +kernel
theorem dX8_count_18 : decode cX8_count 18 = .ok (.istore_n 2, 1) := by decide +kernel
theorem dX8_count_19 : decode cX8_count 19 = .ok (.iinc 3 1, 3) := by decide +kernel
theorem dX8_count_22 : decode cX8_count 22 = .ok (.goto (-18), 3) := by decide +kernel
theorem dX8_count_25 : decode cX8_count 25 = .ok (.iconst 0, 1) := by decide +kernel
theorem dX8_count_26 : decode cX8_count 26 = .ok (.istore_n 3, 1) := by decide +kernel
theorem dX8_count_27 : decode cX8_count 27 = .ok (.iconst 0, 1) := by decide +kernel
theorem dX8_count_28 : decode cX8_count 28 = .ok (.istore 4, 2) := by decide +kernel
theorem dX8_count_30 : decode cX8_count 30 = .ok (.iload 4, 2) := by decide +kernel
theorem dX8_count_32 : decode cX8_count 32 = .ok (.bipush 12, 2) := by decide +kernel
theorem dX8_count_34 : decode cX8_count 34 = .ok (.if_icmp .ge 27, 3) := by decide +kernel
theorem dX8_count_37 : decode cX8_count 37 = .ok (.iload_n 3, 1) := by decide +kernel
theorem dX8_count_38 : decode cX8_count 38 = .ok (.aload_n 0, 1) := by decide +kernel
theorem dX8_count_39 : decode cX8_count 39 = .ok (.getfield 57, 3) := by decide +kernel
theorem dX8_count_42 : decode cX8_count 42 = .ok (.iload 4, 2) := by decide +kernel
theorem dX8_count_44 : decode cX8_count 44 = .ok (.iaload, 1) := by decide +kernel
theorem dX8_count_45 : decode cX8_count 45 = .ok (.ifCond .lt 7, 3) := by decide +kernel
theorem dX8_count_48 : decode cX8_count 48 = .ok (.iconst 1, 1) := by decide +kernel
theorem dX8_count_49 : decode cX8_count 49 = .ok (.goto 4, 3) := by decide +kernel
theorem dX8_count_52 : decode cX8_count 52 = .ok (.iconst 0, 1) := by decide +kernel
theorem dX8_count_53 : decode cX8_count 53 = .ok (.iadd, 1) := by decide +kernel
theorem dX8_count_54 : decode cX8_count 54 = .ok (.istore_n 3, 1) := by decide +kernel
theorem dX8_count_55 : decode cX8_count 55 = .ok (.iinc 4 1, 3) := by decide +kernel
theorem dX8_count_58 : decode cX8_count 58 = .ok (.goto (-28), 3) := by decide +kernel
theorem dX8_count_61 : decode cX8_count 61 = .ok (.iload_n 1, 1) := by decide +kernel
theorem dX8_count_62 : decode cX8_count 62 = .ok (.tableswitch 35 0 2 #[26, 28, 33], 26) := by decide +kernel
theorem dX8_count_88 : decode cX8_count 88 = .ok (.iload_n 2, 1) := by decide +kernel
theorem dX8_count_89 : decode cX8_count 89 = .ok (.ireturn, 1) := by decide +kernel
theorem dX8_count_90 : decode cX8_count 90 = .ok (.aload_n 0, 1) := by decide +kernel
theorem dX8_count_91 : decode cX8_count 91 = .ok (.getfield 181, 3) := by decide +kernel
theorem dX8_count_94 : decode cX8_count 94 = .ok (.ireturn, 1) := by decide +kernel
theorem dX8_count_95 : decode cX8_count 95 = .ok (.iload_n 3, 1) := by decide +kernel
theorem dX8_count_96 : decode cX8_count 96 = .ok (.ireturn, 1) := by decide +kernel
theorem dX8_count_97 : decode cX8_count 97 = .ok (.sipush (-1002), 3) := by decide +kernel
theorem dX8_count_100 : decode cX8_count 100 = .ok (.ireturn, 1) := by decide +kernel
theorem dX8_owner_0 : decode cX8_owner 0 = .ok (.iload_n 1, 1) := by decide +kernel
theorem dX8_owner_1 : decode cX8_owner 1 = .ok (.invokestatic 76, 3) := by decide +kernel
theorem dX8_owner_4 : decode cX8_owner 4 = .ok (.ifCond .ne 7, 3) := by decide +kernel
theorem dX8_owner_7 : decode cX8_owner 7 = .ok (.sipush (-1001), 3) := by decide +kernel
theorem dX8_owner_10 : decode cX8_owner 10 = .ok (.ireturn, 1) := by decide +kernel
theorem dX8_owner_11 : decode cX8_owner 11 = .ok (.aload_n 0, 1) := by decide +kernel
theorem dX8_owner_12 : decode cX8_owner 12 = .ok (.iload_n 2, 1) := by decide +kernel
theorem dX8_owner_13 : decode cX8_owner 13 = .ok (.iload_n 3, 1) := by decide +kernel
theorem dX8_owner_14 : decode cX8_owner 14 = .ok (.invokevirtual 108, 3) := by decide +kernel
theorem dX8_owner_17 : decode cX8_owner 17 = .ok (.ifCond .ne 7, 3) := by decide +kernel
theorem dX8_owner_20 : decode cX8_owner 20 = .ok (.sipush (-1002), 3) := by decide +kernel
theorem dX8_owner_23 : decode cX8_owner 23 = .ok (.ireturn, 1) := by decide +kernel
theorem dX8_owner_24 : decode cX8_owner 24 = .ok (.iconst 0, 1) := by decide +kernel
theorem dX8_owner_25 : decode cX8_owner 25 = .ok (.istore 5, 2) := by decide +kernel
theorem dX8_owner_27 : decode cX8_owner 27 = .ok (.iconst 0, 1) := by decide +kernel
theorem dX8_owner_28 : decode cX8_owner 28 = .ok (.istore 6, 2) := by decide +kernel
theorem dX8_owner_30 : decode cX8_owner 30 = .ok (.iload 6, 2) := by decide +kernel
theorem dX8_owner_32 : decode cX8_owner 32 = .ok (.aload_n 0, 1) := by decide +kernel
theorem dX8_owner_33 : decode cX8_owner 33 = .ok (.getfield 16, 3) := by decide +kernel
theorem dX8_owner_36 : decode cX8_owner 36 = .ok (.iload_n 1, 1) := by decide +kernel
theorem dX8_owner_37 : decode cX8_owner 37 = .ok (.iaload, 1) := by decide +kernel
theorem dX8_owner_38 : decode cX8_owner 38 = .ok (.if_icmp .ge 38, 3) := by decide +kernel
theorem dX8_owner_41 : decode cX8_owner 41 = .ok (.aload_n 0, 1) := by decide +kernel
theorem dX8_owner_42 : decode cX8_owner 42 = .ok (.aload_n 0, 1) := by decide +kernel
theorem dX8_owner_43 : decode cX8_owner 43 = .ok (.iload_n 1, 1) := by decide +kernel
theorem dX8_owner_44 : decode cX8_owner 44 = .ok (.iload 6, 2) := by decide +kernel
theorem dX8_owner_46 : decode cX8_owner 46 = .ok (.invokevirtual 138, 3) := by decide +kernel
theorem dX8_owner_49 : decode cX8_owner 49 = .ok (.iload_n 2, 1) := by decide +kernel
theorem dX8_owner_50 : decode cX8_owner 50 = .ok (.iload_n 3, 1) := by decide +kernel
theorem dX8_owner_51 : decode cX8_owner 51 = .ok (.invokevirtual 111, 3) := by decide +kernel
theorem dX8_owner_54 : decode cX8_owner 54 = .ok (.ifCond .eq 16, 3) := by decide +kernel
theorem dX8_owner_57 : decode cX8_owner 57 = .ok (.iload 5, 2) := by decide +kernel
theorem dX8_owner_59 : decode cX8_owner 59 = .ok (.iload 4, 2) := by decide +kernel
theorem dX8_owner_61 : decode cX8_owner 61 = .ok (.if_icmp .ne 6, 3) := by decide +kernel
theorem dX8_owner_64 : decode cX8_owner 64 = .ok (.iload 6, 2) := by decide +kernel
theorem dX8_owner_66 : decode cX8_owner 66 = .ok (.ireturn, 1) := by decide +kernel
theorem dX8_owner_67 : decode cX8_owner 67 = .ok (.iinc 5 1, 3) := by decide +kernel
theorem dX8_owner_70 : decode cX8_owner 70 = .ok (.iinc 6 1, 3) := by decide +kernel
theorem dX8_owner_73 : decode cX8_owner 73 = .ok (.goto (-43), 3) := by decide +kernel
theorem dX8_owner_76 : decode cX8_owner 76 = .ok (.iload 4, 2) := by decide +kernel
theorem dX8_owner_78 : decode cX8_owner 78 = .ok (.iconst (-1), 1) := by decide +kernel
theorem dX8_owner_79 : decode cX8_owner 79 = .ok (.if_icmp .ne 8, 3) := by decide +kernel
theorem dX8_owner_82 : decode cX8_owner 82 = .ok (.iload 5, 2) := by decide +kernel
theorem dX8_owner_84 : decode cX8_owner 84 = .ok (.goto 4, 3) := by decide +kernel
theorem dX8_owner_87 : decode cX8_owner 87 = .ok (.iconst (-1), 1) := by decide +kernel
theorem dX8_owner_88 : decode cX8_owner 88 = .ok (.ireturn, 1) := by decide +kernel
theorem dX8_look_0 : decode cX8_look 0 = .ok (.iload_n 1, 1) := by decide +kernel
theorem dX8_look_1 : decode cX8_look 1 = .ok (.i2l, 1) := by decide +kernel
theorem dX8_look_2 : decode cX8_look 2 = .ok (.lconst 0, 1) := by decide +kernel
theorem dX8_look_3 : decode cX8_look 3 = .ok (.aload_n 0, 1) := by decide +kernel
theorem dX8_look_4 : decode cX8_look 4 = .ok (.getfield 7, 3) := by decide +kernel
theorem dX8_look_7 : decode cX8_look 7 = .ok (.iconst 1, 1) := by decide +kernel
theorem dX8_look_8 : decode cX8_look 8 = .ok (.isub, 1) := by decide +kernel
theorem dX8_look_9 : decode cX8_look 9 = .ok (.i2l, 1) := by decide +kernel
theorem dX8_look_10 : decode cX8_look 10 = .ok (.invokestatic 70, 3) := by decide +kernel
theorem dX8_look_13 : decode cX8_look 13 = .ok (.ifCond .eq 17, 3) := by decide +kernel
theorem dX8_look_16 : decode cX8_look 16 = .ok (.iload_n 2, 1) := by decide +kernel
theorem dX8_look_17 : decode cX8_look 17 = .ok (.i2l, 1) := by decide +kernel
theorem dX8_look_18 : decode cX8_look 18 = .ok (.ldc2_w 164, 3) := by decide +kernel
theorem dX8_look_21 : decode cX8_look 21 = .ok (.ldc2_w 275, 3) := by decide +kernel
theorem dX8_look_24 : decode cX8_look 24 = .ok (.invokestatic 70, 3) := by decide +kernel
theorem dX8_look_27 : decode cX8_look 27 = .ok (.ifCond .ne 7, 3) := by decide +kernel
theorem dX8_look_30 : decode cX8_look 30 = .ok (.sipush (-1002), 3) := by decide +kernel
theorem dX8_look_33 : decode cX8_look 33 = .ok (.ireturn, 1) := by decide +kernel
theorem dX8_look_34 : decode cX8_look 34 = .ok (.aload_n 0, 1) := by decide +kernel
theorem dX8_look_35 : decode cX8_look 35 = .ok (.getfield 57, 3) := by decide +kernel
theorem dX8_look_38 : decode cX8_look 38 = .ok (.iload_n 1, 1) := by decide +kernel
theorem dX8_look_39 : decode cX8_look 39 = .ok (.iaload, 1) := by decide +kernel
theorem dX8_look_40 : decode cX8_look 40 = .ok (.istore_n 3, 1) := by decide +kernel
theorem dX8_look_41 : decode cX8_look 41 = .ok (.aload_n 0, 1) := by decide +kernel
theorem dX8_look_42 : decode cX8_look 42 = .ok (.getfield 57, 3) := by decide +kernel
theorem dX8_look_45 : decode cX8_look 45 = .ok (.iload_n 1, 1) := by decide +kernel
theorem dX8_look_46 : decode cX8_look 46 = .ok (.iload_n 2, 1) := by decide +kernel
theorem dX8_look_47 : decode cX8_look 47 = .ok (.iastore, 1) := by decide +kernel
theorem dX8_look_48 : decode cX8_look 48 = .ok (.iload_n 3, 1) := by decide +kernel
theorem dX8_look_49 : decode cX8_look 49 = .ok (.ireturn, 1) := by decide +kernel
theorem dX8_chanceOf_0 : decode cX8_chanceOf 0 = .ok (.lconst 1, 1) := by decide +kernel
theorem dX8_chanceOf_1 : decode cX8_chanceOf 1 = .ok (.lstore_n 2, 1) := by decide +kernel
theorem dX8_chanceOf_2 : decode cX8_chanceOf 2 = .ok (.iconst 0, 1) := by decide +kernel
theorem dX8_chanceOf_3 : decode cX8_chanceOf 3 = .ok (.istore 4, 2) := by decide +kernel
theorem dX8_chanceOf_5 : decode cX8_chanceOf 5 = .ok (.iload 4, 2) := by decide +kernel
theorem dX8_chanceOf_7 : decode cX8_chanceOf 7 = .ok (.aload_n 0, 1) := by decide +kernel
theorem dX8_chanceOf_8 : decode cX8_chanceOf 8 = .ok (.getfield 7, 3) := by decide +kernel
theorem dX8_chanceOf_11 : decode cX8_chanceOf 11 = .ok (.if_icmp .ge 58, 3) := by decide +kernel
theorem dX8_chanceOf_14 : decode cX8_chanceOf 14 = .ok (.lload_n 2, 1) := by decide +kernel
theorem dX8_chanceOf_15 : decode cX8_chanceOf 15 = .ok (.aload_n 0, 1) := by decide +kernel
theorem dX8_chanceOf_16 : decode cX8_chanceOf 16 = .ok (.getfield 57, 3) := by decide +kernel
theorem dX8_chanceOf_19 : decode cX8_chanceOf 19 = .ok (.iload 4, 2) := by decide +kernel
theorem dX8_chanceOf_21 : decode cX8_chanceOf 21 = .ok (.iaload, 1) := by decide +kernel
theorem dX8_chanceOf_22 : decode cX8_chanceOf 22 = .ok (.ifCond .ge 7, 3) := by decide +kernel
theorem dX8_chanceOf_25 : decode cX8_chanceOf 25 = .ok (.lconst 1, 1) := by decide +kernel
theorem dX8_chanceOf_26 : decode cX8_chanceOf 26 = .ok (.goto 35, 3) := by decide +kernel
theorem dX8_chanceOf_29 : decode cX8_chanceOf 29 = .ok (.iload_n 1, 1) := by decide +kernel
theorem dX8_chanceOf_30 : decode cX8_chanceOf 30 = .ok (.iload 4, 2) := by decide +kernel
theorem dX8_chanceOf_32 : decode cX8_chanceOf 32 = .ok (.ishr, 1) := by decide +kernel
theorem dX8_chanceOf_33 : decode cX8_chanceOf 33 = .ok (.iconst 1, 1) := by decide +kernel
theorem dX8_chanceOf_34 : decode cX8_chanceOf 34 = .ok (.iand, 1) := by decide +kernel
theorem dX8_chanceOf_35 : decode cX8_chanceOf 35 = .ok (.iconst 1, 1) := by decide +kernel
theorem dX8_chanceOf_36 : decode cX8_chanceOf 36 = .ok (.if_icmp .ne 14, 3) := by decide +kernel
theorem dX8_chanceOf_39 : decode cX8_chanceOf 39 = .ok (.aload_n 0, 1) := by decide +kernel
theorem dX8_chanceOf_40 : decode cX8_chanceOf 40 = .ok (.getfield 57, 3) := by decide +kernel
theorem dX8_chanceOf_43 : decode cX8_chanceOf 43 = .ok (.iload 4, 2) := by decide +kernel
theorem dX8_chanceOf_45 : decode cX8_chanceOf 45 = .ok (.iaload, 1) := by decide +kernel
theorem dX8_chanceOf_46 : decode cX8_chanceOf 46 = .ok (.i2l, 1) := by decide +kernel
theorem dX8_chanceOf_47 : decode cX8_chanceOf 47 = .ok (.goto 14, 3) := by decide +kernel
theorem dX8_chanceOf_50 : decode cX8_chanceOf 50 = .ok (.bipush 9, 2) := by decide +kernel
theorem dX8_chanceOf_52 : decode cX8_chanceOf 52 = .ok (.aload_n 0, 1) := by decide +kernel
theorem dX8_chanceOf_53 : decode cX8_chanceOf 53 = .ok (.getfield 57, 3) := by decide +kernel
theorem dX8_chanceOf_56 : decode cX8_chanceOf 56 = .ok (.iload 4, 2) := by decide +kernel
theorem dX8_chanceOf_58 : decode cX8_chanceOf 58 = .ok (.iaload, 1) := by decide +kernel
theorem dX8_chanceOf_59 : decode cX8_chanceOf 59 = .ok (.isub, 1) := by decide +kernel
theorem dX8_chanceOf_60 : decode cX8_chanceOf 60 = .ok (.i2l, 1) := by decide +kernel
theorem dX8_chanceOf_61 : decode cX8_chanceOf 61 = .ok (.lmul, 1) := by decide +kernel
theorem dX8_chanceOf_62 : decode cX8_chanceOf 62 = .ok (.lstore_n 2, 1) := by decide +kernel
theorem dX8_chanceOf_63 : decode cX8_chanceOf 63 = .ok (.iinc 4 1, 3) := by decide +kernel
theorem dX8_chanceOf_66 : decode cX8_chanceOf 66 = .ok (.goto (-61), 3) := by decide +kernel
theorem dX8_chanceOf_69 : decode cX8_chanceOf 69 = .ok (.lload_n 2, 1) := by decide +kernel
theorem dX8_chanceOf_70 : decode cX8_chanceOf 70 = .ok (.lreturn, 1) := by decide +kernel
theorem dX8_chance_0 : decode cX8_chance 0 = .ok (.aload_n 0, 1) := by decide +kernel
theorem dX8_chance_1 : decode cX8_chance 1 = .ok (.iload_n 1, 1) := by decide +kernel
theorem dX8_chance_2 : decode cX8_chance 2 = .ok (.iload_n 2, 1) := by decide +kernel
theorem dX8_chance_3 : decode cX8_chance 3 = .ok (.invokevirtual 148, 3) := by decide +kernel
theorem dX8_chance_6 : decode cX8_chance 6 = .ok (.ifCond .eq 16, 3) := by decide +kernel
theorem dX8_chance_9 : decode cX8_chance 9 = .ok (.aload_n 0, 1) := by decide +kernel
theorem dX8_chance_10 : decode cX8_chance 10 = .ok (.aload_n 0, 1) := by decide +kernel
theorem dX8_chance_11 : decode cX8_chance 11 = .ok (.iload_n 1, 1) := by decide +kernel
theorem dX8_chance_12 : decode cX8_chance 12 = .ok (.iload_n 2, 1) := by decide +kernel
theorem dX8_chance_13 : decode cX8_chance 13 = .ok (.invokevirtual 138, 3) := by decide +kernel
theorem dX8_chance_16 : decode cX8_chance 16 = .ok (.invokevirtual 277, 3) := by decide +kernel
theorem dX8_chance_19 : decode cX8_chance 19 = .ok (.goto 6, 3) := by decide +kernel
theorem dX8_chance_22 : decode cX8_chance 22 = .ok (.ldc2_w 281, 3) := by decide +kernel
theorem dX8_chance_25 : decode cX8_chance 25 = .ok (.lreturn, 1) := by decide +kernel
theorem dX8_likely_0 : decode cX8_likely 0 = .ok (.iload_n 1, 1) := by decide +kernel
theorem dX8_likely_1 : decode cX8_likely 1 = .ok (.invokestatic 76, 3) := by decide +kernel
theorem dX8_likely_4 : decode cX8_likely 4 = .ok (.ifCond .ne 7, 3) := by decide +kernel
theorem dX8_likely_7 : decode cX8_likely 7 = .ok (.sipush (-1001), 3) := by decide +kernel
theorem dX8_likely_10 : decode cX8_likely 10 = .ok (.ireturn, 1) := by decide +kernel
theorem dX8_likely_11 : decode cX8_likely 11 = .ok (.iconst 0, 1) := by decide +kernel
theorem dX8_likely_12 : decode cX8_likely 12 = .ok (.istore_n 3, 1) := by decide +kernel
theorem dX8_likely_13 : decode cX8_likely 13 = .ok (.iconst 0, 1) := by decide +kernel
theorem dX8_likely_14 : decode cX8_likely 14 = .ok (.istore 4, 2) := by decide +kernel
theorem dX8_likely_16 : decode cX8_likely 16 = .ok (.iload 4, 2) := by decide +kernel
theorem dX8_likely_18 : decode cX8_likely 18 = .ok (.aload_n 0, 1) := by decide +kernel
theorem dX8_likely_19 : decode cX8_likely 19 = .ok (.getfield 16, 3) := by decide +kernel
theorem dX8_likely_22 : decode cX8_likely 22 = .ok (.iload_n 1, 1) := by decide +kernel
theorem dX8_likely_23 : decode cX8_likely 23 = .ok (.iaload, 1) := by decide +kernel
theorem dX8_likely_24 : decode cX8_likely 24 = .ok (.if_icmp .ge 47, 3) := by decide +kernel
theorem dX8_likely_27 : decode cX8_likely 27 = .ok (.aload_n 0, 1) := by decide +kernel
theorem dX8_likely_28 : decode cX8_likely 28 = .ok (.getfield 60, 3) := by decide +kernel
theorem dX8_likely_31 : decode cX8_likely 31 = .ok (.iload 4, 2) := by decide +kernel
theorem dX8_likely_33 : decode cX8_likely 33 = .ok (.aload_n 0, 1) := by decide +kernel
theorem dX8_likely_34 : decode cX8_likely 34 = .ok (.aload_n 0, 1) := by decide +kernel
theorem dX8_likely_35 : decode cX8_likely 35 = .ok (.iload_n 1, 1) := by decide +kernel
theorem dX8_likely_36 : decode cX8_likely 36 = .ok (.iload 4, 2) := by decide +kernel
theorem dX8_likely_38 : decode cX8_likely 38 = .ok (.invokevirtual 138, 3) := by decide +kernel
theorem dX8_likely_41 : decode cX8_likely 41 = .ok (.invokevirtual 277, 3) := by decide +kernel
theorem dX8_likely_44 : decode cX8_likely 44 = .ok (.lastore, 1) := by decide +kernel
theorem dX8_likely_45 : decode cX8_likely 45 = .ok (.iload_n 3, 1) := by decide +kernel
theorem dX8_likely_46 : decode cX8_likely 46 = .ok (.aload_n 0, 1) := by decide +kernel
theorem dX8_likely_47 : decode cX8_likely 47 = .ok (.getfield 60, 3) := by decide +kernel
theorem dX8_likely_50 : decode cX8_likely 50 = .ok (.iload 4, 2) := by decide +kernel
theorem dX8_likely_52 : decode cX8_likely 52 = .ok (.laload, 1) := by decide +kernel
theorem dX8_likely_53 : decode cX8_likely 53 = .ok (.lconst 0, 1) := by decide +kernel
theorem dX8_likely_54 : decode cX8_likely 54 = .ok (.lcmp, 1) := by decide +kernel
theorem dX8_likely_55 : decode cX8_likely 55 = .ok (.ifCond .le 7, 3) := by decide +kernel
theorem dX8_likely_58 : decode cX8_likely 58 = .ok (.iconst 1, 1) := by decide +kernel
theorem dX8_likely_59 : decode cX8_likely 59 = .ok (.goto 4, 3) := by decide +kernel
theorem dX8_likely_62 : decode cX8_likely 62 = .ok (.iconst 0, 1) := by decide +kernel
theorem dX8_likely_63 : decode cX8_likely 63 = .ok (.iadd, 1) := by decide +kernel
theorem dX8_likely_64 : decode cX8_likely 64 = .ok (.istore_n 3, 1) := by decide +kernel
theorem dX8_likely_65 : decode cX8_likely 65 = .ok (.iinc 4 1, 3) := by decide +kernel
theorem dX8_likely_68 : decode cX8_likely 68 = .ok (.goto (-52), 3) := by decide +kernel
theorem dX8_likely_71 : decode cX8_likely 71 = .ok (.iload_n 2, 1) := by decide +kernel
theorem dX8_likely_72 : decode cX8_likely 72 = .ok (.i2l, 1) := by decide +kernel
theorem dX8_likely_73 : decode cX8_likely 73 = .ok (.lconst 0, 1) := by decide +kernel
theorem dX8_likely_74 : decode cX8_likely 74 = .ok (.iload_n 3, 1) := by decide +kernel
theorem dX8_likely_75 : decode cX8_likely 75 = .ok (.iconst 1, 1) := by decide +kernel
theorem dX8_likely_76 : decode cX8_likely 76 = .ok (.isub, 1) := by decide +kernel
theorem dX8_likely_77 : decode cX8_likely 77 = .ok (.i2l, 1) := by decide +kernel
theorem dX8_likely_78 : decode cX8_likely 78 = .ok (.invokestatic 70, 3) := by decide +kernel
theorem dX8_likely_81 : decode cX8_likely 81 = .ok (.ifCond .ne 14, 3) := by decide +kernel
theorem dX8_likely_84 : decode cX8_likely 84 = .ok (.iload_n 2, 1) := by decide +kernel
theorem dX8_likely_85 : decode cX8_likely 85 = .ok (.iconst (-1), 1) := by decide +kernel
theorem dX8_likely_86 : decode cX8_likely 86 = .ok (.if_icmp .ne 7, 3) := by decide +kernel
theorem dX8_likely_89 : decode cX8_likely 89 = .ok (.iload_n 3, 1) := by decide +kernel
theorem dX8_likely_90 : decode cX8_likely 90 = .ok (.goto 4, 3) := by decide +kernel
theorem dX8_likely_93 : decode cX8_likely 93 = .ok (.iconst (-1), 1) := by decide +kernel
theorem dX8_likely_94 : decode cX8_likely 94 = .ok (.ireturn, 1) := by decide +kernel
theorem dX8_likely_95 : decode cX8_likely 95 = .ok (.iconst (-1), 1) := by decide +kernel
theorem dX8_likely_96 : decode cX8_likely 96 = .ok (.istore 4, 2) := by decide +kernel
theorem dX8_likely_98 : decode cX8_likely 98 = .ok (.iconst 0, 1) := by decide +kernel
theorem dX8_likely_99 : decode cX8_likely 99 = .ok (.istore 5, 2) := by decide +kernel
theorem dX8_likely_101 : decode cX8_likely 101 = .ok (.iload 5, 2) := by decide +kernel
theorem dX8_likely_103 : decode cX8_likely 103 = .ok (.iload_n 2, 1) := by decide +kernel
theorem dX8_likely_104 : decode cX8_likely 104 = .ok (.if_icmp .gt 83, 3) := by decide +kernel
theorem dX8_likely_107 : decode cX8_likely 107 = .ok (.iconst 0, 1) := by decide +kernel
theorem dX8_likely_108 : decode cX8_likely 108 = .ok (.istore 4, 2) := by decide +kernel
theorem dX8_likely_110 : decode cX8_likely 110 = .ok (.iconst 1, 1) := by decide +kernel
theorem dX8_likely_111 : decode cX8_likely 111 = .ok (.istore 6, 2) := by decide +kernel
theorem dX8_likely_113 : decode cX8_likely 113 = .ok (.iload 6, 2) := by decide +kernel
theorem dX8_likely_115 : decode cX8_likely 115 = .ok (.aload_n 0, 1) := by decide +kernel
theorem dX8_likely_116 : decode cX8_likely 116 = .ok (.getfield 16, 3) := by decide +kernel
theorem dX8_likely_119 : decode cX8_likely 119 = .ok (.iload_n 1, 1) := by decide +kernel
theorem dX8_likely_120 : decode cX8_likely 120 = .ok (.iaload, 1) := by decide +kernel
theorem dX8_likely_121 : decode cX8_likely 121 = .ok (.if_icmp .ge 36, 3) := by decide +kernel
theorem dX8_likely_124 : decode cX8_likely 124 = .ok (.aload_n 0, 1) := by decide +kernel
theorem dX8_likely_125 : decode cX8_likely 125 = .ok (.getfield 60, 3) := by decide +kernel
theorem dX8_likely_128 : decode cX8_likely 128 = .ok (.iload 6, 2) := by decide +kernel
theorem dX8_likely_130 : decode cX8_likely 130 = .ok (.laload, 1) := by decide +kernel
theorem dX8_likely_131 : decode cX8_likely 131 = .ok (.aload_n 0, 1) := by decide +kernel
theorem dX8_likely_132 : decode cX8_likely 132 = .ok (.getfield 60, 3) := by decide +kernel
theorem dX8_likely_135 : decode cX8_likely 135 = .ok (.iload 4, 2) := by decide +kernel
theorem dX8_likely_137 : decode cX8_likely 137 = .ok (.laload, 1) := by decide +kernel
theorem dX8_likely_138 : decode cX8_likely 138 = .ok (.lcmp, 1) := by decide +kernel
theorem dX8_likely_139 : decode cX8_likely 139 = .ok (.ifCond .le 8, 3) := by decide +kernel
theorem dX8_likely_142 : decode cX8_likely 142 = .ok (.iload 6, 2) := by decide +kernel
theorem dX8_likely_144 : decode cX8_likely 144 = .ok (.goto 5, 3) := by decide +kernel
theorem dX8_likely_147 : decode cX8_likely 147 = .ok (.iload 4, 2) := by decide +kernel
theorem dX8_likely_149 : decode cX8_likely 149 = .ok (.istore 4, 2) := by decide +kernel
theorem dX8_likely_151 : decode cX8_likely 151 = .ok (.iinc 6 1, 3) := by decide +kernel
theorem dX8_likely_154 : decode cX8_likely 154 = .ok (.goto (-41), 3) := by decide +kernel
theorem dX8_likely_157 : decode cX8_likely 157 = .ok (.aload_n 0, 1) := by decide +kernel
theorem dX8_likely_158 : decode cX8_likely 158 = .ok (.getfield 60, 3) := by decide +kernel
theorem dX8_likely_161 : decode cX8_likely 161 = .ok (.iload 4, 2) := by decide +kernel
theorem dX8_likely_163 : decode cX8_likely 163 = .ok (.iload 5, 2) := by decide +kernel
theorem dX8_likely_165 : decode cX8_likely 165 = .ok (.iload_n 2, 1) := by decide +kernel
theorem dX8_likely_166 : decode cX8_likely 166 = .ok (.if_icmp .ge 7, 3) := by decide +kernel
theorem dX8_likely_169 : decode cX8_likely 169 = .ok (.lconst 0, 1) := by decide +kernel
theorem dX8_likely_170 : decode cX8_likely 170 = .ok (.goto 10, 3) := by decide +kernel
theorem dX8_likely_173 : decode cX8_likely 173 = .ok (.aload_n 0, 1) := by decide +kernel
theorem dX8_likely_174 : decode cX8_likely 174 = .ok (.getfield 60, 3) := by decide +kernel
theorem dX8_likely_177 : decode cX8_likely 177 = .ok (.iload 4, 2) := by decide +kernel
theorem dX8_likely_179 : decode cX8_likely 179 = .ok (.laload, 1) := by decide +kernel
theorem dX8_likely_180 : decode cX8_likely 180 = .ok (.lastore, 1) := by decide +kernel
theorem dX8_likely_181 : decode cX8_likely 181 = .ok (.iinc 5 1, 3) := by decide +kernel
theorem dX8_likely_184 : decode cX8_likely 184 = .ok (.goto (-83), 3) := by decide +kernel
theorem dX8_likely_187 : decode cX8_likely 187 = .ok (.iload 4, 2) := by decide +kernel
theorem dX8_likely_189 : decode cX8_likely 189 = .ok (.ireturn, 1) := by decide +kernel
theorem dX8_begin_0 : decode cX8_begin 0 = .ok (.aload_n 0, 1) := by decide +kernel
theorem dX8_begin_1 : decode cX8_begin 1 = .ok (.iconst 1, 1) := by decide +kernel
theorem dX8_begin_2 : decode cX8_begin 2 = .ok (.putfield 283, 3) := by decide +kernel
theorem dX8_begin_5 : decode cX8_begin 5 = .ok (.aload_n 0, 1) := by decide +kernel
theorem dX8_begin_6 : decode cX8_begin 6 = .ok (.getfield 64, 3) := by decide +kernel
theorem dX8_begin_9 : decode cX8_begin 9 = .ok (.iconst 0, 1) := by decide +kernel
theorem dX8_begin_10 : decode cX8_begin 10 = .ok (.iconst (-1), 1) := by decide +kernel
theorem dX8_begin_11 : decode cX8_begin 11 = .ok (.iastore, 1) := by decide +kernel
theorem dX8_begin_12 : decode cX8_begin 12 = .ok (.return_, 1) := by decide +kernel
theorem dX8_goOn_0 : decode cX8_goOn 0 = .ok (.aload_n 0, 1) := by decide +kernel
theorem dX8_goOn_1 : decode cX8_goOn 1 = .ok (.getfield 283, 3) := by decide +kernel
theorem dX8_goOn_4 : decode cX8_goOn 4 = .ok (.iconst 1, 1) := by decide +kernel
theorem dX8_goOn_5 : decode cX8_goOn 5 = .ok (.isub, 1) := by decide +kernel
theorem dX8_goOn_6 : decode cX8_goOn 6 = .ok (.istore_n 3, 1) := by decide +kernel
theorem dX8_goOn_7 : decode cX8_goOn 7 = .ok (.iload_n 3, 1) := by decide +kernel
theorem dX8_goOn_8 : decode cX8_goOn 8 = .ok (.ifCond .lt 31, 3) := by decide +kernel
theorem dX8_goOn_11 : decode cX8_goOn 11 = .ok (.aload_n 0, 1) := by decide +kernel
theorem dX8_goOn_12 : decode cX8_goOn 12 = .ok (.getfield 64, 3) := by decide +kernel
theorem dX8_goOn_15 : decode cX8_goOn 15 = .ok (.iload_n 3, 1) := by decide +kernel
theorem dX8_goOn_16 : decode cX8_goOn 16 = .ok (.iaload, 1) := by decide +kernel
theorem dX8_goOn_17 : decode cX8_goOn 17 = .ok (.aload_n 0, 1) := by decide +kernel
theorem dX8_goOn_18 : decode cX8_goOn 18 = .ok (.getfield 16, 3) := by decide +kernel
theorem dX8_goOn_21 : decode cX8_goOn 21 = .ok (.iload_n 1, 1) := by decide +kernel
theorem dX8_goOn_22 : decode cX8_goOn 22 = .ok (.iaload, 1) := by decide +kernel
theorem dX8_goOn_23 : decode cX8_goOn 23 = .ok (.aload_n 0, 1) := by decide +kernel
theorem dX8_goOn_24 : decode cX8_goOn 24 = .ok (.getfield 283, 3) := by decide +kernel
theorem dX8_goOn_27 : decode cX8_goOn 27 = .ok (.isub, 1) := by decide +kernel
theorem dX8_goOn_28 : decode cX8_goOn 28 = .ok (.iload_n 3, 1) := by decide +kernel
theorem dX8_goOn_29 : decode cX8_goOn 29 = .ok (.iadd, 1) := by decide +kernel
theorem dX8_goOn_30 : decode cX8_goOn 30 = .ok (.if_icmp .lt 9, 3) := by decide +kernel
theorem dX8_goOn_33 : decode cX8_goOn 33 = .ok (.iinc 3 (-1), 3) := by decide +kernel
theorem dX8_goOn_36 : decode cX8_goOn 36 = .ok (.goto (-29), 3) := by decide +kernel
theorem dX8_goOn_39 : decode cX8_goOn 39 = .ok (.aload_n 0, 1) := by decide +kernel
theorem dX8_goOn_40 : decode cX8_goOn 40 = .ok (.getfield 64, 3) := by decide +kernel
theorem dX8_goOn_43 : decode cX8_goOn 43 = .ok (.iconst 0, 1) := by decide +kernel
theorem dX8_goOn_44 : decode cX8_goOn 44 = .ok (.iaload, 1) := by decide +kernel
theorem dX8_goOn_45 : decode cX8_goOn 45 = .ok (.iconst (-1), 1) := by decide +kernel
theorem dX8_goOn_46 : decode cX8_goOn 46 = .ok (.if_icmp .ne 25, 3) := by decide +kernel
theorem dX8_goOn_49 : decode cX8_goOn 49 = .ok (.aload_n 0, 1) := by decide +kernel
theorem dX8_goOn_50 : decode cX8_goOn 50 = .ok (.getfield 64, 3) := by decide +kernel
theorem dX8_goOn_53 : decode cX8_goOn 53 = .ok (.iconst 0, 1) := by decide +kernel
theorem dX8_goOn_54 : decode cX8_goOn 54 = .ok (.iconst 0, 1) := by decide +kernel
theorem dX8_goOn_55 : decode cX8_goOn 55 = .ok (.iastore, 1) := by decide +kernel
theorem dX8_goOn_56 : decode cX8_goOn 56 = .ok (.aload_n 0, 1) := by decide +kernel
theorem dX8_goOn_57 : decode cX8_goOn 57 = .ok (.getfield 16, 3) := by decide +kernel
theorem dX8_goOn_60 : decode cX8_goOn 60 = .ok (.iload_n 1, 1) := by decide +kernel
theorem dX8_goOn_61 : decode cX8_goOn 61 = .ok (.iaload, 1) := by decide +kernel
theorem dX8_goOn_62 : decode cX8_goOn 62 = .ok (.ifCond .le 7, 3) := by decide +kernel
theorem dX8_goOn_65 : decode cX8_goOn 65 = .ok (.iconst 1, 1) := by decide +kernel
theorem dX8_goOn_66 : decode cX8_goOn 66 = .ok (.goto 4, 3) := by decide +kernel
theorem dX8_goOn_69 : decode cX8_goOn 69 = .ok (.iconst 0, 1) := by decide +kernel
theorem dX8_goOn_70 : decode cX8_goOn 70 = .ok (.ireturn, 1) := by decide +kernel
theorem dX8_goOn_71 : decode cX8_goOn 71 = .ok (.iload_n 3, 1) := by decide +kernel
theorem dX8_goOn_72 : decode cX8_goOn 72 = .ok (.ifCond .lt 16, 3) := by decide +kernel
theorem dX8_goOn_75 : decode cX8_goOn 75 = .ok (.aload_n 0, 1) := by decide +kernel
theorem dX8_goOn_76 : decode cX8_goOn 76 = .ok (.getfield 64, 3) := by decide +kernel
theorem dX8_goOn_79 : decode cX8_goOn 79 = .ok (.iload_n 3, 1) := by decide +kernel
theorem dX8_goOn_80 : decode cX8_goOn 80 = .ok (.dup2, 1) := by decide +kernel
theorem dX8_goOn_81 : decode cX8_goOn 81 = .ok (.iaload, 1) := by decide +kernel
theorem dX8_goOn_82 : decode cX8_goOn 82 = .ok (.iconst 1, 1) := by decide +kernel
theorem dX8_goOn_83 : decode cX8_goOn 83 = .ok (.iadd, 1) := by decide +kernel
theorem dX8_goOn_84 : decode cX8_goOn 84 = .ok (.iastore, 1) := by decide +kernel
theorem dX8_goOn_85 : decode cX8_goOn 85 = .ok (.goto 22, 3) := by decide +kernel
theorem dX8_goOn_88 : decode cX8_goOn 88 = .ok (.aload_n 0, 1) := by decide +kernel
theorem dX8_goOn_89 : decode cX8_goOn 89 = .ok (.dup, 1) := by decide +kernel
theorem dX8_goOn_90 : decode cX8_goOn 90 = .ok (.getfield 283, 3) := by decide +kernel
theorem dX8_goOn_93 : decode cX8_goOn 93 = .ok (.iconst 1, 1) := by decide +kernel
theorem dX8_goOn_94 : decode cX8_goOn 94 = .ok (.iadd, 1) := by decide +kernel
theorem dX8_goOn_95 : decode cX8_goOn 95 = .ok (.putfield 283, 3) := by decide +kernel
theorem dX8_goOn_98 : decode cX8_goOn 98 = .ok (.aload_n 0, 1) := by decide +kernel
theorem dX8_goOn_99 : decode cX8_goOn 99 = .ok (.getfield 64, 3) := by decide +kernel
theorem dX8_goOn_102 : decode cX8_goOn 102 = .ok (.iconst 0, 1) := by decide +kernel
theorem dX8_goOn_103 : decode cX8_goOn 103 = .ok (.iconst 0, 1) := by decide +kernel
theorem dX8_goOn_104 : decode cX8_goOn 104 = .ok (.iastore, 1) := by decide +kernel
theorem dX8_goOn_105 : decode cX8_goOn 105 = .ok (.iconst 0, 1) := by decide +kernel
theorem dX8_goOn_106 : decode cX8_goOn 106 = .ok (.istore_n 3, 1) := by decide +kernel
theorem dX8_goOn_107 : decode cX8_goOn 107 = .ok (.iload_n 3, 1) := by decide +kernel
theorem dX8_goOn_108 : decode cX8_goOn 108 = .ok (.iconst 1, 1) := by decide +kernel
theorem dX8_goOn_109 : decode cX8_goOn 109 = .ok (.iadd, 1) := by decide +kernel
theorem dX8_goOn_110 : decode cX8_goOn 110 = .ok (.istore 4, 2) := by decide +kernel
theorem dX8_goOn_112 : decode cX8_goOn 112 = .ok (.iload 4, 2) := by decide +kernel
theorem dX8_goOn_114 : decode cX8_goOn 114 = .ok (.aload_n 0, 1) := by decide +kernel
theorem dX8_goOn_115 : decode cX8_goOn 115 = .ok (.getfield 283, 3) := by decide +kernel
theorem dX8_goOn_118 : decode cX8_goOn 118 = .ok (.if_icmp .ge 35, 3) := by decide +kernel
theorem dX8_goOn_121 : decode cX8_goOn 121 = .ok (.aload_n 0, 1) := by decide +kernel
theorem dX8_goOn_122 : decode cX8_goOn 122 = .ok (.getfield 283, 3) := by decide +kernel
theorem dX8_goOn_125 : decode cX8_goOn 125 = .ok (.iconst 4, 1) := by decide +kernel
theorem dX8_goOn_126 : decode cX8_goOn 126 = .ok (.if_icmp .ge 27, 3) := by decide +kernel
theorem dX8_goOn_129 : decode cX8_goOn 129 = .ok (.aload_n 0, 1) := by decide +kernel
theorem dX8_goOn_130 : decode cX8_goOn 130 = .ok (.getfield 64, 3) := by decide +kernel
theorem dX8_goOn_133 : decode cX8_goOn 133 = .ok (.iload 4, 2) := by decide +kernel
theorem dX8_goOn_135 : decode cX8_goOn 135 = .ok (.aload_n 0, 1) := by decide +kernel
theorem dX8_goOn_136 : decode cX8_goOn 136 = .ok (.getfield 64, 3) := by decide +kernel
theorem dX8_goOn_139 : decode cX8_goOn 139 = .ok (.iload 4, 2) := by decide +kernel
theorem dX8_goOn_141 : decode cX8_goOn 141 = .ok (.iconst 1, 1) := by decide +kernel
theorem dX8_goOn_142 : decode cX8_goOn 142 = .ok (.isub, 1) := by decide +kernel
theorem dX8_goOn_143 : decode cX8_goOn 143 = .ok (.iaload, 1) := by decide +kernel
theorem dX8_goOn_144 : decode cX8_goOn 144 = .ok (.iconst 1, 1) := by decide +kernel
theorem dX8_goOn_145 : decode cX8_goOn 145 = .ok (.iadd, 1) := by decide +kernel
theorem dX8_goOn_146 : decode cX8_goOn 146 = .ok (.iastore, 1) := by decide +kernel
theorem dX8_goOn_147 : decode cX8_goOn 147 = .ok (.iinc 4 1, 3) := by decide +kernel
theorem dX8_goOn_150 : decode cX8_goOn 150 = .ok (.goto (-38), 3) := by decide +kernel
theorem dX8_goOn_153 : decode cX8_goOn 153 = .ok (.aload_n 0, 1) := by decide +kernel
theorem dX8_goOn_154 : decode cX8_goOn 154 = .ok (.getfield 283, 3) := by decide +kernel
theorem dX8_goOn_157 : decode cX8_goOn 157 = .ok (.iload_n 2, 1) := by decide +kernel
theorem dX8_goOn_158 : decode cX8_goOn 158 = .ok (.if_icmp .gt 20, 3) := by decide +kernel
theorem dX8_goOn_161 : decode cX8_goOn 161 = .ok (.aload_n 0, 1) := by decide +kernel
theorem dX8_goOn_162 : decode cX8_goOn 162 = .ok (.getfield 283, 3) := by decide +kernel
theorem dX8_goOn_165 : decode cX8_goOn 165 = .ok (.aload_n 0, 1) := by decide +kernel
theorem dX8_goOn_166 : decode cX8_goOn 166 = .ok (.getfield 16, 3) := by decide +kernel
theorem dX8_goOn_169 : decode cX8_goOn 169 = .ok (.iload_n 1, 1) := by decide +kernel
theorem dX8_goOn_170 : decode cX8_goOn 170 = .ok (.iaload, 1) := by decide +kernel
theorem dX8_goOn_171 : decode cX8_goOn 171 = .ok (.if_icmp .gt 7, 3) := by decide +kernel
theorem dX8_goOn_174 : decode cX8_goOn 174 = .ok (.iconst 1, 1) := by decide +kernel
theorem dX8_goOn_175 : decode cX8_goOn 175 = .ok (.goto 4, 3) := by decide +kernel
theorem dX8_goOn_178 : decode cX8_goOn 178 = .ok (.iconst 0, 1) := by decide +kernel
theorem dX8_goOn_179 : decode cX8_goOn 179 = .ok (.ireturn, 1) := by decide +kernel
theorem dX8_all_0 : decode cX8_all 0 = .ok (.iconst 0, 1) := by decide +kernel
theorem dX8_all_1 : decode cX8_all 1 = .ok (.istore_n 2, 1) := by decide +kernel
theorem dX8_all_2 : decode cX8_all 2 = .ok (.iconst 0, 1) := by decide +kernel
theorem dX8_all_3 : decode cX8_all 3 = .ok (.istore_n 3, 1) := by decide +kernel
theorem dX8_all_4 : decode cX8_all 4 = .ok (.iload_n 3, 1) := by decide +kernel
theorem dX8_all_5 : decode cX8_all 5 = .ok (.aload_n 0, 1) := by decide +kernel
theorem dX8_all_6 : decode cX8_all 6 = .ok (.getfield 283, 3) := by decide +kernel
theorem dX8_all_9 : decode cX8_all 9 = .ok (.if_icmp .ge 23, 3) := by decide +kernel
theorem dX8_all_12 : decode cX8_all 12 = .ok (.iload_n 2, 1) := by decide +kernel
theorem dX8_all_13 : decode cX8_all 13 = .ok (.aload_n 0, 1) := by decide +kernel
theorem dX8_all_14 : decode cX8_all 14 = .ok (.iload_n 1, 1) := by decide +kernel
theorem dX8_all_15 : decode cX8_all 15 = .ok (.aload_n 0, 1) := by decide +kernel
theorem dX8_all_16 : decode cX8_all 16 = .ok (.getfield 64, 3) := by decide +kernel
theorem dX8_all_19 : decode cX8_all 19 = .ok (.iload_n 3, 1) := by decide +kernel
theorem dX8_all_20 : decode cX8_all 20 = .ok (.iaload, 1) := by decide +kernel
theorem dX8_all_21 : decode cX8_all 21 = .ok (.invokevirtual 138, 3) := by decide +kernel
theorem dX8_all_24 : decode cX8_all 24 = .ok (.ior, 1) := by decide +kernel
theorem dX8_all_25 : decode cX8_all 25 = .ok (.istore_n 2, 1) := by decide +kernel
theorem dX8_all_26 : decode cX8_all 26 = .ok (.iinc 3 1, 3) := by decide +kernel
theorem dX8_all_29 : decode cX8_all 29 = .ok (.goto (-25), 3) := by decide +kernel
theorem dX8_all_32 : decode cX8_all 32 = .ok (.iload_n 2, 1) := by decide +kernel
theorem dX8_all_33 : decode cX8_all 33 = .ok (.ireturn, 1) := by decide +kernel
theorem dX8_common_0 : decode cX8_common 0 = .ok (.iconst (-1), 1) := by decide +kernel
theorem dX8_common_1 : decode cX8_common 1 = .ok (.istore_n 2, 1) := by decide +kernel
theorem dX8_common_2 : decode cX8_common 2 = .ok (.iconst 0, 1) := by decide +kernel
theorem dX8_common_3 : decode cX8_common 3 = .ok (.istore_n 3, 1) := by decide +kernel
theorem dX8_common_4 : decode cX8_common 4 = .ok (.iload_n 3, 1) := by decide +kernel
theorem dX8_common_5 : decode cX8_common 5 = .ok (.aload_n 0, 1) := by decide +kernel
theorem dX8_common_6 : decode cX8_common 6 = .ok (.getfield 283, 3) := by decide +kernel
theorem dX8_common_9 : decode cX8_common 9 = .ok (.if_icmp .ge 23, 3) := by decide +kernel
theorem dX8_common_12 : decode cX8_common 12 = .ok (.iload_n 2, 1) := by decide +kernel
theorem dX8_common_13 : decode cX8_common 13 = .ok (.aload_n 0, 1) := by decide +kernel
theorem dX8_common_14 : decode cX8_common 14 = .ok (.iload_n 1, 1) := by decide +kernel
theorem dX8_common_15 : decode cX8_common 15 = .ok (.aload_n 0, 1) := by decide +kernel
theorem dX8_common_16 : decode cX8_common 16 = .ok (.getfield 64, 3) := by decide +kernel
theorem dX8_common_19 : decode cX8_common 19 = .ok (.iload_n 3, 1) := by decide +kernel
theorem dX8_common_20 : decode cX8_common 20 = .ok (.iaload, 1) := by decide +kernel
theorem dX8_common_21 : decode cX8_common 21 = .ok (.invokevirtual 138, 3) := by decide +kernel
theorem dX8_common_24 : decode cX8_common 24 = .ok (.iand, 1) := by decide +kernel
theorem dX8_common_25 : decode cX8_common 25 = .ok (.istore_n 2, 1) := by decide +kernel
theorem dX8_common_26 : decode cX8_common 26 = .ok (.iinc 3 1, 3) := by decide +kernel
theorem dX8_common_29 : decode cX8_common 29 = .ok (.goto (-25), 3) := by decide +kernel
theorem dX8_common_32 : decode cX8_common 32 = .ok (.iload_n 2, 1) := by decide +kernel
theorem dX8_common_33 : decode cX8_common 33 = .ok (.ireturn, 1) := by decide +kernel
theorem dX8_isAsked_0 : decode cX8_isAsked 0 = .ok (.aload_n 0, 1) := by decide +kernel
theorem dX8_isAsked_1 : decode cX8_isAsked 1 = .ok (.iload_n 2, 1) := by decide +kernel
theorem dX8_isAsked_2 : decode cX8_isAsked 2 = .ok (.invokevirtual 94, 3) := by decide +kernel
theorem dX8_isAsked_5 : decode cX8_isAsked 5 = .ok (.ifCond .eq 19, 3) := by decide +kernel
theorem dX8_isAsked_8 : decode cX8_isAsked 8 = .ok (.iload_n 3, 1) := by decide +kernel
theorem dX8_isAsked_9 : decode cX8_isAsked 9 = .ok (.i2l, 1) := by decide +kernel
theorem dX8_isAsked_10 : decode cX8_isAsked 10 = .ok (.lconst 1, 1) := by decide +kernel
theorem dX8_isAsked_11 : decode cX8_isAsked 11 = .ok (.ldc2_w 84, 3) := by decide +kernel
theorem dX8_isAsked_14 : decode cX8_isAsked 14 = .ok (.invokestatic 70, 3) := by decide +kernel
theorem dX8_isAsked_17 : decode cX8_isAsked 17 = .ok (.ifCond .eq 7, 3) := by decide +kernel
theorem dX8_isAsked_20 : decode cX8_isAsked 20 = .ok (.iconst 1, 1) := by decide +kernel
theorem dX8_isAsked_21 : decode cX8_isAsked 21 = .ok (.goto 4, 3) := by decide +kernel
theorem dX8_isAsked_24 : decode cX8_isAsked 24 = .ok (.iconst 0, 1) := by decide +kernel
theorem dX8_isAsked_25 : decode cX8_isAsked 25 = .ok (.ireturn, 1) := by decide +kernel
theorem dX8_heap_0 : decode cX8_heap 0 = .ok (.iload_n 1, 1) := by decide +kernel
theorem dX8_heap_1 : decode cX8_heap 1 = .ok (.invokestatic 76, 3) := by decide +kernel
theorem dX8_heap_4 : decode cX8_heap 4 = .ok (.ifCond .ne 7, 3) := by decide +kernel
theorem dX8_heap_7 : decode cX8_heap 7 = .ok (.sipush (-1001), 3) := by decide +kernel
theorem dX8_heap_10 : decode cX8_heap 10 = .ok (.ireturn, 1) := by decide +kernel
theorem dX8_heap_11 : decode cX8_heap 11 = .ok (.aload_n 0, 1) := by decide +kernel
theorem dX8_heap_12 : decode cX8_heap 12 = .ok (.iload_n 1, 1) := by decide +kernel
theorem dX8_heap_13 : decode cX8_heap 13 = .ok (.iload_n 2, 1) := by decide +kernel
theorem dX8_heap_14 : decode cX8_heap 14 = .ok (.iload_n 3, 1) := by decide +kernel
theorem dX8_heap_15 : decode cX8_heap 15 = .ok (.invokevirtual 286, 3) := by decide +kernel
theorem dX8_heap_18 : decode cX8_heap 18 = .ok (.ifCond .eq 18, 3) := by decide +kernel
theorem dX8_heap_21 : decode cX8_heap 21 = .ok (.iload 4, 2) := by decide +kernel
theorem dX8_heap_23 : decode cX8_heap 23 = .ok (.i2l, 1) := by decide +kernel
theorem dX8_heap_24 : decode cX8_heap 24 = .ok (.ldc2_w 164, 3) := by decide +kernel
theorem dX8_heap_27 : decode cX8_heap 27 = .ok (.ldc2_w 84, 3) := by decide +kernel
theorem dX8_heap_30 : decode cX8_heap 30 = .ok (.invokestatic 70, 3) := by decide +kernel
theorem dX8_heap_33 : decode cX8_heap 33 = .ok (.ifCond .ne 7, 3) := by decide +kernel
theorem dX8_heap_36 : decode cX8_heap 36 = .ok (.sipush (-1002), 3) := by decide +kernel
theorem dX8_heap_39 : decode cX8_heap 39 = .ok (.ireturn, 1) := by decide +kernel
theorem dX8_heap_40 : decode cX8_heap 40 = .ok (.iconst 0, 1) := by decide +kernel
theorem dX8_heap_41 : decode cX8_heap 41 = .ok (.istore 5, 2) := by decide +kernel
theorem dX8_heap_43 : decode cX8_heap 43 = .ok (.iconst (-1), 1) := by decide +kernel
theorem dX8_heap_44 : decode cX8_heap 44 = .ok (.istore 6, 2) := by decide +kernel
theorem dX8_heap_46 : decode cX8_heap 46 = .ok (.aload_n 0, 1) := by decide +kernel
theorem dX8_heap_47 : decode cX8_heap 47 = .ok (.invokevirtual 289, 3) := by decide +kernel
theorem dX8_heap_50 : decode cX8_heap 50 = .ok (.aload_n 0, 1) := by decide +kernel
theorem dX8_heap_51 : decode cX8_heap 51 = .ok (.iload_n 1, 1) := by decide +kernel
theorem dX8_heap_52 : decode cX8_heap 52 = .ok (.iload_n 3, 1) := by decide +kernel
theorem dX8_heap_53 : decode cX8_heap 53 = .ok (.invokevirtual 292, 3) := by decide +kernel
theorem dX8_heap_56 : decode cX8_heap 56 = .ok (.ifCond .eq 64, 3) := by decide +kernel
theorem dX8_heap_59 : decode cX8_heap 59 = .ok (.aload_n 0, 1) := by decide +kernel
theorem dX8_heap_60 : decode cX8_heap 60 = .ok (.iload_n 1, 1) := by decide +kernel
theorem dX8_heap_61 : decode cX8_heap 61 = .ok (.invokevirtual 295, 3) := by decide +kernel
theorem dX8_heap_64 : decode cX8_heap 64 = .ok (.iload_n 2, 1) := by decide +kernel
theorem dX8_heap_65 : decode cX8_heap 65 = .ok (.if_icmp .ne (-15), 3) := by decide +kernel
theorem dX8_heap_68 : decode cX8_heap 68 = .ok (.iload 5, 2) := by decide +kernel
theorem dX8_heap_70 : decode cX8_heap 70 = .ok (.ifCond .ne 44, 3) := by decide +kernel
theorem dX8_heap_73 : decode cX8_heap 73 = .ok (.iload 4, 2) := by decide +kernel
theorem dX8_heap_75 : decode cX8_heap 75 = .ok (.ifCond .ne 10, 3) := by decide +kernel
theorem dX8_heap_78 : decode cX8_heap 78 = .ok (.aload_n 0, 1) := by decide +kernel
theorem dX8_heap_79 : decode cX8_heap 79 = .ok (.getfield 283, 3) := by decide +kernel
theorem dX8_heap_82 : decode cX8_heap 82 = .ok (.goto 30, 3) := by decide +kernel
theorem dX8_heap_85 : decode cX8_heap 85 = .ok (.iload 4, 2) := by decide +kernel
theorem dX8_heap_87 : decode cX8_heap 87 = .ok (.ifCond .le 24, 3) := by decide +kernel
theorem dX8_heap_90 : decode cX8_heap 90 = .ok (.iload 4, 2) := by decide +kernel
theorem dX8_heap_92 : decode cX8_heap 92 = .ok (.aload_n 0, 1) := by decide +kernel
theorem dX8_heap_93 : decode cX8_heap 93 = .ok (.getfield 283, 3) := by decide +kernel
theorem dX8_heap_96 : decode cX8_heap 96 = .ok (.if_icmp .gt 15, 3) := by decide +kernel
theorem dX8_heap_99 : decode cX8_heap 99 = .ok (.aload_n 0, 1) := by decide +kernel
theorem dX8_heap_100 : decode cX8_heap 100 = .ok (.getfield 64, 3) := by decide +kernel
theorem dX8_heap_103 : decode cX8_heap 103 = .ok (.iload 4, 2) := by decide +kernel
theorem dX8_heap_105 : decode cX8_heap 105 = .ok (.iconst 1, 1) := by decide +kernel
theorem dX8_heap_106 : decode cX8_heap 106 = .ok (.isub, 1) := by decide +kernel
theorem dX8_heap_107 : decode cX8_heap 107 = .ok (.iaload, 1) := by decide +kernel
theorem dX8_heap_108 : decode cX8_heap 108 = .ok (.goto 4, 3) := by decide +kernel
theorem dX8_heap_111 : decode cX8_heap 111 = .ok (.iconst (-1), 1) := by decide +kernel
theorem dX8_heap_112 : decode cX8_heap 112 = .ok (.istore 6, 2) := by decide +kernel
theorem dX8_heap_114 : decode cX8_heap 114 = .ok (.iinc 5 1, 3) := by decide +kernel
theorem dX8_heap_117 : decode cX8_heap 117 = .ok (.goto (-67), 3) := by decide +kernel
theorem dX8_heap_120 : decode cX8_heap 120 = .ok (.iload 4, 2) := by decide +kernel
theorem dX8_heap_122 : decode cX8_heap 122 = .ok (.iconst (-1), 1) := by decide +kernel
theorem dX8_heap_123 : decode cX8_heap 123 = .ok (.if_icmp .ne 8, 3) := by decide +kernel
theorem dX8_heap_126 : decode cX8_heap 126 = .ok (.iload 5, 2) := by decide +kernel
theorem dX8_heap_128 : decode cX8_heap 128 = .ok (.goto 5, 3) := by decide +kernel
theorem dX8_heap_131 : decode cX8_heap 131 = .ok (.iload 6, 2) := by decide +kernel
theorem dX8_heap_133 : decode cX8_heap 133 = .ok (.ireturn, 1) := by decide +kernel
theorem dX8_canMake_0 : decode cX8_canMake 0 = .ok (.iload_n 0, 1) := by decide +kernel
theorem dX8_canMake_1 : decode cX8_canMake 1 = .ok (.iload_n 2, 1) := by decide +kernel
theorem dX8_canMake_2 : decode cX8_canMake 2 = .ok (.iconst (-1), 1) := by decide +kernel
theorem dX8_canMake_3 : decode cX8_canMake 3 = .ok (.ixor, 1) := by decide +kernel
theorem dX8_canMake_4 : decode cX8_canMake 4 = .ok (.iand, 1) := by decide +kernel
theorem dX8_canMake_5 : decode cX8_canMake 5 = .ok (.ifCond .ne 15, 3) := by decide +kernel
theorem dX8_canMake_8 : decode cX8_canMake 8 = .ok (.iload_n 2, 1) := by decide +kernel
theorem dX8_canMake_9 : decode cX8_canMake 9 = .ok (.iload_n 1, 1) := by decide +kernel
theorem dX8_canMake_10 : decode cX8_canMake 10 = .ok (.iconst (-1), 1) := by decide +kernel
theorem dX8_canMake_11 : decode cX8_canMake 11 = .ok (.ixor, 1) := by decide +kernel
theorem dX8_canMake_12 : decode cX8_canMake 12 = .ok (.iand, 1) := by decide +kernel
theorem dX8_canMake_13 : decode cX8_canMake 13 = .ok (.ifCond .ne 7, 3) := by decide +kernel
theorem dX8_canMake_16 : decode cX8_canMake 16 = .ok (.iconst 1, 1) := by decide +kernel
theorem dX8_canMake_17 : decode cX8_canMake 17 = .ok (.goto 4, 3) := by decide +kernel
theorem dX8_canMake_20 : decode cX8_canMake 20 = .ok (.iconst 0, 1) := by decide +kernel
theorem dX8_canMake_21 : decode cX8_canMake 21 = .ok (.ireturn, 1) := by decide +kernel
theorem dX8_make_0 : decode cX8_make 0 = .ok (.aload_n 0, 1) := by decide +kernel
theorem dX8_make_1 : decode cX8_make 1 = .ok (.iload_n 1, 1) := by decide +kernel
theorem dX8_make_2 : decode cX8_make 2 = .ok (.iload_n 2, 1) := by decide +kernel
theorem dX8_make_3 : decode cX8_make 3 = .ok (.invokevirtual 148, 3) := by decide +kernel
theorem dX8_make_6 : decode cX8_make 6 = .ok (.ifCond .eq 33, 3) := by decide +kernel
theorem dX8_make_9 : decode cX8_make 9 = .ok (.iload_n 3, 1) := by decide +kernel
theorem dX8_make_10 : decode cX8_make 10 = .ok (.iconst (-1), 1) := by decide +kernel
theorem dX8_make_11 : decode cX8_make 11 = .ok (.if_icmp .eq 12, 3) := by decide +kernel
theorem dX8_make_14 : decode cX8_make 14 = .ok (.aload_n 0, 1) := by decide +kernel
theorem dX8_make_15 : decode cX8_make 15 = .ok (.iload_n 1, 1) := by decide +kernel
theorem dX8_make_16 : decode cX8_make 16 = .ok (.iload_n 3, 1) := by decide +kernel
theorem dX8_make_17 : decode cX8_make 17 = .ok (.invokevirtual 148, 3) := by decide +kernel
theorem dX8_make_20 : decode cX8_make 20 = .ok (.ifCond .eq 19, 3) := by decide +kernel
theorem dX8_make_23 : decode cX8_make 23 = .ok (.iload 4, 2) := by decide +kernel
theorem dX8_make_25 : decode cX8_make 25 = .ok (.iconst (-1), 1) := by decide +kernel
theorem dX8_make_26 : decode cX8_make 26 = .ok (.if_icmp .eq 17, 3) := by decide +kernel
theorem dX8_make_29 : decode cX8_make 29 = .ok (.aload_n 0, 1) := by decide +kernel
theorem dX8_make_30 : decode cX8_make 30 = .ok (.iload_n 1, 1) := by decide +kernel
theorem dX8_make_31 : decode cX8_make 31 = .ok (.iload 4, 2) := by decide +kernel
theorem dX8_make_33 : decode cX8_make 33 = .ok (.invokevirtual 148, 3) := by decide +kernel
theorem dX8_make_36 : decode cX8_make 36 = .ok (.ifCond .ne 7, 3) := by decide +kernel
theorem dX8_make_39 : decode cX8_make 39 = .ok (.sipush (-1001), 3) := by decide +kernel
theorem dX8_make_42 : decode cX8_make 42 = .ok (.ireturn, 1) := by decide +kernel
theorem dX8_make_43 : decode cX8_make 43 = .ok (.aload_n 0, 1) := by decide +kernel
theorem dX8_make_44 : decode cX8_make 44 = .ok (.iload 5, 2) := by decide +kernel
theorem dX8_make_46 : decode cX8_make 46 = .ok (.invokevirtual 94, 3) := by decide +kernel
theorem dX8_make_49 : decode cX8_make 49 = .ok (.ifCond .ne 7, 3) := by decide +kernel
theorem dX8_make_52 : decode cX8_make 52 = .ok (.sipush (-1002), 3) := by decide +kernel
theorem dX8_make_55 : decode cX8_make 55 = .ok (.ireturn, 1) := by decide +kernel
theorem dX8_make_56 : decode cX8_make 56 = .ok (.aload_n 0, 1) := by decide +kernel
theorem dX8_make_57 : decode cX8_make 57 = .ok (.iload_n 1, 1) := by decide +kernel
theorem dX8_make_58 : decode cX8_make 58 = .ok (.iload_n 2, 1) := by decide +kernel
theorem dX8_make_59 : decode cX8_make 59 = .ok (.invokevirtual 138, 3) := by decide +kernel
theorem dX8_make_62 : decode cX8_make 62 = .ok (.istore 6, 2) := by decide +kernel
theorem dX8_make_64 : decode cX8_make 64 = .ok (.iload_n 3, 1) := by decide +kernel
theorem dX8_make_65 : decode cX8_make 65 = .ok (.iconst (-1), 1) := by decide +kernel
theorem dX8_make_66 : decode cX8_make 66 = .ok (.if_icmp .ne 8, 3) := by decide +kernel
theorem dX8_make_69 : decode cX8_make 69 = .ok (.iload 6, 2) := by decide +kernel
theorem dX8_make_71 : decode cX8_make 71 = .ok (.goto 9, 3) := by decide +kernel
theorem dX8_make_74 : decode cX8_make 74 = .ok (.aload_n 0, 1) := by decide +kernel
theorem dX8_make_75 : decode cX8_make 75 = .ok (.iload_n 1, 1) := by decide +kernel
theorem dX8_make_76 : decode cX8_make 76 = .ok (.iload_n 3, 1) := by decide +kernel
theorem dX8_make_77 : decode cX8_make 77 = .ok (.invokevirtual 138, 3) := by decide +kernel
theorem dX8_make_80 : decode cX8_make 80 = .ok (.istore 7, 2) := by decide +kernel
theorem dX8_make_82 : decode cX8_make 82 = .ok (.iload 4, 2) := by decide +kernel
theorem dX8_make_84 : decode cX8_make 84 = .ok (.iconst (-1), 1) := by decide +kernel
theorem dX8_make_85 : decode cX8_make 85 = .ok (.if_icmp .ne 8, 3) := by decide +kernel
theorem dX8_make_88 : decode cX8_make 88 = .ok (.iload 6, 2) := by decide +kernel
theorem dX8_make_90 : decode cX8_make 90 = .ok (.goto 10, 3) := by decide +kernel
theorem dX8_make_93 : decode cX8_make 93 = .ok (.aload_n 0, 1) := by decide +kernel
theorem dX8_make_94 : decode cX8_make 94 = .ok (.iload_n 1, 1) := by decide +kernel
theorem dX8_make_95 : decode cX8_make 95 = .ok (.iload 4, 2) := by decide +kernel
theorem dX8_make_97 : decode cX8_make 97 = .ok (.invokevirtual 138, 3) := by decide +kernel
theorem dX8_make_100 : decode cX8_make 100 = .ok (.istore 8, 2) := by decide +kernel
theorem dX8_make_102 : decode cX8_make 102 = .ok (.iload 6, 2) := by decide +kernel
theorem dX8_make_104 : decode cX8_make 104 = .ok (.iload 7, 2) := by decide +kernel
theorem dX8_make_106 : decode cX8_make 106 = .ok (.iand, 1) := by decide +kernel
theorem dX8_make_107 : decode cX8_make 107 = .ok (.iload 8, 2) := by decide +kernel
theorem dX8_make_109 : decode cX8_make 109 = .ok (.iand, 1) := by decide +kernel
theorem dX8_make_110 : decode cX8_make 110 = .ok (.iload 6, 2) := by decide +kernel
theorem dX8_make_112 : decode cX8_make 112 = .ok (.iload 7, 2) := by decide +kernel
theorem dX8_make_114 : decode cX8_make 114 = .ok (.ior, 1) := by decide +kernel
theorem dX8_make_115 : decode cX8_make 115 = .ok (.iload 8, 2) := by decide +kernel
theorem dX8_make_117 : decode cX8_make 117 = .ok (.ior, 1) := by decide +kernel
theorem dX8_make_118 : decode cX8_make 118 = .ok (.iload 5, 2) := by decide +kernel
theorem dX8_make_120 : decode cX8_make 120 = .ok (.invokestatic 298, 3) := by decide +kernel
theorem dX8_make_123 : decode cX8_make 123 = .ok (.ifCond .eq 7, 3) := by decide +kernel
theorem dX8_make_126 : decode cX8_make 126 = .ok (.iconst 1, 1) := by decide +kernel
theorem dX8_make_127 : decode cX8_make 127 = .ok (.goto 4, 3) := by decide +kernel
theorem dX8_make_130 : decode cX8_make 130 = .ok (.iconst 0, 1) := by decide +kernel
theorem dX8_make_131 : decode cX8_make 131 = .ok (.ireturn, 1) := by decide +kernel
theorem dX8_findRings_0 : decode cX8_findRings 0 = .ok (.aload_n 0, 1) := by decide +kernel
theorem dX8_findRings_1 : decode cX8_findRings 1 = .ok (.iconst 0, 1) := by decide +kernel
theorem dX8_findRings_2 : decode cX8_findRings 2 = .ok (.putfield 301, 3) := by decide +kernel
theorem dX8_findRings_5 : decode cX8_findRings 5 = .ok (.aload_n 0, 1) := by decide +kernel
theorem dX8_findRings_6 : decode cX8_findRings 6 = .ok (.iconst (-1), 1) := by decide +kernel
theorem dX8_findRings_7 : decode cX8_findRings 7 = .ok (.putfield 304, 3) := by decide +kernel
theorem dX8_findRings_10 : decode cX8_findRings 10 = .ok (.aload_n 0, 1) := by decide +kernel
theorem dX8_findRings_11 : decode cX8_findRings 11 = .ok (.ldc2_w 164, 3) := by decide +kernel
theorem dX8_findRings_14 : decode cX8_findRings 14 = .ok (.putfield 307, 3) := by decide +kernel
theorem dX8_findRings_17 : decode cX8_findRings 17 = .ok (.aload_n 0, 1) := by decide +kernel
theorem dX8_findRings_18 : decode cX8_findRings 18 = .ok (.invokevirtual 289, 3) := by decide +kernel
theorem dX8_findRings_21 : decode cX8_findRings 21 = .ok (.aload_n 0, 1) := by decide +kernel
theorem dX8_findRings_22 : decode cX8_findRings 22 = .ok (.iload_n 1, 1) := by decide +kernel
theorem dX8_findRings_23 : decode cX8_findRings 23 = .ok (.iload_n 3, 1) := by decide +kernel
theorem dX8_findRings_24 : decode cX8_findRings 24 = .ok (.invokevirtual 292, 3) := by decide +kernel
theorem dX8_findRings_27 : decode cX8_findRings 27 = .ok (.ifCond .eq 101, 3) := by decide +kernel
theorem dX8_findRings_30 : decode cX8_findRings 30 = .ok (.aload_n 0, 1) := by decide +kernel
theorem dX8_findRings_31 : decode cX8_findRings 31 = .ok (.iload_n 1, 1) := by decide +kernel
theorem dX8_findRings_32 : decode cX8_findRings 32 = .ok (.invokevirtual 310, 3) := by decide +kernel
theorem dX8_findRings_35 : decode cX8_findRings 35 = .ok (.aload_n 0, 1) := by decide +kernel
theorem dX8_findRings_36 : decode cX8_findRings 36 = .ok (.iload_n 1, 1) := by decide +kernel
theorem dX8_findRings_37 : decode cX8_findRings 37 = .ok (.invokevirtual 295, 3) := by decide +kernel
theorem dX8_findRings_40 : decode cX8_findRings 40 = .ok (.iload_n 2, 1) := by decide +kernel
theorem dX8_findRings_41 : decode cX8_findRings 41 = .ok (.invokestatic 298, 3) := by decide +kernel
theorem dX8_findRings_44 : decode cX8_findRings 44 = .ok (.ifCond .eq (-23), 3) := by decide +kernel
theorem dX8_findRings_47 : decode cX8_findRings 47 = .ok (.lconst 0, 1) := by decide +kernel
theorem dX8_findRings_48 : decode cX8_findRings 48 = .ok (.lstore 4, 2) := by decide +kernel
theorem dX8_findRings_50 : decode cX8_findRings 50 = .ok (.iconst 0, 1) := by decide +kernel
theorem dX8_findRings_51 : decode cX8_findRings 51 = .ok (.istore 6, 2) := by decide +kernel
theorem dX8_findRings_53 : decode cX8_findRings 53 = .ok (.iload 6, 2) := by decide +kernel
theorem dX8_findRings_55 : decode cX8_findRings 55 = .ok (.aload_n 0, 1) := by decide +kernel
theorem dX8_findRings_56 : decode cX8_findRings 56 = .ok (.getfield 283, 3) := by decide +kernel
theorem dX8_findRings_59 : decode cX8_findRings 59 = .ok (.if_icmp .ge 23, 3) := by decide +kernel
theorem dX8_findRings_62 : decode cX8_findRings 62 = .ok (.lload 4, 2) := by decide +kernel
theorem dX8_findRings_64 : decode cX8_findRings 64 = .ok (.lconst 1, 1) := by decide +kernel
theorem dX8_findRings_65 : decode cX8_findRings 65 = .ok (.aload_n 0, 1) := by decide +kernel
theorem dX8_findRings_66 : decode cX8_findRings 66 = .ok (.getfield 64, 3) := by decide +kernel
theorem dX8_findRings_69 : decode cX8_findRings 69 = .ok (.iload 6, 2) := by decide +kernel
theorem dX8_findRings_71 : decode cX8_findRings 71 = .ok (.iaload, 1) := by decide +kernel
theorem dX8_findRings_72 : decode cX8_findRings 72 = .ok (.lshl, 1) := by decide +kernel
theorem dX8_findRings_73 : decode cX8_findRings 73 = .ok (.lor, 1) := by decide +kernel
theorem dX8_findRings_74 : decode cX8_findRings 74 = .ok (.lstore 4, 2) := by decide +kernel
theorem dX8_findRings_76 : decode cX8_findRings 76 = .ok (.iinc 6 1, 3) := by decide +kernel
theorem dX8_findRings_79 : decode cX8_findRings 79 = .ok (.goto (-26), 3) := by decide +kernel
theorem dX8_findRings_82 : decode cX8_findRings 82 = .ok (.aload_n 0, 1) := by decide +kernel
theorem dX8_findRings_83 : decode cX8_findRings 83 = .ok (.dup, 1) := by decide +kernel
theorem dX8_findRings_84 : decode cX8_findRings 84 = .ok (.getfield 307, 3) := by decide +kernel
theorem dX8_findRings_87 : decode cX8_findRings 87 = .ok (.lload 4, 2) := by decide +kernel
theorem dX8_findRings_89 : decode cX8_findRings 89 = .ok (.land, 1) := by decide +kernel
theorem dX8_findRings_90 : decode cX8_findRings 90 = .ok (.putfield 307, 3) := by decide +kernel
theorem dX8_findRings_93 : decode cX8_findRings 93 = .ok (.aload_n 0, 1) := by decide +kernel
theorem dX8_findRings_94 : decode cX8_findRings 94 = .ok (.aload_n 0, 1) := by decide +kernel
theorem dX8_findRings_95 : decode cX8_findRings 95 = .ok (.getfield 301, 3) := by decide +kernel
theorem dX8_findRings_98 : decode cX8_findRings 98 = .ok (.ifCond .ne 10, 3) := by decide +kernel
theorem dX8_findRings_101 : decode cX8_findRings 101 = .ok (.aload_n 0, 1) := by decide +kernel
theorem dX8_findRings_102 : decode cX8_findRings 102 = .ok (.getfield 283, 3) := by decide +kernel
theorem dX8_findRings_105 : decode cX8_findRings 105 = .ok (.goto 7, 3) := by decide +kernel
theorem dX8_findRings_108 : decode cX8_findRings 108 = .ok (.aload_n 0, 1) := by decide +kernel
theorem dX8_findRings_109 : decode cX8_findRings 109 = .ok (.getfield 304, 3) := by decide +kernel
theorem dX8_findRings_112 : decode cX8_findRings 112 = .ok (.putfield 304, 3) := by decide +kernel
theorem dX8_findRings_115 : decode cX8_findRings 115 = .ok (.aload_n 0, 1) := by decide +kernel
theorem dX8_findRings_116 : decode cX8_findRings 116 = .ok (.dup, 1) := by decide +kernel
theorem dX8_findRings_117 : decode cX8_findRings 117 = .ok (.getfield 301, 3) := by decide +kernel
theorem dX8_findRings_120 : decode cX8_findRings 120 = .ok (.iconst 1, 1) := by decide +kernel
theorem dX8_findRings_121 : decode cX8_findRings 121 = .ok (.iadd, 1) := by decide +kernel
theorem dX8_findRings_122 : decode cX8_findRings 122 = .ok (.putfield 301, 3) := by decide +kernel
theorem dX8_findRings_125 : decode cX8_findRings 125 = .ok (.goto (-104), 3) := by decide +kernel
theorem dX8_findRings_128 : decode cX8_findRings 128 = .ok (.aload_n 0, 1) := by decide +kernel
theorem dX8_findRings_129 : decode cX8_findRings 129 = .ok (.aload_n 0, 1) := by decide +kernel
theorem dX8_findRings_130 : decode cX8_findRings 130 = .ok (.getfield 301, 3) := by decide +kernel
theorem dX8_findRings_133 : decode cX8_findRings 133 = .ok (.ifCond .ne 7, 3) := by decide +kernel
theorem dX8_findRings_136 : decode cX8_findRings 136 = .ok (.lconst 0, 1) := by decide +kernel
theorem dX8_findRings_137 : decode cX8_findRings 137 = .ok (.goto 7, 3) := by decide +kernel
theorem dX8_findRings_140 : decode cX8_findRings 140 = .ok (.aload_n 0, 1) := by decide +kernel
theorem dX8_findRings_141 : decode cX8_findRings 141 = .ok (.getfield 307, 3) := by decide +kernel
theorem dX8_findRings_144 : decode cX8_findRings 144 = .ok (.putfield 307, 3) := by decide +kernel
theorem dX8_findRings_147 : decode cX8_findRings 147 = .ok (.return_, 1) := by decide +kernel
theorem dX8_trace_0 : decode cX8_trace 0 = .ok (.iload_n 1, 1) := by decide +kernel
theorem dX8_trace_1 : decode cX8_trace 1 = .ok (.invokestatic 76, 3) := by decide +kernel
theorem dX8_trace_4 : decode cX8_trace 4 = .ok (.ifCond .ne 7, 3) := by decide +kernel
theorem dX8_trace_7 : decode cX8_trace 7 = .ok (.sipush (-1001), 3) := by decide +kernel
theorem dX8_trace_10 : decode cX8_trace 10 = .ok (.ireturn, 1) := by decide +kernel
theorem dX8_trace_11 : decode cX8_trace 11 = .ok (.aload_n 0, 1) := by decide +kernel
theorem dX8_trace_12 : decode cX8_trace 12 = .ok (.iload_n 1, 1) := by decide +kernel
theorem dX8_trace_13 : decode cX8_trace 13 = .ok (.iload_n 2, 1) := by decide +kernel
theorem dX8_trace_14 : decode cX8_trace 14 = .ok (.iload_n 3, 1) := by decide +kernel
theorem dX8_trace_15 : decode cX8_trace 15 = .ok (.invokevirtual 286, 3) := by decide +kernel
theorem dX8_trace_18 : decode cX8_trace 18 = .ok (.ifCond .eq 16, 3) := by decide +kernel
theorem dX8_trace_21 : decode cX8_trace 21 = .ok (.iload 4, 2) := by decide +kernel
theorem dX8_trace_23 : decode cX8_trace 23 = .ok (.i2l, 1) := by decide +kernel
theorem dX8_trace_24 : decode cX8_trace 24 = .ok (.lconst 0, 1) := by decide +kernel
theorem dX8_trace_25 : decode cX8_trace 25 = .ok (.ldc2_w 80, 3) := by decide +kernel
theorem dX8_trace_28 : decode cX8_trace 28 = .ok (.invokestatic 70, 3) := by decide +kernel
theorem dX8_trace_31 : decode cX8_trace 31 = .ok (.ifCond .ne 7, 3) := by decide +kernel
theorem dX8_trace_34 : decode cX8_trace 34 = .ok (.sipush (-1002), 3) := by decide +kernel
theorem dX8_trace_37 : decode cX8_trace 37 = .ok (.ireturn, 1) := by decide +kernel
theorem dX8_trace_38 : decode cX8_trace 38 = .ok (.aload_n 0, 1) := by decide +kernel
theorem dX8_trace_39 : decode cX8_trace 39 = .ok (.iload_n 1, 1) := by decide +kernel
theorem dX8_trace_40 : decode cX8_trace 40 = .ok (.iload_n 2, 1) := by decide +kernel
theorem dX8_trace_41 : decode cX8_trace 41 = .ok (.iload_n 3, 1) := by decide +kernel
theorem dX8_trace_42 : decode cX8_trace 42 = .ok (.invokevirtual 313, 3) := by decide +kernel
theorem dX8_trace_45 : decode cX8_trace 45 = .ok (.iconst 0, 1) := by decide +kernel
theorem dX8_trace_46 : decode cX8_trace 46 = .ok (.istore 5, 2) := by decide +kernel
theorem dX8_trace_48 : decode cX8_trace 48 = .ok (.iconst 0, 1) := by decide +kernel
theorem dX8_trace_49 : decode cX8_trace 49 = .ok (.istore 6, 2) := by decide +kernel
theorem dX8_trace_51 : decode cX8_trace 51 = .ok (.iload 6, 2) := by decide +kernel
theorem dX8_trace_53 : decode cX8_trace 53 = .ok (.bipush 64, 2) := by decide +kernel
theorem dX8_trace_55 : decode cX8_trace 55 = .ok (.if_icmp .ge 24, 3) := by decide +kernel
theorem dX8_trace_58 : decode cX8_trace 58 = .ok (.iload 5, 2) := by decide +kernel
theorem dX8_trace_60 : decode cX8_trace 60 = .ok (.aload_n 0, 1) := by decide +kernel
theorem dX8_trace_61 : decode cX8_trace 61 = .ok (.getfield 307, 3) := by decide +kernel
theorem dX8_trace_64 : decode cX8_trace 64 = .ok (.iload 6, 2) := by decide +kernel
theorem dX8_trace_66 : decode cX8_trace 66 = .ok (.lshr, 1) := by decide +kernel
theorem dX8_trace_67 : decode cX8_trace 67 = .ok (.lconst 1, 1) := by decide +kernel
theorem dX8_trace_68 : decode cX8_trace 68 = .ok (.land, 1) := by decide +kernel
theorem dX8_trace_69 : decode cX8_trace 69 = .ok (.l2i, 1) := by decide +kernel
theorem dX8_trace_70 : decode cX8_trace 70 = .ok (.iadd, 1) := by decide +kernel
theorem dX8_trace_71 : decode cX8_trace 71 = .ok (.istore 5, 2) := by decide +kernel
theorem dX8_trace_73 : decode cX8_trace 73 = .ok (.iinc 6 1, 3) := by decide +kernel
theorem dX8_trace_76 : decode cX8_trace 76 = .ok (.goto (-25), 3) := by decide +kernel
theorem dX8_trace_79 : decode cX8_trace 79 = .ok (.iload 4, 2) := by decide +kernel
theorem dX8_trace_81 : decode cX8_trace 81 = .ok (.ifCond .ne 10, 3) := by decide +kernel
theorem dX8_trace_84 : decode cX8_trace 84 = .ok (.aload_n 0, 1) := by decide +kernel
theorem dX8_trace_85 : decode cX8_trace 85 = .ok (.getfield 301, 3) := by decide +kernel
theorem dX8_trace_88 : decode cX8_trace 88 = .ok (.goto 29, 3) := by decide +kernel
theorem dX8_trace_91 : decode cX8_trace 91 = .ok (.iload 4, 2) := by decide +kernel
theorem dX8_trace_93 : decode cX8_trace 93 = .ok (.iconst 1, 1) := by decide +kernel
theorem dX8_trace_94 : decode cX8_trace 94 = .ok (.if_icmp .ne 10, 3) := by decide +kernel
theorem dX8_trace_97 : decode cX8_trace 97 = .ok (.aload_n 0, 1) := by decide +kernel
theorem dX8_trace_98 : decode cX8_trace 98 = .ok (.getfield 304, 3) := by decide +kernel
theorem dX8_trace_101 : decode cX8_trace 101 = .ok (.goto 16, 3) := by decide +kernel
theorem dX8_trace_104 : decode cX8_trace 104 = .ok (.aload_n 0, 1) := by decide +kernel
theorem dX8_trace_105 : decode cX8_trace 105 = .ok (.getfield 301, 3) := by decide +kernel
theorem dX8_trace_108 : decode cX8_trace 108 = .ok (.ifCond .ne 7, 3) := by decide +kernel
theorem dX8_trace_111 : decode cX8_trace 111 = .ok (.iconst (-1), 1) := by decide +kernel
theorem dX8_trace_112 : decode cX8_trace 112 = .ok (.goto 5, 3) := by decide +kernel
theorem dX8_trace_115 : decode cX8_trace 115 = .ok (.iload 5, 2) := by decide +kernel
theorem dX8_trace_117 : decode cX8_trace 117 = .ok (.ireturn, 1) := by decide +kernel
theorem dX8_inAll_0 : decode cX8_inAll 0 = .ok (.iload_n 1, 1) := by decide +kernel
theorem dX8_inAll_1 : decode cX8_inAll 1 = .ok (.invokestatic 76, 3) := by decide +kernel
theorem dX8_inAll_4 : decode cX8_inAll 4 = .ok (.ifCond .ne 7, 3) := by decide +kernel
theorem dX8_inAll_7 : decode cX8_inAll 7 = .ok (.sipush (-1001), 3) := by decide +kernel
theorem dX8_inAll_10 : decode cX8_inAll 10 = .ok (.ireturn, 1) := by decide +kernel
theorem dX8_inAll_11 : decode cX8_inAll 11 = .ok (.aload_n 0, 1) := by decide +kernel
theorem dX8_inAll_12 : decode cX8_inAll 12 = .ok (.iload_n 1, 1) := by decide +kernel
theorem dX8_inAll_13 : decode cX8_inAll 13 = .ok (.iload_n 2, 1) := by decide +kernel
theorem dX8_inAll_14 : decode cX8_inAll 14 = .ok (.iload_n 3, 1) := by decide +kernel
theorem dX8_inAll_15 : decode cX8_inAll 15 = .ok (.invokevirtual 286, 3) := by decide +kernel
theorem dX8_inAll_18 : decode cX8_inAll 18 = .ok (.ifCond .ne 7, 3) := by decide +kernel
theorem dX8_inAll_21 : decode cX8_inAll 21 = .ok (.sipush (-1002), 3) := by decide +kernel
theorem dX8_inAll_24 : decode cX8_inAll 24 = .ok (.ireturn, 1) := by decide +kernel
theorem dX8_inAll_25 : decode cX8_inAll 25 = .ok (.aload_n 0, 1) := by decide +kernel
theorem dX8_inAll_26 : decode cX8_inAll 26 = .ok (.iload_n 1, 1) := by decide +kernel
theorem dX8_inAll_27 : decode cX8_inAll 27 = .ok (.iload_n 2, 1) := by decide +kernel
theorem dX8_inAll_28 : decode cX8_inAll 28 = .ok (.iload_n 3, 1) := by decide +kernel
theorem dX8_inAll_29 : decode cX8_inAll 29 = .ok (.invokevirtual 313, 3) := by decide +kernel
theorem dX8_inAll_32 : decode cX8_inAll 32 = .ok (.iconst 0, 1) := by decide +kernel
theorem dX8_inAll_33 : decode cX8_inAll 33 = .ok (.istore 5, 2) := by decide +kernel
theorem dX8_inAll_35 : decode cX8_inAll 35 = .ok (.iconst 0, 1) := by decide +kernel
theorem dX8_inAll_36 : decode cX8_inAll 36 = .ok (.istore 6, 2) := by decide +kernel
theorem dX8_inAll_38 : decode cX8_inAll 38 = .ok (.iload 6, 2) := by decide +kernel
theorem dX8_inAll_40 : decode cX8_inAll 40 = .ok (.bipush 64, 2) := by decide +kernel
theorem dX8_inAll_42 : decode cX8_inAll 42 = .ok (.if_icmp .ge 36, 3) := by decide +kernel
theorem dX8_inAll_45 : decode cX8_inAll 45 = .ok (.aload_n 0, 1) := by decide +kernel
theorem dX8_inAll_46 : decode cX8_inAll 46 = .ok (.getfield 307, 3) := by decide +kernel
theorem dX8_inAll_49 : decode cX8_inAll 49 = .ok (.iload 6, 2) := by decide +kernel
theorem dX8_inAll_51 : decode cX8_inAll 51 = .ok (.lshr, 1) := by decide +kernel
theorem dX8_inAll_52 : decode cX8_inAll 52 = .ok (.lconst 1, 1) := by decide +kernel
theorem dX8_inAll_53 : decode cX8_inAll 53 = .ok (.land, 1) := by decide +kernel
theorem dX8_inAll_54 : decode cX8_inAll 54 = .ok (.lconst 1, 1) := by decide +kernel
theorem dX8_inAll_55 : decode cX8_inAll 55 = .ok (.lcmp, 1) := by decide +kernel
theorem dX8_inAll_56 : decode cX8_inAll 56 = .ok (.ifCond .ne 16, 3) := by decide +kernel
theorem dX8_inAll_59 : decode cX8_inAll 59 = .ok (.iload 5, 2) := by decide +kernel
theorem dX8_inAll_61 : decode cX8_inAll 61 = .ok (.iload 4, 2) := by decide +kernel
theorem dX8_inAll_63 : decode cX8_inAll 63 = .ok (.if_icmp .ne 6, 3) := by decide +kernel
theorem dX8_inAll_66 : decode cX8_inAll 66 = .ok (.iload 6, 2) := by decide +kernel
theorem dX8_inAll_68 : decode cX8_inAll 68 = .ok (.ireturn, 1) := by decide +kernel
theorem dX8_inAll_69 : decode cX8_inAll 69 = .ok (.iinc 5 1, 3) := by decide +kernel
theorem dX8_inAll_72 : decode cX8_inAll 72 = .ok (.iinc 6 1, 3) := by decide +kernel
theorem dX8_inAll_75 : decode cX8_inAll 75 = .ok (.goto (-37), 3) := by decide +kernel
theorem dX8_inAll_78 : decode cX8_inAll 78 = .ok (.iconst (-1), 1) := by decide +kernel
theorem dX8_inAll_79 : decode cX8_inAll 79 = .ok (.ireturn, 1) := by decide +kernel
theorem dX8_isPicked_0 : decode cX8_isPicked 0 = .ok (.iconst 0, 1) := by decide +kernel
theorem dX8_isPicked_1 : decode cX8_isPicked 1 = .ok (.istore_n 2, 1) := by decide +kernel
theorem dX8_isPicked_2 : decode cX8_isPicked 2 = .ok (.iconst 0, 1) := by decide +kernel
theorem dX8_isPicked_3 : decode cX8_isPicked 3 = .ok (.istore_n 3, 1) := by decide +kernel
theorem dX8_isPicked_4 : decode cX8_isPicked 4 = .ok (.iload_n 3, 1) := by decide +kernel
theorem dX8_isPicked_5 : decode cX8_isPicked 5 = .ok (.aload_n 0, 1) := by decide +kernel
theorem dX8_isPicked_6 : decode cX8_isPicked 6 = .ok (.getfield 283, 3) := by decide +kernel
theorem dX8_isPicked_9 : decode cX8_isPicked 9 = .ok (.if_icmp .ge 29, 3) := by decide +kernel
theorem dX8_isPicked_12 : decode cX8_isPicked 12 = .ok (.iload_n 2, 1) := by decide +kernel
theorem dX8_isPicked_13 : decode cX8_isPicked 13 = .ok (.ifCond .ne 13, 3) := by decide +kernel
theorem dX8_isPicked_16 : decode cX8_isPicked 16 = .ok (.aload_n 0, 1) := by decide +kernel
theorem dX8_isPicked_17 : decode cX8_isPicked 17 = .ok (.getfield 64, 3) := by decide +kernel
theorem dX8_isPicked_20 : decode cX8_isPicked 20 = .ok (.iload_n 3, 1) := by decide +kernel
theorem dX8_isPicked_21 : decode cX8_isPicked 21 = .ok (.iaload, 1) := by decide +kernel
theorem dX8_isPicked_22 : decode cX8_isPicked 22 = .ok (.iload_n 1, 1) := by decide +kernel
theorem dX8_isPicked_23 : decode cX8_isPicked 23 = .ok (.if_icmp .ne 7, 3) := by decide +kernel
theorem dX8_isPicked_26 : decode cX8_isPicked 26 = .ok (.iconst 1, 1) := by decide +kernel
theorem dX8_isPicked_27 : decode cX8_isPicked 27 = .ok (.goto 4, 3) := by decide +kernel
theorem dX8_isPicked_30 : decode cX8_isPicked 30 = .ok (.iconst 0, 1) := by decide +kernel
theorem dX8_isPicked_31 : decode cX8_isPicked 31 = .ok (.istore_n 2, 1) := by decide +kernel
theorem dX8_isPicked_32 : decode cX8_isPicked 32 = .ok (.iinc 3 1, 3) := by decide +kernel
theorem dX8_isPicked_35 : decode cX8_isPicked 35 = .ok (.goto (-31), 3) := by decide +kernel
theorem dX8_isPicked_38 : decode cX8_isPicked 38 = .ok (.iload_n 2, 1) := by decide +kernel
theorem dX8_isPicked_39 : decode cX8_isPicked 39 = .ok (.ireturn, 1) := by decide +kernel
theorem dX8_framed_0 : decode cX8_framed 0 = .ok (.iload_n 1, 1) := by decide +kernel
theorem dX8_framed_1 : decode cX8_framed 1 = .ok (.invokestatic 76, 3) := by decide +kernel
theorem dX8_framed_4 : decode cX8_framed 4 = .ok (.ifCond .ne 7, 3) := by decide +kernel
theorem dX8_framed_7 : decode cX8_framed 7 = .ok (.sipush (-1001), 3) := by decide +kernel
theorem dX8_framed_10 : decode cX8_framed 10 = .ok (.ireturn, 1) := by decide +kernel
theorem dX8_framed_11 : decode cX8_framed 11 = .ok (.iload_n 2, 1) := by decide +kernel
theorem dX8_framed_12 : decode cX8_framed 12 = .ok (.i2l, 1) := by decide +kernel
theorem dX8_framed_13 : decode cX8_framed 13 = .ok (.lconst 1, 1) := by decide +kernel
theorem dX8_framed_14 : decode cX8_framed 14 = .ok (.ldc2_w 84, 3) := by decide +kernel
theorem dX8_framed_17 : decode cX8_framed 17 = .ok (.invokestatic 70, 3) := by decide +kernel
theorem dX8_framed_20 : decode cX8_framed 20 = .ok (.ifCond .ne 7, 3) := by decide +kernel
theorem dX8_framed_23 : decode cX8_framed 23 = .ok (.sipush (-1002), 3) := by decide +kernel
theorem dX8_framed_26 : decode cX8_framed 26 = .ok (.ireturn, 1) := by decide +kernel
theorem dX8_framed_27 : decode cX8_framed 27 = .ok (.lconst 0, 1) := by decide +kernel
theorem dX8_framed_28 : decode cX8_framed 28 = .ok (.lstore_n 3, 1) := by decide +kernel
theorem dX8_framed_29 : decode cX8_framed 29 = .ok (.aload_n 0, 1) := by decide +kernel
theorem dX8_framed_30 : decode cX8_framed 30 = .ok (.invokevirtual 289, 3) := by decide +kernel
theorem dX8_framed_33 : decode cX8_framed 33 = .ok (.aload_n 0, 1) := by decide +kernel
theorem dX8_framed_34 : decode cX8_framed 34 = .ok (.iload_n 1, 1) := by decide +kernel
theorem dX8_framed_35 : decode cX8_framed 35 = .ok (.iload_n 2, 1) := by decide +kernel
theorem dX8_framed_36 : decode cX8_framed 36 = .ok (.invokevirtual 292, 3) := by decide +kernel
theorem dX8_framed_39 : decode cX8_framed 39 = .ok (.ifCond .eq 100, 3) := by decide +kernel
theorem dX8_framed_42 : decode cX8_framed 42 = .ok (.aload_n 0, 1) := by decide +kernel
theorem dX8_framed_43 : decode cX8_framed 43 = .ok (.iload_n 1, 1) := by decide +kernel
theorem dX8_framed_44 : decode cX8_framed 44 = .ok (.invokevirtual 310, 3) := by decide +kernel
theorem dX8_framed_47 : decode cX8_framed 47 = .ok (.istore 5, 2) := by decide +kernel
theorem dX8_framed_49 : decode cX8_framed 49 = .ok (.aload_n 0, 1) := by decide +kernel
theorem dX8_framed_50 : decode cX8_framed 50 = .ok (.iload_n 1, 1) := by decide +kernel
theorem dX8_framed_51 : decode cX8_framed 51 = .ok (.invokevirtual 295, 3) := by decide +kernel
theorem dX8_framed_54 : decode cX8_framed 54 = .ok (.istore 6, 2) := by decide +kernel
theorem dX8_framed_56 : decode cX8_framed 56 = .ok (.iconst 0, 1) := by decide +kernel
theorem dX8_framed_57 : decode cX8_framed 57 = .ok (.istore 7, 2) := by decide +kernel
theorem dX8_framed_59 : decode cX8_framed 59 = .ok (.iload 7, 2) := by decide +kernel
theorem dX8_framed_61 : decode cX8_framed 61 = .ok (.aload_n 0, 1) := by decide +kernel
theorem dX8_framed_62 : decode cX8_framed 62 = .ok (.getfield 16, 3) := by decide +kernel
theorem dX8_framed_65 : decode cX8_framed 65 = .ok (.iload_n 1, 1) := by decide +kernel
theorem dX8_framed_66 : decode cX8_framed 66 = .ok (.iaload, 1) := by decide +kernel
theorem dX8_framed_67 : decode cX8_framed 67 = .ok (.if_icmp .ge 69, 3) := by decide +kernel
theorem dX8_framed_70 : decode cX8_framed 70 = .ok (.lload_n 3, 1) := by decide +kernel
theorem dX8_framed_71 : decode cX8_framed 71 = .ok (.iload 7, 2) := by decide +kernel
theorem dX8_framed_73 : decode cX8_framed 73 = .ok (.lshr, 1) := by decide +kernel
theorem dX8_framed_74 : decode cX8_framed 74 = .ok (.lconst 1, 1) := by decide +kernel
theorem dX8_framed_75 : decode cX8_framed 75 = .ok (.land, 1) := by decide +kernel
theorem dX8_framed_76 : decode cX8_framed 76 = .ok (.lconst 0, 1) := by decide +kernel
theorem dX8_framed_77 : decode cX8_framed 77 = .ok (.lcmp, 1) := by decide +kernel
theorem dX8_framed_78 : decode cX8_framed 78 = .ok (.ifCond .ne 24, 3) := by decide +kernel
theorem dX8_framed_81 : decode cX8_framed 81 = .ok (.iload 5, 2) := by decide +kernel
theorem dX8_framed_83 : decode cX8_framed 83 = .ok (.iload 6, 2) := by decide +kernel
theorem dX8_framed_85 : decode cX8_framed 85 = .ok (.aload_n 0, 1) := by decide +kernel
theorem dX8_framed_86 : decode cX8_framed 86 = .ok (.iload_n 1, 1) := by decide +kernel
theorem dX8_framed_87 : decode cX8_framed 87 = .ok (.iload 7, 2) := by decide +kernel
theorem dX8_framed_89 : decode cX8_framed 89 = .ok (.invokevirtual 138, 3) := by decide +kernel
theorem dX8_framed_92 : decode cX8_framed 92 = .ok (.invokestatic 298, 3) := by decide +kernel
theorem dX8_framed_95 : decode cX8_framed 95 = .ok (.ifCond .eq 7, 3) := by decide +kernel
theorem dX8_framed_98 : decode cX8_framed 98 = .ok (.iconst 1, 1) := by decide +kernel
theorem dX8_framed_99 : decode cX8_framed 99 = .ok (.goto 4, 3) := by decide +kernel
theorem dX8_framed_102 : decode cX8_framed 102 = .ok (.iconst 0, 1) := by decide +kernel
theorem dX8_framed_103 : decode cX8_framed 103 = .ok (.istore 8, 2) := by decide +kernel
theorem dX8_framed_105 : decode cX8_framed 105 = .ok (.lload_n 3, 1) := by decide +kernel
theorem dX8_framed_106 : decode cX8_framed 106 = .ok (.iload 8, 2) := by decide +kernel
theorem dX8_framed_108 : decode cX8_framed 108 = .ok (.ifCond .eq 19, 3) := by decide +kernel
theorem dX8_framed_111 : decode cX8_framed 111 = .ok (.aload_n 0, 1) := by decide +kernel
theorem dX8_framed_112 : decode cX8_framed 112 = .ok (.iload 7, 2) := by decide +kernel
theorem dX8_framed_114 : decode cX8_framed 114 = .ok (.invokevirtual 317, 3) := by decide +kernel
theorem dX8_framed_117 : decode cX8_framed 117 = .ok (.ifCond .ne 10, 3) := by decide +kernel
theorem dX8_framed_120 : decode cX8_framed 120 = .ok (.lconst 1, 1) := by decide +kernel
theorem dX8_framed_121 : decode cX8_framed 121 = .ok (.iload 7, 2) := by decide +kernel
theorem dX8_framed_123 : decode cX8_framed 123 = .ok (.lshl, 1) := by decide +kernel
theorem dX8_framed_124 : decode cX8_framed 124 = .ok (.goto 4, 3) := by decide +kernel
theorem dX8_framed_127 : decode cX8_framed 127 = .ok (.lconst 0, 1) := by decide +kernel
theorem dX8_framed_128 : decode cX8_framed 128 = .ok (.lor, 1) := by decide +kernel
theorem dX8_framed_129 : decode cX8_framed 129 = .ok (.lstore_n 3, 1) := by decide +kernel
theorem dX8_framed_130 : decode cX8_framed 130 = .ok (.iinc 7 1, 3) := by decide +kernel
theorem dX8_framed_133 : decode cX8_framed 133 = .ok (.goto (-74), 3) := by decide +kernel
theorem dX8_framed_136 : decode cX8_framed 136 = .ok (.goto (-103), 3) := by decide +kernel
theorem dX8_framed_139 : decode cX8_framed 139 = .ok (.iconst 0, 1) := by decide +kernel
theorem dX8_framed_140 : decode cX8_framed 140 = .ok (.istore 5, 2) := by decide +kernel
theorem dX8_framed_142 : decode cX8_framed 142 = .ok (.iconst 0, 1) := by decide +kernel
theorem dX8_framed_143 : decode cX8_framed 143 = .ok (.istore 6, 2) := by decide +kernel
theorem dX8_framed_145 : decode cX8_framed 145 = .ok (.iload 6, 2) := by decide +kernel
theorem dX8_framed_147 : decode cX8_framed 147 = .ok (.bipush 64, 2) := by decide +kernel
theorem dX8_framed_149 : decode cX8_framed 149 = .ok (.if_icmp .ge 21, 3) := by decide +kernel
theorem dX8_framed_152 : decode cX8_framed 152 = .ok (.iload 5, 2) := by decide +kernel
theorem dX8_framed_154 : decode cX8_framed 154 = .ok (.lload_n 3, 1) := by decide +kernel
theorem dX8_framed_155 : decode cX8_framed 155 = .ok (.iload 6, 2) := by decide +kernel
theorem dX8_framed_157 : decode cX8_framed 157 = .ok (.lshr, 1) := by decide +kernel
theorem dX8_framed_158 : decode cX8_framed 158 = .ok (.lconst 1, 1) := by decide +kernel
theorem dX8_framed_159 : decode cX8_framed 159 = .ok (.land, 1) := by decide +kernel
theorem dX8_framed_160 : decode cX8_framed 160 = .ok (.l2i, 1) := by decide +kernel
theorem dX8_framed_161 : decode cX8_framed 161 = .ok (.iadd, 1) := by decide +kernel
theorem dX8_framed_162 : decode cX8_framed 162 = .ok (.istore 5, 2) := by decide +kernel
theorem dX8_framed_164 : decode cX8_framed 164 = .ok (.iinc 6 1, 3) := by decide +kernel
theorem dX8_framed_167 : decode cX8_framed 167 = .ok (.goto (-22), 3) := by decide +kernel
theorem dX8_framed_170 : decode cX8_framed 170 = .ok (.iload 5, 2) := by decide +kernel
theorem dX8_framed_172 : decode cX8_framed 172 = .ok (.ireturn, 1) := by decide +kernel
