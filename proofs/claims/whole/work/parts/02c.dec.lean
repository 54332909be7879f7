theorem dX8_init_0 : decode cX8_init 0 = .ok (.aload_n 0, 1) := by decide +kernel
theorem dX8_init_1 : decode cX8_init 1 = .ok (.invokespecial 1, 3) := by decide +kernel
theorem dX8_init_4 : decode cX8_init 4 = .ok (.aload_n 0, 1) := by decide +kernel
theorem dX8_init_5 : decode cX8_init 5 = .ok (.sipush 525, 3) := by decide +kernel
theorem dX8_init_8 : decode cX8_init 8 = .ok (.newarray .int, 2) := by decide +kernel
theorem dX8_init_10 : decode cX8_init 10 = .ok (.putfield 7, 3) := by decide +kernel
theorem dX8_init_13 : decode cX8_init 13 = .ok (.aload_n 0, 1) := by decide +kernel
theorem dX8_init_14 : decode cX8_init 14 = .ok (.iconst 4, 1) := by decide +kernel
theorem dX8_init_15 : decode cX8_init 15 = .ok (.newarray .int, 2) := by decide +kernel
theorem dX8_init_17 : decode cX8_init 17 = .ok (.putfield 13, 3) := by decide +kernel
theorem dX8_init_20 : decode cX8_init 20 = .ok (.aload_n 0, 1) := by decide +kernel
theorem dX8_init_21 : decode cX8_init 21 = .ok (.iconst 4, 1) := by decide +kernel
theorem dX8_init_22 : decode cX8_init 22 = .ok (.newarray .int, 2) := by decide +kernel
theorem dX8_init_24 : decode cX8_init 24 = .ok (.dup, 1) := by decide +kernel
theorem dX8_init_25 : decode cX8_init 25 = .ok (.iconst 0, 1) := by decide +kernel
theorem dX8_init_26 : decode cX8_init 26 = .ok (.iconst (-1), 1) := by decide +kernel
theorem dX8_init_27 : decode cX8_init 27 = .ok (.iastore, 1) := by decide +kernel
theorem dX8_init_28 : decode cX8_init 28 = .ok (.dup, 1) := by decide +kernel
theorem dX8_init_29 : decode cX8_init 29 = .ok (.iconst 1, 1) := by decide +kernel
theorem dX8_init_30 : decode cX8_init 30 = .ok (.iconst (-1), 1) := by decide +kernel
theorem dX8_init_31 : decode cX8_init 31 = .ok (.iastore, 1) := by decide +kernel
theorem dX8_init_32 : decode cX8_init 32 = .ok (.dup, 1) := by decide +kernel
theorem dX8_init_33 : decode cX8_init 33 = .ok (.iconst 2, 1) := by decide +kernel
theorem dX8_init_34 : decode cX8_init 34 = .ok (.iconst (-1), 1) := by decide +kernel
theorem dX8_init_35 : decode cX8_init 35 = .ok (.iastore, 1) := by decide +kernel
theorem dX8_init_36 : decode cX8_init 36 = .ok (.dup, 1) := by decide +kernel
theorem dX8_init_37 : decode cX8_init 37 = .ok (.iconst 3, 1) := by decide +kernel
theorem dX8_init_38 : decode cX8_init 38 = .ok (.iconst (-1), 1) := by decide +kernel
theorem dX8_init_39 : decode cX8_init 39 = .ok (.iastore, 1) := by decide +kernel
theorem dX8_init_40 : decode cX8_init 40 = .ok (.putfield 16, 3) := by decide +kernel
theorem dX8_init_43 : decode cX8_init 43 = .ok (.aload_n 0, 1) := by decide +kernel
theorem dX8_init_44 : decode cX8_init 44 = .ok (.bipush 96, 2) := by decide +kernel
theorem dX8_init_46 : decode cX8_init 46 = .ok (.newarray .long, 2) := by decide +kernel
theorem dX8_init_48 : decode cX8_init 48 = .ok (.putfield 19, 3) := by decide +kernel
theorem dX8_init_51 : decode cX8_init 51 = .ok (.aload_n 0, 1) := by decide +kernel
theorem dX8_init_52 : decode cX8_init 52 = .ok (.bipush 110, 2) := by decide +kernel
theorem dX8_init_54 : decode cX8_init 54 = .ok (.newarray .int, 2) := by decide +kernel
theorem dX8_init_56 : decode cX8_init 56 = .ok (.putfield 23, 3) := by decide +kernel
theorem dX8_init_59 : decode cX8_init 59 = .ok (.aload_n 0, 1) := by decide +kernel
theorem dX8_init_60 : decode cX8_init 60 = .ok (.bipush 12, 2) := by decide +kernel
theorem dX8_init_62 : decode cX8_init 62 = .ok (.newarray .int, 2) := by decide +kernel
theorem dX8_init_64 : decode cX8_init 64 = .ok (.putfield 26, 3) := by decide +kernel
theorem dX8_init_67 : decode cX8_init 67 = .ok (.aload_n 0, 1) := by decide +kernel
theorem dX8_init_68 : decode cX8_init 68 = .ok (.bipush 12, 2) := by decide +kernel
theorem dX8_init_70 : decode cX8_init 70 = .ok (.newarray .int, 2) := by decide +kernel
theorem dX8_init_72 : decode cX8_init 72 = .ok (.putfield 29, 3) := by decide +kernel
theorem dX8_init_75 : decode cX8_init 75 = .ok (.aload_n 0, 1) := by decide +kernel
theorem dX8_init_76 : decode cX8_init 76 = .ok (.bipush 10, 2) := by decide +kernel
theorem dX8_init_78 : decode cX8_init 78 = .ok (.newarray .int, 2) := by decide +kernel
theorem dX8_init_80 : decode cX8_init 80 = .ok (.putfield 32, 3) := by decide +kernel
theorem dX8_init_83 : decode cX8_init 83 = .ok (.aload_n 0, 1) := by decide +kernel
theorem dX8_init_84 : decode cX8_init 84 = .ok (.iconst 5, 1) := by decide +kernel
theorem dX8_init_85 : decode cX8_init 85 = .ok (.newarray .int, 2) := by decide +kernel
theorem dX8_init_87 : decode cX8_init 87 = .ok (.putfield 35, 3) := by decide +kernel
theorem dX8_init_90 : decode cX8_init 90 = .ok (.aload_n 0, 1) := by decide +kernel
theorem dX8_init_91 : decode cX8_init 91 = .ok (.iconst 5, 1) := by decide +kernel
theorem dX8_init_92 : decode cX8_init 92 = .ok (.newarray .int, 2) := by decide +kernel
theorem dX8_init_94 : decode cX8_init 94 = .ok (.putfield 38, 3) := by decide +kernel
theorem dX8_init_97 : decode cX8_init 97 = .ok (.aload_n 0, 1) := by decide +kernel
theorem dX8_init_98 : decode cX8_init 98 = .ok (.sipush 1407, 3) := by decide +kernel
theorem dX8_init_101 : decode cX8_init 101 = .ok (.newarray .int, 2) := by decide +kernel
theorem dX8_init_103 : decode cX8_init 103 = .ok (.putfield 41, 3) := by decide +kernel
theorem dX8_init_106 : decode cX8_init 106 = .ok (.aload_n 0, 1) := by decide +kernel
theorem dX8_init_107 : decode cX8_init 107 = .ok (.bipush 24, 2) := by decide +kernel
theorem dX8_init_109 : decode cX8_init 109 = .ok (.newarray .long, 2) := by decide +kernel
theorem dX8_init_111 : decode cX8_init 111 = .ok (.putfield 44, 3) := by decide +kernel
theorem dX8_init_114 : decode cX8_init 114 = .ok (.aload_n 0, 1) := by decide +kernel
theorem dX8_init_115 : decode cX8_init 115 = .ok (.getfield 7, 3) := by decide +kernel
theorem dX8_init_118 : decode cX8_init 118 = .ok (.bipush 25, 2) := by decide +kernel
theorem dX8_init_120 : decode cX8_init 120 = .ok (.iconst 1, 1) := by decide +kernel
theorem dX8_init_121 : decode cX8_init 121 = .ok (.iastore, 1) := by decide +kernel
theorem dX8_init_122 : decode cX8_init 122 = .ok (.aload_n 0, 1) := by decide +kernel
theorem dX8_init_123 : decode cX8_init 123 = .ok (.getfield 7, 3) := by decide +kernel
theorem dX8_init_126 : decode cX8_init 126 = .ok (.iconst 2, 1) := by decide +kernel
theorem dX8_init_127 : decode cX8_init 127 = .ok (.iconst 1, 1) := by decide +kernel
theorem dX8_init_128 : decode cX8_init 128 = .ok (.iastore, 1) := by decide +kernel
theorem dX8_init_129 : decode cX8_init 129 = .ok (.return_, 1) := by decide +kernel
theorem dX8_in_0 : decode cX8_in 0 = .ok (.lload_n 0, 1) := by decide +kernel
theorem dX8_in_1 : decode cX8_in 1 = .ok (.lload_n 2, 1) := by decide +kernel
theorem dX8_in_2 : decode cX8_in 2 = .ok (.lcmp, 1) := by decide +kernel
theorem dX8_in_3 : decode cX8_in 3 = .ok (.ifCond .lt 14, 3) := by decide +kernel
theorem dX8_in_6 : decode cX8_in 6 = .ok (.lload_n 0, 1) := by decide +kernel
theorem dX8_in_7 : decode cX8_in 7 = .ok (.lload 4, 2) := by decide +kernel
theorem dX8_in_9 : decode cX8_in 9 = .ok (.lcmp, 1) := by decide +kernel
theorem dX8_in_10 : decode cX8_in 10 = .ok (.ifCond .gt 7, 3) := by decide +kernel
theorem dX8_in_13 : decode cX8_in 13 = .ok (.iconst 1, 1) := by decide +kernel
theorem dX8_in_14 : decode cX8_in 14 = .ok (.goto 4, 3) := by decide +kernel
theorem dX8_in_17 : decode cX8_in 17 = .ok (.iconst 0, 1) := by decide +kernel
theorem dX8_in_18 : decode cX8_in 18 = .ok (.ireturn, 1) := by decide +kernel
theorem dX8_has_0 : decode cX8_has 0 = .ok (.iload_n 0, 1) := by decide +kernel
theorem dX8_has_1 : decode cX8_has 1 = .ok (.iload_n 1, 1) := by decide +kernel
theorem dX8_has_2 : decode cX8_has 2 = .ok (.ishr, 1) := by decide +kernel
theorem dX8_has_3 : decode cX8_has 3 = .ok (.iconst 1, 1) := by decide +kernel
theorem dX8_has_4 : decode cX8_has 4 = .ok (.iand, 1) := by decide +kernel
theorem dX8_has_5 : decode cX8_has 5 = .ok (.iconst 1, 1) := by decide +kernel
theorem dX8_has_6 : decode cX8_has 6 = .ok (.if_icmp .ne 7, 3) := by decide +kernel
theorem dX8_has_9 : decode cX8_has 9 = .ok (.iconst 1, 1) := by decide +kernel
theorem dX8_has_10 : decode cX8_has 10 = .ok (.goto 4, 3) := by decide +kernel
theorem dX8_has_13 : decode cX8_has 13 = .ok (.iconst 0, 1) := by decide +kernel
theorem dX8_has_14 : decode cX8_has 14 = .ok (.ireturn, 1) := by decide +kernel
theorem dX8_bits_0 : decode cX8_bits 0 = .ok (.iconst 0, 1) := by decide +kernel
theorem dX8_bits_1 : decode cX8_bits 1 = .ok (.istore_n 1, 1) := by decide +kernel
theorem dX8_bits_2 : decode cX8_bits 2 = .ok (.iconst 0, 1) := by decide +kernel
theorem dX8_bits_3 : decode cX8_bits 3 = .ok (.istore_n 2, 1) := by decide +kernel
theorem dX8_bits_4 : decode cX8_bits 4 = .ok (.iload_n 2, 1) := by decide +kernel
theorem dX8_bits_5 : decode cX8_bits 5 = .ok (.bipush 6, 2) := by decide +kernel
theorem dX8_bits_7 : decode cX8_bits 7 = .ok (.if_icmp .ge 17, 3) := by decide +kernel
theorem dX8_bits_10 : decode cX8_bits 10 = .ok (.iload_n 1, 1) := by decide +kernel
theorem dX8_bits_11 : decode cX8_bits 11 = .ok (.iload_n 0, 1) := by decide +kernel
theorem dX8_bits_12 : decode cX8_bits 12 = .ok (.iload_n 2, 1) := by decide +kernel
theorem dX8_bits_13 : decode cX8_bits 13 = .ok (.ishr, 1) := by decide +kernel
theorem dX8_bits_14 : decode cX8_bits 14 = .ok (.iconst 1, 1) := by decide +kernel
theorem dX8_bits_15 : decode cX8_bits 15 = .ok (.iand, 1) := by decide +kernel
theorem dX8_bits_16 : decode cX8_bits 16 = .ok (.iadd, 1) := by decide +kernel
theorem dX8_bits_17 : decode cX8_bits 17 = .ok (.istore_n 1, 1) := by decide +kernel
theorem dX8_bits_18 : decode cX8_bits 18 = .ok (.iinc 2 1, 3) := by decide +kernel
theorem dX8_bits_21 : decode cX8_bits 21 = .ok (.goto (-17), 3) := by decide +kernel
theorem dX8_bits_24 : decode cX8_bits 24 = .ok (.iload_n 1, 1) := by decide +kernel
theorem dX8_bits_25 : decode cX8_bits 25 = .ok (.ireturn, 1) := by decide +kernel
theorem dX8_most_0 : decode cX8_most 0 = .ok (.iload_n 0, 1) := by decide +kernel
theorem dX8_most_1 : decode cX8_most 1 = .ok (.iload_n 1, 1) := by decide +kernel
theorem dX8_most_2 : decode cX8_most 2 = .ok (.if_icmp .le 7, 3) := by decide +kernel
theorem dX8_most_5 : decode cX8_most 5 = .ok (.iload_n 1, 1) := by decide +kernel
theorem dX8_most_6 : decode cX8_most 6 = .ok (.goto 4, 3) := by decide +kernel
theorem dX8_most_9 : decode cX8_most 9 = .ok (.iload_n 0, 1) := by decide +kernel
theorem dX8_most_10 : decode cX8_most 10 = .ok (.ireturn, 1) := by decide +kernel
theorem dX8_least_0 : decode cX8_least 0 = .ok (.iload_n 0, 1) := by decide +kernel
theorem dX8_least_1 : decode cX8_least 1 = .ok (.ifCond .ge 7, 3) := by decide +kernel
theorem dX8_least_4 : decode cX8_least 4 = .ok (.iconst 0, 1) := by decide +kernel
theorem dX8_least_5 : decode cX8_least 5 = .ok (.goto 4, 3) := by decide +kernel
theorem dX8_least_8 : decode cX8_least 8 = .ok (.iload_n 0, 1) := by decide +kernel
theorem dX8_least_9 : decode cX8_least 9 = .ok (.ireturn, 1) := by decide +kernel
theorem dX8_isCell_0 : decode cX8_isCell 0 = .ok (.iload_n 1, 1) := by decide +kernel
theorem dX8_isCell_1 : decode cX8_isCell 1 = .ok (.i2l, 1) := by decide +kernel
theorem dX8_isCell_2 : decode cX8_isCell 2 = .ok (.lconst 0, 1) := by decide +kernel
theorem dX8_isCell_3 : decode cX8_isCell 3 = .ok (.aload_n 0, 1) := by decide +kernel
theorem dX8_isCell_4 : decode cX8_isCell 4 = .ok (.getfield 7, 3) := by decide +kernel
theorem dX8_isCell_7 : decode cX8_isCell 7 = .ok (.bipush 26, 2) := by decide +kernel
theorem dX8_isCell_9 : decode cX8_isCell 9 = .ok (.iaload, 1) := by decide +kernel
theorem dX8_isCell_10 : decode cX8_isCell 10 = .ok (.iconst 1, 1) := by decide +kernel
theorem dX8_isCell_11 : decode cX8_isCell 11 = .ok (.isub, 1) := by decide +kernel
theorem dX8_isCell_12 : decode cX8_isCell 12 = .ok (.i2l, 1) := by decide +kernel
theorem dX8_isCell_13 : decode cX8_isCell 13 = .ok (.invokestatic 47, 3) := by decide +kernel
theorem dX8_isCell_16 : decode cX8_isCell 16 = .ok (.ireturn, 1) := by decide +kernel
theorem dX8_isPerson_0 : decode cX8_isPerson 0 = .ok (.iload_n 1, 1) := by decide +kernel
theorem dX8_isPerson_1 : decode cX8_isPerson 1 = .ok (.i2l, 1) := by decide +kernel
theorem dX8_isPerson_2 : decode cX8_isPerson 2 = .ok (.lconst 0, 1) := by decide +kernel
theorem dX8_isPerson_3 : decode cX8_isPerson 3 = .ok (.aload_n 0, 1) := by decide +kernel
theorem dX8_isPerson_4 : decode cX8_isPerson 4 = .ok (.getfield 7, 3) := by decide +kernel
theorem dX8_isPerson_7 : decode cX8_isPerson 7 = .ok (.bipush 27, 2) := by decide +kernel
theorem dX8_isPerson_9 : decode cX8_isPerson 9 = .ok (.iaload, 1) := by decide +kernel
theorem dX8_isPerson_10 : decode cX8_isPerson 10 = .ok (.iconst 1, 1) := by decide +kernel
theorem dX8_isPerson_11 : decode cX8_isPerson 11 = .ok (.isub, 1) := by decide +kernel
theorem dX8_isPerson_12 : decode cX8_isPerson 12 = .ok (.i2l, 1) := by decide +kernel
theorem dX8_isPerson_13 : decode cX8_isPerson 13 = .ok (.invokestatic 47, 3) := by decide +kernel
theorem dX8_isPerson_16 : decode cX8_isPerson 16 = .ok (.ireturn, 1) := by decide +kernel
theorem dX8_isSaying_0 : decode cX8_isSaying 0 = .ok (.iload_n 1, 1) := by decide +kernel
theorem dX8_isSaying_1 : decode cX8_isSaying 1 = .ok (.i2l, 1) := by decide +kernel
theorem dX8_isSaying_2 : decode cX8_isSaying 2 = .ok (.lconst 0, 1) := by decide +kernel
theorem dX8_isSaying_3 : decode cX8_isSaying 3 = .ok (.aload_n 0, 1) := by decide +kernel
theorem dX8_isSaying_4 : decode cX8_isSaying 4 = .ok (.getfield 7, 3) := by decide +kernel
theorem dX8_isSaying_7 : decode cX8_isSaying 7 = .ok (.bipush 28, 2) := by decide +kernel
theorem dX8_isSaying_9 : decode cX8_isSaying 9 = .ok (.iaload, 1) := by decide +kernel
theorem dX8_isSaying_10 : decode cX8_isSaying 10 = .ok (.iconst 1, 1) := by decide +kernel
theorem dX8_isSaying_11 : decode cX8_isSaying 11 = .ok (.isub, 1) := by decide +kernel
theorem dX8_isSaying_12 : decode cX8_isSaying 12 = .ok (.i2l, 1) := by decide +kernel
theorem dX8_isSaying_13 : decode cX8_isSaying 13 = .ok (.invokestatic 47, 3) := by decide +kernel
theorem dX8_isSaying_16 : decode cX8_isSaying 16 = .ok (.ireturn, 1) := by decide +kernel
theorem dX8_everybody_0 : decode cX8_everybody 0 = .ok (.iconst 1, 1) := by decide +kernel
theorem dX8_everybody_1 : decode cX8_everybody 1 = .ok (.aload_n 0, 1) := by decide +kernel
theorem dX8_everybody_2 : decode cX8_everybody 2 = .ok (.getfield 7, 3) := by decide +kernel
theorem dX8_everybody_5 : decode cX8_everybody 5 = .ok (.bipush 27, 2) := by decide +kernel
theorem dX8_everybody_7 : decode cX8_everybody 7 = .ok (.iaload, 1) := by decide +kernel
theorem dX8_everybody_8 : decode cX8_everybody 8 = .ok (.ishl, 1) := by decide +kernel
theorem dX8_everybody_9 : decode cX8_everybody 9 = .ok (.iconst 1, 1) := by decide +kernel
theorem dX8_everybody_10 : decode cX8_everybody 10 = .ok (.isub, 1) := by decide +kernel
theorem dX8_everybody_11 : decode cX8_everybody 11 = .ok (.ireturn, 1) := by decide +kernel
theorem dX8_addCell_0 : decode cX8_addCell 0 = .ok (.aload_n 0, 1) := by decide +kernel
theorem dX8_addCell_1 : decode cX8_addCell 1 = .ok (.getfield 7, 3) := by decide +kernel
theorem dX8_addCell_4 : decode cX8_addCell 4 = .ok (.iconst 3, 1) := by decide +kernel
theorem dX8_addCell_5 : decode cX8_addCell 5 = .ok (.aload_n 0, 1) := by decide +kernel
theorem dX8_addCell_6 : decode cX8_addCell 6 = .ok (.getfield 7, 3) := by decide +kernel
theorem dX8_addCell_9 : decode cX8_addCell 9 = .ok (.bipush 26, 2) := by decide +kernel
theorem dX8_addCell_11 : decode cX8_addCell 11 = .ok (.iaload, 1) := by decide +kernel
theorem dX8_addCell_12 : decode cX8_addCell 12 = .ok (.iadd, 1) := by decide +kernel
theorem dX8_addCell_13 : decode cX8_addCell 13 = .ok (.iload_n 1, 1) := by decide +kernel
theorem dX8_addCell_14 : decode cX8_addCell 14 = .ok (.iastore, 1) := by decide +kernel
theorem dX8_addCell_15 : decode cX8_addCell 15 = .ok (.aload_n 0, 1) := by decide +kernel
theorem dX8_addCell_16 : decode cX8_addCell 16 = .ok (.getfield 7, 3) := by decide +kernel
theorem dX8_addCell_19 : decode cX8_addCell 19 = .ok (.bipush 26, 2) := by decide +kernel
theorem dX8_addCell_21 : decode cX8_addCell 21 = .ok (.dup2, 1) := by decide +kernel
theorem dX8_addCell_22 : decode cX8_addCell 22 = .ok (.iaload, 1) := by decide +kernel
theorem dX8_addCell_23 : decode cX8_addCell 23 = .ok (.iconst 1, 1) := by decide +kernel
theorem dX8_addCell_24 : decode cX8_addCell 24 = .ok (.iadd, 1) := by decide +kernel
theorem dX8_addCell_25 : decode cX8_addCell 25 = .ok (.iastore, 1) := by decide +kernel
theorem dX8_addCell_26 : decode cX8_addCell 26 = .ok (.aload_n 0, 1) := by decide +kernel
theorem dX8_addCell_27 : decode cX8_addCell 27 = .ok (.getfield 7, 3) := by decide +kernel
theorem dX8_addCell_30 : decode cX8_addCell 30 = .ok (.bipush 41, 2) := by decide +kernel
theorem dX8_addCell_32 : decode cX8_addCell 32 = .ok (.iconst 0, 1) := by decide +kernel
theorem dX8_addCell_33 : decode cX8_addCell 33 = .ok (.iastore, 1) := by decide +kernel
theorem dX8_addCell_34 : decode cX8_addCell 34 = .ok (.return_, 1) := by decide +kernel
theorem dX8_cell_0 : decode cX8_cell 0 = .ok (.iload_n 1, 1) := by decide +kernel
theorem dX8_cell_1 : decode cX8_cell 1 = .ok (.i2l, 1) := by decide +kernel
theorem dX8_cell_2 : decode cX8_cell 2 = .ok (.lconst 0, 1) := by decide +kernel
theorem dX8_cell_3 : decode cX8_cell 3 = .ok (.ldc2_w 51, 3) := by decide +kernel
theorem dX8_cell_6 : decode cX8_cell 6 = .ok (.invokestatic 47, 3) := by decide +kernel
theorem dX8_cell_9 : decode cX8_cell 9 = .ok (.ifCond .ne 5, 3) := by decide +kernel
theorem dX8_cell_12 : decode cX8_cell 12 = .ok (.iconst (-1), 1) := by decide +kernel
theorem dX8_cell_13 : decode cX8_cell 13 = .ok (.ireturn, 1) := by decide +kernel
theorem dX8_cell_14 : decode cX8_cell 14 = .ok (.aload_n 0, 1) := by decide +kernel
theorem dX8_cell_15 : decode cX8_cell 15 = .ok (.getfield 7, 3) := by decide +kernel
theorem dX8_cell_18 : decode cX8_cell 18 = .ok (.bipush 26, 2) := by decide +kernel
theorem dX8_cell_20 : decode cX8_cell 20 = .ok (.iaload, 1) := by decide +kernel
theorem dX8_cell_21 : decode cX8_cell 21 = .ok (.bipush 12, 2) := by decide +kernel
theorem dX8_cell_23 : decode cX8_cell 23 = .ok (.if_icmp .ne 6, 3) := by decide +kernel
theorem dX8_cell_26 : decode cX8_cell 26 = .ok (.bipush (-3), 2) := by decide +kernel
theorem dX8_cell_28 : decode cX8_cell 28 = .ok (.ireturn, 1) := by decide +kernel
theorem dX8_cell_29 : decode cX8_cell 29 = .ok (.aload_n 0, 1) := by decide +kernel
theorem dX8_cell_30 : decode cX8_cell 30 = .ok (.iload_n 1, 1) := by decide +kernel
theorem dX8_cell_31 : decode cX8_cell 31 = .ok (.invokevirtual 53, 3) := by decide +kernel
theorem dX8_cell_34 : decode cX8_cell 34 = .ok (.aload_n 0, 1) := by decide +kernel
theorem dX8_cell_35 : decode cX8_cell 35 = .ok (.getfield 7, 3) := by decide +kernel
theorem dX8_cell_38 : decode cX8_cell 38 = .ok (.bipush 26, 2) := by decide +kernel
theorem dX8_cell_40 : decode cX8_cell 40 = .ok (.iaload, 1) := by decide +kernel
theorem dX8_cell_41 : decode cX8_cell 41 = .ok (.iconst 1, 1) := by decide +kernel
theorem dX8_cell_42 : decode cX8_cell 42 = .ok (.isub, 1) := by decide +kernel
theorem dX8_cell_43 : decode cX8_cell 43 = .ok (.ireturn, 1) := by decide +kernel
theorem dX8_addPerson_0 : decode cX8_addPerson 0 = .ok (.aload_n 0, 1) := by decide +kernel
theorem dX8_addPerson_1 : decode cX8_addPerson 1 = .ok (.getfield 7, 3) := by decide +kernel
theorem dX8_addPerson_4 : decode cX8_addPerson 4 = .ok (.bipush 29, 2) := by decide +kernel
theorem dX8_addPerson_6 : decode cX8_addPerson 6 = .ok (.aload_n 0, 1) := by decide +kernel
theorem dX8_addPerson_7 : decode cX8_addPerson 7 = .ok (.getfield 7, 3) := by decide +kernel
theorem dX8_addPerson_10 : decode cX8_addPerson 10 = .ok (.bipush 27, 2) := by decide +kernel
theorem dX8_addPerson_12 : decode cX8_addPerson 12 = .ok (.iaload, 1) := by decide +kernel
theorem dX8_addPerson_13 : decode cX8_addPerson 13 = .ok (.iadd, 1) := by decide +kernel
theorem dX8_addPerson_14 : decode cX8_addPerson 14 = .ok (.iload_n 1, 1) := by decide +kernel
theorem dX8_addPerson_15 : decode cX8_addPerson 15 = .ok (.iastore, 1) := by decide +kernel
theorem dX8_addPerson_16 : decode cX8_addPerson 16 = .ok (.aload_n 0, 1) := by decide +kernel
theorem dX8_addPerson_17 : decode cX8_addPerson 17 = .ok (.getfield 7, 3) := by decide +kernel
theorem dX8_addPerson_20 : decode cX8_addPerson 20 = .ok (.bipush 35, 2) := by decide +kernel
theorem dX8_addPerson_22 : decode cX8_addPerson 22 = .ok (.aload_n 0, 1) := by decide +kernel
theorem dX8_addPerson_23 : decode cX8_addPerson 23 = .ok (.getfield 7, 3) := by decide +kernel
theorem dX8_addPerson_26 : decode cX8_addPerson 26 = .ok (.bipush 27, 2) := by decide +kernel
theorem dX8_addPerson_28 : decode cX8_addPerson 28 = .ok (.iaload, 1) := by decide +kernel
theorem dX8_addPerson_29 : decode cX8_addPerson 29 = .ok (.iadd, 1) := by decide +kernel
theorem dX8_addPerson_30 : decode cX8_addPerson 30 = .ok (.iload_n 2, 1) := by decide +kernel
theorem dX8_addPerson_31 : decode cX8_addPerson 31 = .ok (.iastore, 1) := by decide +kernel
theorem dX8_addPerson_32 : decode cX8_addPerson 32 = .ok (.aload_n 0, 1) := by decide +kernel
theorem dX8_addPerson_33 : decode cX8_addPerson 33 = .ok (.getfield 7, 3) := by decide +kernel
theorem dX8_addPerson_36 : decode cX8_addPerson 36 = .ok (.bipush 27, 2) := by decide +kernel
theorem dX8_addPerson_38 : decode cX8_addPerson 38 = .ok (.dup2, 1) := by decide +kernel
theorem dX8_addPerson_39 : decode cX8_addPerson 39 = .ok (.iaload, 1) := by decide +kernel
theorem dX8_addPerson_40 : decode cX8_addPerson 40 = .ok (.iconst 1, 1) := by decide +kernel
theorem dX8_addPerson_41 : decode cX8_addPerson 41 = .ok (.iadd, 1) := by decide +kernel
theorem dX8_addPerson_42 : decode cX8_addPerson 42 = .ok (.iastore, 1) := by decide +kernel
theorem dX8_addPerson_43 : decode cX8_addPerson 43 = .ok (.aload_n 0, 1) := by decide +kernel
theorem dX8_addPerson_44 : decode cX8_addPerson 44 = .ok (.getfield 7, 3) := by decide +kernel
theorem dX8_addPerson_47 : decode cX8_addPerson 47 = .ok (.bipush 41, 2) := by decide +kernel
theorem dX8_addPerson_49 : decode cX8_addPerson 49 = .ok (.iconst 0, 1) := by decide +kernel
theorem dX8_addPerson_50 : decode cX8_addPerson 50 = .ok (.iastore, 1) := by decide +kernel
theorem dX8_addPerson_51 : decode cX8_addPerson 51 = .ok (.return_, 1) := by decide +kernel
theorem dX8_person_0 : decode cX8_person 0 = .ok (.iload_n 1, 1) := by decide +kernel
theorem dX8_person_1 : decode cX8_person 1 = .ok (.i2l, 1) := by decide +kernel
theorem dX8_person_2 : decode cX8_person 2 = .ok (.lconst 0, 1) := by decide +kernel
theorem dX8_person_3 : decode cX8_person 3 = .ok (.ldc2_w 57, 3) := by decide +kernel
theorem dX8_person_6 : decode cX8_person 6 = .ok (.invokestatic 47, 3) := by decide +kernel
theorem dX8_person_9 : decode cX8_person 9 = .ok (.ifCond .eq 15, 3) := by decide +kernel
theorem dX8_person_12 : decode cX8_person 12 = .ok (.iload_n 2, 1) := by decide +kernel
theorem dX8_person_13 : decode cX8_person 13 = .ok (.i2l, 1) := by decide +kernel
theorem dX8_person_14 : decode cX8_person 14 = .ok (.lconst 1, 1) := by decide +kernel
theorem dX8_person_15 : decode cX8_person 15 = .ok (.ldc2_w 59, 3) := by decide +kernel
theorem dX8_person_18 : decode cX8_person 18 = .ok (.invokestatic 47, 3) := by decide +kernel
theorem dX8_person_21 : decode cX8_person 21 = .ok (.ifCond .ne 5, 3) := by decide +kernel
theorem dX8_person_24 : decode cX8_person 24 = .ok (.iconst (-1), 1) := by decide +kernel
theorem dX8_person_25 : decode cX8_person 25 = .ok (.ireturn, 1) := by decide +kernel
theorem dX8_person_26 : decode cX8_person 26 = .ok (.aload_n 0, 1) := by decide +kernel
theorem dX8_person_27 : decode cX8_person 27 = .ok (.getfield 7, 3) := by decide +kernel
theorem dX8_person_30 : decode cX8_person 30 = .ok (.bipush 27, 2) := by decide +kernel
theorem dX8_person_32 : decode cX8_person 32 = .ok (.iaload, 1) := by decide +kernel
theorem dX8_person_33 : decode cX8_person 33 = .ok (.bipush 6, 2) := by decide +kernel
theorem dX8_person_35 : decode cX8_person 35 = .ok (.if_icmp .ne 6, 3) := by decide +kernel
theorem dX8_person_38 : decode cX8_person 38 = .ok (.bipush (-3), 2) := by decide +kernel
theorem dX8_person_40 : decode cX8_person 40 = .ok (.ireturn, 1) := by decide +kernel
theorem dX8_person_41 : decode cX8_person 41 = .ok (.aload_n 0, 1) := by decide +kernel
theorem dX8_person_42 : decode cX8_person 42 = .ok (.iload_n 1, 1) := by decide +kernel
theorem dX8_person_43 : decode cX8_person 43 = .ok (.iload_n 2, 1) := by decide +kernel
theorem dX8_person_44 : decode cX8_person 44 = .ok (.invokevirtual 61, 3) := by decide +kernel
theorem dX8_person_47 : decode cX8_person 47 = .ok (.aload_n 0, 1) := by decide +kernel
theorem dX8_person_48 : decode cX8_person 48 = .ok (.getfield 7, 3) := by decide +kernel
theorem dX8_person_51 : decode cX8_person 51 = .ok (.bipush 27, 2) := by decide +kernel
theorem dX8_person_53 : decode cX8_person 53 = .ok (.iaload, 1) := by decide +kernel
theorem dX8_person_54 : decode cX8_person 54 = .ok (.iconst 1, 1) := by decide +kernel
theorem dX8_person_55 : decode cX8_person 55 = .ok (.isub, 1) := by decide +kernel
theorem dX8_person_56 : decode cX8_person 56 = .ok (.ireturn, 1) := by decide +kernel
theorem dX8_addSaying_0 : decode cX8_addSaying 0 = .ok (.aload_n 0, 1) := by decide +kernel
theorem dX8_addSaying_1 : decode cX8_addSaying 1 = .ok (.getfield 7, 3) := by decide +kernel
theorem dX8_addSaying_4 : decode cX8_addSaying 4 = .ok (.bipush 15, 2) := by decide +kernel
theorem dX8_addSaying_6 : decode cX8_addSaying 6 = .ok (.aload_n 0, 1) := by decide +kernel
theorem dX8_addSaying_7 : decode cX8_addSaying 7 = .ok (.getfield 7, 3) := by decide +kernel
theorem dX8_addSaying_10 : decode cX8_addSaying 10 = .ok (.bipush 28, 2) := by decide +kernel
theorem dX8_addSaying_12 : decode cX8_addSaying 12 = .ok (.iaload, 1) := by decide +kernel
theorem dX8_addSaying_13 : decode cX8_addSaying 13 = .ok (.iadd, 1) := by decide +kernel
theorem dX8_addSaying_14 : decode cX8_addSaying 14 = .ok (.iload_n 1, 1) := by decide +kernel
theorem dX8_addSaying_15 : decode cX8_addSaying 15 = .ok (.iastore, 1) := by decide +kernel
theorem dX8_addSaying_16 : decode cX8_addSaying 16 = .ok (.aload_n 0, 1) := by decide +kernel
theorem dX8_addSaying_17 : decode cX8_addSaying 17 = .ok (.getfield 7, 3) := by decide +kernel
theorem dX8_addSaying_20 : decode cX8_addSaying 20 = .ok (.bipush 20, 2) := by decide +kernel
theorem dX8_addSaying_22 : decode cX8_addSaying 22 = .ok (.aload_n 0, 1) := by decide +kernel
theorem dX8_addSaying_23 : decode cX8_addSaying 23 = .ok (.getfield 7, 3) := by decide +kernel
theorem dX8_addSaying_26 : decode cX8_addSaying 26 = .ok (.bipush 28, 2) := by decide +kernel
theorem dX8_addSaying_28 : decode cX8_addSaying 28 = .ok (.iaload, 1) := by decide +kernel
theorem dX8_addSaying_29 : decode cX8_addSaying 29 = .ok (.iadd, 1) := by decide +kernel
theorem dX8_addSaying_30 : decode cX8_addSaying 30 = .ok (.iload_n 2, 1) := by decide +kernel
theorem dX8_addSaying_31 : decode cX8_addSaying 31 = .ok (.iastore, 1) := by decide +kernel
theorem dX8_addSaying_32 : decode cX8_addSaying 32 = .ok (.aload_n 0, 1) := by decide +kernel
theorem dX8_addSaying_33 : decode cX8_addSaying 33 = .ok (.getfield 7, 3) := by decide +kernel
theorem dX8_addSaying_36 : decode cX8_addSaying 36 = .ok (.bipush 28, 2) := by decide +kernel
theorem dX8_addSaying_38 : decode cX8_addSaying 38 = .ok (.dup2, 1) := by decide +kernel
theorem dX8_addSaying_39 : decode cX8_addSaying 39 = .ok (.iaload, 1) := by decide +kernel
theorem dX8_addSaying_40 : decode cX8_addSaying 40 = .ok (.iconst 1, 1) := by decide +kernel
theorem dX8_addSaying_41 : decode cX8_addSaying 41 = .ok (.iadd, 1) := by decide +kernel
theorem dX8_addSaying_42 : decode cX8_addSaying 42 = .ok (.iastore, 1) := by decide +kernel
theorem dX8_addSaying_43 : decode cX8_addSaying 43 = .ok (.aload_n 0, 1) := by decide +kernel
theorem dX8_addSaying_44 : decode cX8_addSaying 44 = .ok (.getfield 7, 3) := by decide +kernel
theorem dX8_addSaying_47 : decode cX8_addSaying 47 = .ok (.bipush 41, 2) := by decide +kernel
theorem dX8_addSaying_49 : decode cX8_addSaying 49 = .ok (.iconst 0, 1) := by decide +kernel
theorem dX8_addSaying_50 : decode cX8_addSaying 50 = .ok (.iastore, 1) := by decide +kernel
theorem dX8_addSaying_51 : decode cX8_addSaying 51 = .ok (.return_, 1) := by decide +kernel
theorem dX8_saying_0 : decode cX8_saying 0 = .ok (.iload_n 1, 1) := by decide +kernel
theorem dX8_saying_1 : decode cX8_saying 1 = .ok (.i2l, 1) := by decide +kernel
theorem dX8_saying_2 : decode cX8_saying 2 = .ok (.lconst 0, 1) := by decide +kernel
theorem dX8_saying_3 : decode cX8_saying 3 = .ok (.ldc2_w 65, 3) := by decide +kernel
theorem dX8_saying_6 : decode cX8_saying 6 = .ok (.invokestatic 47, 3) := by decide +kernel
theorem dX8_saying_9 : decode cX8_saying 9 = .ok (.ifCond .eq 17, 3) := by decide +kernel
theorem dX8_saying_12 : decode cX8_saying 12 = .ok (.iload_n 2, 1) := by decide +kernel
theorem dX8_saying_13 : decode cX8_saying 13 = .ok (.i2l, 1) := by decide +kernel
theorem dX8_saying_14 : decode cX8_saying 14 = .ok (.lconst 0, 1) := by decide +kernel
theorem dX8_saying_15 : decode cX8_saying 15 = .ok (.aload_n 0, 1) := by decide +kernel
theorem dX8_saying_16 : decode cX8_saying 16 = .ok (.invokevirtual 67, 3) := by decide +kernel
theorem dX8_saying_19 : decode cX8_saying 19 = .ok (.i2l, 1) := by decide +kernel
theorem dX8_saying_20 : decode cX8_saying 20 = .ok (.invokestatic 47, 3) := by decide +kernel
theorem dX8_saying_23 : decode cX8_saying 23 = .ok (.ifCond .ne 5, 3) := by decide +kernel
theorem dX8_saying_26 : decode cX8_saying 26 = .ok (.iconst (-1), 1) := by decide +kernel
theorem dX8_saying_27 : decode cX8_saying 27 = .ok (.ireturn, 1) := by decide +kernel
theorem dX8_saying_28 : decode cX8_saying 28 = .ok (.aload_n 0, 1) := by decide +kernel
theorem dX8_saying_29 : decode cX8_saying 29 = .ok (.getfield 7, 3) := by decide +kernel
theorem dX8_saying_32 : decode cX8_saying 32 = .ok (.bipush 28, 2) := by decide +kernel
theorem dX8_saying_34 : decode cX8_saying 34 = .ok (.iaload, 1) := by decide +kernel
theorem dX8_saying_35 : decode cX8_saying 35 = .ok (.iconst 5, 1) := by decide +kernel
theorem dX8_saying_36 : decode cX8_saying 36 = .ok (.if_icmp .ne 6, 3) := by decide +kernel
theorem dX8_saying_39 : decode cX8_saying 39 = .ok (.bipush (-3), 2) := by decide +kernel
theorem dX8_saying_41 : decode cX8_saying 41 = .ok (.ireturn, 1) := by decide +kernel
theorem dX8_saying_42 : decode cX8_saying 42 = .ok (.aload_n 0, 1) := by decide +kernel
theorem dX8_saying_43 : decode cX8_saying 43 = .ok (.iload_n 1, 1) := by decide +kernel
theorem dX8_saying_44 : decode cX8_saying 44 = .ok (.iload_n 2, 1) := by decide +kernel
theorem dX8_saying_45 : decode cX8_saying 45 = .ok (.invokevirtual 71, 3) := by decide +kernel
theorem dX8_saying_48 : decode cX8_saying 48 = .ok (.aload_n 0, 1) := by decide +kernel
theorem dX8_saying_49 : decode cX8_saying 49 = .ok (.getfield 7, 3) := by decide +kernel
theorem dX8_saying_52 : decode cX8_saying 52 = .ok (.bipush 28, 2) := by decide +kernel
theorem dX8_saying_54 : decode cX8_saying 54 = .ok (.iaload, 1) := by decide +kernel
theorem dX8_saying_55 : decode cX8_saying 55 = .ok (.iconst 1, 1) := by decide +kernel
theorem dX8_saying_56 : decode cX8_saying 56 = .ok (.isub, 1) := by decide +kernel
theorem dX8_saying_57 : decode cX8_saying 57 = .ok (.ireturn, 1) := by decide +kernel
theorem dX8_ice_0 : decode cX8_ice 0 = .ok (.aload_n 0, 1) := by decide +kernel
theorem dX8_ice_1 : decode cX8_ice 1 = .ok (.iload_n 1, 1) := by decide +kernel
theorem dX8_ice_2 : decode cX8_ice 2 = .ok (.invokevirtual 74, 3) := by decide +kernel
theorem dX8_ice_5 : decode cX8_ice 5 = .ok (.ifCond .eq 14, 3) := by decide +kernel
theorem dX8_ice_8 : decode cX8_ice 8 = .ok (.aload_n 0, 1) := by decide +kernel
theorem dX8_ice_9 : decode cX8_ice 9 = .ok (.getfield 7, 3) := by decide +kernel
theorem dX8_ice_12 : decode cX8_ice 12 = .ok (.iconst 3, 1) := by decide +kernel
theorem dX8_ice_13 : decode cX8_ice 13 = .ok (.iload_n 1, 1) := by decide +kernel
theorem dX8_ice_14 : decode cX8_ice 14 = .ok (.iadd, 1) := by decide +kernel
theorem dX8_ice_15 : decode cX8_ice 15 = .ok (.iaload, 1) := by decide +kernel
theorem dX8_ice_16 : decode cX8_ice 16 = .ok (.goto 4, 3) := by decide +kernel
theorem dX8_ice_19 : decode cX8_ice 19 = .ok (.iconst (-1), 1) := by decide +kernel
theorem dX8_ice_20 : decode cX8_ice 20 = .ok (.ireturn, 1) := by decide +kernel
theorem dX8_rocksBy_0 : decode cX8_rocksBy 0 = .ok (.aload_n 0, 1) := by decide +kernel
theorem dX8_rocksBy_1 : decode cX8_rocksBy 1 = .ok (.getfield 7, 3) := by decide +kernel
theorem dX8_rocksBy_4 : decode cX8_rocksBy 4 = .ok (.bipush 35, 2) := by decide +kernel
theorem dX8_rocksBy_6 : decode cX8_rocksBy 6 = .ok (.iload_n 2, 1) := by decide +kernel
theorem dX8_rocksBy_7 : decode cX8_rocksBy 7 = .ok (.iadd, 1) := by decide +kernel
theorem dX8_rocksBy_8 : decode cX8_rocksBy 8 = .ok (.iaload, 1) := by decide +kernel
theorem dX8_rocksBy_9 : decode cX8_rocksBy 9 = .ok (.istore 5, 2) := by decide +kernel
theorem dX8_rocksBy_11 : decode cX8_rocksBy 11 = .ok (.iload 5, 2) := by decide +kernel
theorem dX8_rocksBy_13 : decode cX8_rocksBy 13 = .ok (.iload_n 3, 1) := by decide +kernel
theorem dX8_rocksBy_14 : decode cX8_rocksBy 14 = .ok (.iconst 4, 1) := by decide +kernel
theorem dX8_rocksBy_15 : decode cX8_rocksBy 15 = .ok (.idiv, 1) := by decide +kernel
theorem dX8_rocksBy_16 : decode cX8_rocksBy 16 = .ok (.iadd, 1) := by decide +kernel
theorem dX8_rocksBy_17 : decode cX8_rocksBy 17 = .ok (.istore 6, 2) := by decide +kernel
theorem dX8_rocksBy_19 : decode cX8_rocksBy 19 = .ok (.iload_n 3, 1) := by decide +kernel
theorem dX8_rocksBy_20 : decode cX8_rocksBy 20 = .ok (.bipush 6, 2) := by decide +kernel
theorem dX8_rocksBy_22 : decode cX8_rocksBy 22 = .ok (.if_icmp .ge 7, 3) := by decide +kernel
theorem dX8_rocksBy_25 : decode cX8_rocksBy 25 = .ok (.iconst 0, 1) := by decide +kernel
theorem dX8_rocksBy_26 : decode cX8_rocksBy 26 = .ok (.goto 5, 3) := by decide +kernel
theorem dX8_rocksBy_29 : decode cX8_rocksBy 29 = .ok (.iload 5, 2) := by decide +kernel
theorem dX8_rocksBy_31 : decode cX8_rocksBy 31 = .ok (.istore 7, 2) := by decide +kernel
theorem dX8_rocksBy_33 : decode cX8_rocksBy 33 = .ok (.aload_n 0, 1) := by decide +kernel
theorem dX8_rocksBy_34 : decode cX8_rocksBy 34 = .ok (.getfield 7, 3) := by decide +kernel
theorem dX8_rocksBy_37 : decode cX8_rocksBy 37 = .ok (.bipush 29, 2) := by decide +kernel
theorem dX8_rocksBy_39 : decode cX8_rocksBy 39 = .ok (.iload_n 2, 1) := by decide +kernel
theorem dX8_rocksBy_40 : decode cX8_rocksBy 40 = .ok (.iadd, 1) := by decide +kernel
theorem dX8_rocksBy_41 : decode cX8_rocksBy 41 = .ok (.iaload, 1) := by decide +kernel
theorem dX8_rocksBy_42 : decode cX8_rocksBy 42 = .ok (.tableswitch 78 1 4 #[30, 33, 36, 55], 30) := by decide +kernel
theorem dX8_rocksBy_72 : decode cX8_rocksBy 72 = .ok (.iload 6, 2) := by decide +kernel
theorem dX8_rocksBy_74 : decode cX8_rocksBy 74 = .ok (.ireturn, 1) := by decide +kernel
theorem dX8_rocksBy_75 : decode cX8_rocksBy 75 = .ok (.iload 7, 2) := by decide +kernel
theorem dX8_rocksBy_77 : decode cX8_rocksBy 77 = .ok (.ireturn, 1) := by decide +kernel
theorem dX8_rocksBy_78 : decode cX8_rocksBy 78 = .ok (.iload 4, 2) := by decide +kernel
theorem dX8_rocksBy_80 : decode cX8_rocksBy 80 = .ok (.invokestatic 78, 3) := by decide +kernel
theorem dX8_rocksBy_83 : decode cX8_rocksBy 83 = .ok (.iconst 1, 1) := by decide +kernel
theorem dX8_rocksBy_84 : decode cX8_rocksBy 84 = .ok (.if_icmp .ne 10, 3) := by decide +kernel
theorem dX8_rocksBy_87 : decode cX8_rocksBy 87 = .ok (.iconst 2, 1) := by decide +kernel
theorem dX8_rocksBy_88 : decode cX8_rocksBy 88 = .ok (.iload 6, 2) := by decide +kernel
theorem dX8_rocksBy_90 : decode cX8_rocksBy 90 = .ok (.imul, 1) := by decide +kernel
theorem dX8_rocksBy_91 : decode cX8_rocksBy 91 = .ok (.goto 5, 3) := by decide +kernel
theorem dX8_rocksBy_94 : decode cX8_rocksBy 94 = .ok (.iload 6, 2) := by decide +kernel
theorem dX8_rocksBy_96 : decode cX8_rocksBy 96 = .ok (.ireturn, 1) := by decide +kernel
theorem dX8_rocksBy_97 : decode cX8_rocksBy 97 = .ok (.aload_n 0, 1) := by decide +kernel
theorem dX8_rocksBy_98 : decode cX8_rocksBy 98 = .ok (.getfield 7, 3) := by decide +kernel
theorem dX8_rocksBy_101 : decode cX8_rocksBy 101 = .ok (.iload_n 1, 1) := by decide +kernel
theorem dX8_rocksBy_102 : decode cX8_rocksBy 102 = .ok (.iconst 1, 1) := by decide +kernel
theorem dX8_rocksBy_103 : decode cX8_rocksBy 103 = .ok (.iadd, 1) := by decide +kernel
theorem dX8_rocksBy_104 : decode cX8_rocksBy 104 = .ok (.iaload, 1) := by decide +kernel
theorem dX8_rocksBy_105 : decode cX8_rocksBy 105 = .ok (.iconst 2, 1) := by decide +kernel
theorem dX8_rocksBy_106 : decode cX8_rocksBy 106 = .ok (.irem, 1) := by decide +kernel
theorem dX8_rocksBy_107 : decode cX8_rocksBy 107 = .ok (.ifCond .ne 10, 3) := by decide +kernel
theorem dX8_rocksBy_110 : decode cX8_rocksBy 110 = .ok (.iload 7, 2) := by decide +kernel
theorem dX8_rocksBy_112 : decode cX8_rocksBy 112 = .ok (.iconst 3, 1) := by decide +kernel
theorem dX8_rocksBy_113 : decode cX8_rocksBy 113 = .ok (.iadd, 1) := by decide +kernel
theorem dX8_rocksBy_114 : decode cX8_rocksBy 114 = .ok (.goto 5, 3) := by decide +kernel
theorem dX8_rocksBy_117 : decode cX8_rocksBy 117 = .ok (.iload 7, 2) := by decide +kernel
theorem dX8_rocksBy_119 : decode cX8_rocksBy 119 = .ok (.ireturn, 1) := by decide +kernel
theorem dX8_rocksBy_120 : decode cX8_rocksBy 120 = .ok (.iload 5, 2) := by decide +kernel
theorem dX8_rocksBy_122 : decode cX8_rocksBy 122 = .ok (.ireturn, 1) := by decide +kernel
theorem dX8_sideBy_0 : decode cX8_sideBy 0 = .ok (.iconst 0, 1) := by decide +kernel
theorem dX8_sideBy_1 : decode cX8_sideBy 1 = .ok (.istore 4, 2) := by decide +kernel
theorem dX8_sideBy_3 : decode cX8_sideBy 3 = .ok (.iconst 0, 1) := by decide +kernel
theorem dX8_sideBy_4 : decode cX8_sideBy 4 = .ok (.istore 5, 2) := by decide +kernel
theorem dX8_sideBy_6 : decode cX8_sideBy 6 = .ok (.iload 5, 2) := by decide +kernel
theorem dX8_sideBy_8 : decode cX8_sideBy 8 = .ok (.bipush 6, 2) := by decide +kernel
theorem dX8_sideBy_10 : decode cX8_sideBy 10 = .ok (.if_icmp .ge 36, 3) := by decide +kernel
theorem dX8_sideBy_13 : decode cX8_sideBy 13 = .ok (.iload 4, 2) := by decide +kernel
theorem dX8_sideBy_15 : decode cX8_sideBy 15 = .ok (.iload_n 3, 1) := by decide +kernel
theorem dX8_sideBy_16 : decode cX8_sideBy 16 = .ok (.iload 5, 2) := by decide +kernel
theorem dX8_sideBy_18 : decode cX8_sideBy 18 = .ok (.invokestatic 82, 3) := by decide +kernel
theorem dX8_sideBy_21 : decode cX8_sideBy 21 = .ok (.ifCond .eq 15, 3) := by decide +kernel
theorem dX8_sideBy_24 : decode cX8_sideBy 24 = .ok (.aload_n 0, 1) := by decide +kernel
theorem dX8_sideBy_25 : decode cX8_sideBy 25 = .ok (.iload_n 1, 1) := by decide +kernel
theorem dX8_sideBy_26 : decode cX8_sideBy 26 = .ok (.iload 5, 2) := by decide +kernel
theorem dX8_sideBy_28 : decode cX8_sideBy 28 = .ok (.iload_n 2, 1) := by decide +kernel
theorem dX8_sideBy_29 : decode cX8_sideBy 29 = .ok (.iload_n 3, 1) := by decide +kernel
theorem dX8_sideBy_30 : decode cX8_sideBy 30 = .ok (.invokevirtual 86, 3) := by decide +kernel
theorem dX8_sideBy_33 : decode cX8_sideBy 33 = .ok (.goto 4, 3) := by decide +kernel
theorem dX8_sideBy_36 : decode cX8_sideBy 36 = .ok (.iconst 0, 1) := by decide +kernel
theorem dX8_sideBy_37 : decode cX8_sideBy 37 = .ok (.iadd, 1) := by decide +kernel
theorem dX8_sideBy_38 : decode cX8_sideBy 38 = .ok (.istore 4, 2) := by decide +kernel
theorem dX8_sideBy_40 : decode cX8_sideBy 40 = .ok (.iinc 5 1, 3) := by decide +kernel
theorem dX8_sideBy_43 : decode cX8_sideBy 43 = .ok (.goto (-37), 3) := by decide +kernel
theorem dX8_sideBy_46 : decode cX8_sideBy 46 = .ok (.iload 4, 2) := by decide +kernel
theorem dX8_sideBy_48 : decode cX8_sideBy 48 = .ok (.ireturn, 1) := by decide +kernel
theorem dX8_rockBy_0 : decode cX8_rockBy 0 = .ok (.aload_n 0, 1) := by decide +kernel
theorem dX8_rockBy_1 : decode cX8_rockBy 1 = .ok (.iload_n 1, 1) := by decide +kernel
theorem dX8_rockBy_2 : decode cX8_rockBy 2 = .ok (.iload_n 2, 1) := by decide +kernel
theorem dX8_rockBy_3 : decode cX8_rockBy 3 = .ok (.iload_n 3, 1) := by decide +kernel
theorem dX8_rockBy_4 : decode cX8_rockBy 4 = .ok (.iload 4, 2) := by decide +kernel
theorem dX8_rockBy_6 : decode cX8_rockBy 6 = .ok (.iand, 1) := by decide +kernel
theorem dX8_rockBy_7 : decode cX8_rockBy 7 = .ok (.invokevirtual 90, 3) := by decide +kernel
theorem dX8_rockBy_10 : decode cX8_rockBy 10 = .ok (.istore 5, 2) := by decide +kernel
theorem dX8_rockBy_12 : decode cX8_rockBy 12 = .ok (.aload_n 0, 1) := by decide +kernel
theorem dX8_rockBy_13 : decode cX8_rockBy 13 = .ok (.iload_n 1, 1) := by decide +kernel
theorem dX8_rockBy_14 : decode cX8_rockBy 14 = .ok (.iload_n 2, 1) := by decide +kernel
theorem dX8_rockBy_15 : decode cX8_rockBy 15 = .ok (.iload 4, 2) := by decide +kernel
theorem dX8_rockBy_17 : decode cX8_rockBy 17 = .ok (.iload_n 3, 1) := by decide +kernel
theorem dX8_rockBy_18 : decode cX8_rockBy 18 = .ok (.iconst (-1), 1) := by decide +kernel
theorem dX8_rockBy_19 : decode cX8_rockBy 19 = .ok (.ixor, 1) := by decide +kernel
theorem dX8_rockBy_20 : decode cX8_rockBy 20 = .ok (.iand, 1) := by decide +kernel
theorem dX8_rockBy_21 : decode cX8_rockBy 21 = .ok (.invokevirtual 90, 3) := by decide +kernel
theorem dX8_rockBy_24 : decode cX8_rockBy 24 = .ok (.istore 6, 2) := by decide +kernel
theorem dX8_rockBy_26 : decode cX8_rockBy 26 = .ok (.iload_n 2, 1) := by decide +kernel
theorem dX8_rockBy_27 : decode cX8_rockBy 27 = .ok (.ifCond .ne 7, 3) := by decide +kernel
theorem dX8_rockBy_30 : decode cX8_rockBy 30 = .ok (.iconst 0, 1) := by decide +kernel
theorem dX8_rockBy_31 : decode cX8_rockBy 31 = .ok (.goto 19, 3) := by decide +kernel
theorem dX8_rockBy_34 : decode cX8_rockBy 34 = .ok (.iconst 2, 1) := by decide +kernel
theorem dX8_rockBy_35 : decode cX8_rockBy 35 = .ok (.iload 5, 2) := by decide +kernel
theorem dX8_rockBy_37 : decode cX8_rockBy 37 = .ok (.iload 6, 2) := by decide +kernel
theorem dX8_rockBy_39 : decode cX8_rockBy 39 = .ok (.if_icmp .ge 8, 3) := by decide +kernel
theorem dX8_rockBy_42 : decode cX8_rockBy 42 = .ok (.iload 5, 2) := by decide +kernel
theorem dX8_rockBy_44 : decode cX8_rockBy 44 = .ok (.goto 5, 3) := by decide +kernel
theorem dX8_rockBy_47 : decode cX8_rockBy 47 = .ok (.iload 6, 2) := by decide +kernel
theorem dX8_rockBy_49 : decode cX8_rockBy 49 = .ok (.imul, 1) := by decide +kernel
theorem dX8_rockBy_50 : decode cX8_rockBy 50 = .ok (.ireturn, 1) := by decide +kernel
theorem dX8_rockOf_0 : decode cX8_rockOf 0 = .ok (.aload_n 0, 1) := by decide +kernel
theorem dX8_rockOf_1 : decode cX8_rockOf 1 = .ok (.iload_n 1, 1) := by decide +kernel
theorem dX8_rockOf_2 : decode cX8_rockOf 2 = .ok (.aload_n 0, 1) := by decide +kernel
theorem dX8_rockOf_3 : decode cX8_rockOf 3 = .ok (.getfield 7, 3) := by decide +kernel
theorem dX8_rockOf_6 : decode cX8_rockOf 6 = .ok (.iload_n 1, 1) := by decide +kernel
theorem dX8_rockOf_7 : decode cX8_rockOf 7 = .ok (.bipush 15, 2) := by decide +kernel
theorem dX8_rockOf_9 : decode cX8_rockOf 9 = .ok (.iadd, 1) := by decide +kernel
theorem dX8_rockOf_10 : decode cX8_rockOf 10 = .ok (.iload_n 2, 1) := by decide +kernel
theorem dX8_rockOf_11 : decode cX8_rockOf 11 = .ok (.iadd, 1) := by decide +kernel
theorem dX8_rockOf_12 : decode cX8_rockOf 12 = .ok (.iaload, 1) := by decide +kernel
theorem dX8_rockOf_13 : decode cX8_rockOf 13 = .ok (.aload_n 0, 1) := by decide +kernel
theorem dX8_rockOf_14 : decode cX8_rockOf 14 = .ok (.getfield 7, 3) := by decide +kernel
theorem dX8_rockOf_17 : decode cX8_rockOf 17 = .ok (.iload_n 1, 1) := by decide +kernel
theorem dX8_rockOf_18 : decode cX8_rockOf 18 = .ok (.bipush 20, 2) := by decide +kernel
theorem dX8_rockOf_20 : decode cX8_rockOf 20 = .ok (.iadd, 1) := by decide +kernel
theorem dX8_rockOf_21 : decode cX8_rockOf 21 = .ok (.iload_n 2, 1) := by decide +kernel
theorem dX8_rockOf_22 : decode cX8_rockOf 22 = .ok (.iadd, 1) := by decide +kernel
theorem dX8_rockOf_23 : decode cX8_rockOf 23 = .ok (.iaload, 1) := by decide +kernel
theorem dX8_rockOf_24 : decode cX8_rockOf 24 = .ok (.aload_n 0, 1) := by decide +kernel
theorem dX8_rockOf_25 : decode cX8_rockOf 25 = .ok (.invokevirtual 67, 3) := by decide +kernel
theorem dX8_rockOf_28 : decode cX8_rockOf 28 = .ok (.invokevirtual 94, 3) := by decide +kernel
theorem dX8_rockOf_31 : decode cX8_rockOf 31 = .ok (.ireturn, 1) := by decide +kernel
theorem dX8_of_0 : decode cX8_of 0 = .ok (.aload_n 0, 1) := by decide +kernel
theorem dX8_of_1 : decode cX8_of 1 = .ok (.iload_n 1, 1) := by decide +kernel
theorem dX8_of_2 : decode cX8_of 2 = .ok (.invokevirtual 97, 3) := by decide +kernel
theorem dX8_of_5 : decode cX8_of 5 = .ok (.ifCond .ne 5, 3) := by decide +kernel
theorem dX8_of_8 : decode cX8_of 8 = .ok (.iconst (-1), 1) := by decide +kernel
theorem dX8_of_9 : decode cX8_of 9 = .ok (.ireturn, 1) := by decide +kernel
theorem dX8_of_10 : decode cX8_of 10 = .ok (.iconst 0, 1) := by decide +kernel
theorem dX8_of_11 : decode cX8_of 11 = .ok (.istore_n 3, 1) := by decide +kernel
theorem dX8_of_12 : decode cX8_of 12 = .ok (.iconst 0, 1) := by decide +kernel
theorem dX8_of_13 : decode cX8_of 13 = .ok (.istore 4, 2) := by decide +kernel
theorem dX8_of_15 : decode cX8_of 15 = .ok (.iload 4, 2) := by decide +kernel
theorem dX8_of_17 : decode cX8_of 17 = .ok (.aload_n 0, 1) := by decide +kernel
theorem dX8_of_18 : decode cX8_of 18 = .ok (.getfield 7, 3) := by decide +kernel
theorem dX8_of_21 : decode cX8_of 21 = .ok (.bipush 28, 2) := by decide +kernel
theorem dX8_of_23 : decode cX8_of 23 = .ok (.iaload, 1) := by decide +kernel
theorem dX8_of_24 : decode cX8_of 24 = .ok (.if_icmp .ge 29, 3) := by decide +kernel
theorem dX8_of_27 : decode cX8_of 27 = .ok (.iload_n 3, 1) := by decide +kernel
theorem dX8_of_28 : decode cX8_of 28 = .ok (.aload_n 0, 1) := by decide +kernel
theorem dX8_of_29 : decode cX8_of 29 = .ok (.getfield 7, 3) := by decide +kernel
theorem dX8_of_32 : decode cX8_of 32 = .ok (.bipush 20, 2) := by decide +kernel
theorem dX8_of_34 : decode cX8_of 34 = .ok (.iload 4, 2) := by decide +kernel
theorem dX8_of_36 : decode cX8_of 36 = .ok (.iadd, 1) := by decide +kernel
theorem dX8_of_37 : decode cX8_of 37 = .ok (.iaload, 1) := by decide +kernel
theorem dX8_of_38 : decode cX8_of 38 = .ok (.iload_n 1, 1) := by decide +kernel
theorem dX8_of_39 : decode cX8_of 39 = .ok (.ishr, 1) := by decide +kernel
theorem dX8_of_40 : decode cX8_of 40 = .ok (.iconst 1, 1) := by decide +kernel
theorem dX8_of_41 : decode cX8_of 41 = .ok (.iand, 1) := by decide +kernel
theorem dX8_of_42 : decode cX8_of 42 = .ok (.iload 4, 2) := by decide +kernel
theorem dX8_of_44 : decode cX8_of 44 = .ok (.ishl, 1) := by decide +kernel
theorem dX8_of_45 : decode cX8_of 45 = .ok (.ior, 1) := by decide +kernel
theorem dX8_of_46 : decode cX8_of 46 = .ok (.istore_n 3, 1) := by decide +kernel
theorem dX8_of_47 : decode cX8_of 47 = .ok (.iinc 4 1, 3) := by decide +kernel
theorem dX8_of_50 : decode cX8_of 50 = .ok (.goto (-35), 3) := by decide +kernel
theorem dX8_of_53 : decode cX8_of 53 = .ok (.iload_n 2, 1) := by decide +kernel
theorem dX8_of_54 : decode cX8_of 54 = .ok (.ifCond .ne 15, 3) := by decide +kernel
theorem dX8_of_57 : decode cX8_of 57 = .ok (.aload_n 0, 1) := by decide +kernel
theorem dX8_of_58 : decode cX8_of 58 = .ok (.getfield 7, 3) := by decide +kernel
theorem dX8_of_61 : decode cX8_of 61 = .ok (.bipush 29, 2) := by decide +kernel
theorem dX8_of_63 : decode cX8_of 63 = .ok (.iload_n 1, 1) := by decide +kernel
theorem dX8_of_64 : decode cX8_of 64 = .ok (.iadd, 1) := by decide +kernel
theorem dX8_of_65 : decode cX8_of 65 = .ok (.iaload, 1) := by decide +kernel
theorem dX8_of_66 : decode cX8_of 66 = .ok (.goto 30, 3) := by decide +kernel
theorem dX8_of_69 : decode cX8_of 69 = .ok (.iload_n 2, 1) := by decide +kernel
theorem dX8_of_70 : decode cX8_of 70 = .ok (.iconst 1, 1) := by decide +kernel
theorem dX8_of_71 : decode cX8_of 71 = .ok (.if_icmp .ne 15, 3) := by decide +kernel
theorem dX8_of_74 : decode cX8_of 74 = .ok (.aload_n 0, 1) := by decide +kernel
theorem dX8_of_75 : decode cX8_of 75 = .ok (.getfield 7, 3) := by decide +kernel
theorem dX8_of_78 : decode cX8_of 78 = .ok (.bipush 35, 2) := by decide +kernel
theorem dX8_of_80 : decode cX8_of 80 = .ok (.iload_n 1, 1) := by decide +kernel
theorem dX8_of_81 : decode cX8_of 81 = .ok (.iadd, 1) := by decide +kernel
theorem dX8_of_82 : decode cX8_of 82 = .ok (.iaload, 1) := by decide +kernel
theorem dX8_of_83 : decode cX8_of 83 = .ok (.goto 13, 3) := by decide +kernel
theorem dX8_of_86 : decode cX8_of 86 = .ok (.iload_n 2, 1) := by decide +kernel
theorem dX8_of_87 : decode cX8_of 87 = .ok (.iconst 2, 1) := by decide +kernel
theorem dX8_of_88 : decode cX8_of 88 = .ok (.if_icmp .ne 7, 3) := by decide +kernel
theorem dX8_of_91 : decode cX8_of 91 = .ok (.iload_n 3, 1) := by decide +kernel
theorem dX8_of_92 : decode cX8_of 92 = .ok (.goto 4, 3) := by decide +kernel
theorem dX8_of_95 : decode cX8_of 95 = .ok (.iconst (-1), 1) := by decide +kernel
theorem dX8_of_96 : decode cX8_of 96 = .ok (.ireturn, 1) := by decide +kernel
theorem dX8_sideOf_0 : decode cX8_sideOf 0 = .ok (.iload_n 2, 1) := by decide +kernel
theorem dX8_sideOf_1 : decode cX8_sideOf 1 = .ok (.ifCond .eq 15, 3) := by decide +kernel
theorem dX8_sideOf_4 : decode cX8_sideOf 4 = .ok (.aload_n 0, 1) := by decide +kernel
theorem dX8_sideOf_5 : decode cX8_sideOf 5 = .ok (.getfield 7, 3) := by decide +kernel
theorem dX8_sideOf_8 : decode cX8_sideOf 8 = .ok (.bipush 20, 2) := by decide +kernel
theorem dX8_sideOf_10 : decode cX8_sideOf 10 = .ok (.iload_n 1, 1) := by decide +kernel
theorem dX8_sideOf_11 : decode cX8_sideOf 11 = .ok (.iadd, 1) := by decide +kernel
theorem dX8_sideOf_12 : decode cX8_sideOf 12 = .ok (.iaload, 1) := by decide +kernel
theorem dX8_sideOf_13 : decode cX8_sideOf 13 = .ok (.goto 19, 3) := by decide +kernel
theorem dX8_sideOf_16 : decode cX8_sideOf 16 = .ok (.aload_n 0, 1) := by decide +kernel
theorem dX8_sideOf_17 : decode cX8_sideOf 17 = .ok (.invokevirtual 67, 3) := by decide +kernel
theorem dX8_sideOf_20 : decode cX8_sideOf 20 = .ok (.aload_n 0, 1) := by decide +kernel
theorem dX8_sideOf_21 : decode cX8_sideOf 21 = .ok (.getfield 7, 3) := by decide +kernel
theorem dX8_sideOf_24 : decode cX8_sideOf 24 = .ok (.bipush 20, 2) := by decide +kernel
theorem dX8_sideOf_26 : decode cX8_sideOf 26 = .ok (.iload_n 1, 1) := by decide +kernel
theorem dX8_sideOf_27 : decode cX8_sideOf 27 = .ok (.iadd, 1) := by decide +kernel
theorem dX8_sideOf_28 : decode cX8_sideOf 28 = .ok (.iaload, 1) := by decide +kernel
theorem dX8_sideOf_29 : decode cX8_sideOf 29 = .ok (.iconst (-1), 1) := by decide +kernel
theorem dX8_sideOf_30 : decode cX8_sideOf 30 = .ok (.ixor, 1) := by decide +kernel
theorem dX8_sideOf_31 : decode cX8_sideOf 31 = .ok (.iand, 1) := by decide +kernel
theorem dX8_sideOf_32 : decode cX8_sideOf 32 = .ok (.ireturn, 1) := by decide +kernel
theorem dX8_at_0 : decode cX8_at 0 = .ok (.aload_n 0, 1) := by decide +kernel
theorem dX8_at_1 : decode cX8_at 1 = .ok (.iload_n 1, 1) := by decide +kernel
theorem dX8_at_2 : decode cX8_at 2 = .ok (.invokevirtual 100, 3) := by decide +kernel
theorem dX8_at_5 : decode cX8_at 5 = .ok (.ifCond .ne 5, 3) := by decide +kernel
theorem dX8_at_8 : decode cX8_at 8 = .ok (.iconst (-1), 1) := by decide +kernel
theorem dX8_at_9 : decode cX8_at 9 = .ok (.ireturn, 1) := by decide +kernel
theorem dX8_at_10 : decode cX8_at 10 = .ok (.iload_n 2, 1) := by decide +kernel
theorem dX8_at_11 : decode cX8_at 11 = .ok (.tableswitch 79 0 3 #[29, 39, 49, 49], 29) := by decide +kernel
theorem dX8_at_40 : decode cX8_at 40 = .ok (.aload_n 0, 1) := by decide +kernel
theorem dX8_at_41 : decode cX8_at 41 = .ok (.getfield 7, 3) := by decide +kernel
theorem dX8_at_44 : decode cX8_at 44 = .ok (.bipush 15, 2) := by decide +kernel
theorem dX8_at_46 : decode cX8_at 46 = .ok (.iload_n 1, 1) := by decide +kernel
theorem dX8_at_47 : decode cX8_at 47 = .ok (.iadd, 1) := by decide +kernel
theorem dX8_at_48 : decode cX8_at 48 = .ok (.iaload, 1) := by decide +kernel
theorem dX8_at_49 : decode cX8_at 49 = .ok (.ireturn, 1) := by decide +kernel
theorem dX8_at_50 : decode cX8_at 50 = .ok (.aload_n 0, 1) := by decide +kernel
theorem dX8_at_51 : decode cX8_at 51 = .ok (.getfield 7, 3) := by decide +kernel
theorem dX8_at_54 : decode cX8_at 54 = .ok (.bipush 20, 2) := by decide +kernel
theorem dX8_at_56 : decode cX8_at 56 = .ok (.iload_n 1, 1) := by decide +kernel
theorem dX8_at_57 : decode cX8_at 57 = .ok (.iadd, 1) := by decide +kernel
theorem dX8_at_58 : decode cX8_at 58 = .ok (.iaload, 1) := by decide +kernel
theorem dX8_at_59 : decode cX8_at 59 = .ok (.ireturn, 1) := by decide +kernel
theorem dX8_at_60 : decode cX8_at 60 = .ok (.aload_n 0, 1) := by decide +kernel
theorem dX8_at_61 : decode cX8_at 61 = .ok (.iconst 0, 1) := by decide +kernel
theorem dX8_at_62 : decode cX8_at 62 = .ok (.aload_n 0, 1) := by decide +kernel
theorem dX8_at_63 : decode cX8_at 63 = .ok (.getfield 7, 3) := by decide +kernel
theorem dX8_at_66 : decode cX8_at 66 = .ok (.bipush 15, 2) := by decide +kernel
theorem dX8_at_68 : decode cX8_at 68 = .ok (.iload_n 1, 1) := by decide +kernel
theorem dX8_at_69 : decode cX8_at 69 = .ok (.iadd, 1) := by decide +kernel
theorem dX8_at_70 : decode cX8_at 70 = .ok (.iaload, 1) := by decide +kernel
theorem dX8_at_71 : decode cX8_at 71 = .ok (.aload_n 0, 1) := by decide +kernel
theorem dX8_at_72 : decode cX8_at 72 = .ok (.iload_n 1, 1) := by decide +kernel
theorem dX8_at_73 : decode cX8_at 73 = .ok (.iload_n 2, 1) := by decide +kernel
theorem dX8_at_74 : decode cX8_at 74 = .ok (.iconst 2, 1) := by decide +kernel
theorem dX8_at_75 : decode cX8_at 75 = .ok (.if_icmp .ne 7, 3) := by decide +kernel
theorem dX8_at_78 : decode cX8_at 78 = .ok (.iconst 1, 1) := by decide +kernel
theorem dX8_at_79 : decode cX8_at 79 = .ok (.goto 4, 3) := by decide +kernel
theorem dX8_at_82 : decode cX8_at 82 = .ok (.iconst 0, 1) := by decide +kernel
theorem dX8_at_83 : decode cX8_at 83 = .ok (.invokevirtual 103, 3) := by decide +kernel
theorem dX8_at_86 : decode cX8_at 86 = .ok (.invokevirtual 90, 3) := by decide +kernel
theorem dX8_at_89 : decode cX8_at 89 = .ok (.ireturn, 1) := by decide +kernel
theorem dX8_at_90 : decode cX8_at 90 = .ok (.iconst (-1), 1) := by decide +kernel
theorem dX8_at_91 : decode cX8_at 91 = .ok (.ireturn, 1) := by decide +kernel
theorem dX8_rocks_0 : decode cX8_rocks 0 = .ok (.aload_n 0, 1) := by decide +kernel
theorem dX8_rocks_1 : decode cX8_rocks 1 = .ok (.iload_n 1, 1) := by decide +kernel
theorem dX8_rocks_2 : decode cX8_rocks 2 = .ok (.invokevirtual 97, 3) := by decide +kernel
theorem dX8_rocks_5 : decode cX8_rocks 5 = .ok (.ifCond .eq 11, 3) := by decide +kernel
theorem dX8_rocks_8 : decode cX8_rocks 8 = .ok (.aload_n 0, 1) := by decide +kernel
theorem dX8_rocks_9 : decode cX8_rocks 9 = .ok (.iload_n 2, 1) := by decide +kernel
theorem dX8_rocks_10 : decode cX8_rocks 10 = .ok (.invokevirtual 100, 3) := by decide +kernel
theorem dX8_rocks_13 : decode cX8_rocks 13 = .ok (.ifCond .ne 5, 3) := by decide +kernel
theorem dX8_rocks_16 : decode cX8_rocks 16 = .ok (.iconst (-1), 1) := by decide +kernel
theorem dX8_rocks_17 : decode cX8_rocks 17 = .ok (.ireturn, 1) := by decide +kernel
theorem dX8_rocks_18 : decode cX8_rocks 18 = .ok (.aload_n 0, 1) := by decide +kernel
theorem dX8_rocks_19 : decode cX8_rocks 19 = .ok (.iconst 0, 1) := by decide +kernel
theorem dX8_rocks_20 : decode cX8_rocks 20 = .ok (.iload_n 1, 1) := by decide +kernel
theorem dX8_rocks_21 : decode cX8_rocks 21 = .ok (.aload_n 0, 1) := by decide +kernel
theorem dX8_rocks_22 : decode cX8_rocks 22 = .ok (.getfield 7, 3) := by decide +kernel
theorem dX8_rocks_25 : decode cX8_rocks 25 = .ok (.bipush 15, 2) := by decide +kernel
theorem dX8_rocks_27 : decode cX8_rocks 27 = .ok (.iload_n 2, 1) := by decide +kernel
theorem dX8_rocks_28 : decode cX8_rocks 28 = .ok (.iadd, 1) := by decide +kernel
theorem dX8_rocks_29 : decode cX8_rocks 29 = .ok (.iaload, 1) := by decide +kernel
theorem dX8_rocks_30 : decode cX8_rocks 30 = .ok (.aload_n 0, 1) := by decide +kernel
theorem dX8_rocks_31 : decode cX8_rocks 31 = .ok (.iload_n 2, 1) := by decide +kernel
theorem dX8_rocks_32 : decode cX8_rocks 32 = .ok (.aload_n 0, 1) := by decide +kernel
theorem dX8_rocks_33 : decode cX8_rocks 33 = .ok (.getfield 7, 3) := by decide +kernel
theorem dX8_rocks_36 : decode cX8_rocks 36 = .ok (.bipush 20, 2) := by decide +kernel
theorem dX8_rocks_38 : decode cX8_rocks 38 = .ok (.iload_n 2, 1) := by decide +kernel
theorem dX8_rocks_39 : decode cX8_rocks 39 = .ok (.iadd, 1) := by decide +kernel
theorem dX8_rocks_40 : decode cX8_rocks 40 = .ok (.iaload, 1) := by decide +kernel
theorem dX8_rocks_41 : decode cX8_rocks 41 = .ok (.iload_n 1, 1) := by decide +kernel
theorem dX8_rocks_42 : decode cX8_rocks 42 = .ok (.invokestatic 82, 3) := by decide +kernel
theorem dX8_rocks_45 : decode cX8_rocks 45 = .ok (.invokevirtual 103, 3) := by decide +kernel
theorem dX8_rocks_48 : decode cX8_rocks 48 = .ok (.invokevirtual 86, 3) := by decide +kernel
theorem dX8_rocks_51 : decode cX8_rocks 51 = .ok (.ireturn, 1) := by decide +kernel
theorem dX8_frost_0 : decode cX8_frost 0 = .ok (.iload_n 1, 1) := by decide +kernel
theorem dX8_frost_1 : decode cX8_frost 1 = .ok (.i2l, 1) := by decide +kernel
theorem dX8_frost_2 : decode cX8_frost 2 = .ok (.lconst 0, 1) := by decide +kernel
theorem dX8_frost_3 : decode cX8_frost 3 = .ok (.ldc2_w 59, 3) := by decide +kernel
theorem dX8_frost_6 : decode cX8_frost 6 = .ok (.invokestatic 47, 3) := by decide +kernel
theorem dX8_frost_9 : decode cX8_frost 9 = .ok (.ifCond .ne 5, 3) := by decide +kernel
theorem dX8_frost_12 : decode cX8_frost 12 = .ok (.iconst (-1), 1) := by decide +kernel
theorem dX8_frost_13 : decode cX8_frost 13 = .ok (.ireturn, 1) := by decide +kernel
theorem dX8_frost_14 : decode cX8_frost 14 = .ok (.aload_n 0, 1) := by decide +kernel
theorem dX8_frost_15 : decode cX8_frost 15 = .ok (.getfield 7, 3) := by decide +kernel
theorem dX8_frost_18 : decode cX8_frost 18 = .ok (.bipush 25, 2) := by decide +kernel
theorem dX8_frost_20 : decode cX8_frost 20 = .ok (.iaload, 1) := by decide +kernel
theorem dX8_frost_21 : decode cX8_frost 21 = .ok (.istore_n 2, 1) := by decide +kernel
theorem dX8_frost_22 : decode cX8_frost 22 = .ok (.aload_n 0, 1) := by decide +kernel
theorem dX8_frost_23 : decode cX8_frost 23 = .ok (.getfield 7, 3) := by decide +kernel
theorem dX8_frost_26 : decode cX8_frost 26 = .ok (.bipush 25, 2) := by decide +kernel
theorem dX8_frost_28 : decode cX8_frost 28 = .ok (.iload_n 1, 1) := by decide +kernel
theorem dX8_frost_29 : decode cX8_frost 29 = .ok (.iastore, 1) := by decide +kernel
theorem dX8_frost_30 : decode cX8_frost 30 = .ok (.iload_n 2, 1) := by decide +kernel
theorem dX8_frost_31 : decode cX8_frost 31 = .ok (.ireturn, 1) := by decide +kernel
theorem dX8_type_0 : decode cX8_type 0 = .ok (.iload_n 1, 1) := by decide +kernel
theorem dX8_type_1 : decode cX8_type 1 = .ok (.i2l, 1) := by decide +kernel
theorem dX8_type_2 : decode cX8_type 2 = .ok (.ldc2_w 107, 3) := by decide +kernel
theorem dX8_type_5 : decode cX8_type 5 = .ok (.ldc2_w 109, 3) := by decide +kernel
theorem dX8_type_8 : decode cX8_type 8 = .ok (.invokestatic 47, 3) := by decide +kernel
theorem dX8_type_11 : decode cX8_type 11 = .ok (.ifCond .ne 5, 3) := by decide +kernel
theorem dX8_type_14 : decode cX8_type 14 = .ok (.iconst (-1), 1) := by decide +kernel
theorem dX8_type_15 : decode cX8_type 15 = .ok (.ireturn, 1) := by decide +kernel
theorem dX8_type_16 : decode cX8_type 16 = .ok (.aload_n 0, 1) := by decide +kernel
theorem dX8_type_17 : decode cX8_type 17 = .ok (.getfield 111, 3) := by decide +kernel
theorem dX8_type_20 : decode cX8_type 20 = .ok (.bipush 110, 2) := by decide +kernel
theorem dX8_type_22 : decode cX8_type 22 = .ok (.if_icmp .ne 6, 3) := by decide +kernel
theorem dX8_type_25 : decode cX8_type 25 = .ok (.bipush (-3), 2) := by decide +kernel
theorem dX8_type_27 : decode cX8_type 27 = .ok (.ireturn, 1) := by decide +kernel
theorem dX8_type_28 : decode cX8_type 28 = .ok (.aload_n 0, 1) := by decide +kernel
theorem dX8_type_29 : decode cX8_type 29 = .ok (.getfield 23, 3) := by decide +kernel
theorem dX8_type_32 : decode cX8_type 32 = .ok (.aload_n 0, 1) := by decide +kernel
theorem dX8_type_33 : decode cX8_type 33 = .ok (.getfield 111, 3) := by decide +kernel
theorem dX8_type_36 : decode cX8_type 36 = .ok (.iload_n 1, 1) := by decide +kernel
theorem dX8_type_37 : decode cX8_type 37 = .ok (.iastore, 1) := by decide +kernel
theorem dX8_type_38 : decode cX8_type 38 = .ok (.aload_n 0, 1) := by decide +kernel
theorem dX8_type_39 : decode cX8_type 39 = .ok (.dup, 1) := by decide +kernel
theorem dX8_type_40 : decode cX8_type 40 = .ok (.getfield 111, 3) := by decide +kernel
theorem dX8_type_43 : decode cX8_type 43 = .ok (.iconst 1, 1) := by decide +kernel
theorem dX8_type_44 : decode cX8_type 44 = .ok (.iadd, 1) := by decide +kernel
theorem dX8_type_45 : decode cX8_type 45 = .ok (.putfield 111, 3) := by decide +kernel
theorem dX8_type_48 : decode cX8_type 48 = .ok (.aload_n 0, 1) := by decide +kernel
theorem dX8_type_49 : decode cX8_type 49 = .ok (.getfield 111, 3) := by decide +kernel
theorem dX8_type_52 : decode cX8_type 52 = .ok (.ireturn, 1) := by decide +kernel
theorem dX8_skip_0 : decode cX8_skip 0 = .ok (.aload_n 0, 1) := by decide +kernel
theorem dX8_skip_1 : decode cX8_skip 1 = .ok (.getfield 115, 3) := by decide +kernel
theorem dX8_skip_4 : decode cX8_skip 4 = .ok (.aload_n 0, 1) := by decide +kernel
theorem dX8_skip_5 : decode cX8_skip 5 = .ok (.getfield 111, 3) := by decide +kernel
theorem dX8_skip_8 : decode cX8_skip 8 = .ok (.if_icmp .ge 30, 3) := by decide +kernel
theorem dX8_skip_11 : decode cX8_skip 11 = .ok (.aload_n 0, 1) := by decide +kernel
theorem dX8_skip_12 : decode cX8_skip 12 = .ok (.getfield 23, 3) := by decide +kernel
theorem dX8_skip_15 : decode cX8_skip 15 = .ok (.aload_n 0, 1) := by decide +kernel
theorem dX8_skip_16 : decode cX8_skip 16 = .ok (.getfield 115, 3) := by decide +kernel
theorem dX8_skip_19 : decode cX8_skip 19 = .ok (.iaload, 1) := by decide +kernel
theorem dX8_skip_20 : decode cX8_skip 20 = .ok (.bipush 32, 2) := by decide +kernel
theorem dX8_skip_22 : decode cX8_skip 22 = .ok (.if_icmp .ne 16, 3) := by decide +kernel
theorem dX8_skip_25 : decode cX8_skip 25 = .ok (.aload_n 0, 1) := by decide +kernel
theorem dX8_skip_26 : decode cX8_skip 26 = .ok (.dup, 1) := by decide +kernel
theorem dX8_skip_27 : decode cX8_skip 27 = .ok (.getfield 115, 3) := by decide +kernel
theorem dX8_skip_30 : decode cX8_skip 30 = .ok (.iconst 1, 1) := by decide +kernel
theorem dX8_skip_31 : decode cX8_skip 31 = .ok (.iadd, 1) := by decide +kernel
theorem dX8_skip_32 : decode cX8_skip 32 = .ok (.putfield 115, 3) := by decide +kernel
theorem dX8_skip_35 : decode cX8_skip 35 = .ok (.goto (-35), 3) := by decide +kernel
theorem dX8_skip_38 : decode cX8_skip 38 = .ok (.return_, 1) := by decide +kernel
theorem dX8_isHere_0 : decode cX8_isHere 0 = .ok (.aload_n 0, 1) := by decide +kernel
theorem dX8_isHere_1 : decode cX8_isHere 1 = .ok (.getfield 115, 3) := by decide +kernel
theorem dX8_isHere_4 : decode cX8_isHere 4 = .ok (.aload_n 0, 1) := by decide +kernel
theorem dX8_isHere_5 : decode cX8_isHere 5 = .ok (.getfield 111, 3) := by decide +kernel
theorem dX8_isHere_8 : decode cX8_isHere 8 = .ok (.if_icmp .ge 20, 3) := by decide +kernel
theorem dX8_isHere_11 : decode cX8_isHere 11 = .ok (.aload_n 0, 1) := by decide +kernel
theorem dX8_isHere_12 : decode cX8_isHere 12 = .ok (.getfield 23, 3) := by decide +kernel
theorem dX8_isHere_15 : decode cX8_isHere 15 = .ok (.aload_n 0, 1) := by decide +kernel
theorem dX8_isHere_16 : decode cX8_isHere 16 = .ok (.getfield 115, 3) := by decide +kernel
theorem dX8_isHere_19 : decode cX8_isHere 19 = .ok (.iaload, 1) := by decide +kernel
theorem dX8_isHere_20 : decode cX8_isHere 20 = .ok (.iload_n 1, 1) := by decide +kernel
theorem dX8_isHere_21 : decode cX8_isHere 21 = .ok (.if_icmp .ne 7, 3) := by decide +kernel
theorem dX8_isHere_24 : decode cX8_isHere 24 = .ok (.iconst 1, 1) := by decide +kernel
theorem dX8_isHere_25 : decode cX8_isHere 25 = .ok (.goto 4, 3) := by decide +kernel
theorem dX8_isHere_28 : decode cX8_isHere 28 = .ok (.iconst 0, 1) := by decide +kernel
theorem dX8_isHere_29 : decode cX8_isHere 29 = .ok (.ireturn, 1) := by decide +kernel
theorem dX8_isDigit_0 : decode cX8_isDigit 0 = .ok (.aload_n 0, 1) := by decide +kernel
theorem dX8_isDigit_1 : decode cX8_isDigit 1 = .ok (.getfield 115, 3) := by decide +kernel
theorem dX8_isDigit_4 : decode cX8_isDigit 4 = .ok (.aload_n 0, 1) := by decide +kernel
theorem dX8_isDigit_5 : decode cX8_isDigit 5 = .ok (.getfield 111, 3) := by decide +kernel
theorem dX8_isDigit_8 : decode cX8_isDigit 8 = .ok (.if_icmp .ge 31, 3) := by decide +kernel
theorem dX8_isDigit_11 : decode cX8_isDigit 11 = .ok (.aload_n 0, 1) := by decide +kernel
theorem dX8_isDigit_12 : decode cX8_isDigit 12 = .ok (.getfield 23, 3) := by decide +kernel
theorem dX8_isDigit_15 : decode cX8_isDigit 15 = .ok (.aload_n 0, 1) := by decide +kernel
theorem dX8_isDigit_16 : decode cX8_isDigit 16 = .ok (.getfield 115, 3) := by decide +kernel
theorem dX8_isDigit_19 : decode cX8_isDigit 19 = .ok (.iaload, 1) := by decide +kernel
theorem dX8_isDigit_20 : decode cX8_isDigit 20 = .ok (.i2l, 1) := by decide +kernel
theorem dX8_isDigit_21 : decode cX8_isDigit 21 = .ok (.bipush 48, 2) := by decide +kernel
theorem dX8_isDigit_23 : decode cX8_isDigit 23 = .ok (.iload_n 1, 1) := by decide +kernel
theorem dX8_isDigit_24 : decode cX8_isDigit 24 = .ok (.iadd, 1) := by decide +kernel
theorem dX8_isDigit_25 : decode cX8_isDigit 25 = .ok (.i2l, 1) := by decide +kernel
theorem dX8_isDigit_26 : decode cX8_isDigit 26 = .ok (.ldc2_w 118, 3) := by decide +kernel
theorem dX8_isDigit_29 : decode cX8_isDigit 29 = .ok (.invokestatic 47, 3) := by decide +kernel
theorem dX8_isDigit_32 : decode cX8_isDigit 32 = .ok (.ifCond .eq 7, 3) := by decide +kernel
theorem dX8_isDigit_35 : decode cX8_isDigit 35 = .ok (.iconst 1, 1) := by decide +kernel
theorem dX8_isDigit_36 : decode cX8_isDigit 36 = .ok (.goto 4, 3) := by decide +kernel
theorem dX8_isDigit_39 : decode cX8_isDigit 39 = .ok (.iconst 0, 1) := by decide +kernel
theorem dX8_isDigit_40 : decode cX8_isDigit 40 = .ok (.ireturn, 1) := by decide +kernel
theorem dX8_sign_0 : decode cX8_sign 0 = .ok (.aload_n 0, 1) := by decide +kernel
theorem dX8_sign_1 : decode cX8_sign 1 = .ok (.iload_n 1, 1) := by decide +kernel
theorem dX8_sign_2 : decode cX8_sign 2 = .ok (.invokevirtual 120, 3) := by decide +kernel
theorem dX8_sign_5 : decode cX8_sign 5 = .ok (.istore_n 2, 1) := by decide +kernel
theorem dX8_sign_6 : decode cX8_sign 6 = .ok (.iload_n 2, 1) := by decide +kernel
theorem dX8_sign_7 : decode cX8_sign 7 = .ok (.ifCond .eq 17, 3) := by decide +kernel
theorem dX8_sign_10 : decode cX8_sign 10 = .ok (.aload_n 0, 1) := by decide +kernel
theorem dX8_sign_11 : decode cX8_sign 11 = .ok (.dup, 1) := by decide +kernel
theorem dX8_sign_12 : decode cX8_sign 12 = .ok (.getfield 115, 3) := by decide +kernel
theorem dX8_sign_15 : decode cX8_sign 15 = .ok (.iconst 1, 1) := by decide +kernel
theorem dX8_sign_16 : decode cX8_sign 16 = .ok (.iadd, 1) := by decide +kernel
theorem dX8_sign_17 : decode cX8_sign 17 = .ok (.putfield 115, 3) := by decide +kernel
theorem dX8_sign_20 : decode cX8_sign 20 = .ok (.aload_n 0, 1) := by decide +kernel
theorem dX8_sign_21 : decode cX8_sign 21 = .ok (.invokevirtual 123, 3) := by decide +kernel
theorem dX8_sign_24 : decode cX8_sign 24 = .ok (.iload_n 2, 1) := by decide +kernel
theorem dX8_sign_25 : decode cX8_sign 25 = .ok (.ireturn, 1) := by decide +kernel
theorem dX8_readsNumber_0 : decode cX8_readsNumber 0 = .ok (.aload_n 0, 1) := by decide +kernel
theorem dX8_readsNumber_1 : decode cX8_readsNumber 1 = .ok (.getfield 115, 3) := by decide +kernel
theorem dX8_readsNumber_4 : decode cX8_readsNumber 4 = .ok (.istore_n 2, 1) := by decide +kernel
theorem dX8_readsNumber_5 : decode cX8_readsNumber 5 = .ok (.aload_n 0, 1) := by decide +kernel
theorem dX8_readsNumber_6 : decode cX8_readsNumber 6 = .ok (.iconst 0, 1) := by decide +kernel
theorem dX8_readsNumber_7 : decode cX8_readsNumber 7 = .ok (.putfield 126, 3) := by decide +kernel
theorem dX8_readsNumber_10 : decode cX8_readsNumber 10 = .ok (.aload_n 0, 1) := by decide +kernel
theorem dX8_readsNumber_11 : decode cX8_readsNumber 11 = .ok (.getfield 115, 3) := by decide +kernel
theorem dX8_readsNumber_14 : decode cX8_readsNumber 14 = .ok (.iload_n 2, 1) := by decide +kernel
theorem dX8_readsNumber_15 : decode cX8_readsNumber 15 = .ok (.iconst 2, 1) := by decide +kernel
theorem dX8_readsNumber_16 : decode cX8_readsNumber 16 = .ok (.iadd, 1) := by decide +kernel
theorem dX8_readsNumber_17 : decode cX8_readsNumber 17 = .ok (.if_icmp .ge 48, 3) := by decide +kernel
theorem dX8_readsNumber_20 : decode cX8_readsNumber 20 = .ok (.aload_n 0, 1) := by decide +kernel
theorem dX8_readsNumber_21 : decode cX8_readsNumber 21 = .ok (.iconst 0, 1) := by decide +kernel
theorem dX8_readsNumber_22 : decode cX8_readsNumber 22 = .ok (.invokevirtual 129, 3) := by decide +kernel
theorem dX8_readsNumber_25 : decode cX8_readsNumber 25 = .ok (.ifCond .eq 40, 3) := by decide +kernel
theorem dX8_readsNumber_28 : decode cX8_readsNumber 28 = .ok (.aload_n 0, 1) := by decide +kernel
theorem dX8_readsNumber_29 : decode cX8_readsNumber 29 = .ok (.bipush 10, 2) := by decide +kernel
theorem dX8_readsNumber_31 : decode cX8_readsNumber 31 = .ok (.aload_n 0, 1) := by decide +kernel
theorem dX8_readsNumber_32 : decode cX8_readsNumber 32 = .ok (.getfield 126, 3) := by decide +kernel
theorem dX8_readsNumber_35 : decode cX8_readsNumber 35 = .ok (.imul, 1) := by decide +kernel
theorem dX8_readsNumber_36 : decode cX8_readsNumber 36 = .ok (.aload_n 0, 1) := by decide +kernel
theorem dX8_readsNumber_37 : decode cX8_readsNumber 37 = .ok (.getfield 23, 3) := by decide +kernel
theorem dX8_readsNumber_40 : decode cX8_readsNumber 40 = .ok (.aload_n 0, 1) := by decide +kernel
theorem dX8_readsNumber_41 : decode cX8_readsNumber 41 = .ok (.getfield 115, 3) := by decide +kernel
theorem dX8_readsNumber_44 : decode cX8_readsNumber 44 = .ok (.iaload, 1) := by decide +kernel
theorem dX8_readsNumber_45 : decode cX8_readsNumber 45 = .ok (.iadd, 1) := by decide +kernel
theorem dX8_readsNumber_46 : decode cX8_readsNumber 46 = .ok (.bipush 48, 2) := by decide +kernel
theorem dX8_readsNumber_48 : decode cX8_readsNumber 48 = .ok (.isub, 1) := by decide +kernel
theorem dX8_readsNumber_49 : decode cX8_readsNumber 49 = .ok (.putfield 126, 3) := by decide +kernel
theorem dX8_readsNumber_52 : decode cX8_readsNumber 52 = .ok (.aload_n 0, 1) := by decide +kernel
theorem dX8_readsNumber_53 : decode cX8_readsNumber 53 = .ok (.dup, 1) := by decide +kernel
theorem dX8_readsNumber_54 : decode cX8_readsNumber 54 = .ok (.getfield 115, 3) := by decide +kernel
theorem dX8_readsNumber_57 : decode cX8_readsNumber 57 = .ok (.iconst 1, 1) := by decide +kernel
theorem dX8_readsNumber_58 : decode cX8_readsNumber 58 = .ok (.iadd, 1) := by decide +kernel
theorem dX8_readsNumber_59 : decode cX8_readsNumber 59 = .ok (.putfield 115, 3) := by decide +kernel
theorem dX8_readsNumber_62 : decode cX8_readsNumber 62 = .ok (.goto (-52), 3) := by decide +kernel
theorem dX8_readsNumber_65 : decode cX8_readsNumber 65 = .ok (.aload_n 0, 1) := by decide +kernel
theorem dX8_readsNumber_66 : decode cX8_readsNumber 66 = .ok (.getfield 115, 3) := by decide +kernel
theorem dX8_readsNumber_69 : decode cX8_readsNumber 69 = .ok (.iload_n 2, 1) := by decide +kernel
theorem dX8_readsNumber_70 : decode cX8_readsNumber 70 = .ok (.if_icmp .ne 5, 3) := by decide +kernel
theorem dX8_readsNumber_73 : decode cX8_readsNumber 73 = .ok (.iconst 0, 1) := by decide +kernel
theorem dX8_readsNumber_74 : decode cX8_readsNumber 74 = .ok (.ireturn, 1) := by decide +kernel
theorem dX8_readsNumber_75 : decode cX8_readsNumber 75 = .ok (.aload_n 0, 1) := by decide +kernel
theorem dX8_readsNumber_76 : decode cX8_readsNumber 76 = .ok (.getfield 126, 3) := by decide +kernel
theorem dX8_readsNumber_79 : decode cX8_readsNumber 79 = .ok (.iload_n 1, 1) := by decide +kernel
theorem dX8_readsNumber_80 : decode cX8_readsNumber 80 = .ok (.if_icmp .le 10, 3) := by decide +kernel
theorem dX8_readsNumber_83 : decode cX8_readsNumber 83 = .ok (.aload_n 0, 1) := by decide +kernel
theorem dX8_readsNumber_84 : decode cX8_readsNumber 84 = .ok (.iload_n 2, 1) := by decide +kernel
theorem dX8_readsNumber_85 : decode cX8_readsNumber 85 = .ok (.putfield 115, 3) := by decide +kernel
theorem dX8_readsNumber_88 : decode cX8_readsNumber 88 = .ok (.iconst 0, 1) := by decide +kernel
theorem dX8_readsNumber_89 : decode cX8_readsNumber 89 = .ok (.ireturn, 1) := by decide +kernel
theorem dX8_readsNumber_90 : decode cX8_readsNumber 90 = .ok (.aload_n 0, 1) := by decide +kernel
theorem dX8_readsNumber_91 : decode cX8_readsNumber 91 = .ok (.iconst 0, 1) := by decide +kernel
theorem dX8_readsNumber_92 : decode cX8_readsNumber 92 = .ok (.invokevirtual 129, 3) := by decide +kernel
theorem dX8_readsNumber_95 : decode cX8_readsNumber 95 = .ok (.ifCond .eq 5, 3) := by decide +kernel
theorem dX8_readsNumber_98 : decode cX8_readsNumber 98 = .ok (.iconst 0, 1) := by decide +kernel
theorem dX8_readsNumber_99 : decode cX8_readsNumber 99 = .ok (.ireturn, 1) := by decide +kernel
theorem dX8_readsNumber_100 : decode cX8_readsNumber 100 = .ok (.aload_n 0, 1) := by decide +kernel
theorem dX8_readsNumber_101 : decode cX8_readsNumber 101 = .ok (.invokevirtual 123, 3) := by decide +kernel
theorem dX8_readsNumber_104 : decode cX8_readsNumber 104 = .ok (.iconst 1, 1) := by decide +kernel
theorem dX8_readsNumber_105 : decode cX8_readsNumber 105 = .ok (.ireturn, 1) := by decide +kernel
theorem dX8_readsCell_0 : decode cX8_readsCell 0 = .ok (.aload_n 0, 1) := by decide +kernel
theorem dX8_readsCell_1 : decode cX8_readsCell 1 = .ok (.bipush 60, 2) := by decide +kernel
theorem dX8_readsCell_3 : decode cX8_readsCell 3 = .ok (.invokevirtual 132, 3) := by decide +kernel
theorem dX8_readsCell_6 : decode cX8_readsCell 6 = .ok (.ifCond .ne 5, 3) := by decide +kernel
theorem dX8_readsCell_9 : decode cX8_readsCell 9 = .ok (.iconst 0, 1) := by decide +kernel
theorem dX8_readsCell_10 : decode cX8_readsCell 10 = .ok (.ireturn, 1) := by decide +kernel
theorem dX8_readsCell_11 : decode cX8_readsCell 11 = .ok (.aload_n 0, 1) := by decide +kernel
theorem dX8_readsCell_12 : decode cX8_readsCell 12 = .ok (.getfield 26, 3) := by decide +kernel
theorem dX8_readsCell_15 : decode cX8_readsCell 15 = .ok (.aload_n 0, 1) := by decide +kernel
theorem dX8_readsCell_16 : decode cX8_readsCell 16 = .ok (.getfield 135, 3) := by decide +kernel
theorem dX8_readsCell_19 : decode cX8_readsCell 19 = .ok (.aload_n 0, 1) := by decide +kernel
theorem dX8_readsCell_20 : decode cX8_readsCell 20 = .ok (.getfield 126, 3) := by decide +kernel
theorem dX8_readsCell_23 : decode cX8_readsCell 23 = .ok (.iastore, 1) := by decide +kernel
theorem dX8_readsCell_24 : decode cX8_readsCell 24 = .ok (.aload_n 0, 1) := by decide +kernel
theorem dX8_readsCell_25 : decode cX8_readsCell 25 = .ok (.dup, 1) := by decide +kernel
theorem dX8_readsCell_26 : decode cX8_readsCell 26 = .ok (.getfield 135, 3) := by decide +kernel
theorem dX8_readsCell_29 : decode cX8_readsCell 29 = .ok (.iconst 1, 1) := by decide +kernel
theorem dX8_readsCell_30 : decode cX8_readsCell 30 = .ok (.iadd, 1) := by decide +kernel
theorem dX8_readsCell_31 : decode cX8_readsCell 31 = .ok (.putfield 135, 3) := by decide +kernel
theorem dX8_readsCell_34 : decode cX8_readsCell 34 = .ok (.iconst 1, 1) := by decide +kernel
theorem dX8_readsCell_35 : decode cX8_readsCell 35 = .ok (.ireturn, 1) := by decide +kernel
theorem dX8_readsPerson_0 : decode cX8_readsPerson 0 = .ok (.aload_n 0, 1) := by decide +kernel
theorem dX8_readsPerson_1 : decode cX8_readsPerson 1 = .ok (.bipush 112, 2) := by decide +kernel
theorem dX8_readsPerson_3 : decode cX8_readsPerson 3 = .ok (.invokevirtual 120, 3) := by decide +kernel
theorem dX8_readsPerson_6 : decode cX8_readsPerson 6 = .ok (.ifCond .eq 7, 3) := by decide +kernel
theorem dX8_readsPerson_9 : decode cX8_readsPerson 9 = .ok (.iconst 0, 1) := by decide +kernel
theorem dX8_readsPerson_10 : decode cX8_readsPerson 10 = .ok (.goto 57, 3) := by decide +kernel
theorem dX8_readsPerson_13 : decode cX8_readsPerson 13 = .ok (.aload_n 0, 1) := by decide +kernel
theorem dX8_readsPerson_14 : decode cX8_readsPerson 14 = .ok (.bipush 108, 2) := by decide +kernel
theorem dX8_readsPerson_16 : decode cX8_readsPerson 16 = .ok (.invokevirtual 120, 3) := by decide +kernel
theorem dX8_readsPerson_19 : decode cX8_readsPerson 19 = .ok (.ifCond .eq 7, 3) := by decide +kernel
theorem dX8_readsPerson_22 : decode cX8_readsPerson 22 = .ok (.iconst 1, 1) := by decide +kernel
theorem dX8_readsPerson_23 : decode cX8_readsPerson 23 = .ok (.goto 44, 3) := by decide +kernel
theorem dX8_readsPerson_26 : decode cX8_readsPerson 26 = .ok (.aload_n 0, 1) := by decide +kernel
theorem dX8_readsPerson_27 : decode cX8_readsPerson 27 = .ok (.bipush 100, 2) := by decide +kernel
theorem dX8_readsPerson_29 : decode cX8_readsPerson 29 = .ok (.invokevirtual 120, 3) := by decide +kernel
theorem dX8_readsPerson_32 : decode cX8_readsPerson 32 = .ok (.ifCond .eq 7, 3) := by decide +kernel
theorem dX8_readsPerson_35 : decode cX8_readsPerson 35 = .ok (.iconst 2, 1) := by decide +kernel
theorem dX8_readsPerson_36 : decode cX8_readsPerson 36 = .ok (.goto 31, 3) := by decide +kernel
theorem dX8_readsPerson_39 : decode cX8_readsPerson 39 = .ok (.aload_n 0, 1) := by decide +kernel
theorem dX8_readsPerson_40 : decode cX8_readsPerson 40 = .ok (.bipush 115, 2) := by decide +kernel
theorem dX8_readsPerson_42 : decode cX8_readsPerson 42 = .ok (.invokevirtual 120, 3) := by decide +kernel
theorem dX8_readsPerson_45 : decode cX8_readsPerson 45 = .ok (.ifCond .eq 7, 3) := by decide +kernel
theorem dX8_readsPerson_48 : decode cX8_readsPerson 48 = .ok (.iconst 3, 1) := by decide +kernel
theorem dX8_readsPerson_49 : decode cX8_readsPerson 49 = .ok (.goto 18, 3) := by decide +kernel
theorem dX8_readsPerson_52 : decode cX8_readsPerson 52 = .ok (.aload_n 0, 1) := by decide +kernel
theorem dX8_readsPerson_53 : decode cX8_readsPerson 53 = .ok (.bipush 99, 2) := by decide +kernel
theorem dX8_readsPerson_55 : decode cX8_readsPerson 55 = .ok (.invokevirtual 120, 3) := by decide +kernel
theorem dX8_readsPerson_58 : decode cX8_readsPerson 58 = .ok (.ifCond .eq 7, 3) := by decide +kernel
theorem dX8_readsPerson_61 : decode cX8_readsPerson 61 = .ok (.iconst 4, 1) := by decide +kernel
theorem dX8_readsPerson_62 : decode cX8_readsPerson 62 = .ok (.goto 5, 3) := by decide +kernel
theorem dX8_readsPerson_65 : decode cX8_readsPerson 65 = .ok (.bipush (-4), 2) := by decide +kernel
theorem dX8_readsPerson_67 : decode cX8_readsPerson 67 = .ok (.istore_n 1, 1) := by decide +kernel
theorem dX8_readsPerson_68 : decode cX8_readsPerson 68 = .ok (.iload_n 1, 1) := by decide +kernel
theorem dX8_readsPerson_69 : decode cX8_readsPerson 69 = .ok (.bipush (-4), 2) := by decide +kernel
theorem dX8_readsPerson_71 : decode cX8_readsPerson 71 = .ok (.if_icmp .ne 5, 3) := by decide +kernel
theorem dX8_readsPerson_74 : decode cX8_readsPerson 74 = .ok (.iconst 0, 1) := by decide +kernel
theorem dX8_readsPerson_75 : decode cX8_readsPerson 75 = .ok (.ireturn, 1) := by decide +kernel
theorem dX8_readsPerson_76 : decode cX8_readsPerson 76 = .ok (.aload_n 0, 1) := by decide +kernel
theorem dX8_readsPerson_77 : decode cX8_readsPerson 77 = .ok (.dup, 1) := by decide +kernel
theorem dX8_readsPerson_78 : decode cX8_readsPerson 78 = .ok (.getfield 115, 3) := by decide +kernel
theorem dX8_readsPerson_81 : decode cX8_readsPerson 81 = .ok (.iconst 1, 1) := by decide +kernel
theorem dX8_readsPerson_82 : decode cX8_readsPerson 82 = .ok (.iadd, 1) := by decide +kernel
theorem dX8_readsPerson_83 : decode cX8_readsPerson 83 = .ok (.putfield 115, 3) := by decide +kernel
theorem dX8_readsPerson_86 : decode cX8_readsPerson 86 = .ok (.aload_n 0, 1) := by decide +kernel
theorem dX8_readsPerson_87 : decode cX8_readsPerson 87 = .ok (.invokevirtual 123, 3) := by decide +kernel
theorem dX8_readsPerson_90 : decode cX8_readsPerson 90 = .ok (.aload_n 0, 1) := by decide +kernel
theorem dX8_readsPerson_91 : decode cX8_readsPerson 91 = .ok (.iconst 1, 1) := by decide +kernel
theorem dX8_readsPerson_92 : decode cX8_readsPerson 92 = .ok (.invokevirtual 129, 3) := by decide +kernel
theorem dX8_readsPerson_95 : decode cX8_readsPerson 95 = .ok (.ifCond .ne 5, 3) := by decide +kernel
theorem dX8_readsPerson_98 : decode cX8_readsPerson 98 = .ok (.iconst 0, 1) := by decide +kernel
theorem dX8_readsPerson_99 : decode cX8_readsPerson 99 = .ok (.ireturn, 1) := by decide +kernel
theorem dX8_readsPerson_100 : decode cX8_readsPerson 100 = .ok (.aload_n 0, 1) := by decide +kernel
theorem dX8_readsPerson_101 : decode cX8_readsPerson 101 = .ok (.getfield 29, 3) := by decide +kernel
theorem dX8_readsPerson_104 : decode cX8_readsPerson 104 = .ok (.iconst 2, 1) := by decide +kernel
theorem dX8_readsPerson_105 : decode cX8_readsPerson 105 = .ok (.aload_n 0, 1) := by decide +kernel
theorem dX8_readsPerson_106 : decode cX8_readsPerson 106 = .ok (.getfield 138, 3) := by decide +kernel
theorem dX8_readsPerson_109 : decode cX8_readsPerson 109 = .ok (.imul, 1) := by decide +kernel
theorem dX8_readsPerson_110 : decode cX8_readsPerson 110 = .ok (.iload_n 1, 1) := by decide +kernel
theorem dX8_readsPerson_111 : decode cX8_readsPerson 111 = .ok (.iastore, 1) := by decide +kernel
theorem dX8_readsPerson_112 : decode cX8_readsPerson 112 = .ok (.aload_n 0, 1) := by decide +kernel
theorem dX8_readsPerson_113 : decode cX8_readsPerson 113 = .ok (.getfield 29, 3) := by decide +kernel
theorem dX8_readsPerson_116 : decode cX8_readsPerson 116 = .ok (.iconst 2, 1) := by decide +kernel
theorem dX8_readsPerson_117 : decode cX8_readsPerson 117 = .ok (.aload_n 0, 1) := by decide +kernel
theorem dX8_readsPerson_118 : decode cX8_readsPerson 118 = .ok (.getfield 138, 3) := by decide +kernel
theorem dX8_readsPerson_121 : decode cX8_readsPerson 121 = .ok (.imul, 1) := by decide +kernel
theorem dX8_readsPerson_122 : decode cX8_readsPerson 122 = .ok (.iconst 1, 1) := by decide +kernel
theorem dX8_readsPerson_123 : decode cX8_readsPerson 123 = .ok (.iadd, 1) := by decide +kernel
theorem dX8_readsPerson_124 : decode cX8_readsPerson 124 = .ok (.aload_n 0, 1) := by decide +kernel
theorem dX8_readsPerson_125 : decode cX8_readsPerson 125 = .ok (.getfield 23, 3) := by decide +kernel
theorem dX8_readsPerson_128 : decode cX8_readsPerson 128 = .ok (.aload_n 0, 1) := by decide +kernel
theorem dX8_readsPerson_129 : decode cX8_readsPerson 129 = .ok (.getfield 115, 3) := by decide +kernel
theorem dX8_readsPerson_132 : decode cX8_readsPerson 132 = .ok (.iaload, 1) := by decide +kernel
theorem dX8_readsPerson_133 : decode cX8_readsPerson 133 = .ok (.bipush 48, 2) := by decide +kernel
theorem dX8_readsPerson_135 : decode cX8_readsPerson 135 = .ok (.isub, 1) := by decide +kernel
theorem dX8_readsPerson_136 : decode cX8_readsPerson 136 = .ok (.iastore, 1) := by decide +kernel
theorem dX8_readsPerson_137 : decode cX8_readsPerson 137 = .ok (.aload_n 0, 1) := by decide +kernel
theorem dX8_readsPerson_138 : decode cX8_readsPerson 138 = .ok (.dup, 1) := by decide +kernel
theorem dX8_readsPerson_139 : decode cX8_readsPerson 139 = .ok (.getfield 138, 3) := by decide +kernel
theorem dX8_readsPerson_142 : decode cX8_readsPerson 142 = .ok (.iconst 1, 1) := by decide +kernel
theorem dX8_readsPerson_143 : decode cX8_readsPerson 143 = .ok (.iadd, 1) := by decide +kernel
theorem dX8_readsPerson_144 : decode cX8_readsPerson 144 = .ok (.putfield 138, 3) := by decide +kernel
theorem dX8_readsPerson_147 : decode cX8_readsPerson 147 = .ok (.aload_n 0, 1) := by decide +kernel
theorem dX8_readsPerson_148 : decode cX8_readsPerson 148 = .ok (.dup, 1) := by decide +kernel
theorem dX8_readsPerson_149 : decode cX8_readsPerson 149 = .ok (.getfield 115, 3) := by decide +kernel
theorem dX8_readsPerson_152 : decode cX8_readsPerson 152 = .ok (.iconst 1, 1) := by decide +kernel
theorem dX8_readsPerson_153 : decode cX8_readsPerson 153 = .ok (.iadd, 1) := by decide +kernel
theorem dX8_readsPerson_154 : decode cX8_readsPerson 154 = .ok (.putfield 115, 3) := by decide +kernel
theorem dX8_readsPerson_157 : decode cX8_readsPerson 157 = .ok (.aload_n 0, 1) := by decide +kernel
theorem dX8_readsPerson_158 : decode cX8_readsPerson 158 = .ok (.invokevirtual 123, 3) := by decide +kernel
theorem dX8_readsPerson_161 : decode cX8_readsPerson 161 = .ok (.iconst 1, 1) := by decide +kernel
theorem dX8_readsPerson_162 : decode cX8_readsPerson 162 = .ok (.ireturn, 1) := by decide +kernel
theorem dX8_isFor_0 : decode cX8_isFor 0 = .ok (.aload_n 0, 1) := by decide +kernel
theorem dX8_isFor_1 : decode cX8_isFor 1 = .ok (.iconst 0, 1) := by decide +kernel
theorem dX8_isFor_2 : decode cX8_isFor 2 = .ok (.invokevirtual 129, 3) := by decide +kernel
theorem dX8_isFor_5 : decode cX8_isFor 5 = .ok (.ifCond .eq 43, 3) := by decide +kernel
theorem dX8_isFor_8 : decode cX8_isFor 8 = .ok (.aload_n 0, 1) := by decide +kernel
theorem dX8_isFor_9 : decode cX8_isFor 9 = .ok (.getfield 23, 3) := by decide +kernel
theorem dX8_isFor_12 : decode cX8_isFor 12 = .ok (.aload_n 0, 1) := by decide +kernel
theorem dX8_isFor_13 : decode cX8_isFor 13 = .ok (.getfield 115, 3) := by decide +kernel
theorem dX8_isFor_16 : decode cX8_isFor 16 = .ok (.iaload, 1) := by decide +kernel
theorem dX8_isFor_17 : decode cX8_isFor 17 = .ok (.bipush 48, 2) := by decide +kernel
theorem dX8_isFor_19 : decode cX8_isFor 19 = .ok (.isub, 1) := by decide +kernel
theorem dX8_isFor_20 : decode cX8_isFor 20 = .ok (.aload_n 0, 1) := by decide +kernel
theorem dX8_isFor_21 : decode cX8_isFor 21 = .ok (.getfield 138, 3) := by decide +kernel
theorem dX8_isFor_24 : decode cX8_isFor 24 = .ok (.if_icmp .ge 24, 3) := by decide +kernel
theorem dX8_isFor_27 : decode cX8_isFor 27 = .ok (.iload_n 1, 1) := by decide +kernel
theorem dX8_isFor_28 : decode cX8_isFor 28 = .ok (.aload_n 0, 1) := by decide +kernel
theorem dX8_isFor_29 : decode cX8_isFor 29 = .ok (.getfield 23, 3) := by decide +kernel
theorem dX8_isFor_32 : decode cX8_isFor 32 = .ok (.aload_n 0, 1) := by decide +kernel
theorem dX8_isFor_33 : decode cX8_isFor 33 = .ok (.getfield 115, 3) := by decide +kernel
theorem dX8_isFor_36 : decode cX8_isFor 36 = .ok (.iaload, 1) := by decide +kernel
theorem dX8_isFor_37 : decode cX8_isFor 37 = .ok (.bipush 48, 2) := by decide +kernel
theorem dX8_isFor_39 : decode cX8_isFor 39 = .ok (.isub, 1) := by decide +kernel
theorem dX8_isFor_40 : decode cX8_isFor 40 = .ok (.ishr, 1) := by decide +kernel
theorem dX8_isFor_41 : decode cX8_isFor 41 = .ok (.ifCond .ne 7, 3) := by decide +kernel
theorem dX8_isFor_44 : decode cX8_isFor 44 = .ok (.iconst 1, 1) := by decide +kernel
theorem dX8_isFor_45 : decode cX8_isFor 45 = .ok (.goto 4, 3) := by decide +kernel
theorem dX8_isFor_48 : decode cX8_isFor 48 = .ok (.iconst 0, 1) := by decide +kernel
theorem dX8_isFor_49 : decode cX8_isFor 49 = .ok (.ireturn, 1) := by decide +kernel
theorem dX8_readsSaying_0 : decode cX8_readsSaying 0 = .ok (.aload_n 0, 1) := by decide +kernel
theorem dX8_readsSaying_1 : decode cX8_readsSaying 1 = .ok (.bipush 20, 2) := by decide +kernel
theorem dX8_readsSaying_3 : decode cX8_readsSaying 3 = .ok (.invokevirtual 132, 3) := by decide +kernel
theorem dX8_readsSaying_6 : decode cX8_readsSaying 6 = .ok (.ifCond .ne 5, 3) := by decide +kernel
theorem dX8_readsSaying_9 : decode cX8_readsSaying 9 = .ok (.iconst 0, 1) := by decide +kernel
theorem dX8_readsSaying_10 : decode cX8_readsSaying 10 = .ok (.ireturn, 1) := by decide +kernel
theorem dX8_readsSaying_11 : decode cX8_readsSaying 11 = .ok (.iconst 0, 1) := by decide +kernel
theorem dX8_readsSaying_12 : decode cX8_readsSaying 12 = .ok (.istore_n 1, 1) := by decide +kernel
theorem dX8_readsSaying_13 : decode cX8_readsSaying 13 = .ok (.aload_n 0, 1) := by decide +kernel
theorem dX8_readsSaying_14 : decode cX8_readsSaying 14 = .ok (.bipush 58, 2) := by decide +kernel
theorem dX8_readsSaying_16 : decode cX8_readsSaying 16 = .ok (.invokevirtual 141, 3) := by decide +kernel
theorem dX8_readsSaying_19 : decode cX8_readsSaying 19 = .ok (.ifCond .eq 55, 3) := by decide +kernel
theorem dX8_readsSaying_22 : decode cX8_readsSaying 22 = .ok (.aload_n 0, 1) := by decide +kernel
theorem dX8_readsSaying_23 : decode cX8_readsSaying 23 = .ok (.iconst 0, 1) := by decide +kernel
theorem dX8_readsSaying_24 : decode cX8_readsSaying 24 = .ok (.invokevirtual 144, 3) := by decide +kernel
theorem dX8_readsSaying_27 : decode cX8_readsSaying 27 = .ok (.ifCond .ne 5, 3) := by decide +kernel
theorem dX8_readsSaying_30 : decode cX8_readsSaying 30 = .ok (.iconst 0, 1) := by decide +kernel
theorem dX8_readsSaying_31 : decode cX8_readsSaying 31 = .ok (.ireturn, 1) := by decide +kernel
theorem dX8_readsSaying_32 : decode cX8_readsSaying 32 = .ok (.aload_n 0, 1) := by decide +kernel
theorem dX8_readsSaying_33 : decode cX8_readsSaying 33 = .ok (.iload_n 1, 1) := by decide +kernel
theorem dX8_readsSaying_34 : decode cX8_readsSaying 34 = .ok (.invokevirtual 144, 3) := by decide +kernel
theorem dX8_readsSaying_37 : decode cX8_readsSaying 37 = .ok (.ifCond .eq 37, 3) := by decide +kernel
theorem dX8_readsSaying_40 : decode cX8_readsSaying 40 = .ok (.iload_n 1, 1) := by decide +kernel
theorem dX8_readsSaying_41 : decode cX8_readsSaying 41 = .ok (.iconst 1, 1) := by decide +kernel
theorem dX8_readsSaying_42 : decode cX8_readsSaying 42 = .ok (.aload_n 0, 1) := by decide +kernel
theorem dX8_readsSaying_43 : decode cX8_readsSaying 43 = .ok (.getfield 23, 3) := by decide +kernel
theorem dX8_readsSaying_46 : decode cX8_readsSaying 46 = .ok (.aload_n 0, 1) := by decide +kernel
theorem dX8_readsSaying_47 : decode cX8_readsSaying 47 = .ok (.getfield 115, 3) := by decide +kernel
theorem dX8_readsSaying_50 : decode cX8_readsSaying 50 = .ok (.iaload, 1) := by decide +kernel
theorem dX8_readsSaying_51 : decode cX8_readsSaying 51 = .ok (.bipush 48, 2) := by decide +kernel
theorem dX8_readsSaying_53 : decode cX8_readsSaying 53 = .ok (.isub, 1) := by decide +kernel
theorem dX8_readsSaying_54 : decode cX8_readsSaying 54 = .ok (.ishl, 1) := by decide +kernel
theorem dX8_readsSaying_55 : decode cX8_readsSaying 55 = .ok (.ior, 1) := by decide +kernel
theorem dX8_readsSaying_56 : decode cX8_readsSaying 56 = .ok (.istore_n 1, 1) := by decide +kernel
theorem dX8_readsSaying_57 : decode cX8_readsSaying 57 = .ok (.aload_n 0, 1) := by decide +kernel
theorem dX8_readsSaying_58 : decode cX8_readsSaying 58 = .ok (.dup, 1) := by decide +kernel
theorem dX8_readsSaying_59 : decode cX8_readsSaying 59 = .ok (.getfield 115, 3) := by decide +kernel
theorem dX8_readsSaying_62 : decode cX8_readsSaying 62 = .ok (.iconst 1, 1) := by decide +kernel
theorem dX8_readsSaying_63 : decode cX8_readsSaying 63 = .ok (.iadd, 1) := by decide +kernel
theorem dX8_readsSaying_64 : decode cX8_readsSaying 64 = .ok (.putfield 115, 3) := by decide +kernel
theorem dX8_readsSaying_67 : decode cX8_readsSaying 67 = .ok (.aload_n 0, 1) := by decide +kernel
theorem dX8_readsSaying_68 : decode cX8_readsSaying 68 = .ok (.invokevirtual 123, 3) := by decide +kernel
theorem dX8_readsSaying_71 : decode cX8_readsSaying 71 = .ok (.goto (-39), 3) := by decide +kernel
theorem dX8_readsSaying_74 : decode cX8_readsSaying 74 = .ok (.aload_n 0, 1) := by decide +kernel
theorem dX8_readsSaying_75 : decode cX8_readsSaying 75 = .ok (.getfield 32, 3) := by decide +kernel
theorem dX8_readsSaying_78 : decode cX8_readsSaying 78 = .ok (.iconst 2, 1) := by decide +kernel
theorem dX8_readsSaying_79 : decode cX8_readsSaying 79 = .ok (.aload_n 0, 1) := by decide +kernel
theorem dX8_readsSaying_80 : decode cX8_readsSaying 80 = .ok (.getfield 147, 3) := by decide +kernel
theorem dX8_readsSaying_83 : decode cX8_readsSaying 83 = .ok (.imul, 1) := by decide +kernel
theorem dX8_readsSaying_84 : decode cX8_readsSaying 84 = .ok (.aload_n 0, 1) := by decide +kernel
theorem dX8_readsSaying_85 : decode cX8_readsSaying 85 = .ok (.getfield 126, 3) := by decide +kernel
theorem dX8_readsSaying_88 : decode cX8_readsSaying 88 = .ok (.iastore, 1) := by decide +kernel
theorem dX8_readsSaying_89 : decode cX8_readsSaying 89 = .ok (.aload_n 0, 1) := by decide +kernel
theorem dX8_readsSaying_90 : decode cX8_readsSaying 90 = .ok (.getfield 32, 3) := by decide +kernel
theorem dX8_readsSaying_93 : decode cX8_readsSaying 93 = .ok (.iconst 2, 1) := by decide +kernel
theorem dX8_readsSaying_94 : decode cX8_readsSaying 94 = .ok (.aload_n 0, 1) := by decide +kernel
theorem dX8_readsSaying_95 : decode cX8_readsSaying 95 = .ok (.getfield 147, 3) := by decide +kernel
theorem dX8_readsSaying_98 : decode cX8_readsSaying 98 = .ok (.imul, 1) := by decide +kernel
theorem dX8_readsSaying_99 : decode cX8_readsSaying 99 = .ok (.iconst 1, 1) := by decide +kernel
theorem dX8_readsSaying_100 : decode cX8_readsSaying 100 = .ok (.iadd, 1) := by decide +kernel
theorem dX8_readsSaying_101 : decode cX8_readsSaying 101 = .ok (.iload_n 1, 1) := by decide +kernel
theorem dX8_readsSaying_102 : decode cX8_readsSaying 102 = .ok (.iastore, 1) := by decide +kernel
theorem dX8_readsSaying_103 : decode cX8_readsSaying 103 = .ok (.aload_n 0, 1) := by decide +kernel
theorem dX8_readsSaying_104 : decode cX8_readsSaying 104 = .ok (.dup, 1) := by decide +kernel
theorem dX8_readsSaying_105 : decode cX8_readsSaying 105 = .ok (.getfield 147, 3) := by decide +kernel
theorem dX8_readsSaying_108 : decode cX8_readsSaying 108 = .ok (.iconst 1, 1) := by decide +kernel
theorem dX8_readsSaying_109 : decode cX8_readsSaying 109 = .ok (.iadd, 1) := by decide +kernel
theorem dX8_readsSaying_110 : decode cX8_readsSaying 110 = .ok (.putfield 147, 3) := by decide +kernel
theorem dX8_readsSaying_113 : decode cX8_readsSaying 113 = .ok (.iconst 1, 1) := by decide +kernel
theorem dX8_readsSaying_114 : decode cX8_readsSaying 114 = .ok (.ireturn, 1) := by decide +kernel
theorem dX8_reads_0 : decode cX8_reads 0 = .ok (.aload_n 0, 1) := by decide +kernel
theorem dX8_reads_1 : decode cX8_reads 1 = .ok (.iconst 0, 1) := by decide +kernel
theorem dX8_reads_2 : decode cX8_reads 2 = .ok (.putfield 115, 3) := by decide +kernel
theorem dX8_reads_5 : decode cX8_reads 5 = .ok (.aload_n 0, 1) := by decide +kernel
theorem dX8_reads_6 : decode cX8_reads 6 = .ok (.iconst 0, 1) := by decide +kernel
theorem dX8_reads_7 : decode cX8_reads 7 = .ok (.putfield 135, 3) := by decide +kernel
theorem dX8_reads_10 : decode cX8_reads 10 = .ok (.aload_n 0, 1) := by decide +kernel
theorem dX8_reads_11 : decode cX8_reads 11 = .ok (.iconst 0, 1) := by decide +kernel
theorem dX8_reads_12 : decode cX8_reads 12 = .ok (.putfield 138, 3) := by decide +kernel
theorem dX8_reads_15 : decode cX8_reads 15 = .ok (.aload_n 0, 1) := by decide +kernel
theorem dX8_reads_16 : decode cX8_reads 16 = .ok (.iconst 0, 1) := by decide +kernel
theorem dX8_reads_17 : decode cX8_reads 17 = .ok (.putfield 147, 3) := by decide +kernel
theorem dX8_reads_20 : decode cX8_reads 20 = .ok (.aload_n 0, 1) := by decide +kernel
theorem dX8_reads_21 : decode cX8_reads 21 = .ok (.invokevirtual 123, 3) := by decide +kernel
theorem dX8_reads_24 : decode cX8_reads 24 = .ok (.aload_n 0, 1) := by decide +kernel
theorem dX8_reads_25 : decode cX8_reads 25 = .ok (.invokevirtual 150, 3) := by decide +kernel
theorem dX8_reads_28 : decode cX8_reads 28 = .ok (.istore_n 1, 1) := by decide +kernel
theorem dX8_reads_29 : decode cX8_reads 29 = .ok (.iload_n 1, 1) := by decide +kernel
theorem dX8_reads_30 : decode cX8_reads 30 = .ok (.ifCond .eq 29, 3) := by decide +kernel
theorem dX8_reads_33 : decode cX8_reads 33 = .ok (.aload_n 0, 1) := by decide +kernel
theorem dX8_reads_34 : decode cX8_reads 34 = .ok (.getfield 135, 3) := by decide +kernel
theorem dX8_reads_37 : decode cX8_reads 37 = .ok (.bipush 12, 2) := by decide +kernel
theorem dX8_reads_39 : decode cX8_reads 39 = .ok (.if_icmp .ge 20, 3) := by decide +kernel
theorem dX8_reads_42 : decode cX8_reads 42 = .ok (.aload_n 0, 1) := by decide +kernel
theorem dX8_reads_43 : decode cX8_reads 43 = .ok (.bipush 46, 2) := by decide +kernel
theorem dX8_reads_45 : decode cX8_reads 45 = .ok (.invokevirtual 141, 3) := by decide +kernel
theorem dX8_reads_48 : decode cX8_reads 48 = .ok (.ifCond .eq 11, 3) := by decide +kernel
theorem dX8_reads_51 : decode cX8_reads 51 = .ok (.aload_n 0, 1) := by decide +kernel
theorem dX8_reads_52 : decode cX8_reads 52 = .ok (.invokevirtual 150, 3) := by decide +kernel
theorem dX8_reads_55 : decode cX8_reads 55 = .ok (.istore_n 1, 1) := by decide +kernel
theorem dX8_reads_56 : decode cX8_reads 56 = .ok (.goto (-27), 3) := by decide +kernel
theorem dX8_reads_59 : decode cX8_reads 59 = .ok (.iload_n 1, 1) := by decide +kernel
theorem dX8_reads_60 : decode cX8_reads 60 = .ok (.ifCond .eq 23, 3) := by decide +kernel
theorem dX8_reads_63 : decode cX8_reads 63 = .ok (.aload_n 0, 1) := by decide +kernel
theorem dX8_reads_64 : decode cX8_reads 64 = .ok (.bipush 59, 2) := by decide +kernel
theorem dX8_reads_66 : decode cX8_reads 66 = .ok (.invokevirtual 141, 3) := by decide +kernel
theorem dX8_reads_69 : decode cX8_reads 69 = .ok (.ifCond .eq 14, 3) := by decide +kernel
theorem dX8_reads_72 : decode cX8_reads 72 = .ok (.aload_n 0, 1) := by decide +kernel
theorem dX8_reads_73 : decode cX8_reads 73 = .ok (.invokevirtual 154, 3) := by decide +kernel
theorem dX8_reads_76 : decode cX8_reads 76 = .ok (.ifCond .eq 7, 3) := by decide +kernel
theorem dX8_reads_79 : decode cX8_reads 79 = .ok (.iconst 1, 1) := by decide +kernel
theorem dX8_reads_80 : decode cX8_reads 80 = .ok (.goto 4, 3) := by decide +kernel
theorem dX8_reads_83 : decode cX8_reads 83 = .ok (.iconst 0, 1) := by decide +kernel
theorem dX8_reads_84 : decode cX8_reads 84 = .ok (.istore_n 1, 1) := by decide +kernel
theorem dX8_reads_85 : decode cX8_reads 85 = .ok (.iload_n 1, 1) := by decide +kernel
theorem dX8_reads_86 : decode cX8_reads 86 = .ok (.ifCond .eq 29, 3) := by decide +kernel
theorem dX8_reads_89 : decode cX8_reads 89 = .ok (.aload_n 0, 1) := by decide +kernel
theorem dX8_reads_90 : decode cX8_reads 90 = .ok (.getfield 138, 3) := by decide +kernel
theorem dX8_reads_93 : decode cX8_reads 93 = .ok (.bipush 6, 2) := by decide +kernel
theorem dX8_reads_95 : decode cX8_reads 95 = .ok (.if_icmp .ge 20, 3) := by decide +kernel
theorem dX8_reads_98 : decode cX8_reads 98 = .ok (.aload_n 0, 1) := by decide +kernel
theorem dX8_reads_99 : decode cX8_reads 99 = .ok (.bipush 44, 2) := by decide +kernel
theorem dX8_reads_101 : decode cX8_reads 101 = .ok (.invokevirtual 141, 3) := by decide +kernel
theorem dX8_reads_104 : decode cX8_reads 104 = .ok (.ifCond .eq 11, 3) := by decide +kernel
theorem dX8_reads_107 : decode cX8_reads 107 = .ok (.aload_n 0, 1) := by decide +kernel
theorem dX8_reads_108 : decode cX8_reads 108 = .ok (.invokevirtual 154, 3) := by decide +kernel
theorem dX8_reads_111 : decode cX8_reads 111 = .ok (.istore_n 1, 1) := by decide +kernel
theorem dX8_reads_112 : decode cX8_reads 112 = .ok (.goto (-27), 3) := by decide +kernel
theorem dX8_reads_115 : decode cX8_reads 115 = .ok (.iload_n 1, 1) := by decide +kernel
theorem dX8_reads_116 : decode cX8_reads 116 = .ok (.ifCond .eq 46, 3) := by decide +kernel
theorem dX8_reads_119 : decode cX8_reads 119 = .ok (.aload_n 0, 1) := by decide +kernel
theorem dX8_reads_120 : decode cX8_reads 120 = .ok (.bipush 59, 2) := by decide +kernel
theorem dX8_reads_122 : decode cX8_reads 122 = .ok (.invokevirtual 141, 3) := by decide +kernel
theorem dX8_reads_125 : decode cX8_reads 125 = .ok (.ifCond .eq 37, 3) := by decide +kernel
theorem dX8_reads_128 : decode cX8_reads 128 = .ok (.aload_n 0, 1) := by decide +kernel
theorem dX8_reads_129 : decode cX8_reads 129 = .ok (.invokevirtual 157, 3) := by decide +kernel
theorem dX8_reads_132 : decode cX8_reads 132 = .ok (.istore_n 1, 1) := by decide +kernel
theorem dX8_reads_133 : decode cX8_reads 133 = .ok (.iload_n 1, 1) := by decide +kernel
theorem dX8_reads_134 : decode cX8_reads 134 = .ok (.ifCond .eq 28, 3) := by decide +kernel
theorem dX8_reads_137 : decode cX8_reads 137 = .ok (.aload_n 0, 1) := by decide +kernel
theorem dX8_reads_138 : decode cX8_reads 138 = .ok (.getfield 147, 3) := by decide +kernel
theorem dX8_reads_141 : decode cX8_reads 141 = .ok (.iconst 5, 1) := by decide +kernel
theorem dX8_reads_142 : decode cX8_reads 142 = .ok (.if_icmp .ge 20, 3) := by decide +kernel
theorem dX8_reads_145 : decode cX8_reads 145 = .ok (.aload_n 0, 1) := by decide +kernel
theorem dX8_reads_146 : decode cX8_reads 146 = .ok (.bipush 44, 2) := by decide +kernel
theorem dX8_reads_148 : decode cX8_reads 148 = .ok (.invokevirtual 141, 3) := by decide +kernel
theorem dX8_reads_151 : decode cX8_reads 151 = .ok (.ifCond .eq 11, 3) := by decide +kernel
theorem dX8_reads_154 : decode cX8_reads 154 = .ok (.aload_n 0, 1) := by decide +kernel
theorem dX8_reads_155 : decode cX8_reads 155 = .ok (.invokevirtual 157, 3) := by decide +kernel
theorem dX8_reads_158 : decode cX8_reads 158 = .ok (.istore_n 1, 1) := by decide +kernel
theorem dX8_reads_159 : decode cX8_reads 159 = .ok (.goto (-26), 3) := by decide +kernel
theorem dX8_reads_162 : decode cX8_reads 162 = .ok (.iload_n 1, 1) := by decide +kernel
theorem dX8_reads_163 : decode cX8_reads 163 = .ok (.ifCond .eq 18, 3) := by decide +kernel
theorem dX8_reads_166 : decode cX8_reads 166 = .ok (.aload_n 0, 1) := by decide +kernel
theorem dX8_reads_167 : decode cX8_reads 167 = .ok (.getfield 115, 3) := by decide +kernel
theorem dX8_reads_170 : decode cX8_reads 170 = .ok (.aload_n 0, 1) := by decide +kernel
theorem dX8_reads_171 : decode cX8_reads 171 = .ok (.getfield 111, 3) := by decide +kernel
theorem dX8_reads_174 : decode cX8_reads 174 = .ok (.if_icmp .ne 7, 3) := by decide +kernel
theorem dX8_reads_177 : decode cX8_reads 177 = .ok (.iconst 1, 1) := by decide +kernel
theorem dX8_reads_178 : decode cX8_reads 178 = .ok (.goto 4, 3) := by decide +kernel
theorem dX8_reads_181 : decode cX8_reads 181 = .ok (.iconst 0, 1) := by decide +kernel
theorem dX8_reads_182 : decode cX8_reads 182 = .ok (.ireturn, 1) := by decide +kernel
theorem dX8_canal_0 : decode cX8_canal 0 = .ok (.aload_n 0, 1) := by decide +kernel
theorem dX8_canal_1 : decode cX8_canal 1 = .ok (.invokevirtual 160, 3) := by decide +kernel
theorem dX8_canal_4 : decode cX8_canal 4 = .ok (.istore_n 1, 1) := by decide +kernel
theorem dX8_canal_5 : decode cX8_canal 5 = .ok (.aload_n 0, 1) := by decide +kernel
theorem dX8_canal_6 : decode cX8_canal 6 = .ok (.iconst 0, 1) := by decide +kernel
theorem dX8_canal_7 : decode cX8_canal 7 = .ok (.putfield 111, 3) := by decide +kernel
theorem dX8_canal_10 : decode cX8_canal 10 = .ok (.iload_n 1, 1) := by decide +kernel
theorem dX8_canal_11 : decode cX8_canal 11 = .ok (.ifCond .ne 11, 3) := by decide +kernel
theorem dX8_canal_14 : decode cX8_canal 14 = .ok (.bipush (-20), 2) := by decide +kernel
theorem dX8_canal_16 : decode cX8_canal 16 = .ok (.aload_n 0, 1) := by decide +kernel
theorem dX8_canal_17 : decode cX8_canal 17 = .ok (.getfield 115, 3) := by decide +kernel
theorem dX8_canal_20 : decode cX8_canal 20 = .ok (.isub, 1) := by decide +kernel
theorem dX8_canal_21 : decode cX8_canal 21 = .ok (.ireturn, 1) := by decide +kernel
theorem dX8_canal_22 : decode cX8_canal 22 = .ok (.aload_n 0, 1) := by decide +kernel
theorem dX8_canal_23 : decode cX8_canal 23 = .ok (.getfield 7, 3) := by decide +kernel
theorem dX8_canal_26 : decode cX8_canal 26 = .ok (.iconst 2, 1) := by decide +kernel
theorem dX8_canal_27 : decode cX8_canal 27 = .ok (.iaload, 1) := by decide +kernel
theorem dX8_canal_28 : decode cX8_canal 28 = .ok (.istore_n 2, 1) := by decide +kernel
theorem dX8_canal_29 : decode cX8_canal 29 = .ok (.aload_n 0, 1) := by decide +kernel
theorem dX8_canal_30 : decode cX8_canal 30 = .ok (.getfield 7, 3) := by decide +kernel
theorem dX8_canal_33 : decode cX8_canal 33 = .ok (.bipush 25, 2) := by decide +kernel
theorem dX8_canal_35 : decode cX8_canal 35 = .ok (.iaload, 1) := by decide +kernel
theorem dX8_canal_36 : decode cX8_canal 36 = .ok (.istore_n 3, 1) := by decide +kernel
theorem dX8_canal_37 : decode cX8_canal 37 = .ok (.iconst 0, 1) := by decide +kernel
theorem dX8_canal_38 : decode cX8_canal 38 = .ok (.istore 4, 2) := by decide +kernel
theorem dX8_canal_40 : decode cX8_canal 40 = .ok (.iload 4, 2) := by decide +kernel
theorem dX8_canal_42 : decode cX8_canal 42 = .ok (.sipush 242, 3) := by decide +kernel
theorem dX8_canal_45 : decode cX8_canal 45 = .ok (.if_icmp .ge 17, 3) := by decide +kernel
theorem dX8_canal_48 : decode cX8_canal 48 = .ok (.aload_n 0, 1) := by decide +kernel
theorem dX8_canal_49 : decode cX8_canal 49 = .ok (.getfield 7, 3) := by decide +kernel
theorem dX8_canal_52 : decode cX8_canal 52 = .ok (.iload 4, 2) := by decide +kernel
theorem dX8_canal_54 : decode cX8_canal 54 = .ok (.iconst 0, 1) := by decide +kernel
theorem dX8_canal_55 : decode cX8_canal 55 = .ok (.iastore, 1) := by decide +kernel
theorem dX8_canal_56 : decode cX8_canal 56 = .ok (.iinc 4 1, 3) := by decide +kernel
theorem dX8_canal_59 : decode cX8_canal 59 = .ok (.goto (-19), 3) := by decide +kernel
theorem dX8_canal_62 : decode cX8_canal 62 = .ok (.aload_n 0, 1) := by decide +kernel
theorem dX8_canal_63 : decode cX8_canal 63 = .ok (.getfield 7, 3) := by decide +kernel
theorem dX8_canal_66 : decode cX8_canal 66 = .ok (.iconst 2, 1) := by decide +kernel
theorem dX8_canal_67 : decode cX8_canal 67 = .ok (.iload_n 2, 1) := by decide +kernel
theorem dX8_canal_68 : decode cX8_canal 68 = .ok (.iastore, 1) := by decide +kernel
theorem dX8_canal_69 : decode cX8_canal 69 = .ok (.aload_n 0, 1) := by decide +kernel
theorem dX8_canal_70 : decode cX8_canal 70 = .ok (.getfield 7, 3) := by decide +kernel
theorem dX8_canal_73 : decode cX8_canal 73 = .ok (.bipush 25, 2) := by decide +kernel
theorem dX8_canal_75 : decode cX8_canal 75 = .ok (.iload_n 3, 1) := by decide +kernel
theorem dX8_canal_76 : decode cX8_canal 76 = .ok (.iastore, 1) := by decide +kernel
theorem dX8_canal_77 : decode cX8_canal 77 = .ok (.iconst 0, 1) := by decide +kernel
theorem dX8_canal_78 : decode cX8_canal 78 = .ok (.istore 4, 2) := by decide +kernel
theorem dX8_canal_80 : decode cX8_canal 80 = .ok (.iload 4, 2) := by decide +kernel
theorem dX8_canal_82 : decode cX8_canal 82 = .ok (.aload_n 0, 1) := by decide +kernel
theorem dX8_canal_83 : decode cX8_canal 83 = .ok (.getfield 135, 3) := by decide +kernel
theorem dX8_canal_86 : decode cX8_canal 86 = .ok (.if_icmp .ge 20, 3) := by decide +kernel
theorem dX8_canal_89 : decode cX8_canal 89 = .ok (.aload_n 0, 1) := by decide +kernel
theorem dX8_canal_90 : decode cX8_canal 90 = .ok (.aload_n 0, 1) := by decide +kernel
theorem dX8_canal_91 : decode cX8_canal 91 = .ok (.getfield 26, 3) := by decide +kernel
theorem dX8_canal_94 : decode cX8_canal 94 = .ok (.iload 4, 2) := by decide +kernel
theorem dX8_canal_96 : decode cX8_canal 96 = .ok (.iaload, 1) := by decide +kernel
theorem dX8_canal_97 : decode cX8_canal 97 = .ok (.invokevirtual 53, 3) := by decide +kernel
theorem dX8_canal_100 : decode cX8_canal 100 = .ok (.iinc 4 1, 3) := by decide +kernel
theorem dX8_canal_103 : decode cX8_canal 103 = .ok (.goto (-23), 3) := by decide +kernel
theorem dX8_canal_106 : decode cX8_canal 106 = .ok (.iconst 0, 1) := by decide +kernel
theorem dX8_canal_107 : decode cX8_canal 107 = .ok (.istore 4, 2) := by decide +kernel
theorem dX8_canal_109 : decode cX8_canal 109 = .ok (.iload 4, 2) := by decide +kernel
theorem dX8_canal_111 : decode cX8_canal 111 = .ok (.aload_n 0, 1) := by decide +kernel
theorem dX8_canal_112 : decode cX8_canal 112 = .ok (.getfield 138, 3) := by decide +kernel
theorem dX8_canal_115 : decode cX8_canal 115 = .ok (.if_icmp .ge 33, 3) := by decide +kernel
theorem dX8_canal_118 : decode cX8_canal 118 = .ok (.aload_n 0, 1) := by decide +kernel
theorem dX8_canal_119 : decode cX8_canal 119 = .ok (.aload_n 0, 1) := by decide +kernel
theorem dX8_canal_120 : decode cX8_canal 120 = .ok (.getfield 29, 3) := by decide +kernel
theorem dX8_canal_123 : decode cX8_canal 123 = .ok (.iconst 2, 1) := by decide +kernel
theorem dX8_canal_124 : decode cX8_canal 124 = .ok (.iload 4, 2) := by decide +kernel
theorem dX8_canal_126 : decode cX8_canal 126 = .ok (.imul, 1) := by decide +kernel
theorem dX8_canal_127 : decode cX8_canal 127 = .ok (.iaload, 1) := by decide +kernel
theorem dX8_canal_128 : decode cX8_canal 128 = .ok (.aload_n 0, 1) := by decide +kernel
theorem dX8_canal_129 : decode cX8_canal 129 = .ok (.getfield 29, 3) := by decide +kernel
theorem dX8_canal_132 : decode cX8_canal 132 = .ok (.iconst 2, 1) := by decide +kernel
theorem dX8_canal_133 : decode cX8_canal 133 = .ok (.iload 4, 2) := by decide +kernel
theorem dX8_canal_135 : decode cX8_canal 135 = .ok (.imul, 1) := by decide +kernel
theorem dX8_canal_136 : decode cX8_canal 136 = .ok (.iconst 1, 1) := by decide +kernel
theorem dX8_canal_137 : decode cX8_canal 137 = .ok (.iadd, 1) := by decide +kernel
theorem dX8_canal_138 : decode cX8_canal 138 = .ok (.iaload, 1) := by decide +kernel
theorem dX8_canal_139 : decode cX8_canal 139 = .ok (.invokevirtual 61, 3) := by decide +kernel
theorem dX8_canal_142 : decode cX8_canal 142 = .ok (.iinc 4 1, 3) := by decide +kernel
theorem dX8_canal_145 : decode cX8_canal 145 = .ok (.goto (-36), 3) := by decide +kernel
theorem dX8_canal_148 : decode cX8_canal 148 = .ok (.iconst 0, 1) := by decide +kernel
theorem dX8_canal_149 : decode cX8_canal 149 = .ok (.istore 4, 2) := by decide +kernel
theorem dX8_canal_151 : decode cX8_canal 151 = .ok (.iload 4, 2) := by decide +kernel
theorem dX8_canal_153 : decode cX8_canal 153 = .ok (.aload_n 0, 1) := by decide +kernel
theorem dX8_canal_154 : decode cX8_canal 154 = .ok (.getfield 147, 3) := by decide +kernel
theorem dX8_canal_157 : decode cX8_canal 157 = .ok (.if_icmp .ge 33, 3) := by decide +kernel
theorem dX8_canal_160 : decode cX8_canal 160 = .ok (.aload_n 0, 1) := by decide +kernel
theorem dX8_canal_161 : decode cX8_canal 161 = .ok (.aload_n 0, 1) := by decide +kernel
theorem dX8_canal_162 : decode cX8_canal 162 = .ok (.getfield 32, 3) := by decide +kernel
theorem dX8_canal_165 : decode cX8_canal 165 = .ok (.iconst 2, 1) := by decide +kernel
theorem dX8_canal_166 : decode cX8_canal 166 = .ok (.iload 4, 2) := by decide +kernel
theorem dX8_canal_168 : decode cX8_canal 168 = .ok (.imul, 1) := by decide +kernel
theorem dX8_canal_169 : decode cX8_canal 169 = .ok (.iaload, 1) := by decide +kernel
theorem dX8_canal_170 : decode cX8_canal 170 = .ok (.aload_n 0, 1) := by decide +kernel
theorem dX8_canal_171 : decode cX8_canal 171 = .ok (.getfield 32, 3) := by decide +kernel
theorem dX8_canal_174 : decode cX8_canal 174 = .ok (.iconst 2, 1) := by decide +kernel
theorem dX8_canal_175 : decode cX8_canal 175 = .ok (.iload 4, 2) := by decide +kernel
theorem dX8_canal_177 : decode cX8_canal 177 = .ok (.imul, 1) := by decide +kernel
theorem dX8_canal_178 : decode cX8_canal 178 = .ok (.iconst 1, 1) := by decide +kernel
theorem dX8_canal_179 : decode cX8_canal 179 = .ok (.iadd, 1) := by decide +kernel
theorem dX8_canal_180 : decode cX8_canal 180 = .ok (.iaload, 1) := by decide +kernel
theorem dX8_canal_181 : decode cX8_canal 181 = .ok (.invokevirtual 71, 3) := by decide +kernel
theorem dX8_canal_184 : decode cX8_canal 184 = .ok (.iinc 4 1, 3) := by decide +kernel
theorem dX8_canal_187 : decode cX8_canal 187 = .ok (.goto (-36), 3) := by decide +kernel
theorem dX8_canal_190 : decode cX8_canal 190 = .ok (.aload_n 0, 1) := by decide +kernel
theorem dX8_canal_191 : decode cX8_canal 191 = .ok (.getfield 7, 3) := by decide +kernel
theorem dX8_canal_194 : decode cX8_canal 194 = .ok (.bipush 26, 2) := by decide +kernel
theorem dX8_canal_196 : decode cX8_canal 196 = .ok (.iaload, 1) := by decide +kernel
theorem dX8_canal_197 : decode cX8_canal 197 = .ok (.ireturn, 1) := by decide +kernel
theorem dX8_sumFrom_0 : decode cX8_sumFrom 0 = .ok (.iconst 0, 1) := by decide +kernel
theorem dX8_sumFrom_1 : decode cX8_sumFrom 1 = .ok (.istore 4, 2) := by decide +kernel
theorem dX8_sumFrom_3 : decode cX8_sumFrom 3 = .ok (.iload_n 2, 1) := by decide +kernel
theorem dX8_sumFrom_4 : decode cX8_sumFrom 4 = .ok (.istore 5, 2) := by decide +kernel
theorem dX8_sumFrom_6 : decode cX8_sumFrom 6 = .ok (.iload 5, 2) := by decide +kernel
theorem dX8_sumFrom_8 : decode cX8_sumFrom 8 = .ok (.iload_n 3, 1) := by decide +kernel
theorem dX8_sumFrom_9 : decode cX8_sumFrom 9 = .ok (.if_icmp .ge 23, 3) := by decide +kernel
theorem dX8_sumFrom_12 : decode cX8_sumFrom 12 = .ok (.iload 4, 2) := by decide +kernel
theorem dX8_sumFrom_14 : decode cX8_sumFrom 14 = .ok (.aload_n 0, 1) := by decide +kernel
theorem dX8_sumFrom_15 : decode cX8_sumFrom 15 = .ok (.getfield 7, 3) := by decide +kernel
theorem dX8_sumFrom_18 : decode cX8_sumFrom 18 = .ok (.iload_n 1, 1) := by decide +kernel
theorem dX8_sumFrom_19 : decode cX8_sumFrom 19 = .ok (.iload 5, 2) := by decide +kernel
theorem dX8_sumFrom_21 : decode cX8_sumFrom 21 = .ok (.iadd, 1) := by decide +kernel
theorem dX8_sumFrom_22 : decode cX8_sumFrom 22 = .ok (.iaload, 1) := by decide +kernel
theorem dX8_sumFrom_23 : decode cX8_sumFrom 23 = .ok (.iadd, 1) := by decide +kernel
theorem dX8_sumFrom_24 : decode cX8_sumFrom 24 = .ok (.istore 4, 2) := by decide +kernel
theorem dX8_sumFrom_26 : decode cX8_sumFrom 26 = .ok (.iinc 5 1, 3) := by decide +kernel
theorem dX8_sumFrom_29 : decode cX8_sumFrom 29 = .ok (.goto (-23), 3) := by decide +kernel
theorem dX8_sumFrom_32 : decode cX8_sumFrom 32 = .ok (.iload 4, 2) := by decide +kernel
theorem dX8_sumFrom_34 : decode cX8_sumFrom 34 = .ok (.ireturn, 1) := by decide +kernel
theorem dX8_count_0 : decode cX8_count 0 = .ok (.iload_n 1, 1) := by decide +kernel
theorem dX8_count_1 : decode cX8_count 1 = .ok (.tableswitch 139 0 8 #[51, 59, 67, 75, 82, 89, 97, 116, 131], 51) := by decide +kernel
theorem dX8_count_52 : decode cX8_count 52 = .ok (.aload_n 0, 1) := by decide +kernel
theorem dX8_count_53 : decode cX8_count 53 = .ok (.getfield 7, 3) := by decide +kernel
theorem dX8_count_56 : decode cX8_count 56 = .ok (.bipush 26, 2) := by decide +kernel
theorem dX8_count_58 : decode cX8_count 58 = .ok (.iaload, 1) := by decide +kernel
theorem dX8_count_59 : decode cX8_count 59 = .ok (.ireturn, 1) := by decide +kernel
theorem dX8_count_60 : decode cX8_count 60 = .ok (.aload_n 0, 1) := by decide +kernel
theorem dX8_count_61 : decode cX8_count 61 = .ok (.getfield 7, 3) := by decide +kernel
theorem dX8_count_64 : decode cX8_count 64 = .ok (.bipush 27, 2) := by decide +kernel
theorem dX8_count_66 : decode cX8_count 66 = .ok (.iaload, 1) := by decide +kernel
theorem dX8_count_67 : decode cX8_count 67 = .ok (.ireturn, 1) := by decide +kernel
theorem dX8_count_68 : decode cX8_count 68 = .ok (.aload_n 0, 1) := by decide +kernel
theorem dX8_count_69 : decode cX8_count 69 = .ok (.getfield 7, 3) := by decide +kernel
theorem dX8_count_72 : decode cX8_count 72 = .ok (.bipush 28, 2) := by decide +kernel
theorem dX8_count_74 : decode cX8_count 74 = .ok (.iaload, 1) := by decide +kernel
theorem dX8_count_75 : decode cX8_count 75 = .ok (.ireturn, 1) := by decide +kernel
theorem dX8_count_76 : decode cX8_count 76 = .ok (.aload_n 0, 1) := by decide +kernel
theorem dX8_count_77 : decode cX8_count 77 = .ok (.getfield 7, 3) := by decide +kernel
theorem dX8_count_80 : decode cX8_count 80 = .ok (.iconst 0, 1) := by decide +kernel
theorem dX8_count_81 : decode cX8_count 81 = .ok (.iaload, 1) := by decide +kernel
theorem dX8_count_82 : decode cX8_count 82 = .ok (.ireturn, 1) := by decide +kernel
theorem dX8_count_83 : decode cX8_count 83 = .ok (.aload_n 0, 1) := by decide +kernel
theorem dX8_count_84 : decode cX8_count 84 = .ok (.getfield 7, 3) := by decide +kernel
theorem dX8_count_87 : decode cX8_count 87 = .ok (.iconst 1, 1) := by decide +kernel
theorem dX8_count_88 : decode cX8_count 88 = .ok (.iaload, 1) := by decide +kernel
theorem dX8_count_89 : decode cX8_count 89 = .ok (.ireturn, 1) := by decide +kernel
theorem dX8_count_90 : decode cX8_count 90 = .ok (.aload_n 0, 1) := by decide +kernel
theorem dX8_count_91 : decode cX8_count 91 = .ok (.getfield 7, 3) := by decide +kernel
theorem dX8_count_94 : decode cX8_count 94 = .ok (.bipush 25, 2) := by decide +kernel
theorem dX8_count_96 : decode cX8_count 96 = .ok (.iaload, 1) := by decide +kernel
theorem dX8_count_97 : decode cX8_count 97 = .ok (.ireturn, 1) := by decide +kernel
theorem dX8_count_98 : decode cX8_count 98 = .ok (.aload_n 0, 1) := by decide +kernel
theorem dX8_count_99 : decode cX8_count 99 = .ok (.iconst 3, 1) := by decide +kernel
theorem dX8_count_100 : decode cX8_count 100 = .ok (.aload_n 0, 1) := by decide +kernel
theorem dX8_count_101 : decode cX8_count 101 = .ok (.getfield 7, 3) := by decide +kernel
theorem dX8_count_104 : decode cX8_count 104 = .ok (.iconst 0, 1) := by decide +kernel
theorem dX8_count_105 : decode cX8_count 105 = .ok (.iaload, 1) := by decide +kernel
theorem dX8_count_106 : decode cX8_count 106 = .ok (.aload_n 0, 1) := by decide +kernel
theorem dX8_count_107 : decode cX8_count 107 = .ok (.getfield 7, 3) := by decide +kernel
theorem dX8_count_110 : decode cX8_count 110 = .ok (.bipush 26, 2) := by decide +kernel
theorem dX8_count_112 : decode cX8_count 112 = .ok (.iaload, 1) := by decide +kernel
theorem dX8_count_113 : decode cX8_count 113 = .ok (.invokevirtual 163, 3) := by decide +kernel
theorem dX8_count_116 : decode cX8_count 116 = .ok (.ireturn, 1) := by decide +kernel
theorem dX8_count_117 : decode cX8_count 117 = .ok (.aload_n 0, 1) := by decide +kernel
theorem dX8_count_118 : decode cX8_count 118 = .ok (.bipush 15, 2) := by decide +kernel
theorem dX8_count_120 : decode cX8_count 120 = .ok (.iconst 0, 1) := by decide +kernel
theorem dX8_count_121 : decode cX8_count 121 = .ok (.aload_n 0, 1) := by decide +kernel
theorem dX8_count_122 : decode cX8_count 122 = .ok (.getfield 7, 3) := by decide +kernel
theorem dX8_count_125 : decode cX8_count 125 = .ok (.bipush 28, 2) := by decide +kernel
theorem dX8_count_127 : decode cX8_count 127 = .ok (.iaload, 1) := by decide +kernel
theorem dX8_count_128 : decode cX8_count 128 = .ok (.invokevirtual 163, 3) := by decide +kernel
theorem dX8_count_131 : decode cX8_count 131 = .ok (.ireturn, 1) := by decide +kernel
theorem dX8_count_132 : decode cX8_count 132 = .ok (.aload_n 0, 1) := by decide +kernel
theorem dX8_count_133 : decode cX8_count 133 = .ok (.getfield 7, 3) := by decide +kernel
theorem dX8_count_136 : decode cX8_count 136 = .ok (.bipush 41, 2) := by decide +kernel
theorem dX8_count_138 : decode cX8_count 138 = .ok (.iaload, 1) := by decide +kernel
theorem dX8_count_139 : decode cX8_count 139 = .ok (.ireturn, 1) := by decide +kernel
theorem dX8_count_140 : decode cX8_count 140 = .ok (.iconst (-1), 1) := by decide +kernel
theorem dX8_count_141 : decode cX8_count 141 = .ok (.ireturn, 1) := by decide +kernel
theorem dX8_keepPast_0 : decode cX8_keepPast 0 = .ok (.aload_n 0, 1) := by decide +kernel
theorem dX8_keepPast_1 : decode cX8_keepPast 1 = .ok (.getfield 7, 3) := by decide +kernel
theorem dX8_keepPast_4 : decode cX8_keepPast 4 = .ok (.bipush 41, 2) := by decide +kernel
theorem dX8_keepPast_6 : decode cX8_keepPast 6 = .ok (.iaload, 1) := by decide +kernel
theorem dX8_keepPast_7 : decode cX8_keepPast 7 = .ok (.bipush 8, 2) := by decide +kernel
theorem dX8_keepPast_9 : decode cX8_keepPast 9 = .ok (.if_icmp .ne 47, 3) := by decide +kernel
theorem dX8_keepPast_12 : decode cX8_keepPast 12 = .ok (.iconst 0, 1) := by decide +kernel
theorem dX8_keepPast_13 : decode cX8_keepPast 13 = .ok (.istore_n 1, 1) := by decide +kernel
theorem dX8_keepPast_14 : decode cX8_keepPast 14 = .ok (.iload_n 1, 1) := by decide +kernel
theorem dX8_keepPast_15 : decode cX8_keepPast 15 = .ok (.sipush 175, 3) := by decide +kernel
theorem dX8_keepPast_18 : decode cX8_keepPast 18 = .ok (.if_icmp .ge 27, 3) := by decide +kernel
theorem dX8_keepPast_21 : decode cX8_keepPast 21 = .ok (.aload_n 0, 1) := by decide +kernel
theorem dX8_keepPast_22 : decode cX8_keepPast 22 = .ok (.getfield 7, 3) := by decide +kernel
theorem dX8_keepPast_25 : decode cX8_keepPast 25 = .ok (.bipush 42, 2) := by decide +kernel
theorem dX8_keepPast_27 : decode cX8_keepPast 27 = .ok (.iload_n 1, 1) := by decide +kernel
theorem dX8_keepPast_28 : decode cX8_keepPast 28 = .ok (.iadd, 1) := by decide +kernel
theorem dX8_keepPast_29 : decode cX8_keepPast 29 = .ok (.aload_n 0, 1) := by decide +kernel
theorem dX8_keepPast_30 : decode cX8_keepPast 30 = .ok (.getfield 7, 3) := by decide +kernel
theorem dX8_keepPast_33 : decode cX8_keepPast 33 = .ok (.bipush 67, 2) := by decide +kernel
theorem dX8_keepPast_35 : decode cX8_keepPast 35 = .ok (.iload_n 1, 1) := by decide +kernel
theorem dX8_keepPast_36 : decode cX8_keepPast 36 = .ok (.iadd, 1) := by decide +kernel
theorem dX8_keepPast_37 : decode cX8_keepPast 37 = .ok (.iaload, 1) := by decide +kernel
theorem dX8_keepPast_38 : decode cX8_keepPast 38 = .ok (.iastore, 1) := by decide +kernel
theorem dX8_keepPast_39 : decode cX8_keepPast 39 = .ok (.iinc 1 1, 3) := by decide +kernel
theorem dX8_keepPast_42 : decode cX8_keepPast 42 = .ok (.goto (-28), 3) := by decide +kernel
theorem dX8_keepPast_45 : decode cX8_keepPast 45 = .ok (.aload_n 0, 1) := by decide +kernel
theorem dX8_keepPast_46 : decode cX8_keepPast 46 = .ok (.getfield 7, 3) := by decide +kernel
theorem dX8_keepPast_49 : decode cX8_keepPast 49 = .ok (.bipush 41, 2) := by decide +kernel
theorem dX8_keepPast_51 : decode cX8_keepPast 51 = .ok (.dup2, 1) := by decide +kernel
theorem dX8_keepPast_52 : decode cX8_keepPast 52 = .ok (.iaload, 1) := by decide +kernel
theorem dX8_keepPast_53 : decode cX8_keepPast 53 = .ok (.iconst 1, 1) := by decide +kernel
theorem dX8_keepPast_54 : decode cX8_keepPast 54 = .ok (.isub, 1) := by decide +kernel
theorem dX8_keepPast_55 : decode cX8_keepPast 55 = .ok (.iastore, 1) := by decide +kernel
theorem dX8_keepPast_56 : decode cX8_keepPast 56 = .ok (.iconst 0, 1) := by decide +kernel
theorem dX8_keepPast_57 : decode cX8_keepPast 57 = .ok (.istore_n 1, 1) := by decide +kernel
theorem dX8_keepPast_58 : decode cX8_keepPast 58 = .ok (.iload_n 1, 1) := by decide +kernel
theorem dX8_keepPast_59 : decode cX8_keepPast 59 = .ok (.bipush 25, 2) := by decide +kernel
theorem dX8_keepPast_61 : decode cX8_keepPast 61 = .ok (.if_icmp .ge 35, 3) := by decide +kernel
theorem dX8_keepPast_64 : decode cX8_keepPast 64 = .ok (.aload_n 0, 1) := by decide +kernel
theorem dX8_keepPast_65 : decode cX8_keepPast 65 = .ok (.getfield 7, 3) := by decide +kernel
theorem dX8_keepPast_68 : decode cX8_keepPast 68 = .ok (.bipush 42, 2) := by decide +kernel
theorem dX8_keepPast_70 : decode cX8_keepPast 70 = .ok (.bipush 25, 2) := by decide +kernel
theorem dX8_keepPast_72 : decode cX8_keepPast 72 = .ok (.aload_n 0, 1) := by decide +kernel
theorem dX8_keepPast_73 : decode cX8_keepPast 73 = .ok (.getfield 7, 3) := by decide +kernel
theorem dX8_keepPast_76 : decode cX8_keepPast 76 = .ok (.bipush 41, 2) := by decide +kernel
theorem dX8_keepPast_78 : decode cX8_keepPast 78 = .ok (.iaload, 1) := by decide +kernel
theorem dX8_keepPast_79 : decode cX8_keepPast 79 = .ok (.imul, 1) := by decide +kernel
theorem dX8_keepPast_80 : decode cX8_keepPast 80 = .ok (.iadd, 1) := by decide +kernel
theorem dX8_keepPast_81 : decode cX8_keepPast 81 = .ok (.iload_n 1, 1) := by decide +kernel
theorem dX8_keepPast_82 : decode cX8_keepPast 82 = .ok (.iadd, 1) := by decide +kernel
theorem dX8_keepPast_83 : decode cX8_keepPast 83 = .ok (.aload_n 0, 1) := by decide +kernel
theorem dX8_keepPast_84 : decode cX8_keepPast 84 = .ok (.getfield 7, 3) := by decide +kernel
theorem dX8_keepPast_87 : decode cX8_keepPast 87 = .ok (.iload_n 1, 1) := by decide +kernel
theorem dX8_keepPast_88 : decode cX8_keepPast 88 = .ok (.iaload, 1) := by decide +kernel
theorem dX8_keepPast_89 : decode cX8_keepPast 89 = .ok (.iastore, 1) := by decide +kernel
theorem dX8_keepPast_90 : decode cX8_keepPast 90 = .ok (.iinc 1 1, 3) := by decide +kernel
theorem dX8_keepPast_93 : decode cX8_keepPast 93 = .ok (.goto (-35), 3) := by decide +kernel
theorem dX8_keepPast_96 : decode cX8_keepPast 96 = .ok (.aload_n 0, 1) := by decide +kernel
theorem dX8_keepPast_97 : decode cX8_keepPast 97 = .ok (.getfield 7, 3) := by decide +kernel
theorem dX8_keepPast_100 : decode cX8_keepPast 100 = .ok (.bipush 41, 2) := by decide +kernel
theorem dX8_keepPast_102 : decode cX8_keepPast 102 = .ok (.dup2, 1) := by decide +kernel
theorem dX8_keepPast_103 : decode cX8_keepPast 103 = .ok (.iaload, 1) := by decide +kernel
theorem dX8_keepPast_104 : decode cX8_keepPast 104 = .ok (.iconst 1, 1) := by decide +kernel
theorem dX8_keepPast_105 : decode cX8_keepPast 105 = .ok (.iadd, 1) := by decide +kernel
theorem dX8_keepPast_106 : decode cX8_keepPast 106 = .ok (.iastore, 1) := by decide +kernel
theorem dX8_keepPast_107 : decode cX8_keepPast 107 = .ok (.return_, 1) := by decide +kernel
theorem dX8_isThrough_0 : decode cX8_isThrough 0 = .ok (.aload_n 0, 1) := by decide +kernel
theorem dX8_isThrough_1 : decode cX8_isThrough 1 = .ok (.getfield 7, 3) := by decide +kernel
theorem dX8_isThrough_4 : decode cX8_isThrough 4 = .ok (.iload_n 1, 1) := by decide +kernel
theorem dX8_isThrough_5 : decode cX8_isThrough 5 = .ok (.iconst 0, 1) := by decide +kernel
theorem dX8_isThrough_6 : decode cX8_isThrough 6 = .ok (.iadd, 1) := by decide +kernel
theorem dX8_isThrough_7 : decode cX8_isThrough 7 = .ok (.iaload, 1) := by decide +kernel
theorem dX8_isThrough_8 : decode cX8_isThrough 8 = .ok (.aload_n 0, 1) := by decide +kernel
theorem dX8_isThrough_9 : decode cX8_isThrough 9 = .ok (.getfield 7, 3) := by decide +kernel
theorem dX8_isThrough_12 : decode cX8_isThrough 12 = .ok (.bipush 26, 2) := by decide +kernel
theorem dX8_isThrough_14 : decode cX8_isThrough 14 = .ok (.iaload, 1) := by decide +kernel
theorem dX8_isThrough_15 : decode cX8_isThrough 15 = .ok (.if_icmp .ne 7, 3) := by decide +kernel
theorem dX8_isThrough_18 : decode cX8_isThrough 18 = .ok (.iconst 1, 1) := by decide +kernel
theorem dX8_isThrough_19 : decode cX8_isThrough 19 = .ok (.goto 4, 3) := by decide +kernel
theorem dX8_isThrough_22 : decode cX8_isThrough 22 = .ok (.iconst 0, 1) := by decide +kernel
theorem dX8_isThrough_23 : decode cX8_isThrough 23 = .ok (.ireturn, 1) := by decide +kernel
theorem dX8_iceAhead_0 : decode cX8_iceAhead 0 = .ok (.aload_n 0, 1) := by decide +kernel
theorem dX8_iceAhead_1 : decode cX8_iceAhead 1 = .ok (.iload_n 1, 1) := by decide +kernel
theorem dX8_iceAhead_2 : decode cX8_iceAhead 2 = .ok (.invokevirtual 166, 3) := by decide +kernel
theorem dX8_iceAhead_5 : decode cX8_iceAhead 5 = .ok (.ifCond .eq 7, 3) := by decide +kernel
theorem dX8_iceAhead_8 : decode cX8_iceAhead 8 = .ok (.iconst 0, 1) := by decide +kernel
theorem dX8_iceAhead_9 : decode cX8_iceAhead 9 = .ok (.goto 20, 3) := by decide +kernel
theorem dX8_iceAhead_12 : decode cX8_iceAhead 12 = .ok (.aload_n 0, 1) := by decide +kernel
theorem dX8_iceAhead_13 : decode cX8_iceAhead 13 = .ok (.getfield 7, 3) := by decide +kernel
theorem dX8_iceAhead_16 : decode cX8_iceAhead 16 = .ok (.iload_n 1, 1) := by decide +kernel
theorem dX8_iceAhead_17 : decode cX8_iceAhead 17 = .ok (.iconst 3, 1) := by decide +kernel
theorem dX8_iceAhead_18 : decode cX8_iceAhead 18 = .ok (.iadd, 1) := by decide +kernel
theorem dX8_iceAhead_19 : decode cX8_iceAhead 19 = .ok (.aload_n 0, 1) := by decide +kernel
theorem dX8_iceAhead_20 : decode cX8_iceAhead 20 = .ok (.getfield 7, 3) := by decide +kernel
theorem dX8_iceAhead_23 : decode cX8_iceAhead 23 = .ok (.iload_n 1, 1) := by decide +kernel
theorem dX8_iceAhead_24 : decode cX8_iceAhead 24 = .ok (.iconst 0, 1) := by decide +kernel
theorem dX8_iceAhead_25 : decode cX8_iceAhead 25 = .ok (.iadd, 1) := by decide +kernel
theorem dX8_iceAhead_26 : decode cX8_iceAhead 26 = .ok (.iaload, 1) := by decide +kernel
theorem dX8_iceAhead_27 : decode cX8_iceAhead 27 = .ok (.iadd, 1) := by decide +kernel
theorem dX8_iceAhead_28 : decode cX8_iceAhead 28 = .ok (.iaload, 1) := by decide +kernel
theorem dX8_iceAhead_29 : decode cX8_iceAhead 29 = .ok (.ireturn, 1) := by decide +kernel
theorem dX8_pass_0 : decode cX8_pass 0 = .ok (.iload_n 2, 1) := by decide +kernel
theorem dX8_pass_1 : decode cX8_pass 1 = .ok (.bipush (-4), 2) := by decide +kernel
theorem dX8_pass_3 : decode cX8_pass 3 = .ok (.if_icmp .ne 7, 3) := by decide +kernel
theorem dX8_pass_6 : decode cX8_pass 6 = .ok (.iconst 0, 1) := by decide +kernel
theorem dX8_pass_7 : decode cX8_pass 7 = .ok (.goto 9, 3) := by decide +kernel
theorem dX8_pass_10 : decode cX8_pass 10 = .ok (.aload_n 0, 1) := by decide +kernel
theorem dX8_pass_11 : decode cX8_pass 11 = .ok (.iload_n 1, 1) := by decide +kernel
theorem dX8_pass_12 : decode cX8_pass 12 = .ok (.iload_n 2, 1) := by decide +kernel
theorem dX8_pass_13 : decode cX8_pass 13 = .ok (.invokevirtual 169, 3) := by decide +kernel
theorem dX8_pass_16 : decode cX8_pass 16 = .ok (.istore_n 3, 1) := by decide +kernel
theorem dX8_pass_17 : decode cX8_pass 17 = .ok (.aload_n 0, 1) := by decide +kernel
theorem dX8_pass_18 : decode cX8_pass 18 = .ok (.iload_n 1, 1) := by decide +kernel
theorem dX8_pass_19 : decode cX8_pass 19 = .ok (.invokevirtual 166, 3) := by decide +kernel
theorem dX8_pass_22 : decode cX8_pass 22 = .ok (.ifCond .ne 88, 3) := by decide +kernel
theorem dX8_pass_25 : decode cX8_pass 25 = .ok (.iload_n 1, 1) := by decide +kernel
theorem dX8_pass_26 : decode cX8_pass 26 = .ok (.iconst 3, 1) := by decide +kernel
theorem dX8_pass_27 : decode cX8_pass 27 = .ok (.iadd, 1) := by decide +kernel
theorem dX8_pass_28 : decode cX8_pass 28 = .ok (.aload_n 0, 1) := by decide +kernel
theorem dX8_pass_29 : decode cX8_pass 29 = .ok (.getfield 7, 3) := by decide +kernel
theorem dX8_pass_32 : decode cX8_pass 32 = .ok (.iload_n 1, 1) := by decide +kernel
theorem dX8_pass_33 : decode cX8_pass 33 = .ok (.iconst 0, 1) := by decide +kernel
theorem dX8_pass_34 : decode cX8_pass 34 = .ok (.iadd, 1) := by decide +kernel
theorem dX8_pass_35 : decode cX8_pass 35 = .ok (.iaload, 1) := by decide +kernel
theorem dX8_pass_36 : decode cX8_pass 36 = .ok (.iadd, 1) := by decide +kernel
theorem dX8_pass_37 : decode cX8_pass 37 = .ok (.istore 4, 2) := by decide +kernel
theorem dX8_pass_39 : decode cX8_pass 39 = .ok (.aload_n 0, 1) := by decide +kernel
theorem dX8_pass_40 : decode cX8_pass 40 = .ok (.getfield 7, 3) := by decide +kernel
theorem dX8_pass_43 : decode cX8_pass 43 = .ok (.iload 4, 2) := by decide +kernel
theorem dX8_pass_45 : decode cX8_pass 45 = .ok (.aload_n 0, 1) := by decide +kernel
theorem dX8_pass_46 : decode cX8_pass 46 = .ok (.getfield 7, 3) := by decide +kernel
theorem dX8_pass_49 : decode cX8_pass 49 = .ok (.iload 4, 2) := by decide +kernel
theorem dX8_pass_51 : decode cX8_pass 51 = .ok (.iaload, 1) := by decide +kernel
theorem dX8_pass_52 : decode cX8_pass 52 = .ok (.iload_n 3, 1) := by decide +kernel
theorem dX8_pass_53 : decode cX8_pass 53 = .ok (.isub, 1) := by decide +kernel
theorem dX8_pass_54 : decode cX8_pass 54 = .ok (.invokestatic 173, 3) := by decide +kernel
theorem dX8_pass_57 : decode cX8_pass 57 = .ok (.iastore, 1) := by decide +kernel
theorem dX8_pass_58 : decode cX8_pass 58 = .ok (.aload_n 0, 1) := by decide +kernel
theorem dX8_pass_59 : decode cX8_pass 59 = .ok (.getfield 7, 3) := by decide +kernel
theorem dX8_pass_62 : decode cX8_pass 62 = .ok (.iload 4, 2) := by decide +kernel
theorem dX8_pass_64 : decode cX8_pass 64 = .ok (.iaload, 1) := by decide +kernel
theorem dX8_pass_65 : decode cX8_pass 65 = .ok (.ifCond .ne 18, 3) := by decide +kernel
theorem dX8_pass_68 : decode cX8_pass 68 = .ok (.aload_n 0, 1) := by decide +kernel
theorem dX8_pass_69 : decode cX8_pass 69 = .ok (.getfield 7, 3) := by decide +kernel
theorem dX8_pass_72 : decode cX8_pass 72 = .ok (.iload_n 1, 1) := by decide +kernel
theorem dX8_pass_73 : decode cX8_pass 73 = .ok (.iconst 0, 1) := by decide +kernel
theorem dX8_pass_74 : decode cX8_pass 74 = .ok (.iadd, 1) := by decide +kernel
theorem dX8_pass_75 : decode cX8_pass 75 = .ok (.dup2, 1) := by decide +kernel
theorem dX8_pass_76 : decode cX8_pass 76 = .ok (.iaload, 1) := by decide +kernel
theorem dX8_pass_77 : decode cX8_pass 77 = .ok (.iconst 1, 1) := by decide +kernel
theorem dX8_pass_78 : decode cX8_pass 78 = .ok (.iadd, 1) := by decide +kernel
theorem dX8_pass_79 : decode cX8_pass 79 = .ok (.iastore, 1) := by decide +kernel
theorem dX8_pass_80 : decode cX8_pass 80 = .ok (.goto 30, 3) := by decide +kernel
theorem dX8_pass_83 : decode cX8_pass 83 = .ok (.aload_n 0, 1) := by decide +kernel
theorem dX8_pass_84 : decode cX8_pass 84 = .ok (.getfield 7, 3) := by decide +kernel
theorem dX8_pass_87 : decode cX8_pass 87 = .ok (.iload 4, 2) := by decide +kernel
theorem dX8_pass_89 : decode cX8_pass 89 = .ok (.aload_n 0, 1) := by decide +kernel
theorem dX8_pass_90 : decode cX8_pass 90 = .ok (.getfield 7, 3) := by decide +kernel
theorem dX8_pass_93 : decode cX8_pass 93 = .ok (.iload 4, 2) := by decide +kernel
theorem dX8_pass_95 : decode cX8_pass 95 = .ok (.iaload, 1) := by decide +kernel
theorem dX8_pass_96 : decode cX8_pass 96 = .ok (.aload_n 0, 1) := by decide +kernel
theorem dX8_pass_97 : decode cX8_pass 97 = .ok (.getfield 7, 3) := by decide +kernel
theorem dX8_pass_100 : decode cX8_pass 100 = .ok (.bipush 25, 2) := by decide +kernel
theorem dX8_pass_102 : decode cX8_pass 102 = .ok (.iaload, 1) := by decide +kernel
theorem dX8_pass_103 : decode cX8_pass 103 = .ok (.iadd, 1) := by decide +kernel
theorem dX8_pass_104 : decode cX8_pass 104 = .ok (.bipush 60, 2) := by decide +kernel
theorem dX8_pass_106 : decode cX8_pass 106 = .ok (.invokestatic 176, 3) := by decide +kernel
theorem dX8_pass_109 : decode cX8_pass 109 = .ok (.iastore, 1) := by decide +kernel
theorem dX8_pass_110 : decode cX8_pass 110 = .ok (.iconst 0, 1) := by decide +kernel
theorem dX8_pass_111 : decode cX8_pass 111 = .ok (.istore 4, 2) := by decide +kernel
theorem dX8_pass_113 : decode cX8_pass 113 = .ok (.iload 4, 2) := by decide +kernel
theorem dX8_pass_115 : decode cX8_pass 115 = .ok (.aload_n 0, 1) := by decide +kernel
theorem dX8_pass_116 : decode cX8_pass 116 = .ok (.getfield 7, 3) := by decide +kernel
theorem dX8_pass_119 : decode cX8_pass 119 = .ok (.bipush 28, 2) := by decide +kernel
theorem dX8_pass_121 : decode cX8_pass 121 = .ok (.iaload, 1) := by decide +kernel
theorem dX8_pass_122 : decode cX8_pass 122 = .ok (.if_icmp .ge 69, 3) := by decide +kernel
theorem dX8_pass_125 : decode cX8_pass 125 = .ok (.aload_n 0, 1) := by decide +kernel
theorem dX8_pass_126 : decode cX8_pass 126 = .ok (.getfield 7, 3) := by decide +kernel
theorem dX8_pass_129 : decode cX8_pass 129 = .ok (.iload_n 1, 1) := by decide +kernel
theorem dX8_pass_130 : decode cX8_pass 130 = .ok (.bipush 15, 2) := by decide +kernel
theorem dX8_pass_132 : decode cX8_pass 132 = .ok (.iadd, 1) := by decide +kernel
theorem dX8_pass_133 : decode cX8_pass 133 = .ok (.iload 4, 2) := by decide +kernel
theorem dX8_pass_135 : decode cX8_pass 135 = .ok (.iadd, 1) := by decide +kernel
theorem dX8_pass_136 : decode cX8_pass 136 = .ok (.iaload, 1) := by decide +kernel
theorem dX8_pass_137 : decode cX8_pass 137 = .ok (.istore 5, 2) := by decide +kernel
theorem dX8_pass_139 : decode cX8_pass 139 = .ok (.aload_n 0, 1) := by decide +kernel
theorem dX8_pass_140 : decode cX8_pass 140 = .ok (.getfield 7, 3) := by decide +kernel
theorem dX8_pass_143 : decode cX8_pass 143 = .ok (.iload_n 1, 1) := by decide +kernel
theorem dX8_pass_144 : decode cX8_pass 144 = .ok (.bipush 15, 2) := by decide +kernel
theorem dX8_pass_146 : decode cX8_pass 146 = .ok (.iadd, 1) := by decide +kernel
theorem dX8_pass_147 : decode cX8_pass 147 = .ok (.iload 4, 2) := by decide +kernel
theorem dX8_pass_149 : decode cX8_pass 149 = .ok (.iadd, 1) := by decide +kernel
theorem dX8_pass_150 : decode cX8_pass 150 = .ok (.iload 4, 2) := by decide +kernel
theorem dX8_pass_152 : decode cX8_pass 152 = .ok (.iload_n 2, 1) := by decide +kernel
theorem dX8_pass_153 : decode cX8_pass 153 = .ok (.if_icmp .ne 13, 3) := by decide +kernel
theorem dX8_pass_156 : decode cX8_pass 156 = .ok (.iload 5, 2) := by decide +kernel
theorem dX8_pass_158 : decode cX8_pass 158 = .ok (.iconst 2, 1) := by decide +kernel
theorem dX8_pass_159 : decode cX8_pass 159 = .ok (.isub, 1) := by decide +kernel
theorem dX8_pass_160 : decode cX8_pass 160 = .ok (.invokestatic 173, 3) := by decide +kernel
theorem dX8_pass_163 : decode cX8_pass 163 = .ok (.goto 21, 3) := by decide +kernel
theorem dX8_pass_166 : decode cX8_pass 166 = .ok (.iload 5, 2) := by decide +kernel
theorem dX8_pass_168 : decode cX8_pass 168 = .ok (.ifCond .ne 7, 3) := by decide +kernel
theorem dX8_pass_171 : decode cX8_pass 171 = .ok (.iconst 0, 1) := by decide +kernel
theorem dX8_pass_172 : decode cX8_pass 172 = .ok (.goto 12, 3) := by decide +kernel
theorem dX8_pass_175 : decode cX8_pass 175 = .ok (.iload 5, 2) := by decide +kernel
theorem dX8_pass_177 : decode cX8_pass 177 = .ok (.iconst 1, 1) := by decide +kernel
theorem dX8_pass_178 : decode cX8_pass 178 = .ok (.iadd, 1) := by decide +kernel
theorem dX8_pass_179 : decode cX8_pass 179 = .ok (.bipush 20, 2) := by decide +kernel
theorem dX8_pass_181 : decode cX8_pass 181 = .ok (.invokestatic 176, 3) := by decide +kernel
theorem dX8_pass_184 : decode cX8_pass 184 = .ok (.iastore, 1) := by decide +kernel
theorem dX8_pass_185 : decode cX8_pass 185 = .ok (.iinc 4 1, 3) := by decide +kernel
theorem dX8_pass_188 : decode cX8_pass 188 = .ok (.goto (-75), 3) := by decide +kernel
theorem dX8_pass_191 : decode cX8_pass 191 = .ok (.aload_n 0, 1) := by decide +kernel
theorem dX8_pass_192 : decode cX8_pass 192 = .ok (.getfield 7, 3) := by decide +kernel
theorem dX8_pass_195 : decode cX8_pass 195 = .ok (.iload_n 1, 1) := by decide +kernel
theorem dX8_pass_196 : decode cX8_pass 196 = .ok (.iconst 1, 1) := by decide +kernel
theorem dX8_pass_197 : decode cX8_pass 197 = .ok (.iadd, 1) := by decide +kernel
theorem dX8_pass_198 : decode cX8_pass 198 = .ok (.dup2, 1) := by decide +kernel
theorem dX8_pass_199 : decode cX8_pass 199 = .ok (.iaload, 1) := by decide +kernel
theorem dX8_pass_200 : decode cX8_pass 200 = .ok (.iconst 1, 1) := by decide +kernel
theorem dX8_pass_201 : decode cX8_pass 201 = .ok (.iadd, 1) := by decide +kernel
theorem dX8_pass_202 : decode cX8_pass 202 = .ok (.iastore, 1) := by decide +kernel
theorem dX8_pass_203 : decode cX8_pass 203 = .ok (.return_, 1) := by decide +kernel
theorem dX8_say_0 : decode cX8_say 0 = .ok (.iload_n 1, 1) := by decide +kernel
theorem dX8_say_1 : decode cX8_say 1 = .ok (.bipush (-4), 2) := by decide +kernel
theorem dX8_say_3 : decode cX8_say 3 = .ok (.if_icmp .eq 13, 3) := by decide +kernel
theorem dX8_say_6 : decode cX8_say 6 = .ok (.aload_n 0, 1) := by decide +kernel
theorem dX8_say_7 : decode cX8_say 7 = .ok (.iload_n 1, 1) := by decide +kernel
theorem dX8_say_8 : decode cX8_say 8 = .ok (.invokevirtual 100, 3) := by decide +kernel
theorem dX8_say_11 : decode cX8_say 11 = .ok (.ifCond .ne 5, 3) := by decide +kernel
theorem dX8_say_14 : decode cX8_say 14 = .ok (.iconst (-1), 1) := by decide +kernel
theorem dX8_say_15 : decode cX8_say 15 = .ok (.ireturn, 1) := by decide +kernel
theorem dX8_say_16 : decode cX8_say 16 = .ok (.aload_n 0, 1) := by decide +kernel
theorem dX8_say_17 : decode cX8_say 17 = .ok (.getfield 7, 3) := by decide +kernel
theorem dX8_say_20 : decode cX8_say 20 = .ok (.iconst 1, 1) := by decide +kernel
theorem dX8_say_21 : decode cX8_say 21 = .ok (.iaload, 1) := by decide +kernel
theorem dX8_say_22 : decode cX8_say 22 = .ok (.sipush 9999, 3) := by decide +kernel
theorem dX8_say_25 : decode cX8_say 25 = .ok (.if_icmp .ne 6, 3) := by decide +kernel
theorem dX8_say_28 : decode cX8_say 28 = .ok (.bipush (-3), 2) := by decide +kernel
theorem dX8_say_30 : decode cX8_say 30 = .ok (.ireturn, 1) := by decide +kernel
theorem dX8_say_31 : decode cX8_say 31 = .ok (.aload_n 0, 1) := by decide +kernel
theorem dX8_say_32 : decode cX8_say 32 = .ok (.invokevirtual 179, 3) := by decide +kernel
theorem dX8_say_35 : decode cX8_say 35 = .ok (.aload_n 0, 1) := by decide +kernel
theorem dX8_say_36 : decode cX8_say 36 = .ok (.iconst 0, 1) := by decide +kernel
theorem dX8_say_37 : decode cX8_say 37 = .ok (.iload_n 1, 1) := by decide +kernel
theorem dX8_say_38 : decode cX8_say 38 = .ok (.invokevirtual 182, 3) := by decide +kernel
theorem dX8_say_41 : decode cX8_say 41 = .ok (.aload_n 0, 1) := by decide +kernel
theorem dX8_say_42 : decode cX8_say 42 = .ok (.getfield 7, 3) := by decide +kernel
theorem dX8_say_45 : decode cX8_say 45 = .ok (.iconst 0, 1) := by decide +kernel
theorem dX8_say_46 : decode cX8_say 46 = .ok (.iaload, 1) := by decide +kernel
theorem dX8_say_47 : decode cX8_say 47 = .ok (.ireturn, 1) := by decide +kernel
theorem dX8_thaw_0 : decode cX8_thaw 0 = .ok (.aload_n 0, 1) := by decide +kernel
theorem dX8_thaw_1 : decode cX8_thaw 1 = .ok (.iload_n 1, 1) := by decide +kernel
theorem dX8_thaw_2 : decode cX8_thaw 2 = .ok (.invokevirtual 74, 3) := by decide +kernel
theorem dX8_thaw_5 : decode cX8_thaw 5 = .ok (.ifCond .eq 15, 3) := by decide +kernel
theorem dX8_thaw_8 : decode cX8_thaw 8 = .ok (.iload_n 2, 1) := by decide +kernel
theorem dX8_thaw_9 : decode cX8_thaw 9 = .ok (.i2l, 1) := by decide +kernel
theorem dX8_thaw_10 : decode cX8_thaw 10 = .ok (.lconst 1, 1) := by decide +kernel
theorem dX8_thaw_11 : decode cX8_thaw 11 = .ok (.ldc2_w 51, 3) := by decide +kernel
theorem dX8_thaw_14 : decode cX8_thaw 14 = .ok (.invokestatic 47, 3) := by decide +kernel
theorem dX8_thaw_17 : decode cX8_thaw 17 = .ok (.ifCond .ne 5, 3) := by decide +kernel
theorem dX8_thaw_20 : decode cX8_thaw 20 = .ok (.iconst (-1), 1) := by decide +kernel
theorem dX8_thaw_21 : decode cX8_thaw 21 = .ok (.ireturn, 1) := by decide +kernel
theorem dX8_thaw_22 : decode cX8_thaw 22 = .ok (.aload_n 0, 1) := by decide +kernel
theorem dX8_thaw_23 : decode cX8_thaw 23 = .ok (.getfield 7, 3) := by decide +kernel
theorem dX8_thaw_26 : decode cX8_thaw 26 = .ok (.iconst 3, 1) := by decide +kernel
theorem dX8_thaw_27 : decode cX8_thaw 27 = .ok (.iload_n 1, 1) := by decide +kernel
theorem dX8_thaw_28 : decode cX8_thaw 28 = .ok (.iadd, 1) := by decide +kernel
theorem dX8_thaw_29 : decode cX8_thaw 29 = .ok (.iaload, 1) := by decide +kernel
theorem dX8_thaw_30 : decode cX8_thaw 30 = .ok (.ifCond .ne 6, 3) := by decide +kernel
theorem dX8_thaw_33 : decode cX8_thaw 33 = .ok (.bipush (-2), 2) := by decide +kernel
theorem dX8_thaw_35 : decode cX8_thaw 35 = .ok (.ireturn, 1) := by decide +kernel
theorem dX8_thaw_36 : decode cX8_thaw 36 = .ok (.aload_n 0, 1) := by decide +kernel
theorem dX8_thaw_37 : decode cX8_thaw 37 = .ok (.invokevirtual 179, 3) := by decide +kernel
theorem dX8_thaw_40 : decode cX8_thaw 40 = .ok (.aload_n 0, 1) := by decide +kernel
theorem dX8_thaw_41 : decode cX8_thaw 41 = .ok (.getfield 7, 3) := by decide +kernel
theorem dX8_thaw_44 : decode cX8_thaw 44 = .ok (.iconst 3, 1) := by decide +kernel
theorem dX8_thaw_45 : decode cX8_thaw 45 = .ok (.iload_n 1, 1) := by decide +kernel
theorem dX8_thaw_46 : decode cX8_thaw 46 = .ok (.iadd, 1) := by decide +kernel
theorem dX8_thaw_47 : decode cX8_thaw 47 = .ok (.aload_n 0, 1) := by decide +kernel
theorem dX8_thaw_48 : decode cX8_thaw 48 = .ok (.getfield 7, 3) := by decide +kernel
theorem dX8_thaw_51 : decode cX8_thaw 51 = .ok (.iconst 3, 1) := by decide +kernel
theorem dX8_thaw_52 : decode cX8_thaw 52 = .ok (.iload_n 1, 1) := by decide +kernel
theorem dX8_thaw_53 : decode cX8_thaw 53 = .ok (.iadd, 1) := by decide +kernel
theorem dX8_thaw_54 : decode cX8_thaw 54 = .ok (.iaload, 1) := by decide +kernel
theorem dX8_thaw_55 : decode cX8_thaw 55 = .ok (.iload_n 2, 1) := by decide +kernel
theorem dX8_thaw_56 : decode cX8_thaw 56 = .ok (.isub, 1) := by decide +kernel
theorem dX8_thaw_57 : decode cX8_thaw 57 = .ok (.invokestatic 173, 3) := by decide +kernel
theorem dX8_thaw_60 : decode cX8_thaw 60 = .ok (.iastore, 1) := by decide +kernel
theorem dX8_thaw_61 : decode cX8_thaw 61 = .ok (.aload_n 0, 1) := by decide +kernel
theorem dX8_thaw_62 : decode cX8_thaw 62 = .ok (.getfield 7, 3) := by decide +kernel
theorem dX8_thaw_65 : decode cX8_thaw 65 = .ok (.iconst 3, 1) := by decide +kernel
theorem dX8_thaw_66 : decode cX8_thaw 66 = .ok (.iload_n 1, 1) := by decide +kernel
theorem dX8_thaw_67 : decode cX8_thaw 67 = .ok (.iadd, 1) := by decide +kernel
theorem dX8_thaw_68 : decode cX8_thaw 68 = .ok (.iaload, 1) := by decide +kernel
theorem dX8_thaw_69 : decode cX8_thaw 69 = .ok (.ireturn, 1) := by decide +kernel
theorem dX8_mind_0 : decode cX8_mind 0 = .ok (.aload_n 0, 1) := by decide +kernel
theorem dX8_mind_1 : decode cX8_mind 1 = .ok (.iload_n 1, 1) := by decide +kernel
theorem dX8_mind_2 : decode cX8_mind 2 = .ok (.invokevirtual 97, 3) := by decide +kernel
theorem dX8_mind_5 : decode cX8_mind 5 = .ok (.ifCond .eq 11, 3) := by decide +kernel
theorem dX8_mind_8 : decode cX8_mind 8 = .ok (.aload_n 0, 1) := by decide +kernel
theorem dX8_mind_9 : decode cX8_mind 9 = .ok (.iload_n 2, 1) := by decide +kernel
theorem dX8_mind_10 : decode cX8_mind 10 = .ok (.invokevirtual 100, 3) := by decide +kernel
theorem dX8_mind_13 : decode cX8_mind 13 = .ok (.ifCond .ne 5, 3) := by decide +kernel
theorem dX8_mind_16 : decode cX8_mind 16 = .ok (.iconst (-1), 1) := by decide +kernel
theorem dX8_mind_17 : decode cX8_mind 17 = .ok (.ireturn, 1) := by decide +kernel
theorem dX8_mind_18 : decode cX8_mind 18 = .ok (.aload_n 0, 1) := by decide +kernel
theorem dX8_mind_19 : decode cX8_mind 19 = .ok (.invokevirtual 179, 3) := by decide +kernel
theorem dX8_mind_22 : decode cX8_mind 22 = .ok (.aload_n 0, 1) := by decide +kernel
theorem dX8_mind_23 : decode cX8_mind 23 = .ok (.getfield 7, 3) := by decide +kernel
theorem dX8_mind_26 : decode cX8_mind 26 = .ok (.bipush 20, 2) := by decide +kernel
theorem dX8_mind_28 : decode cX8_mind 28 = .ok (.iload_n 2, 1) := by decide +kernel
theorem dX8_mind_29 : decode cX8_mind 29 = .ok (.iadd, 1) := by decide +kernel
theorem dX8_mind_30 : decode cX8_mind 30 = .ok (.dup2, 1) := by decide +kernel
theorem dX8_mind_31 : decode cX8_mind 31 = .ok (.iaload, 1) := by decide +kernel
theorem dX8_mind_32 : decode cX8_mind 32 = .ok (.iconst 1, 1) := by decide +kernel
theorem dX8_mind_33 : decode cX8_mind 33 = .ok (.iload_n 1, 1) := by decide +kernel
theorem dX8_mind_34 : decode cX8_mind 34 = .ok (.ishl, 1) := by decide +kernel
theorem dX8_mind_35 : decode cX8_mind 35 = .ok (.ixor, 1) := by decide +kernel
theorem dX8_mind_36 : decode cX8_mind 36 = .ok (.iastore, 1) := by decide +kernel
theorem dX8_mind_37 : decode cX8_mind 37 = .ok (.aload_n 0, 1) := by decide +kernel
theorem dX8_mind_38 : decode cX8_mind 38 = .ok (.getfield 7, 3) := by decide +kernel
theorem dX8_mind_41 : decode cX8_mind 41 = .ok (.bipush 20, 2) := by decide +kernel
theorem dX8_mind_43 : decode cX8_mind 43 = .ok (.iload_n 2, 1) := by decide +kernel
theorem dX8_mind_44 : decode cX8_mind 44 = .ok (.iadd, 1) := by decide +kernel
theorem dX8_mind_45 : decode cX8_mind 45 = .ok (.iaload, 1) := by decide +kernel
theorem dX8_mind_46 : decode cX8_mind 46 = .ok (.ireturn, 1) := by decide +kernel
theorem dX8_drift_0 : decode cX8_drift 0 = .ok (.iload_n 1, 1) := by decide +kernel
theorem dX8_drift_1 : decode cX8_drift 1 = .ok (.i2l, 1) := by decide +kernel
theorem dX8_drift_2 : decode cX8_drift 2 = .ok (.lconst 1, 1) := by decide +kernel
theorem dX8_drift_3 : decode cX8_drift 3 = .ok (.ldc2_w 185, 3) := by decide +kernel
theorem dX8_drift_6 : decode cX8_drift 6 = .ok (.invokestatic 47, 3) := by decide +kernel
theorem dX8_drift_9 : decode cX8_drift 9 = .ok (.ifCond .ne 5, 3) := by decide +kernel
theorem dX8_drift_12 : decode cX8_drift 12 = .ok (.iconst (-1), 1) := by decide +kernel
theorem dX8_drift_13 : decode cX8_drift 13 = .ok (.ireturn, 1) := by decide +kernel
theorem dX8_drift_14 : decode cX8_drift 14 = .ok (.aload_n 0, 1) := by decide +kernel
theorem dX8_drift_15 : decode cX8_drift 15 = .ok (.getfield 7, 3) := by decide +kernel
theorem dX8_drift_18 : decode cX8_drift 18 = .ok (.iconst 1, 1) := by decide +kernel
theorem dX8_drift_19 : decode cX8_drift 19 = .ok (.iaload, 1) := by decide +kernel
theorem dX8_drift_20 : decode cX8_drift 20 = .ok (.iload_n 1, 1) := by decide +kernel
theorem dX8_drift_21 : decode cX8_drift 21 = .ok (.iadd, 1) := by decide +kernel
theorem dX8_drift_22 : decode cX8_drift 22 = .ok (.sipush 9999, 3) := by decide +kernel
theorem dX8_drift_25 : decode cX8_drift 25 = .ok (.if_icmp .le 6, 3) := by decide +kernel
theorem dX8_drift_28 : decode cX8_drift 28 = .ok (.bipush (-3), 2) := by decide +kernel
theorem dX8_drift_30 : decode cX8_drift 30 = .ok (.ireturn, 1) := by decide +kernel
theorem dX8_drift_31 : decode cX8_drift 31 = .ok (.iconst 0, 1) := by decide +kernel
theorem dX8_drift_32 : decode cX8_drift 32 = .ok (.istore_n 2, 1) := by decide +kernel
theorem dX8_drift_33 : decode cX8_drift 33 = .ok (.iload_n 2, 1) := by decide +kernel
theorem dX8_drift_34 : decode cX8_drift 34 = .ok (.iload_n 1, 1) := by decide +kernel
theorem dX8_drift_35 : decode cX8_drift 35 = .ok (.if_icmp .ge 86, 3) := by decide +kernel
theorem dX8_drift_38 : decode cX8_drift 38 = .ok (.aload_n 0, 1) := by decide +kernel
theorem dX8_drift_39 : decode cX8_drift 39 = .ok (.invokevirtual 179, 3) := by decide +kernel
theorem dX8_drift_42 : decode cX8_drift 42 = .ok (.aload_n 0, 1) := by decide +kernel
theorem dX8_drift_43 : decode cX8_drift 43 = .ok (.getfield 7, 3) := by decide +kernel
theorem dX8_drift_46 : decode cX8_drift 46 = .ok (.iconst 2, 1) := by decide +kernel
theorem dX8_drift_47 : decode cX8_drift 47 = .ok (.iaload, 1) := by decide +kernel
theorem dX8_drift_48 : decode cX8_drift 48 = .ok (.i2l, 1) := by decide +kernel
theorem dX8_drift_49 : decode cX8_drift 49 = .ok (.ldc2_w 187, 3) := by decide +kernel
theorem dX8_drift_52 : decode cX8_drift 52 = .ok (.lmul, 1) := by decide +kernel
theorem dX8_drift_53 : decode cX8_drift 53 = .ok (.ldc2_w 189, 3) := by decide +kernel
theorem dX8_drift_56 : decode cX8_drift 56 = .ok (.ladd, 1) := by decide +kernel
theorem dX8_drift_57 : decode cX8_drift 57 = .ok (.lstore_n 3, 1) := by decide +kernel
theorem dX8_drift_58 : decode cX8_drift 58 = .ok (.aload_n 0, 1) := by decide +kernel
theorem dX8_drift_59 : decode cX8_drift 59 = .ok (.getfield 7, 3) := by decide +kernel
theorem dX8_drift_62 : decode cX8_drift 62 = .ok (.iconst 2, 1) := by decide +kernel
theorem dX8_drift_63 : decode cX8_drift 63 = .ok (.lload_n 3, 1) := by decide +kernel
theorem dX8_drift_64 : decode cX8_drift 64 = .ok (.ldc2_w 191, 3) := by decide +kernel
theorem dX8_drift_67 : decode cX8_drift 67 = .ok (.land, 1) := by decide +kernel
theorem dX8_drift_68 : decode cX8_drift 68 = .ok (.l2i, 1) := by decide +kernel
theorem dX8_drift_69 : decode cX8_drift 69 = .ok (.iastore, 1) := by decide +kernel
theorem dX8_drift_70 : decode cX8_drift 70 = .ok (.aload_n 0, 1) := by decide +kernel
theorem dX8_drift_71 : decode cX8_drift 71 = .ok (.getfield 7, 3) := by decide +kernel
theorem dX8_drift_74 : decode cX8_drift 74 = .ok (.iconst 2, 1) := by decide +kernel
theorem dX8_drift_75 : decode cX8_drift 75 = .ok (.iaload, 1) := by decide +kernel
theorem dX8_drift_76 : decode cX8_drift 76 = .ok (.ldc 193, 2) := by decide +kernel
theorem dX8_drift_78 : decode cX8_drift 78 = .ok (.idiv, 1) := by decide +kernel
theorem dX8_drift_79 : decode cX8_drift 79 = .ok (.aload_n 0, 1) := by decide +kernel
theorem dX8_drift_80 : decode cX8_drift 80 = .ok (.getfield 7, 3) := by decide +kernel
theorem dX8_drift_83 : decode cX8_drift 83 = .ok (.bipush 28, 2) := by decide +kernel
theorem dX8_drift_85 : decode cX8_drift 85 = .ok (.iaload, 1) := by decide +kernel
theorem dX8_drift_86 : decode cX8_drift 86 = .ok (.iconst 1, 1) := by decide +kernel
theorem dX8_drift_87 : decode cX8_drift 87 = .ok (.iadd, 1) := by decide +kernel
theorem dX8_drift_88 : decode cX8_drift 88 = .ok (.irem, 1) := by decide +kernel
theorem dX8_drift_89 : decode cX8_drift 89 = .ok (.istore 5, 2) := by decide +kernel
theorem dX8_drift_91 : decode cX8_drift 91 = .ok (.aload_n 0, 1) := by decide +kernel
theorem dX8_drift_92 : decode cX8_drift 92 = .ok (.iconst 0, 1) := by decide +kernel
theorem dX8_drift_93 : decode cX8_drift 93 = .ok (.iload 5, 2) := by decide +kernel
theorem dX8_drift_95 : decode cX8_drift 95 = .ok (.aload_n 0, 1) := by decide +kernel
theorem dX8_drift_96 : decode cX8_drift 96 = .ok (.getfield 7, 3) := by decide +kernel
theorem dX8_drift_99 : decode cX8_drift 99 = .ok (.bipush 28, 2) := by decide +kernel
theorem dX8_drift_101 : decode cX8_drift 101 = .ok (.iaload, 1) := by decide +kernel
theorem dX8_drift_102 : decode cX8_drift 102 = .ok (.if_icmp .ne 8, 3) := by decide +kernel
theorem dX8_drift_105 : decode cX8_drift 105 = .ok (.bipush (-4), 2) := by decide +kernel
theorem dX8_drift_107 : decode cX8_drift 107 = .ok (.goto 5, 3) := by decide +kernel
theorem dX8_drift_110 : decode cX8_drift 110 = .ok (.iload 5, 2) := by decide +kernel
theorem dX8_drift_112 : decode cX8_drift 112 = .ok (.invokevirtual 182, 3) := by decide +kernel
theorem dX8_drift_115 : decode cX8_drift 115 = .ok (.iinc 2 1, 3) := by decide +kernel
theorem dX8_drift_118 : decode cX8_drift 118 = .ok (.goto (-85), 3) := by decide +kernel
theorem dX8_drift_121 : decode cX8_drift 121 = .ok (.aload_n 0, 1) := by decide +kernel
theorem dX8_drift_122 : decode cX8_drift 122 = .ok (.getfield 7, 3) := by decide +kernel
theorem dX8_drift_125 : decode cX8_drift 125 = .ok (.iconst 0, 1) := by decide +kernel
theorem dX8_drift_126 : decode cX8_drift 126 = .ok (.iaload, 1) := by decide +kernel
theorem dX8_drift_127 : decode cX8_drift 127 = .ok (.ireturn, 1) := by decide +kernel
theorem dX8_undo_0 : decode cX8_undo 0 = .ok (.aload_n 0, 1) := by decide +kernel
theorem dX8_undo_1 : decode cX8_undo 1 = .ok (.getfield 7, 3) := by decide +kernel
theorem dX8_undo_4 : decode cX8_undo 4 = .ok (.bipush 41, 2) := by decide +kernel
theorem dX8_undo_6 : decode cX8_undo 6 = .ok (.iaload, 1) := by decide +kernel
theorem dX8_undo_7 : decode cX8_undo 7 = .ok (.ifCond .ne 6, 3) := by decide +kernel
theorem dX8_undo_10 : decode cX8_undo 10 = .ok (.bipush (-4), 2) := by decide +kernel
theorem dX8_undo_12 : decode cX8_undo 12 = .ok (.ireturn, 1) := by decide +kernel
theorem dX8_undo_13 : decode cX8_undo 13 = .ok (.aload_n 0, 1) := by decide +kernel
theorem dX8_undo_14 : decode cX8_undo 14 = .ok (.getfield 7, 3) := by decide +kernel
theorem dX8_undo_17 : decode cX8_undo 17 = .ok (.bipush 41, 2) := by decide +kernel
theorem dX8_undo_19 : decode cX8_undo 19 = .ok (.dup2, 1) := by decide +kernel
theorem dX8_undo_20 : decode cX8_undo 20 = .ok (.iaload, 1) := by decide +kernel
theorem dX8_undo_21 : decode cX8_undo 21 = .ok (.iconst 1, 1) := by decide +kernel
theorem dX8_undo_22 : decode cX8_undo 22 = .ok (.isub, 1) := by decide +kernel
theorem dX8_undo_23 : decode cX8_undo 23 = .ok (.iastore, 1) := by decide +kernel
theorem dX8_undo_24 : decode cX8_undo 24 = .ok (.iconst 0, 1) := by decide +kernel
theorem dX8_undo_25 : decode cX8_undo 25 = .ok (.istore_n 1, 1) := by decide +kernel
theorem dX8_undo_26 : decode cX8_undo 26 = .ok (.iload_n 1, 1) := by decide +kernel
theorem dX8_undo_27 : decode cX8_undo 27 = .ok (.bipush 25, 2) := by decide +kernel
theorem dX8_undo_29 : decode cX8_undo 29 = .ok (.if_icmp .ge 35, 3) := by decide +kernel
theorem dX8_undo_32 : decode cX8_undo 32 = .ok (.aload_n 0, 1) := by decide +kernel
theorem dX8_undo_33 : decode cX8_undo 33 = .ok (.getfield 7, 3) := by decide +kernel
theorem dX8_undo_36 : decode cX8_undo 36 = .ok (.iload_n 1, 1) := by decide +kernel
theorem dX8_undo_37 : decode cX8_undo 37 = .ok (.aload_n 0, 1) := by decide +kernel
theorem dX8_undo_38 : decode cX8_undo 38 = .ok (.getfield 7, 3) := by decide +kernel
theorem dX8_undo_41 : decode cX8_undo 41 = .ok (.bipush 42, 2) := by decide +kernel
theorem dX8_undo_43 : decode cX8_undo 43 = .ok (.bipush 25, 2) := by decide +kernel
theorem dX8_undo_45 : decode cX8_undo 45 = .ok (.aload_n 0, 1) := by decide +kernel
theorem dX8_undo_46 : decode cX8_undo 46 = .ok (.getfield 7, 3) := by decide +kernel
theorem dX8_undo_49 : decode cX8_undo 49 = .ok (.bipush 41, 2) := by decide +kernel
theorem dX8_undo_51 : decode cX8_undo 51 = .ok (.iaload, 1) := by decide +kernel
theorem dX8_undo_52 : decode cX8_undo 52 = .ok (.imul, 1) := by decide +kernel
theorem dX8_undo_53 : decode cX8_undo 53 = .ok (.iadd, 1) := by decide +kernel
theorem dX8_undo_54 : decode cX8_undo 54 = .ok (.iload_n 1, 1) := by decide +kernel
theorem dX8_undo_55 : decode cX8_undo 55 = .ok (.iadd, 1) := by decide +kernel
theorem dX8_undo_56 : decode cX8_undo 56 = .ok (.iaload, 1) := by decide +kernel
theorem dX8_undo_57 : decode cX8_undo 57 = .ok (.iastore, 1) := by decide +kernel
theorem dX8_undo_58 : decode cX8_undo 58 = .ok (.iinc 1 1, 3) := by decide +kernel
theorem dX8_undo_61 : decode cX8_undo 61 = .ok (.goto (-35), 3) := by decide +kernel
theorem dX8_undo_64 : decode cX8_undo 64 = .ok (.aload_n 0, 1) := by decide +kernel
theorem dX8_undo_65 : decode cX8_undo 65 = .ok (.getfield 7, 3) := by decide +kernel
theorem dX8_undo_68 : decode cX8_undo 68 = .ok (.bipush 41, 2) := by decide +kernel
theorem dX8_undo_70 : decode cX8_undo 70 = .ok (.iaload, 1) := by decide +kernel
theorem dX8_undo_71 : decode cX8_undo 71 = .ok (.ireturn, 1) := by decide +kernel
theorem dX8_seed_0 : decode cX8_seed 0 = .ok (.iload_n 1, 1) := by decide +kernel
theorem dX8_seed_1 : decode cX8_seed 1 = .ok (.ifCond .ge 5, 3) := by decide +kernel
theorem dX8_seed_4 : decode cX8_seed 4 = .ok (.iconst (-1), 1) := by decide +kernel
theorem dX8_seed_5 : decode cX8_seed 5 = .ok (.ireturn, 1) := by decide +kernel
theorem dX8_seed_6 : decode cX8_seed 6 = .ok (.aload_n 0, 1) := by decide +kernel
theorem dX8_seed_7 : decode cX8_seed 7 = .ok (.getfield 7, 3) := by decide +kernel
theorem dX8_seed_10 : decode cX8_seed 10 = .ok (.iconst 2, 1) := by decide +kernel
theorem dX8_seed_11 : decode cX8_seed 11 = .ok (.iaload, 1) := by decide +kernel
theorem dX8_seed_12 : decode cX8_seed 12 = .ok (.istore_n 2, 1) := by decide +kernel
theorem dX8_seed_13 : decode cX8_seed 13 = .ok (.aload_n 0, 1) := by decide +kernel
theorem dX8_seed_14 : decode cX8_seed 14 = .ok (.getfield 7, 3) := by decide +kernel
theorem dX8_seed_17 : decode cX8_seed 17 = .ok (.iconst 2, 1) := by decide +kernel
theorem dX8_seed_18 : decode cX8_seed 18 = .ok (.iload_n 1, 1) := by decide +kernel
theorem dX8_seed_19 : decode cX8_seed 19 = .ok (.iastore, 1) := by decide +kernel
theorem dX8_seed_20 : decode cX8_seed 20 = .ok (.iload_n 2, 1) := by decide +kernel
theorem dX8_seed_21 : decode cX8_seed 21 = .ok (.ireturn, 1) := by decide +kernel
theorem dX8_layTried_0 : decode cX8_layTried 0 = .ok (.iconst 0, 1) := by decide +kernel
theorem dX8_layTried_1 : decode cX8_layTried 1 = .ok (.istore_n 1, 1) := by decide +kernel
theorem dX8_layTried_2 : decode cX8_layTried 2 = .ok (.iload_n 1, 1) := by decide +kernel
theorem dX8_layTried_3 : decode cX8_layTried 3 = .ok (.bipush 41, 2) := by decide +kernel
theorem dX8_layTried_5 : decode cX8_layTried 5 = .ok (.if_icmp .ge 25, 3) := by decide +kernel
theorem dX8_layTried_8 : decode cX8_layTried 8 = .ok (.aload_n 0, 1) := by decide +kernel
theorem dX8_layTried_9 : decode cX8_layTried 9 = .ok (.getfield 7, 3) := by decide +kernel
theorem dX8_layTried_12 : decode cX8_layTried 12 = .ok (.sipush 484, 3) := by decide +kernel
theorem dX8_layTried_15 : decode cX8_layTried 15 = .ok (.iload_n 1, 1) := by decide +kernel
theorem dX8_layTried_16 : decode cX8_layTried 16 = .ok (.iadd, 1) := by decide +kernel
theorem dX8_layTried_17 : decode cX8_layTried 17 = .ok (.aload_n 0, 1) := by decide +kernel
theorem dX8_layTried_18 : decode cX8_layTried 18 = .ok (.getfield 7, 3) := by decide +kernel
theorem dX8_layTried_21 : decode cX8_layTried 21 = .ok (.iload_n 1, 1) := by decide +kernel
theorem dX8_layTried_22 : decode cX8_layTried 22 = .ok (.iaload, 1) := by decide +kernel
theorem dX8_layTried_23 : decode cX8_layTried 23 = .ok (.iastore, 1) := by decide +kernel
theorem dX8_layTried_24 : decode cX8_layTried 24 = .ok (.iinc 1 1, 3) := by decide +kernel
theorem dX8_layTried_27 : decode cX8_layTried 27 = .ok (.goto (-25), 3) := by decide +kernel
theorem dX8_layTried_30 : decode cX8_layTried 30 = .ok (.return_, 1) := by decide +kernel
theorem dX8_rock_0 : decode cX8_rock 0 = .ok (.aload_n 0, 1) := by decide +kernel
theorem dX8_rock_1 : decode cX8_rock 1 = .ok (.iload_n 1, 1) := by decide +kernel
theorem dX8_rock_2 : decode cX8_rock 2 = .ok (.invokevirtual 100, 3) := by decide +kernel
theorem dX8_rock_5 : decode cX8_rock 5 = .ok (.ifCond .eq 12, 3) := by decide +kernel
theorem dX8_rock_8 : decode cX8_rock 8 = .ok (.aload_n 0, 1) := by decide +kernel
theorem dX8_rock_9 : decode cX8_rock 9 = .ok (.iconst 0, 1) := by decide +kernel
theorem dX8_rock_10 : decode cX8_rock 10 = .ok (.iload_n 1, 1) := by decide +kernel
theorem dX8_rock_11 : decode cX8_rock 11 = .ok (.invokevirtual 169, 3) := by decide +kernel
theorem dX8_rock_14 : decode cX8_rock 14 = .ok (.goto 4, 3) := by decide +kernel
theorem dX8_rock_17 : decode cX8_rock 17 = .ok (.iconst (-1), 1) := by decide +kernel
theorem dX8_rock_18 : decode cX8_rock 18 = .ok (.ireturn, 1) := by decide +kernel
theorem dX8_nextAt_0 : decode cX8_nextAt 0 = .ok (.bipush (-4), 2) := by decide +kernel
theorem dX8_nextAt_2 : decode cX8_nextAt 2 = .ok (.istore_n 2, 1) := by decide +kernel
theorem dX8_nextAt_3 : decode cX8_nextAt 3 = .ok (.iconst 0, 1) := by decide +kernel
theorem dX8_nextAt_4 : decode cX8_nextAt 4 = .ok (.istore_n 3, 1) := by decide +kernel
theorem dX8_nextAt_5 : decode cX8_nextAt 5 = .ok (.iload_n 3, 1) := by decide +kernel
theorem dX8_nextAt_6 : decode cX8_nextAt 6 = .ok (.aload_n 0, 1) := by decide +kernel
theorem dX8_nextAt_7 : decode cX8_nextAt 7 = .ok (.getfield 7, 3) := by decide +kernel
theorem dX8_nextAt_10 : decode cX8_nextAt 10 = .ok (.bipush 28, 2) := by decide +kernel
theorem dX8_nextAt_12 : decode cX8_nextAt 12 = .ok (.iaload, 1) := by decide +kernel
theorem dX8_nextAt_13 : decode cX8_nextAt 13 = .ok (.if_icmp .ge 36, 3) := by decide +kernel
theorem dX8_nextAt_16 : decode cX8_nextAt 16 = .ok (.iload_n 2, 1) := by decide +kernel
theorem dX8_nextAt_17 : decode cX8_nextAt 17 = .ok (.bipush (-4), 2) := by decide +kernel
theorem dX8_nextAt_19 : decode cX8_nextAt 19 = .ok (.if_icmp .eq 18, 3) := by decide +kernel
theorem dX8_nextAt_22 : decode cX8_nextAt 22 = .ok (.aload_n 0, 1) := by decide +kernel
theorem dX8_nextAt_23 : decode cX8_nextAt 23 = .ok (.iload_n 1, 1) := by decide +kernel
theorem dX8_nextAt_24 : decode cX8_nextAt 24 = .ok (.iload_n 3, 1) := by decide +kernel
theorem dX8_nextAt_25 : decode cX8_nextAt 25 = .ok (.invokevirtual 169, 3) := by decide +kernel
theorem dX8_nextAt_28 : decode cX8_nextAt 28 = .ok (.aload_n 0, 1) := by decide +kernel
theorem dX8_nextAt_29 : decode cX8_nextAt 29 = .ok (.iload_n 1, 1) := by decide +kernel
theorem dX8_nextAt_30 : decode cX8_nextAt 30 = .ok (.iload_n 2, 1) := by decide +kernel
theorem dX8_nextAt_31 : decode cX8_nextAt 31 = .ok (.invokevirtual 169, 3) := by decide +kernel
theorem dX8_nextAt_34 : decode cX8_nextAt 34 = .ok (.if_icmp .le 7, 3) := by decide +kernel
theorem dX8_nextAt_37 : decode cX8_nextAt 37 = .ok (.iload_n 3, 1) := by decide +kernel
theorem dX8_nextAt_38 : decode cX8_nextAt 38 = .ok (.goto 4, 3) := by decide +kernel
theorem dX8_nextAt_41 : decode cX8_nextAt 41 = .ok (.iload_n 2, 1) := by decide +kernel
theorem dX8_nextAt_42 : decode cX8_nextAt 42 = .ok (.istore_n 2, 1) := by decide +kernel
theorem dX8_nextAt_43 : decode cX8_nextAt 43 = .ok (.iinc 3 1, 3) := by decide +kernel
theorem dX8_nextAt_46 : decode cX8_nextAt 46 = .ok (.goto (-41), 3) := by decide +kernel
theorem dX8_nextAt_49 : decode cX8_nextAt 49 = .ok (.iload_n 2, 1) := by decide +kernel
theorem dX8_nextAt_50 : decode cX8_nextAt 50 = .ok (.ireturn, 1) := by decide +kernel
theorem dX8_next_0 : decode cX8_next 0 = .ok (.iload_n 1, 1) := by decide +kernel
theorem dX8_next_1 : decode cX8_next 1 = .ok (.i2l, 1) := by decide +kernel
theorem dX8_next_2 : decode cX8_next 2 = .ok (.lconst 0, 1) := by decide +kernel
theorem dX8_next_3 : decode cX8_next 3 = .ok (.lconst 1, 1) := by decide +kernel
theorem dX8_next_4 : decode cX8_next 4 = .ok (.invokestatic 47, 3) := by decide +kernel
theorem dX8_next_7 : decode cX8_next 7 = .ok (.ifCond .ne 5, 3) := by decide +kernel
theorem dX8_next_10 : decode cX8_next 10 = .ok (.iconst (-1), 1) := by decide +kernel
theorem dX8_next_11 : decode cX8_next 11 = .ok (.ireturn, 1) := by decide +kernel
theorem dX8_next_12 : decode cX8_next 12 = .ok (.aload_n 0, 1) := by decide +kernel
theorem dX8_next_13 : decode cX8_next 13 = .ok (.iconst 0, 1) := by decide +kernel
theorem dX8_next_14 : decode cX8_next 14 = .ok (.invokevirtual 194, 3) := by decide +kernel
theorem dX8_next_17 : decode cX8_next 17 = .ok (.istore_n 2, 1) := by decide +kernel
theorem dX8_next_18 : decode cX8_next 18 = .ok (.iload_n 2, 1) := by decide +kernel
theorem dX8_next_19 : decode cX8_next 19 = .ok (.bipush (-4), 2) := by decide +kernel
theorem dX8_next_21 : decode cX8_next 21 = .ok (.if_icmp .eq 7, 3) := by decide +kernel
theorem dX8_next_24 : decode cX8_next 24 = .ok (.iload_n 1, 1) := by decide +kernel
theorem dX8_next_25 : decode cX8_next 25 = .ok (.ifCond .ne 7, 3) := by decide +kernel
theorem dX8_next_28 : decode cX8_next 28 = .ok (.iload_n 2, 1) := by decide +kernel
theorem dX8_next_29 : decode cX8_next 29 = .ok (.goto 9, 3) := by decide +kernel
theorem dX8_next_32 : decode cX8_next 32 = .ok (.aload_n 0, 1) := by decide +kernel
theorem dX8_next_33 : decode cX8_next 33 = .ok (.iconst 0, 1) := by decide +kernel
theorem dX8_next_34 : decode cX8_next 34 = .ok (.iload_n 2, 1) := by decide +kernel
theorem dX8_next_35 : decode cX8_next 35 = .ok (.invokevirtual 169, 3) := by decide +kernel
theorem dX8_next_38 : decode cX8_next 38 = .ok (.ireturn, 1) := by decide +kernel
theorem dX8_greedy_0 : decode cX8_greedy 0 = .ok (.iload_n 1, 1) := by decide +kernel
theorem dX8_greedy_1 : decode cX8_greedy 1 = .ok (.i2l, 1) := by decide +kernel
theorem dX8_greedy_2 : decode cX8_greedy 2 = .ok (.lconst 0, 1) := by decide +kernel
theorem dX8_greedy_3 : decode cX8_greedy 3 = .ok (.ldc2_w 197, 3) := by decide +kernel
theorem dX8_greedy_6 : decode cX8_greedy 6 = .ok (.invokestatic 47, 3) := by decide +kernel
theorem dX8_greedy_9 : decode cX8_greedy 9 = .ok (.ifCond .eq 13, 3) := by decide +kernel
theorem dX8_greedy_12 : decode cX8_greedy 12 = .ok (.iload_n 2, 1) := by decide +kernel
theorem dX8_greedy_13 : decode cX8_greedy 13 = .ok (.i2l, 1) := by decide +kernel
theorem dX8_greedy_14 : decode cX8_greedy 14 = .ok (.lconst 0, 1) := by decide +kernel
theorem dX8_greedy_15 : decode cX8_greedy 15 = .ok (.lconst 1, 1) := by decide +kernel
theorem dX8_greedy_16 : decode cX8_greedy 16 = .ok (.invokestatic 47, 3) := by decide +kernel
theorem dX8_greedy_19 : decode cX8_greedy 19 = .ok (.ifCond .ne 5, 3) := by decide +kernel
theorem dX8_greedy_22 : decode cX8_greedy 22 = .ok (.iconst (-1), 1) := by decide +kernel
theorem dX8_greedy_23 : decode cX8_greedy 23 = .ok (.ireturn, 1) := by decide +kernel
theorem dX8_greedy_24 : decode cX8_greedy 24 = .ok (.aload_n 0, 1) := by decide +kernel
theorem dX8_greedy_25 : decode cX8_greedy 25 = .ok (.invokevirtual 199, 3) := by decide +kernel
theorem dX8_greedy_28 : decode cX8_greedy 28 = .ok (.iconst 0, 1) := by decide +kernel
theorem dX8_greedy_29 : decode cX8_greedy 29 = .ok (.istore_n 3, 1) := by decide +kernel
theorem dX8_greedy_30 : decode cX8_greedy 30 = .ok (.iload_n 3, 1) := by decide +kernel
theorem dX8_greedy_31 : decode cX8_greedy 31 = .ok (.iload_n 1, 1) := by decide +kernel
theorem dX8_greedy_32 : decode cX8_greedy 32 = .ok (.if_icmp .ge 23, 3) := by decide +kernel
theorem dX8_greedy_35 : decode cX8_greedy 35 = .ok (.aload_n 0, 1) := by decide +kernel
theorem dX8_greedy_36 : decode cX8_greedy 36 = .ok (.sipush 484, 3) := by decide +kernel
theorem dX8_greedy_39 : decode cX8_greedy 39 = .ok (.aload_n 0, 1) := by decide +kernel
theorem dX8_greedy_40 : decode cX8_greedy 40 = .ok (.sipush 484, 3) := by decide +kernel
theorem dX8_greedy_43 : decode cX8_greedy 43 = .ok (.invokevirtual 194, 3) := by decide +kernel
theorem dX8_greedy_46 : decode cX8_greedy 46 = .ok (.invokevirtual 182, 3) := by decide +kernel
theorem dX8_greedy_49 : decode cX8_greedy 49 = .ok (.iinc 3 1, 3) := by decide +kernel
theorem dX8_greedy_52 : decode cX8_greedy 52 = .ok (.goto (-22), 3) := by decide +kernel
theorem dX8_greedy_55 : decode cX8_greedy 55 = .ok (.iload_n 2, 1) := by decide +kernel
theorem dX8_greedy_56 : decode cX8_greedy 56 = .ok (.ifCond .ne 14, 3) := by decide +kernel
theorem dX8_greedy_59 : decode cX8_greedy 59 = .ok (.aload_n 0, 1) := by decide +kernel
theorem dX8_greedy_60 : decode cX8_greedy 60 = .ok (.getfield 7, 3) := by decide +kernel
theorem dX8_greedy_63 : decode cX8_greedy 63 = .ok (.sipush 484, 3) := by decide +kernel
theorem dX8_greedy_66 : decode cX8_greedy 66 = .ok (.iaload, 1) := by decide +kernel
theorem dX8_greedy_67 : decode cX8_greedy 67 = .ok (.goto 10, 3) := by decide +kernel
theorem dX8_greedy_70 : decode cX8_greedy 70 = .ok (.aload_n 0, 1) := by decide +kernel
theorem dX8_greedy_71 : decode cX8_greedy 71 = .ok (.sipush 484, 3) := by decide +kernel
theorem dX8_greedy_74 : decode cX8_greedy 74 = .ok (.invokevirtual 202, 3) := by decide +kernel
theorem dX8_greedy_77 : decode cX8_greedy 77 = .ok (.ireturn, 1) := by decide +kernel
theorem dX8_through_0 : decode cX8_through 0 = .ok (.aload_n 0, 1) := by decide +kernel
theorem dX8_through_1 : decode cX8_through 1 = .ok (.invokevirtual 199, 3) := by decide +kernel
theorem dX8_through_4 : decode cX8_through 4 = .ok (.iconst 0, 1) := by decide +kernel
theorem dX8_through_5 : decode cX8_through 5 = .ok (.istore_n 1, 1) := by decide +kernel
theorem dX8_through_6 : decode cX8_through 6 = .ok (.iload_n 1, 1) := by decide +kernel
theorem dX8_through_7 : decode cX8_through 7 = .ok (.bipush 100, 2) := by decide +kernel
theorem dX8_through_9 : decode cX8_through 9 = .ok (.if_icmp .ge 35, 3) := by decide +kernel
theorem dX8_through_12 : decode cX8_through 12 = .ok (.aload_n 0, 1) := by decide +kernel
theorem dX8_through_13 : decode cX8_through 13 = .ok (.sipush 484, 3) := by decide +kernel
theorem dX8_through_16 : decode cX8_through 16 = .ok (.invokevirtual 166, 3) := by decide +kernel
theorem dX8_through_19 : decode cX8_through 19 = .ok (.ifCond .eq 5, 3) := by decide +kernel
theorem dX8_through_22 : decode cX8_through 22 = .ok (.iload_n 1, 1) := by decide +kernel
theorem dX8_through_23 : decode cX8_through 23 = .ok (.ireturn, 1) := by decide +kernel
theorem dX8_through_24 : decode cX8_through 24 = .ok (.aload_n 0, 1) := by decide +kernel
theorem dX8_through_25 : decode cX8_through 25 = .ok (.sipush 484, 3) := by decide +kernel
theorem dX8_through_28 : decode cX8_through 28 = .ok (.aload_n 0, 1) := by decide +kernel
theorem dX8_through_29 : decode cX8_through 29 = .ok (.sipush 484, 3) := by decide +kernel
theorem dX8_through_32 : decode cX8_through 32 = .ok (.invokevirtual 194, 3) := by decide +kernel
theorem dX8_through_35 : decode cX8_through 35 = .ok (.invokevirtual 182, 3) := by decide +kernel
theorem dX8_through_38 : decode cX8_through 38 = .ok (.iinc 1 1, 3) := by decide +kernel
theorem dX8_through_41 : decode cX8_through 41 = .ok (.goto (-35), 3) := by decide +kernel
theorem dX8_through_44 : decode cX8_through 44 = .ok (.bipush (-4), 2) := by decide +kernel
theorem dX8_through_46 : decode cX8_through 46 = .ok (.ireturn, 1) := by decide +kernel
theorem dX8_tryLine_0 : decode cX8_tryLine 0 = .ok (.aload_n 0, 1) := by decide +kernel
theorem dX8_tryLine_1 : decode cX8_tryLine 1 = .ok (.invokevirtual 199, 3) := by decide +kernel
theorem dX8_tryLine_4 : decode cX8_tryLine 4 = .ok (.iconst 0, 1) := by decide +kernel
theorem dX8_tryLine_5 : decode cX8_tryLine 5 = .ok (.istore_n 2, 1) := by decide +kernel
theorem dX8_tryLine_6 : decode cX8_tryLine 6 = .ok (.iload_n 2, 1) := by decide +kernel
theorem dX8_tryLine_7 : decode cX8_tryLine 7 = .ok (.iload_n 1, 1) := by decide +kernel
theorem dX8_tryLine_8 : decode cX8_tryLine 8 = .ok (.if_icmp .ge 22, 3) := by decide +kernel
theorem dX8_tryLine_11 : decode cX8_tryLine 11 = .ok (.aload_n 0, 1) := by decide +kernel
theorem dX8_tryLine_12 : decode cX8_tryLine 12 = .ok (.sipush 484, 3) := by decide +kernel
theorem dX8_tryLine_15 : decode cX8_tryLine 15 = .ok (.aload_n 0, 1) := by decide +kernel
theorem dX8_tryLine_16 : decode cX8_tryLine 16 = .ok (.getfield 35, 3) := by decide +kernel
theorem dX8_tryLine_19 : decode cX8_tryLine 19 = .ok (.iload_n 2, 1) := by decide +kernel
theorem dX8_tryLine_20 : decode cX8_tryLine 20 = .ok (.iaload, 1) := by decide +kernel
theorem dX8_tryLine_21 : decode cX8_tryLine 21 = .ok (.invokevirtual 182, 3) := by decide +kernel
theorem dX8_tryLine_24 : decode cX8_tryLine 24 = .ok (.iinc 2 1, 3) := by decide +kernel
theorem dX8_tryLine_27 : decode cX8_tryLine 27 = .ok (.goto (-21), 3) := by decide +kernel
theorem dX8_tryLine_30 : decode cX8_tryLine 30 = .ok (.aload_n 0, 1) := by decide +kernel
theorem dX8_tryLine_31 : decode cX8_tryLine 31 = .ok (.getfield 7, 3) := by decide +kernel
theorem dX8_tryLine_34 : decode cX8_tryLine 34 = .ok (.sipush 484, 3) := by decide +kernel
theorem dX8_tryLine_37 : decode cX8_tryLine 37 = .ok (.iaload, 1) := by decide +kernel
theorem dX8_tryLine_38 : decode cX8_tryLine 38 = .ok (.istore_n 2, 1) := by decide +kernel
theorem dX8_tryLine_39 : decode cX8_tryLine 39 = .ok (.iload_n 2, 1) := by decide +kernel
theorem dX8_tryLine_40 : decode cX8_tryLine 40 = .ok (.aload_n 0, 1) := by decide +kernel
theorem dX8_tryLine_41 : decode cX8_tryLine 41 = .ok (.getfield 205, 3) := by decide +kernel
theorem dX8_tryLine_44 : decode cX8_tryLine 44 = .ok (.if_icmp .gt 25, 3) := by decide +kernel
theorem dX8_tryLine_47 : decode cX8_tryLine 47 = .ok (.iload_n 2, 1) := by decide +kernel
theorem dX8_tryLine_48 : decode cX8_tryLine 48 = .ok (.aload_n 0, 1) := by decide +kernel
theorem dX8_tryLine_49 : decode cX8_tryLine 49 = .ok (.getfield 205, 3) := by decide +kernel
theorem dX8_tryLine_52 : decode cX8_tryLine 52 = .ok (.if_icmp .ne 58, 3) := by decide +kernel
theorem dX8_tryLine_55 : decode cX8_tryLine 55 = .ok (.aload_n 0, 1) := by decide +kernel
theorem dX8_tryLine_56 : decode cX8_tryLine 56 = .ok (.sipush 484, 3) := by decide +kernel
theorem dX8_tryLine_59 : decode cX8_tryLine 59 = .ok (.invokevirtual 202, 3) := by decide +kernel
theorem dX8_tryLine_62 : decode cX8_tryLine 62 = .ok (.aload_n 0, 1) := by decide +kernel
theorem dX8_tryLine_63 : decode cX8_tryLine 63 = .ok (.getfield 208, 3) := by decide +kernel
theorem dX8_tryLine_66 : decode cX8_tryLine 66 = .ok (.if_icmp .ge 44, 3) := by decide +kernel
theorem dX8_tryLine_69 : decode cX8_tryLine 69 = .ok (.aload_n 0, 1) := by decide +kernel
theorem dX8_tryLine_70 : decode cX8_tryLine 70 = .ok (.iload_n 2, 1) := by decide +kernel
theorem dX8_tryLine_71 : decode cX8_tryLine 71 = .ok (.putfield 205, 3) := by decide +kernel
theorem dX8_tryLine_74 : decode cX8_tryLine 74 = .ok (.aload_n 0, 1) := by decide +kernel
theorem dX8_tryLine_75 : decode cX8_tryLine 75 = .ok (.aload_n 0, 1) := by decide +kernel
theorem dX8_tryLine_76 : decode cX8_tryLine 76 = .ok (.sipush 484, 3) := by decide +kernel
theorem dX8_tryLine_79 : decode cX8_tryLine 79 = .ok (.invokevirtual 202, 3) := by decide +kernel
theorem dX8_tryLine_82 : decode cX8_tryLine 82 = .ok (.putfield 208, 3) := by decide +kernel
theorem dX8_tryLine_85 : decode cX8_tryLine 85 = .ok (.iconst 0, 1) := by decide +kernel
theorem dX8_tryLine_86 : decode cX8_tryLine 86 = .ok (.istore_n 3, 1) := by decide +kernel
theorem dX8_tryLine_87 : decode cX8_tryLine 87 = .ok (.iload_n 3, 1) := by decide +kernel
theorem dX8_tryLine_88 : decode cX8_tryLine 88 = .ok (.iload_n 1, 1) := by decide +kernel
theorem dX8_tryLine_89 : decode cX8_tryLine 89 = .ok (.if_icmp .ge 21, 3) := by decide +kernel
theorem dX8_tryLine_92 : decode cX8_tryLine 92 = .ok (.aload_n 0, 1) := by decide +kernel
theorem dX8_tryLine_93 : decode cX8_tryLine 93 = .ok (.getfield 38, 3) := by decide +kernel
theorem dX8_tryLine_96 : decode cX8_tryLine 96 = .ok (.iload_n 3, 1) := by decide +kernel
theorem dX8_tryLine_97 : decode cX8_tryLine 97 = .ok (.aload_n 0, 1) := by decide +kernel
theorem dX8_tryLine_98 : decode cX8_tryLine 98 = .ok (.getfield 35, 3) := by decide +kernel
theorem dX8_tryLine_101 : decode cX8_tryLine 101 = .ok (.iload_n 3, 1) := by decide +kernel
theorem dX8_tryLine_102 : decode cX8_tryLine 102 = .ok (.iaload, 1) := by decide +kernel
theorem dX8_tryLine_103 : decode cX8_tryLine 103 = .ok (.iastore, 1) := by decide +kernel
theorem dX8_tryLine_104 : decode cX8_tryLine 104 = .ok (.iinc 3 1, 3) := by decide +kernel
theorem dX8_tryLine_107 : decode cX8_tryLine 107 = .ok (.goto (-20), 3) := by decide +kernel
theorem dX8_tryLine_110 : decode cX8_tryLine 110 = .ok (.return_, 1) := by decide +kernel
theorem dX8_tellLine_0 : decode cX8_tellLine 0 = .ok (.iload_n 2, 1) := by decide +kernel
theorem dX8_tellLine_1 : decode cX8_tellLine 1 = .ok (.ifCond .ge 10, 3) := by decide +kernel
theorem dX8_tellLine_4 : decode cX8_tellLine 4 = .ok (.aload_n 0, 1) := by decide +kernel
theorem dX8_tellLine_5 : decode cX8_tellLine 5 = .ok (.getfield 205, 3) := by decide +kernel
theorem dX8_tellLine_8 : decode cX8_tellLine 8 = .ok (.goto 19, 3) := by decide +kernel
theorem dX8_tellLine_11 : decode cX8_tellLine 11 = .ok (.iload_n 2, 1) := by decide +kernel
theorem dX8_tellLine_12 : decode cX8_tellLine 12 = .ok (.iload_n 1, 1) := by decide +kernel
theorem dX8_tellLine_13 : decode cX8_tellLine 13 = .ok (.if_icmp .ge 12, 3) := by decide +kernel
theorem dX8_tellLine_16 : decode cX8_tellLine 16 = .ok (.aload_n 0, 1) := by decide +kernel
theorem dX8_tellLine_17 : decode cX8_tellLine 17 = .ok (.getfield 38, 3) := by decide +kernel
theorem dX8_tellLine_20 : decode cX8_tellLine 20 = .ok (.iload_n 2, 1) := by decide +kernel
theorem dX8_tellLine_21 : decode cX8_tellLine 21 = .ok (.iaload, 1) := by decide +kernel
theorem dX8_tellLine_22 : decode cX8_tellLine 22 = .ok (.goto 5, 3) := by decide +kernel
theorem dX8_tellLine_25 : decode cX8_tellLine 25 = .ok (.bipush (-4), 2) := by decide +kernel
theorem dX8_tellLine_27 : decode cX8_tellLine 27 = .ok (.ireturn, 1) := by decide +kernel
theorem dX8_nextRow_0 : decode cX8_nextRow 0 = .ok (.iload_n 1, 1) := by decide +kernel
theorem dX8_nextRow_1 : decode cX8_nextRow 1 = .ok (.iconst 1, 1) := by decide +kernel
theorem dX8_nextRow_2 : decode cX8_nextRow 2 = .ok (.isub, 1) := by decide +kernel
theorem dX8_nextRow_3 : decode cX8_nextRow 3 = .ok (.istore_n 2, 1) := by decide +kernel
theorem dX8_nextRow_4 : decode cX8_nextRow 4 = .ok (.iload_n 2, 1) := by decide +kernel
theorem dX8_nextRow_5 : decode cX8_nextRow 5 = .ok (.ifCond .lt 34, 3) := by decide +kernel
theorem dX8_nextRow_8 : decode cX8_nextRow 8 = .ok (.aload_n 0, 1) := by decide +kernel
theorem dX8_nextRow_9 : decode cX8_nextRow 9 = .ok (.getfield 35, 3) := by decide +kernel
theorem dX8_nextRow_12 : decode cX8_nextRow 12 = .ok (.iload_n 2, 1) := by decide +kernel
theorem dX8_nextRow_13 : decode cX8_nextRow 13 = .ok (.iaload, 1) := by decide +kernel
theorem dX8_nextRow_14 : decode cX8_nextRow 14 = .ok (.aload_n 0, 1) := by decide +kernel
theorem dX8_nextRow_15 : decode cX8_nextRow 15 = .ok (.getfield 7, 3) := by decide +kernel
theorem dX8_nextRow_18 : decode cX8_nextRow 18 = .ok (.bipush 28, 2) := by decide +kernel
theorem dX8_nextRow_20 : decode cX8_nextRow 20 = .ok (.iaload, 1) := by decide +kernel
theorem dX8_nextRow_21 : decode cX8_nextRow 21 = .ok (.iconst 1, 1) := by decide +kernel
theorem dX8_nextRow_22 : decode cX8_nextRow 22 = .ok (.isub, 1) := by decide +kernel
theorem dX8_nextRow_23 : decode cX8_nextRow 23 = .ok (.if_icmp .ne 16, 3) := by decide +kernel
theorem dX8_nextRow_26 : decode cX8_nextRow 26 = .ok (.aload_n 0, 1) := by decide +kernel
theorem dX8_nextRow_27 : decode cX8_nextRow 27 = .ok (.getfield 35, 3) := by decide +kernel
theorem dX8_nextRow_30 : decode cX8_nextRow 30 = .ok (.iload_n 2, 1) := by decide +kernel
theorem dX8_nextRow_31 : decode cX8_nextRow 31 = .ok (.iconst 0, 1) := by decide +kernel
theorem dX8_nextRow_32 : decode cX8_nextRow 32 = .ok (.iastore, 1) := by decide +kernel
theorem dX8_nextRow_33 : decode cX8_nextRow 33 = .ok (.iinc 2 (-1), 3) := by decide +kernel
theorem dX8_nextRow_36 : decode cX8_nextRow 36 = .ok (.goto (-32), 3) := by decide +kernel
theorem dX8_nextRow_39 : decode cX8_nextRow 39 = .ok (.iload_n 2, 1) := by decide +kernel
theorem dX8_nextRow_40 : decode cX8_nextRow 40 = .ok (.ifCond .lt 13, 3) := by decide +kernel
theorem dX8_nextRow_43 : decode cX8_nextRow 43 = .ok (.aload_n 0, 1) := by decide +kernel
theorem dX8_nextRow_44 : decode cX8_nextRow 44 = .ok (.getfield 35, 3) := by decide +kernel
theorem dX8_nextRow_47 : decode cX8_nextRow 47 = .ok (.iload_n 2, 1) := by decide +kernel
theorem dX8_nextRow_48 : decode cX8_nextRow 48 = .ok (.dup2, 1) := by decide +kernel
theorem dX8_nextRow_49 : decode cX8_nextRow 49 = .ok (.iaload, 1) := by decide +kernel
theorem dX8_nextRow_50 : decode cX8_nextRow 50 = .ok (.iconst 1, 1) := by decide +kernel
theorem dX8_nextRow_51 : decode cX8_nextRow 51 = .ok (.iadd, 1) := by decide +kernel
theorem dX8_nextRow_52 : decode cX8_nextRow 52 = .ok (.iastore, 1) := by decide +kernel
theorem dX8_nextRow_53 : decode cX8_nextRow 53 = .ok (.iload_n 2, 1) := by decide +kernel
theorem dX8_nextRow_54 : decode cX8_nextRow 54 = .ok (.ifCond .lt 7, 3) := by decide +kernel
theorem dX8_nextRow_57 : decode cX8_nextRow 57 = .ok (.iconst 1, 1) := by decide +kernel
theorem dX8_nextRow_58 : decode cX8_nextRow 58 = .ok (.goto 4, 3) := by decide +kernel
theorem dX8_nextRow_61 : decode cX8_nextRow 61 = .ok (.iconst 0, 1) := by decide +kernel
theorem dX8_nextRow_62 : decode cX8_nextRow 62 = .ok (.ireturn, 1) := by decide +kernel
theorem dX8_plan_0 : decode cX8_plan 0 = .ok (.iload_n 1, 1) := by decide +kernel
theorem dX8_plan_1 : decode cX8_plan 1 = .ok (.i2l, 1) := by decide +kernel
theorem dX8_plan_2 : decode cX8_plan 2 = .ok (.lconst 1, 1) := by decide +kernel
theorem dX8_plan_3 : decode cX8_plan 3 = .ok (.ldc2_w 57, 3) := by decide +kernel
theorem dX8_plan_6 : decode cX8_plan 6 = .ok (.invokestatic 47, 3) := by decide +kernel
theorem dX8_plan_9 : decode cX8_plan 9 = .ok (.ifCond .eq 8, 3) := by decide +kernel
theorem dX8_plan_12 : decode cX8_plan 12 = .ok (.iload_n 2, 1) := by decide +kernel
theorem dX8_plan_13 : decode cX8_plan 13 = .ok (.iconst (-1), 1) := by decide +kernel
theorem dX8_plan_14 : decode cX8_plan 14 = .ok (.if_icmp .ge 5, 3) := by decide +kernel
theorem dX8_plan_17 : decode cX8_plan 17 = .ok (.iconst (-1), 1) := by decide +kernel
theorem dX8_plan_18 : decode cX8_plan 18 = .ok (.ireturn, 1) := by decide +kernel
theorem dX8_plan_19 : decode cX8_plan 19 = .ok (.aload_n 0, 1) := by decide +kernel
theorem dX8_plan_20 : decode cX8_plan 20 = .ok (.getfield 7, 3) := by decide +kernel
theorem dX8_plan_23 : decode cX8_plan 23 = .ok (.bipush 28, 2) := by decide +kernel
theorem dX8_plan_25 : decode cX8_plan 25 = .ok (.iaload, 1) := by decide +kernel
theorem dX8_plan_26 : decode cX8_plan 26 = .ok (.ifCond .ne 6, 3) := by decide +kernel
theorem dX8_plan_29 : decode cX8_plan 29 = .ok (.bipush (-4), 2) := by decide +kernel
theorem dX8_plan_31 : decode cX8_plan 31 = .ok (.ireturn, 1) := by decide +kernel
theorem dX8_plan_32 : decode cX8_plan 32 = .ok (.aload_n 0, 1) := by decide +kernel
theorem dX8_plan_33 : decode cX8_plan 33 = .ok (.iconst (-1), 1) := by decide +kernel
theorem dX8_plan_34 : decode cX8_plan 34 = .ok (.putfield 205, 3) := by decide +kernel
theorem dX8_plan_37 : decode cX8_plan 37 = .ok (.iconst 0, 1) := by decide +kernel
theorem dX8_plan_38 : decode cX8_plan 38 = .ok (.istore_n 3, 1) := by decide +kernel
theorem dX8_plan_39 : decode cX8_plan 39 = .ok (.iload_n 3, 1) := by decide +kernel
theorem dX8_plan_40 : decode cX8_plan 40 = .ok (.iload_n 1, 1) := by decide +kernel
theorem dX8_plan_41 : decode cX8_plan 41 = .ok (.if_icmp .ge 16, 3) := by decide +kernel
theorem dX8_plan_44 : decode cX8_plan 44 = .ok (.aload_n 0, 1) := by decide +kernel
theorem dX8_plan_45 : decode cX8_plan 45 = .ok (.getfield 35, 3) := by decide +kernel
theorem dX8_plan_48 : decode cX8_plan 48 = .ok (.iload_n 3, 1) := by decide +kernel
theorem dX8_plan_49 : decode cX8_plan 49 = .ok (.iconst 0, 1) := by decide +kernel
theorem dX8_plan_50 : decode cX8_plan 50 = .ok (.iastore, 1) := by decide +kernel
theorem dX8_plan_51 : decode cX8_plan 51 = .ok (.iinc 3 1, 3) := by decide +kernel
theorem dX8_plan_54 : decode cX8_plan 54 = .ok (.goto (-15), 3) := by decide +kernel
theorem dX8_plan_57 : decode cX8_plan 57 = .ok (.iconst 1, 1) := by decide +kernel
theorem dX8_plan_58 : decode cX8_plan 58 = .ok (.istore_n 3, 1) := by decide +kernel
theorem dX8_plan_59 : decode cX8_plan 59 = .ok (.iload_n 3, 1) := by decide +kernel
theorem dX8_plan_60 : decode cX8_plan 60 = .ok (.ifCond .eq 17, 3) := by decide +kernel
theorem dX8_plan_63 : decode cX8_plan 63 = .ok (.aload_n 0, 1) := by decide +kernel
theorem dX8_plan_64 : decode cX8_plan 64 = .ok (.iload_n 1, 1) := by decide +kernel
theorem dX8_plan_65 : decode cX8_plan 65 = .ok (.invokevirtual 211, 3) := by decide +kernel
theorem dX8_plan_68 : decode cX8_plan 68 = .ok (.aload_n 0, 1) := by decide +kernel
theorem dX8_plan_69 : decode cX8_plan 69 = .ok (.iload_n 1, 1) := by decide +kernel
theorem dX8_plan_70 : decode cX8_plan 70 = .ok (.invokevirtual 214, 3) := by decide +kernel
theorem dX8_plan_73 : decode cX8_plan 73 = .ok (.istore_n 3, 1) := by decide +kernel
theorem dX8_plan_74 : decode cX8_plan 74 = .ok (.goto (-15), 3) := by decide +kernel
theorem dX8_plan_77 : decode cX8_plan 77 = .ok (.aload_n 0, 1) := by decide +kernel
theorem dX8_plan_78 : decode cX8_plan 78 = .ok (.iload_n 1, 1) := by decide +kernel
theorem dX8_plan_79 : decode cX8_plan 79 = .ok (.iload_n 2, 1) := by decide +kernel
theorem dX8_plan_80 : decode cX8_plan 80 = .ok (.invokevirtual 217, 3) := by decide +kernel
theorem dX8_plan_83 : decode cX8_plan 83 = .ok (.ireturn, 1) := by decide +kernel
theorem dX8_swapLine_0 : decode cX8_swapLine 0 = .ok (.aload_n 0, 1) := by decide +kernel
theorem dX8_swapLine_1 : decode cX8_swapLine 1 = .ok (.getfield 35, 3) := by decide +kernel
theorem dX8_swapLine_4 : decode cX8_swapLine 4 = .ok (.iload_n 1, 1) := by decide +kernel
theorem dX8_swapLine_5 : decode cX8_swapLine 5 = .ok (.iaload, 1) := by decide +kernel
theorem dX8_swapLine_6 : decode cX8_swapLine 6 = .ok (.istore_n 3, 1) := by decide +kernel
theorem dX8_swapLine_7 : decode cX8_swapLine 7 = .ok (.aload_n 0, 1) := by decide +kernel
theorem dX8_swapLine_8 : decode cX8_swapLine 8 = .ok (.getfield 35, 3) := by decide +kernel
theorem dX8_swapLine_11 : decode cX8_swapLine 11 = .ok (.iload_n 1, 1) := by decide +kernel
theorem dX8_swapLine_12 : decode cX8_swapLine 12 = .ok (.aload_n 0, 1) := by decide +kernel
theorem dX8_swapLine_13 : decode cX8_swapLine 13 = .ok (.getfield 35, 3) := by decide +kernel
theorem dX8_swapLine_16 : decode cX8_swapLine 16 = .ok (.iload_n 2, 1) := by decide +kernel
theorem dX8_swapLine_17 : decode cX8_swapLine 17 = .ok (.iaload, 1) := by decide +kernel
theorem dX8_swapLine_18 : decode cX8_swapLine 18 = .ok (.iastore, 1) := by decide +kernel
theorem dX8_swapLine_19 : decode cX8_swapLine 19 = .ok (.aload_n 0, 1) := by decide +kernel
theorem dX8_swapLine_20 : decode cX8_swapLine 20 = .ok (.getfield 35, 3) := by decide +kernel
theorem dX8_swapLine_23 : decode cX8_swapLine 23 = .ok (.iload_n 2, 1) := by decide +kernel
theorem dX8_swapLine_24 : decode cX8_swapLine 24 = .ok (.iload_n 3, 1) := by decide +kernel
theorem dX8_swapLine_25 : decode cX8_swapLine 25 = .ok (.iastore, 1) := by decide +kernel
theorem dX8_swapLine_26 : decode cX8_swapLine 26 = .ok (.return_, 1) := by decide +kernel
theorem dX8_nextOrder_0 : decode cX8_nextOrder 0 = .ok (.iload_n 1, 1) := by decide +kernel
theorem dX8_nextOrder_1 : decode cX8_nextOrder 1 = .ok (.iconst 2, 1) := by decide +kernel
theorem dX8_nextOrder_2 : decode cX8_nextOrder 2 = .ok (.isub, 1) := by decide +kernel
theorem dX8_nextOrder_3 : decode cX8_nextOrder 3 = .ok (.istore_n 2, 1) := by decide +kernel
theorem dX8_nextOrder_4 : decode cX8_nextOrder 4 = .ok (.iload_n 2, 1) := by decide +kernel
theorem dX8_nextOrder_5 : decode cX8_nextOrder 5 = .ok (.ifCond .lt 26, 3) := by decide +kernel
theorem dX8_nextOrder_8 : decode cX8_nextOrder 8 = .ok (.aload_n 0, 1) := by decide +kernel
theorem dX8_nextOrder_9 : decode cX8_nextOrder 9 = .ok (.getfield 35, 3) := by decide +kernel
theorem dX8_nextOrder_12 : decode cX8_nextOrder 12 = .ok (.iload_n 2, 1) := by decide +kernel
theorem dX8_nextOrder_13 : decode cX8_nextOrder 13 = .ok (.iaload, 1) := by decide +kernel
theorem dX8_nextOrder_14 : decode cX8_nextOrder 14 = .ok (.aload_n 0, 1) := by decide +kernel
theorem dX8_nextOrder_15 : decode cX8_nextOrder 15 = .ok (.getfield 35, 3) := by decide +kernel
theorem dX8_nextOrder_18 : decode cX8_nextOrder 18 = .ok (.iload_n 2, 1) := by decide +kernel
theorem dX8_nextOrder_19 : decode cX8_nextOrder 19 = .ok (.iconst 1, 1) := by decide +kernel
theorem dX8_nextOrder_20 : decode cX8_nextOrder 20 = .ok (.iadd, 1) := by decide +kernel
theorem dX8_nextOrder_21 : decode cX8_nextOrder 21 = .ok (.iaload, 1) := by decide +kernel
theorem dX8_nextOrder_22 : decode cX8_nextOrder 22 = .ok (.if_icmp .le 9, 3) := by decide +kernel
theorem dX8_nextOrder_25 : decode cX8_nextOrder 25 = .ok (.iinc 2 (-1), 3) := by decide +kernel
theorem dX8_nextOrder_28 : decode cX8_nextOrder 28 = .ok (.goto (-24), 3) := by decide +kernel
theorem dX8_nextOrder_31 : decode cX8_nextOrder 31 = .ok (.iload_n 2, 1) := by decide +kernel
theorem dX8_nextOrder_32 : decode cX8_nextOrder 32 = .ok (.ifCond .ge 5, 3) := by decide +kernel
theorem dX8_nextOrder_35 : decode cX8_nextOrder 35 = .ok (.iconst 0, 1) := by decide +kernel
theorem dX8_nextOrder_36 : decode cX8_nextOrder 36 = .ok (.ireturn, 1) := by decide +kernel
theorem dX8_nextOrder_37 : decode cX8_nextOrder 37 = .ok (.iload_n 1, 1) := by decide +kernel
theorem dX8_nextOrder_38 : decode cX8_nextOrder 38 = .ok (.iconst 1, 1) := by decide +kernel
theorem dX8_nextOrder_39 : decode cX8_nextOrder 39 = .ok (.isub, 1) := by decide +kernel
theorem dX8_nextOrder_40 : decode cX8_nextOrder 40 = .ok (.istore_n 3, 1) := by decide +kernel
theorem dX8_nextOrder_41 : decode cX8_nextOrder 41 = .ok (.aload_n 0, 1) := by decide +kernel
theorem dX8_nextOrder_42 : decode cX8_nextOrder 42 = .ok (.getfield 35, 3) := by decide +kernel
theorem dX8_nextOrder_45 : decode cX8_nextOrder 45 = .ok (.iload_n 3, 1) := by decide +kernel
theorem dX8_nextOrder_46 : decode cX8_nextOrder 46 = .ok (.iaload, 1) := by decide +kernel
theorem dX8_nextOrder_47 : decode cX8_nextOrder 47 = .ok (.aload_n 0, 1) := by decide +kernel
theorem dX8_nextOrder_48 : decode cX8_nextOrder 48 = .ok (.getfield 35, 3) := by decide +kernel
theorem dX8_nextOrder_51 : decode cX8_nextOrder 51 = .ok (.iload_n 2, 1) := by decide +kernel
theorem dX8_nextOrder_52 : decode cX8_nextOrder 52 = .ok (.iaload, 1) := by decide +kernel
theorem dX8_nextOrder_53 : decode cX8_nextOrder 53 = .ok (.if_icmp .ge 9, 3) := by decide +kernel
theorem dX8_nextOrder_56 : decode cX8_nextOrder 56 = .ok (.iinc 3 (-1), 3) := by decide +kernel
theorem dX8_nextOrder_59 : decode cX8_nextOrder 59 = .ok (.goto (-18), 3) := by decide +kernel
theorem dX8_nextOrder_62 : decode cX8_nextOrder 62 = .ok (.aload_n 0, 1) := by decide +kernel
theorem dX8_nextOrder_63 : decode cX8_nextOrder 63 = .ok (.iload_n 2, 1) := by decide +kernel
theorem dX8_nextOrder_64 : decode cX8_nextOrder 64 = .ok (.iload_n 3, 1) := by decide +kernel
theorem dX8_nextOrder_65 : decode cX8_nextOrder 65 = .ok (.invokevirtual 220, 3) := by decide +kernel
theorem dX8_nextOrder_68 : decode cX8_nextOrder 68 = .ok (.iload_n 2, 1) := by decide +kernel
theorem dX8_nextOrder_69 : decode cX8_nextOrder 69 = .ok (.iconst 1, 1) := by decide +kernel
theorem dX8_nextOrder_70 : decode cX8_nextOrder 70 = .ok (.iadd, 1) := by decide +kernel
theorem dX8_nextOrder_71 : decode cX8_nextOrder 71 = .ok (.istore 4, 2) := by decide +kernel
theorem dX8_nextOrder_73 : decode cX8_nextOrder 73 = .ok (.iload_n 1, 1) := by decide +kernel
theorem dX8_nextOrder_74 : decode cX8_nextOrder 74 = .ok (.iconst 1, 1) := by decide +kernel
theorem dX8_nextOrder_75 : decode cX8_nextOrder 75 = .ok (.isub, 1) := by decide +kernel
theorem dX8_nextOrder_76 : decode cX8_nextOrder 76 = .ok (.istore 5, 2) := by decide +kernel
theorem dX8_nextOrder_78 : decode cX8_nextOrder 78 = .ok (.iload 4, 2) := by decide +kernel
theorem dX8_nextOrder_80 : decode cX8_nextOrder 80 = .ok (.iload 5, 2) := by decide +kernel
theorem dX8_nextOrder_82 : decode cX8_nextOrder 82 = .ok (.if_icmp .ge 20, 3) := by decide +kernel
theorem dX8_nextOrder_85 : decode cX8_nextOrder 85 = .ok (.aload_n 0, 1) := by decide +kernel
theorem dX8_nextOrder_86 : decode cX8_nextOrder 86 = .ok (.iload 4, 2) := by decide +kernel
theorem dX8_nextOrder_88 : decode cX8_nextOrder 88 = .ok (.iload 5, 2) := by decide +kernel
theorem dX8_nextOrder_90 : decode cX8_nextOrder 90 = .ok (.invokevirtual 220, 3) := by decide +kernel
theorem dX8_nextOrder_93 : decode cX8_nextOrder 93 = .ok (.iinc 4 1, 3) := by decide +kernel
theorem dX8_nextOrder_96 : decode cX8_nextOrder 96 = .ok (.iinc 5 (-1), 3) := by decide +kernel
theorem dX8_nextOrder_99 : decode cX8_nextOrder 99 = .ok (.goto (-21), 3) := by decide +kernel
theorem dX8_nextOrder_102 : decode cX8_nextOrder 102 = .ok (.iconst 1, 1) := by decide +kernel
theorem dX8_nextOrder_103 : decode cX8_nextOrder 103 = .ok (.ireturn, 1) := by decide +kernel
theorem dX8_once_0 : decode cX8_once 0 = .ok (.iload_n 1, 1) := by decide +kernel
theorem dX8_once_1 : decode cX8_once 1 = .ok (.iconst (-1), 1) := by decide +kernel
theorem dX8_once_2 : decode cX8_once 2 = .ok (.if_icmp .ge 5, 3) := by decide +kernel
theorem dX8_once_5 : decode cX8_once 5 = .ok (.iconst (-1), 1) := by decide +kernel
theorem dX8_once_6 : decode cX8_once 6 = .ok (.ireturn, 1) := by decide +kernel
theorem dX8_once_7 : decode cX8_once 7 = .ok (.aload_n 0, 1) := by decide +kernel
theorem dX8_once_8 : decode cX8_once 8 = .ok (.getfield 7, 3) := by decide +kernel
theorem dX8_once_11 : decode cX8_once 11 = .ok (.bipush 28, 2) := by decide +kernel
theorem dX8_once_13 : decode cX8_once 13 = .ok (.iaload, 1) := by decide +kernel
theorem dX8_once_14 : decode cX8_once 14 = .ok (.istore_n 2, 1) := by decide +kernel
theorem dX8_once_15 : decode cX8_once 15 = .ok (.iload_n 2, 1) := by decide +kernel
theorem dX8_once_16 : decode cX8_once 16 = .ok (.ifCond .ne 6, 3) := by decide +kernel
theorem dX8_once_19 : decode cX8_once 19 = .ok (.bipush (-4), 2) := by decide +kernel
theorem dX8_once_21 : decode cX8_once 21 = .ok (.ireturn, 1) := by decide +kernel
theorem dX8_once_22 : decode cX8_once 22 = .ok (.aload_n 0, 1) := by decide +kernel
theorem dX8_once_23 : decode cX8_once 23 = .ok (.iconst (-1), 1) := by decide +kernel
theorem dX8_once_24 : decode cX8_once 24 = .ok (.putfield 205, 3) := by decide +kernel
theorem dX8_once_27 : decode cX8_once 27 = .ok (.iconst 0, 1) := by decide +kernel
theorem dX8_once_28 : decode cX8_once 28 = .ok (.istore_n 3, 1) := by decide +kernel
theorem dX8_once_29 : decode cX8_once 29 = .ok (.iload_n 3, 1) := by decide +kernel
theorem dX8_once_30 : decode cX8_once 30 = .ok (.iload_n 2, 1) := by decide +kernel
theorem dX8_once_31 : decode cX8_once 31 = .ok (.if_icmp .ge 16, 3) := by decide +kernel
theorem dX8_once_34 : decode cX8_once 34 = .ok (.aload_n 0, 1) := by decide +kernel
theorem dX8_once_35 : decode cX8_once 35 = .ok (.getfield 35, 3) := by decide +kernel
theorem dX8_once_38 : decode cX8_once 38 = .ok (.iload_n 3, 1) := by decide +kernel
theorem dX8_once_39 : decode cX8_once 39 = .ok (.iload_n 3, 1) := by decide +kernel
theorem dX8_once_40 : decode cX8_once 40 = .ok (.iastore, 1) := by decide +kernel
theorem dX8_once_41 : decode cX8_once 41 = .ok (.iinc 3 1, 3) := by decide +kernel
theorem dX8_once_44 : decode cX8_once 44 = .ok (.goto (-15), 3) := by decide +kernel
theorem dX8_once_47 : decode cX8_once 47 = .ok (.iconst 1, 1) := by decide +kernel
theorem dX8_once_48 : decode cX8_once 48 = .ok (.istore_n 3, 1) := by decide +kernel
theorem dX8_once_49 : decode cX8_once 49 = .ok (.iload_n 3, 1) := by decide +kernel
theorem dX8_once_50 : decode cX8_once 50 = .ok (.ifCond .eq 17, 3) := by decide +kernel
theorem dX8_once_53 : decode cX8_once 53 = .ok (.aload_n 0, 1) := by decide +kernel
theorem dX8_once_54 : decode cX8_once 54 = .ok (.iload_n 2, 1) := by decide +kernel
theorem dX8_once_55 : decode cX8_once 55 = .ok (.invokevirtual 211, 3) := by decide +kernel
theorem dX8_once_58 : decode cX8_once 58 = .ok (.aload_n 0, 1) := by decide +kernel
theorem dX8_once_59 : decode cX8_once 59 = .ok (.iload_n 2, 1) := by decide +kernel
theorem dX8_once_60 : decode cX8_once 60 = .ok (.invokevirtual 223, 3) := by decide +kernel
theorem dX8_once_63 : decode cX8_once 63 = .ok (.istore_n 3, 1) := by decide +kernel
theorem dX8_once_64 : decode cX8_once 64 = .ok (.goto (-15), 3) := by decide +kernel
theorem dX8_once_67 : decode cX8_once 67 = .ok (.aload_n 0, 1) := by decide +kernel
theorem dX8_once_68 : decode cX8_once 68 = .ok (.iload_n 2, 1) := by decide +kernel
theorem dX8_once_69 : decode cX8_once 69 = .ok (.iload_n 1, 1) := by decide +kernel
theorem dX8_once_70 : decode cX8_once 70 = .ok (.invokevirtual 217, 3) := by decide +kernel
theorem dX8_once_73 : decode cX8_once 73 = .ok (.ireturn, 1) := by decide +kernel
theorem dX8_rockWith_0 : decode cX8_rockWith 0 = .ok (.aload_n 0, 1) := by decide +kernel
theorem dX8_rockWith_1 : decode cX8_rockWith 1 = .ok (.iconst 0, 1) := by decide +kernel
theorem dX8_rockWith_2 : decode cX8_rockWith 2 = .ok (.aload_n 0, 1) := by decide +kernel
theorem dX8_rockWith_3 : decode cX8_rockWith 3 = .ok (.getfield 7, 3) := by decide +kernel
theorem dX8_rockWith_6 : decode cX8_rockWith 6 = .ok (.bipush 15, 2) := by decide +kernel
theorem dX8_rockWith_8 : decode cX8_rockWith 8 = .ok (.iload_n 1, 1) := by decide +kernel
theorem dX8_rockWith_9 : decode cX8_rockWith 9 = .ok (.iadd, 1) := by decide +kernel
theorem dX8_rockWith_10 : decode cX8_rockWith 10 = .ok (.iaload, 1) := by decide +kernel
theorem dX8_rockWith_11 : decode cX8_rockWith 11 = .ok (.iload_n 2, 1) := by decide +kernel
theorem dX8_rockWith_12 : decode cX8_rockWith 12 = .ok (.iload_n 3, 1) := by decide +kernel
theorem dX8_rockWith_13 : decode cX8_rockWith 13 = .ok (.invokevirtual 94, 3) := by decide +kernel
theorem dX8_rockWith_16 : decode cX8_rockWith 16 = .ok (.ireturn, 1) := by decide +kernel
theorem dX8_crew_0 : decode cX8_crew 0 = .ok (.aload_n 0, 1) := by decide +kernel
theorem dX8_crew_1 : decode cX8_crew 1 = .ok (.iload_n 1, 1) := by decide +kernel
theorem dX8_crew_2 : decode cX8_crew 2 = .ok (.invokevirtual 100, 3) := by decide +kernel
theorem dX8_crew_5 : decode cX8_crew 5 = .ok (.ifCond .eq 25, 3) := by decide +kernel
theorem dX8_crew_8 : decode cX8_crew 8 = .ok (.iload_n 2, 1) := by decide +kernel
theorem dX8_crew_9 : decode cX8_crew 9 = .ok (.i2l, 1) := by decide +kernel
theorem dX8_crew_10 : decode cX8_crew 10 = .ok (.lconst 1, 1) := by decide +kernel
theorem dX8_crew_11 : decode cX8_crew 11 = .ok (.ldc2_w 226, 3) := by decide +kernel
theorem dX8_crew_14 : decode cX8_crew 14 = .ok (.invokestatic 47, 3) := by decide +kernel
theorem dX8_crew_17 : decode cX8_crew 17 = .ok (.ifCond .eq 13, 3) := by decide +kernel
theorem dX8_crew_20 : decode cX8_crew 20 = .ok (.iload_n 3, 1) := by decide +kernel
theorem dX8_crew_21 : decode cX8_crew 21 = .ok (.i2l, 1) := by decide +kernel
theorem dX8_crew_22 : decode cX8_crew 22 = .ok (.lconst 0, 1) := by decide +kernel
theorem dX8_crew_23 : decode cX8_crew 23 = .ok (.lconst 1, 1) := by decide +kernel
theorem dX8_crew_24 : decode cX8_crew 24 = .ok (.invokestatic 47, 3) := by decide +kernel
theorem dX8_crew_27 : decode cX8_crew 27 = .ok (.ifCond .ne 5, 3) := by decide +kernel
theorem dX8_crew_30 : decode cX8_crew 30 = .ok (.iconst (-1), 1) := by decide +kernel
theorem dX8_crew_31 : decode cX8_crew 31 = .ok (.ireturn, 1) := by decide +kernel
theorem dX8_crew_32 : decode cX8_crew 32 = .ok (.bipush (-4), 2) := by decide +kernel
theorem dX8_crew_34 : decode cX8_crew 34 = .ok (.istore 4, 2) := by decide +kernel
theorem dX8_crew_36 : decode cX8_crew 36 = .ok (.iconst (-1), 1) := by decide +kernel
theorem dX8_crew_37 : decode cX8_crew 37 = .ok (.istore 5, 2) := by decide +kernel
theorem dX8_crew_39 : decode cX8_crew 39 = .ok (.iconst 0, 1) := by decide +kernel
theorem dX8_crew_40 : decode cX8_crew 40 = .ok (.istore 6, 2) := by decide +kernel
theorem dX8_crew_42 : decode cX8_crew 42 = .ok (.iload 6, 2) := by decide +kernel
theorem dX8_crew_44 : decode cX8_crew 44 = .ok (.aload_n 0, 1) := by decide +kernel
theorem dX8_crew_45 : decode cX8_crew 45 = .ok (.invokevirtual 67, 3) := by decide +kernel
theorem dX8_crew_48 : decode cX8_crew 48 = .ok (.if_icmp .gt 72, 3) := by decide +kernel
theorem dX8_crew_51 : decode cX8_crew 51 = .ok (.iload 6, 2) := by decide +kernel
theorem dX8_crew_53 : decode cX8_crew 53 = .ok (.invokestatic 78, 3) := by decide +kernel
theorem dX8_crew_56 : decode cX8_crew 56 = .ok (.iload_n 2, 1) := by decide +kernel
theorem dX8_crew_57 : decode cX8_crew 57 = .ok (.if_icmp .ne 22, 3) := by decide +kernel
theorem dX8_crew_60 : decode cX8_crew 60 = .ok (.aload_n 0, 1) := by decide +kernel
theorem dX8_crew_61 : decode cX8_crew 61 = .ok (.iload_n 1, 1) := by decide +kernel
theorem dX8_crew_62 : decode cX8_crew 62 = .ok (.aload_n 0, 1) := by decide +kernel
theorem dX8_crew_63 : decode cX8_crew 63 = .ok (.getfield 7, 3) := by decide +kernel
theorem dX8_crew_66 : decode cX8_crew 66 = .ok (.bipush 20, 2) := by decide +kernel
theorem dX8_crew_68 : decode cX8_crew 68 = .ok (.iload_n 1, 1) := by decide +kernel
theorem dX8_crew_69 : decode cX8_crew 69 = .ok (.iadd, 1) := by decide +kernel
theorem dX8_crew_70 : decode cX8_crew 70 = .ok (.iaload, 1) := by decide +kernel
theorem dX8_crew_71 : decode cX8_crew 71 = .ok (.iload 6, 2) := by decide +kernel
theorem dX8_crew_73 : decode cX8_crew 73 = .ok (.invokevirtual 228, 3) := by decide +kernel
theorem dX8_crew_76 : decode cX8_crew 76 = .ok (.goto 4, 3) := by decide +kernel
theorem dX8_crew_79 : decode cX8_crew 79 = .ok (.iconst (-1), 1) := by decide +kernel
theorem dX8_crew_80 : decode cX8_crew 80 = .ok (.istore 7, 2) := by decide +kernel
theorem dX8_crew_82 : decode cX8_crew 82 = .ok (.iload 7, 2) := by decide +kernel
theorem dX8_crew_84 : decode cX8_crew 84 = .ok (.iload 5, 2) := by decide +kernel
theorem dX8_crew_86 : decode cX8_crew 86 = .ok (.if_icmp .le 8, 3) := by decide +kernel
theorem dX8_crew_89 : decode cX8_crew 89 = .ok (.iload 6, 2) := by decide +kernel
theorem dX8_crew_91 : decode cX8_crew 91 = .ok (.goto 5, 3) := by decide +kernel
theorem dX8_crew_94 : decode cX8_crew 94 = .ok (.iload 4, 2) := by decide +kernel
theorem dX8_crew_96 : decode cX8_crew 96 = .ok (.istore 4, 2) := by decide +kernel
theorem dX8_crew_98 : decode cX8_crew 98 = .ok (.iload 7, 2) := by decide +kernel
theorem dX8_crew_100 : decode cX8_crew 100 = .ok (.iload 5, 2) := by decide +kernel
theorem dX8_crew_102 : decode cX8_crew 102 = .ok (.if_icmp .le 8, 3) := by decide +kernel
theorem dX8_crew_105 : decode cX8_crew 105 = .ok (.iload 7, 2) := by decide +kernel
theorem dX8_crew_107 : decode cX8_crew 107 = .ok (.goto 5, 3) := by decide +kernel
theorem dX8_crew_110 : decode cX8_crew 110 = .ok (.iload 5, 2) := by decide +kernel
theorem dX8_crew_112 : decode cX8_crew 112 = .ok (.istore 5, 2) := by decide +kernel
theorem dX8_crew_114 : decode cX8_crew 114 = .ok (.iinc 6 1, 3) := by decide +kernel
theorem dX8_crew_117 : decode cX8_crew 117 = .ok (.goto (-75), 3) := by decide +kernel
theorem dX8_crew_120 : decode cX8_crew 120 = .ok (.iload 4, 2) := by decide +kernel
theorem dX8_crew_122 : decode cX8_crew 122 = .ok (.bipush (-4), 2) := by decide +kernel
theorem dX8_crew_124 : decode cX8_crew 124 = .ok (.if_icmp .eq 8, 3) := by decide +kernel
theorem dX8_crew_127 : decode cX8_crew 127 = .ok (.iload_n 3, 1) := by decide +kernel
theorem dX8_crew_128 : decode cX8_crew 128 = .ok (.iconst 1, 1) := by decide +kernel
theorem dX8_crew_129 : decode cX8_crew 129 = .ok (.if_icmp .ne 8, 3) := by decide +kernel
theorem dX8_crew_132 : decode cX8_crew 132 = .ok (.iload 4, 2) := by decide +kernel
theorem dX8_crew_134 : decode cX8_crew 134 = .ok (.goto 5, 3) := by decide +kernel
theorem dX8_crew_137 : decode cX8_crew 137 = .ok (.iload 5, 2) := by decide +kernel
theorem dX8_crew_139 : decode cX8_crew 139 = .ok (.ireturn, 1) := by decide +kernel
theorem dX8_minds_0 : decode cX8_minds 0 = .ok (.aload_n 0, 1) := by decide +kernel
theorem dX8_minds_1 : decode cX8_minds 1 = .ok (.iload_n 1, 1) := by decide +kernel
theorem dX8_minds_2 : decode cX8_minds 2 = .ok (.invokevirtual 100, 3) := by decide +kernel
theorem dX8_minds_5 : decode cX8_minds 5 = .ok (.ifCond .eq 13, 3) := by decide +kernel
theorem dX8_minds_8 : decode cX8_minds 8 = .ok (.iload_n 2, 1) := by decide +kernel
theorem dX8_minds_9 : decode cX8_minds 9 = .ok (.i2l, 1) := by decide +kernel
theorem dX8_minds_10 : decode cX8_minds 10 = .ok (.lconst 0, 1) := by decide +kernel
theorem dX8_minds_11 : decode cX8_minds 11 = .ok (.lconst 1, 1) := by decide +kernel
theorem dX8_minds_12 : decode cX8_minds 12 = .ok (.invokestatic 47, 3) := by decide +kernel
theorem dX8_minds_15 : decode cX8_minds 15 = .ok (.ifCond .ne 5, 3) := by decide +kernel
theorem dX8_minds_18 : decode cX8_minds 18 = .ok (.iconst (-1), 1) := by decide +kernel
theorem dX8_minds_19 : decode cX8_minds 19 = .ok (.ireturn, 1) := by decide +kernel
theorem dX8_minds_20 : decode cX8_minds 20 = .ok (.bipush (-4), 2) := by decide +kernel
theorem dX8_minds_22 : decode cX8_minds 22 = .ok (.istore_n 3, 1) := by decide +kernel
theorem dX8_minds_23 : decode cX8_minds 23 = .ok (.aload_n 0, 1) := by decide +kernel
theorem dX8_minds_24 : decode cX8_minds 24 = .ok (.iconst 0, 1) := by decide +kernel
theorem dX8_minds_25 : decode cX8_minds 25 = .ok (.iload_n 1, 1) := by decide +kernel
theorem dX8_minds_26 : decode cX8_minds 26 = .ok (.invokevirtual 169, 3) := by decide +kernel
theorem dX8_minds_29 : decode cX8_minds 29 = .ok (.istore 4, 2) := by decide +kernel
theorem dX8_minds_31 : decode cX8_minds 31 = .ok (.iconst 0, 1) := by decide +kernel
theorem dX8_minds_32 : decode cX8_minds 32 = .ok (.istore 5, 2) := by decide +kernel
theorem dX8_minds_34 : decode cX8_minds 34 = .ok (.iload 5, 2) := by decide +kernel
theorem dX8_minds_36 : decode cX8_minds 36 = .ok (.aload_n 0, 1) := by decide +kernel
theorem dX8_minds_37 : decode cX8_minds 37 = .ok (.getfield 7, 3) := by decide +kernel
theorem dX8_minds_40 : decode cX8_minds 40 = .ok (.bipush 27, 2) := by decide +kernel
theorem dX8_minds_42 : decode cX8_minds 42 = .ok (.iaload, 1) := by decide +kernel
theorem dX8_minds_43 : decode cX8_minds 43 = .ok (.if_icmp .ge 64, 3) := by decide +kernel
theorem dX8_minds_46 : decode cX8_minds 46 = .ok (.aload_n 0, 1) := by decide +kernel
theorem dX8_minds_47 : decode cX8_minds 47 = .ok (.iload_n 1, 1) := by decide +kernel
theorem dX8_minds_48 : decode cX8_minds 48 = .ok (.aload_n 0, 1) := by decide +kernel
theorem dX8_minds_49 : decode cX8_minds 49 = .ok (.getfield 7, 3) := by decide +kernel
theorem dX8_minds_52 : decode cX8_minds 52 = .ok (.bipush 20, 2) := by decide +kernel
theorem dX8_minds_54 : decode cX8_minds 54 = .ok (.iload_n 1, 1) := by decide +kernel
theorem dX8_minds_55 : decode cX8_minds 55 = .ok (.iadd, 1) := by decide +kernel
theorem dX8_minds_56 : decode cX8_minds 56 = .ok (.iaload, 1) := by decide +kernel
theorem dX8_minds_57 : decode cX8_minds 57 = .ok (.iconst 1, 1) := by decide +kernel
theorem dX8_minds_58 : decode cX8_minds 58 = .ok (.iload 5, 2) := by decide +kernel
theorem dX8_minds_60 : decode cX8_minds 60 = .ok (.ishl, 1) := by decide +kernel
theorem dX8_minds_61 : decode cX8_minds 61 = .ok (.ixor, 1) := by decide +kernel
theorem dX8_minds_62 : decode cX8_minds 62 = .ok (.aload_n 0, 1) := by decide +kernel
theorem dX8_minds_63 : decode cX8_minds 63 = .ok (.invokevirtual 67, 3) := by decide +kernel
theorem dX8_minds_66 : decode cX8_minds 66 = .ok (.invokevirtual 228, 3) := by decide +kernel
theorem dX8_minds_69 : decode cX8_minds 69 = .ok (.istore 6, 2) := by decide +kernel
theorem dX8_minds_71 : decode cX8_minds 71 = .ok (.iload 6, 2) := by decide +kernel
theorem dX8_minds_73 : decode cX8_minds 73 = .ok (.iload 4, 2) := by decide +kernel
theorem dX8_minds_75 : decode cX8_minds 75 = .ok (.if_icmp .le 8, 3) := by decide +kernel
theorem dX8_minds_78 : decode cX8_minds 78 = .ok (.iload 5, 2) := by decide +kernel
theorem dX8_minds_80 : decode cX8_minds 80 = .ok (.goto 4, 3) := by decide +kernel
theorem dX8_minds_83 : decode cX8_minds 83 = .ok (.iload_n 3, 1) := by decide +kernel
theorem dX8_minds_84 : decode cX8_minds 84 = .ok (.istore_n 3, 1) := by decide +kernel
theorem dX8_minds_85 : decode cX8_minds 85 = .ok (.iload 6, 2) := by decide +kernel
theorem dX8_minds_87 : decode cX8_minds 87 = .ok (.iload 4, 2) := by decide +kernel
theorem dX8_minds_89 : decode cX8_minds 89 = .ok (.if_icmp .le 8, 3) := by decide +kernel
theorem dX8_minds_92 : decode cX8_minds 92 = .ok (.iload 6, 2) := by decide +kernel
theorem dX8_minds_94 : decode cX8_minds 94 = .ok (.goto 5, 3) := by decide +kernel
theorem dX8_minds_97 : decode cX8_minds 97 = .ok (.iload 4, 2) := by decide +kernel
theorem dX8_minds_99 : decode cX8_minds 99 = .ok (.istore 4, 2) := by decide +kernel
theorem dX8_minds_101 : decode cX8_minds 101 = .ok (.iinc 5 1, 3) := by decide +kernel
theorem dX8_minds_104 : decode cX8_minds 104 = .ok (.goto (-70), 3) := by decide +kernel
theorem dX8_minds_107 : decode cX8_minds 107 = .ok (.iload_n 3, 1) := by decide +kernel
theorem dX8_minds_108 : decode cX8_minds 108 = .ok (.bipush (-4), 2) := by decide +kernel
theorem dX8_minds_110 : decode cX8_minds 110 = .ok (.if_icmp .eq 7, 3) := by decide +kernel
theorem dX8_minds_113 : decode cX8_minds 113 = .ok (.iload_n 2, 1) := by decide +kernel
theorem dX8_minds_114 : decode cX8_minds 114 = .ok (.ifCond .ne 7, 3) := by decide +kernel
theorem dX8_minds_117 : decode cX8_minds 117 = .ok (.iload_n 3, 1) := by decide +kernel
theorem dX8_minds_118 : decode cX8_minds 118 = .ok (.goto 5, 3) := by decide +kernel
theorem dX8_minds_121 : decode cX8_minds 121 = .ok (.iload 4, 2) := by decide +kernel
theorem dX8_minds_123 : decode cX8_minds 123 = .ok (.ireturn, 1) := by decide +kernel
theorem dX8_sway_0 : decode cX8_sway 0 = .ok (.aload_n 0, 1) := by decide +kernel
theorem dX8_sway_1 : decode cX8_sway 1 = .ok (.iload_n 1, 1) := by decide +kernel
theorem dX8_sway_2 : decode cX8_sway 2 = .ok (.invokevirtual 100, 3) := by decide +kernel
theorem dX8_sway_5 : decode cX8_sway 5 = .ok (.ifCond .eq 25, 3) := by decide +kernel
theorem dX8_sway_8 : decode cX8_sway 8 = .ok (.iload_n 2, 1) := by decide +kernel
theorem dX8_sway_9 : decode cX8_sway 9 = .ok (.i2l, 1) := by decide +kernel
theorem dX8_sway_10 : decode cX8_sway 10 = .ok (.lconst 1, 1) := by decide +kernel
theorem dX8_sway_11 : decode cX8_sway 11 = .ok (.ldc2_w 231, 3) := by decide +kernel
theorem dX8_sway_14 : decode cX8_sway 14 = .ok (.invokestatic 47, 3) := by decide +kernel
theorem dX8_sway_17 : decode cX8_sway 17 = .ok (.ifCond .eq 13, 3) := by decide +kernel
theorem dX8_sway_20 : decode cX8_sway 20 = .ok (.iload_n 3, 1) := by decide +kernel
theorem dX8_sway_21 : decode cX8_sway 21 = .ok (.i2l, 1) := by decide +kernel
theorem dX8_sway_22 : decode cX8_sway 22 = .ok (.lconst 0, 1) := by decide +kernel
theorem dX8_sway_23 : decode cX8_sway 23 = .ok (.lconst 1, 1) := by decide +kernel
theorem dX8_sway_24 : decode cX8_sway 24 = .ok (.invokestatic 47, 3) := by decide +kernel
theorem dX8_sway_27 : decode cX8_sway 27 = .ok (.ifCond .ne 5, 3) := by decide +kernel
theorem dX8_sway_30 : decode cX8_sway 30 = .ok (.iconst (-1), 1) := by decide +kernel
theorem dX8_sway_31 : decode cX8_sway 31 = .ok (.ireturn, 1) := by decide +kernel
theorem dX8_sway_32 : decode cX8_sway 32 = .ok (.bipush (-4), 2) := by decide +kernel
theorem dX8_sway_34 : decode cX8_sway 34 = .ok (.istore 4, 2) := by decide +kernel
theorem dX8_sway_36 : decode cX8_sway 36 = .ok (.iconst 0, 1) := by decide +kernel
theorem dX8_sway_37 : decode cX8_sway 37 = .ok (.istore 5, 2) := by decide +kernel
theorem dX8_sway_39 : decode cX8_sway 39 = .ok (.iload 5, 2) := by decide +kernel
theorem dX8_sway_41 : decode cX8_sway 41 = .ok (.aload_n 0, 1) := by decide +kernel
theorem dX8_sway_42 : decode cX8_sway 42 = .ok (.invokevirtual 67, 3) := by decide +kernel
theorem dX8_sway_45 : decode cX8_sway 45 = .ok (.if_icmp .gt 75, 3) := by decide +kernel
theorem dX8_sway_48 : decode cX8_sway 48 = .ok (.aload_n 0, 1) := by decide +kernel
theorem dX8_sway_49 : decode cX8_sway 49 = .ok (.iload_n 1, 1) := by decide +kernel
theorem dX8_sway_50 : decode cX8_sway 50 = .ok (.aload_n 0, 1) := by decide +kernel
theorem dX8_sway_51 : decode cX8_sway 51 = .ok (.getfield 7, 3) := by decide +kernel
theorem dX8_sway_54 : decode cX8_sway 54 = .ok (.bipush 20, 2) := by decide +kernel
theorem dX8_sway_56 : decode cX8_sway 56 = .ok (.iload_n 1, 1) := by decide +kernel
theorem dX8_sway_57 : decode cX8_sway 57 = .ok (.iadd, 1) := by decide +kernel
theorem dX8_sway_58 : decode cX8_sway 58 = .ok (.iaload, 1) := by decide +kernel
theorem dX8_sway_59 : decode cX8_sway 59 = .ok (.iload 5, 2) := by decide +kernel
theorem dX8_sway_61 : decode cX8_sway 61 = .ok (.ixor, 1) := by decide +kernel
theorem dX8_sway_62 : decode cX8_sway 62 = .ok (.aload_n 0, 1) := by decide +kernel
theorem dX8_sway_63 : decode cX8_sway 63 = .ok (.invokevirtual 67, 3) := by decide +kernel
theorem dX8_sway_66 : decode cX8_sway 66 = .ok (.invokevirtual 228, 3) := by decide +kernel
theorem dX8_sway_69 : decode cX8_sway 69 = .ok (.iload_n 2, 1) := by decide +kernel
theorem dX8_sway_70 : decode cX8_sway 70 = .ok (.if_icmp .lt 7, 3) := by decide +kernel
theorem dX8_sway_73 : decode cX8_sway 73 = .ok (.iconst 1, 1) := by decide +kernel
theorem dX8_sway_74 : decode cX8_sway 74 = .ok (.goto 4, 3) := by decide +kernel
theorem dX8_sway_77 : decode cX8_sway 77 = .ok (.iconst 0, 1) := by decide +kernel
theorem dX8_sway_78 : decode cX8_sway 78 = .ok (.istore 6, 2) := by decide +kernel
theorem dX8_sway_80 : decode cX8_sway 80 = .ok (.iload 6, 2) := by decide +kernel
theorem dX8_sway_82 : decode cX8_sway 82 = .ok (.ifCond .eq 28, 3) := by decide +kernel
theorem dX8_sway_85 : decode cX8_sway 85 = .ok (.iload 4, 2) := by decide +kernel
theorem dX8_sway_87 : decode cX8_sway 87 = .ok (.bipush (-4), 2) := by decide +kernel
theorem dX8_sway_89 : decode cX8_sway 89 = .ok (.if_icmp .eq 16, 3) := by decide +kernel
theorem dX8_sway_92 : decode cX8_sway 92 = .ok (.iload 5, 2) := by decide +kernel
theorem dX8_sway_94 : decode cX8_sway 94 = .ok (.invokestatic 78, 3) := by decide +kernel
theorem dX8_sway_97 : decode cX8_sway 97 = .ok (.iload 4, 2) := by decide +kernel
theorem dX8_sway_99 : decode cX8_sway 99 = .ok (.invokestatic 78, 3) := by decide +kernel
theorem dX8_sway_102 : decode cX8_sway 102 = .ok (.if_icmp .ge 8, 3) := by decide +kernel
theorem dX8_sway_105 : decode cX8_sway 105 = .ok (.iload 5, 2) := by decide +kernel
theorem dX8_sway_107 : decode cX8_sway 107 = .ok (.goto 5, 3) := by decide +kernel
theorem dX8_sway_110 : decode cX8_sway 110 = .ok (.iload 4, 2) := by decide +kernel
theorem dX8_sway_112 : decode cX8_sway 112 = .ok (.istore 4, 2) := by decide +kernel
theorem dX8_sway_114 : decode cX8_sway 114 = .ok (.iinc 5 1, 3) := by decide +kernel
theorem dX8_sway_117 : decode cX8_sway 117 = .ok (.goto (-78), 3) := by decide +kernel
theorem dX8_sway_120 : decode cX8_sway 120 = .ok (.iload 4, 2) := by decide +kernel
theorem dX8_sway_122 : decode cX8_sway 122 = .ok (.bipush (-4), 2) := by decide +kernel
theorem dX8_sway_124 : decode cX8_sway 124 = .ok (.if_icmp .eq 8, 3) := by decide +kernel
theorem dX8_sway_127 : decode cX8_sway 127 = .ok (.iload_n 3, 1) := by decide +kernel
theorem dX8_sway_128 : decode cX8_sway 128 = .ok (.iconst 1, 1) := by decide +kernel
theorem dX8_sway_129 : decode cX8_sway 129 = .ok (.if_icmp .ne 8, 3) := by decide +kernel
theorem dX8_sway_132 : decode cX8_sway 132 = .ok (.iload 4, 2) := by decide +kernel
theorem dX8_sway_134 : decode cX8_sway 134 = .ok (.goto 8, 3) := by decide +kernel
theorem dX8_sway_137 : decode cX8_sway 137 = .ok (.iload 4, 2) := by decide +kernel
theorem dX8_sway_139 : decode cX8_sway 139 = .ok (.invokestatic 78, 3) := by decide +kernel
theorem dX8_sway_142 : decode cX8_sway 142 = .ok (.ireturn, 1) := by decide +kernel
theorem dX8_mostIn_0 : decode cX8_mostIn 0 = .ok (.iconst 0, 1) := by decide +kernel
theorem dX8_mostIn_1 : decode cX8_mostIn 1 = .ok (.istore_n 2, 1) := by decide +kernel
theorem dX8_mostIn_2 : decode cX8_mostIn 2 = .ok (.iconst 0, 1) := by decide +kernel
theorem dX8_mostIn_3 : decode cX8_mostIn 3 = .ok (.istore_n 3, 1) := by decide +kernel
theorem dX8_mostIn_4 : decode cX8_mostIn 4 = .ok (.iload_n 3, 1) := by decide +kernel
theorem dX8_mostIn_5 : decode cX8_mostIn 5 = .ok (.aload_n 0, 1) := by decide +kernel
theorem dX8_mostIn_6 : decode cX8_mostIn 6 = .ok (.getfield 7, 3) := by decide +kernel
theorem dX8_mostIn_9 : decode cX8_mostIn 9 = .ok (.bipush 28, 2) := by decide +kernel
theorem dX8_mostIn_11 : decode cX8_mostIn 11 = .ok (.iaload, 1) := by decide +kernel
theorem dX8_mostIn_12 : decode cX8_mostIn 12 = .ok (.if_icmp .ge 39, 3) := by decide +kernel
theorem dX8_mostIn_15 : decode cX8_mostIn 15 = .ok (.aload_n 0, 1) := by decide +kernel
theorem dX8_mostIn_16 : decode cX8_mostIn 16 = .ok (.iload_n 3, 1) := by decide +kernel
theorem dX8_mostIn_17 : decode cX8_mostIn 17 = .ok (.aload_n 0, 1) := by decide +kernel
theorem dX8_mostIn_18 : decode cX8_mostIn 18 = .ok (.getfield 7, 3) := by decide +kernel
theorem dX8_mostIn_21 : decode cX8_mostIn 21 = .ok (.bipush 20, 2) := by decide +kernel
theorem dX8_mostIn_23 : decode cX8_mostIn 23 = .ok (.iload_n 3, 1) := by decide +kernel
theorem dX8_mostIn_24 : decode cX8_mostIn 24 = .ok (.iadd, 1) := by decide +kernel
theorem dX8_mostIn_25 : decode cX8_mostIn 25 = .ok (.iaload, 1) := by decide +kernel
theorem dX8_mostIn_26 : decode cX8_mostIn 26 = .ok (.iload_n 1, 1) := by decide +kernel
theorem dX8_mostIn_27 : decode cX8_mostIn 27 = .ok (.invokevirtual 228, 3) := by decide +kernel
theorem dX8_mostIn_30 : decode cX8_mostIn 30 = .ok (.istore 4, 2) := by decide +kernel
theorem dX8_mostIn_32 : decode cX8_mostIn 32 = .ok (.iload 4, 2) := by decide +kernel
theorem dX8_mostIn_34 : decode cX8_mostIn 34 = .ok (.iload_n 2, 1) := by decide +kernel
theorem dX8_mostIn_35 : decode cX8_mostIn 35 = .ok (.if_icmp .le 8, 3) := by decide +kernel
theorem dX8_mostIn_38 : decode cX8_mostIn 38 = .ok (.iload 4, 2) := by decide +kernel
theorem dX8_mostIn_40 : decode cX8_mostIn 40 = .ok (.goto 4, 3) := by decide +kernel
theorem dX8_mostIn_43 : decode cX8_mostIn 43 = .ok (.iload_n 2, 1) := by decide +kernel
theorem dX8_mostIn_44 : decode cX8_mostIn 44 = .ok (.istore_n 2, 1) := by decide +kernel
theorem dX8_mostIn_45 : decode cX8_mostIn 45 = .ok (.iinc 3 1, 3) := by decide +kernel
theorem dX8_mostIn_48 : decode cX8_mostIn 48 = .ok (.goto (-44), 3) := by decide +kernel
theorem dX8_mostIn_51 : decode cX8_mostIn 51 = .ok (.iload_n 2, 1) := by decide +kernel
theorem dX8_mostIn_52 : decode cX8_mostIn 52 = .ok (.ireturn, 1) := by decide +kernel
theorem dX8_boats_0 : decode cX8_boats 0 = .ok (.iload_n 1, 1) := by decide +kernel
theorem dX8_boats_1 : decode cX8_boats 1 = .ok (.i2l, 1) := by decide +kernel
theorem dX8_boats_2 : decode cX8_boats 2 = .ok (.lconst 0, 1) := by decide +kernel
theorem dX8_boats_3 : decode cX8_boats 3 = .ok (.lconst 1, 1) := by decide +kernel
theorem dX8_boats_4 : decode cX8_boats 4 = .ok (.invokestatic 47, 3) := by decide +kernel
theorem dX8_boats_7 : decode cX8_boats 7 = .ok (.ifCond .ne 5, 3) := by decide +kernel
theorem dX8_boats_10 : decode cX8_boats 10 = .ok (.iconst (-1), 1) := by decide +kernel
theorem dX8_boats_11 : decode cX8_boats 11 = .ok (.ireturn, 1) := by decide +kernel
theorem dX8_boats_12 : decode cX8_boats 12 = .ok (.iconst 0, 1) := by decide +kernel
theorem dX8_boats_13 : decode cX8_boats 13 = .ok (.istore_n 2, 1) := by decide +kernel
theorem dX8_boats_14 : decode cX8_boats 14 = .ok (.iconst (-1), 1) := by decide +kernel
theorem dX8_boats_15 : decode cX8_boats 15 = .ok (.istore_n 3, 1) := by decide +kernel
theorem dX8_boats_16 : decode cX8_boats 16 = .ok (.iconst 0, 1) := by decide +kernel
theorem dX8_boats_17 : decode cX8_boats 17 = .ok (.istore 4, 2) := by decide +kernel
theorem dX8_boats_19 : decode cX8_boats 19 = .ok (.iload 4, 2) := by decide +kernel
theorem dX8_boats_21 : decode cX8_boats 21 = .ok (.aload_n 0, 1) := by decide +kernel
theorem dX8_boats_22 : decode cX8_boats 22 = .ok (.invokevirtual 67, 3) := by decide +kernel
theorem dX8_boats_25 : decode cX8_boats 25 = .ok (.if_icmp .gt 74, 3) := by decide +kernel
theorem dX8_boats_28 : decode cX8_boats 28 = .ok (.aload_n 0, 1) := by decide +kernel
theorem dX8_boats_29 : decode cX8_boats 29 = .ok (.iload 4, 2) := by decide +kernel
theorem dX8_boats_31 : decode cX8_boats 31 = .ok (.invokevirtual 233, 3) := by decide +kernel
theorem dX8_boats_34 : decode cX8_boats 34 = .ok (.istore 5, 2) := by decide +kernel
theorem dX8_boats_36 : decode cX8_boats 36 = .ok (.aload_n 0, 1) := by decide +kernel
theorem dX8_boats_37 : decode cX8_boats 37 = .ok (.aload_n 0, 1) := by decide +kernel
theorem dX8_boats_38 : decode cX8_boats 38 = .ok (.invokevirtual 67, 3) := by decide +kernel
theorem dX8_boats_41 : decode cX8_boats 41 = .ok (.iload 4, 2) := by decide +kernel
theorem dX8_boats_43 : decode cX8_boats 43 = .ok (.iconst (-1), 1) := by decide +kernel
theorem dX8_boats_44 : decode cX8_boats 44 = .ok (.ixor, 1) := by decide +kernel
theorem dX8_boats_45 : decode cX8_boats 45 = .ok (.iand, 1) := by decide +kernel
theorem dX8_boats_46 : decode cX8_boats 46 = .ok (.invokevirtual 233, 3) := by decide +kernel
theorem dX8_boats_49 : decode cX8_boats 49 = .ok (.istore 6, 2) := by decide +kernel
theorem dX8_boats_51 : decode cX8_boats 51 = .ok (.iload 5, 2) := by decide +kernel
theorem dX8_boats_53 : decode cX8_boats 53 = .ok (.iload 6, 2) := by decide +kernel
theorem dX8_boats_55 : decode cX8_boats 55 = .ok (.if_icmp .ge 8, 3) := by decide +kernel
theorem dX8_boats_58 : decode cX8_boats 58 = .ok (.iload 5, 2) := by decide +kernel
theorem dX8_boats_60 : decode cX8_boats 60 = .ok (.goto 5, 3) := by decide +kernel
theorem dX8_boats_63 : decode cX8_boats 63 = .ok (.iload 6, 2) := by decide +kernel
theorem dX8_boats_65 : decode cX8_boats 65 = .ok (.istore 7, 2) := by decide +kernel
theorem dX8_boats_67 : decode cX8_boats 67 = .ok (.iload 7, 2) := by decide +kernel
theorem dX8_boats_69 : decode cX8_boats 69 = .ok (.iload_n 3, 1) := by decide +kernel
theorem dX8_boats_70 : decode cX8_boats 70 = .ok (.if_icmp .le 8, 3) := by decide +kernel
theorem dX8_boats_73 : decode cX8_boats 73 = .ok (.iload 4, 2) := by decide +kernel
theorem dX8_boats_75 : decode cX8_boats 75 = .ok (.goto 4, 3) := by decide +kernel
theorem dX8_boats_78 : decode cX8_boats 78 = .ok (.iload_n 2, 1) := by decide +kernel
theorem dX8_boats_79 : decode cX8_boats 79 = .ok (.istore_n 2, 1) := by decide +kernel
theorem dX8_boats_80 : decode cX8_boats 80 = .ok (.iload 7, 2) := by decide +kernel
theorem dX8_boats_82 : decode cX8_boats 82 = .ok (.iload_n 3, 1) := by decide +kernel
theorem dX8_boats_83 : decode cX8_boats 83 = .ok (.if_icmp .le 8, 3) := by decide +kernel
theorem dX8_boats_86 : decode cX8_boats 86 = .ok (.iload 7, 2) := by decide +kernel
theorem dX8_boats_88 : decode cX8_boats 88 = .ok (.goto 4, 3) := by decide +kernel
theorem dX8_boats_91 : decode cX8_boats 91 = .ok (.iload_n 3, 1) := by decide +kernel
theorem dX8_boats_92 : decode cX8_boats 92 = .ok (.istore_n 3, 1) := by decide +kernel
theorem dX8_boats_93 : decode cX8_boats 93 = .ok (.iinc 4 1, 3) := by decide +kernel
theorem dX8_boats_96 : decode cX8_boats 96 = .ok (.goto (-77), 3) := by decide +kernel
theorem dX8_boats_99 : decode cX8_boats 99 = .ok (.iload_n 1, 1) := by decide +kernel
theorem dX8_boats_100 : decode cX8_boats 100 = .ok (.ifCond .ne 7, 3) := by decide +kernel
theorem dX8_boats_103 : decode cX8_boats 103 = .ok (.iload_n 2, 1) := by decide +kernel
theorem dX8_boats_104 : decode cX8_boats 104 = .ok (.goto 4, 3) := by decide +kernel
theorem dX8_boats_107 : decode cX8_boats 107 = .ok (.iload_n 3, 1) := by decide +kernel
theorem dX8_boats_108 : decode cX8_boats 108 = .ok (.ireturn, 1) := by decide +kernel
theorem dX8_see_0 : decode cX8_see 0 = .ok (.aload_n 0, 1) := by decide +kernel
theorem dX8_see_1 : decode cX8_see 1 = .ok (.getfield 41, 3) := by decide +kernel
theorem dX8_see_4 : decode cX8_see 4 = .ok (.bipush 7, 2) := by decide +kernel
theorem dX8_see_6 : decode cX8_see 6 = .ok (.iload_n 1, 1) := by decide +kernel
theorem dX8_see_7 : decode cX8_see 7 = .ok (.imul, 1) := by decide +kernel
theorem dX8_see_8 : decode cX8_see 8 = .ok (.aload_n 0, 1) := by decide +kernel
theorem dX8_see_9 : decode cX8_see 9 = .ok (.getfield 7, 3) := by decide +kernel
theorem dX8_see_12 : decode cX8_see 12 = .ok (.sipush 484, 3) := by decide +kernel
theorem dX8_see_15 : decode cX8_see 15 = .ok (.iaload, 1) := by decide +kernel
theorem dX8_see_16 : decode cX8_see 16 = .ok (.iastore, 1) := by decide +kernel
theorem dX8_see_17 : decode cX8_see 17 = .ok (.aload_n 0, 1) := by decide +kernel
theorem dX8_see_18 : decode cX8_see 18 = .ok (.getfield 41, 3) := by decide +kernel
theorem dX8_see_21 : decode cX8_see 21 = .ok (.bipush 7, 2) := by decide +kernel
theorem dX8_see_23 : decode cX8_see 23 = .ok (.iload_n 1, 1) := by decide +kernel
theorem dX8_see_24 : decode cX8_see 24 = .ok (.imul, 1) := by decide +kernel
theorem dX8_see_25 : decode cX8_see 25 = .ok (.iconst 1, 1) := by decide +kernel
theorem dX8_see_26 : decode cX8_see 26 = .ok (.iadd, 1) := by decide +kernel
theorem dX8_see_27 : decode cX8_see 27 = .ok (.iconst 2, 1) := by decide +kernel
theorem dX8_see_28 : decode cX8_see 28 = .ok (.aload_n 0, 1) := by decide +kernel
theorem dX8_see_29 : decode cX8_see 29 = .ok (.sipush 484, 3) := by decide +kernel
theorem dX8_see_32 : decode cX8_see 32 = .ok (.invokevirtual 202, 3) := by decide +kernel
theorem dX8_see_35 : decode cX8_see 35 = .ok (.imul, 1) := by decide +kernel
theorem dX8_see_36 : decode cX8_see 36 = .ok (.aload_n 0, 1) := by decide +kernel
theorem dX8_see_37 : decode cX8_see 37 = .ok (.getfield 7, 3) := by decide +kernel
theorem dX8_see_40 : decode cX8_see 40 = .ok (.sipush 485, 3) := by decide +kernel
theorem dX8_see_43 : decode cX8_see 43 = .ok (.iaload, 1) := by decide +kernel
theorem dX8_see_44 : decode cX8_see 44 = .ok (.iconst 2, 1) := by decide +kernel
theorem dX8_see_45 : decode cX8_see 45 = .ok (.irem, 1) := by decide +kernel
theorem dX8_see_46 : decode cX8_see 46 = .ok (.iadd, 1) := by decide +kernel
theorem dX8_see_47 : decode cX8_see 47 = .ok (.iastore, 1) := by decide +kernel
theorem dX8_see_48 : decode cX8_see 48 = .ok (.iconst 0, 1) := by decide +kernel
theorem dX8_see_49 : decode cX8_see 49 = .ok (.istore_n 2, 1) := by decide +kernel
theorem dX8_see_50 : decode cX8_see 50 = .ok (.iload_n 2, 1) := by decide +kernel
theorem dX8_see_51 : decode cX8_see 51 = .ok (.iconst 5, 1) := by decide +kernel
theorem dX8_see_52 : decode cX8_see 52 = .ok (.if_icmp .ge 32, 3) := by decide +kernel
theorem dX8_see_55 : decode cX8_see 55 = .ok (.aload_n 0, 1) := by decide +kernel
theorem dX8_see_56 : decode cX8_see 56 = .ok (.getfield 41, 3) := by decide +kernel
theorem dX8_see_59 : decode cX8_see 59 = .ok (.bipush 7, 2) := by decide +kernel
theorem dX8_see_61 : decode cX8_see 61 = .ok (.iload_n 1, 1) := by decide +kernel
theorem dX8_see_62 : decode cX8_see 62 = .ok (.imul, 1) := by decide +kernel
theorem dX8_see_63 : decode cX8_see 63 = .ok (.iconst 2, 1) := by decide +kernel
theorem dX8_see_64 : decode cX8_see 64 = .ok (.iadd, 1) := by decide +kernel
theorem dX8_see_65 : decode cX8_see 65 = .ok (.iload_n 2, 1) := by decide +kernel
theorem dX8_see_66 : decode cX8_see 66 = .ok (.iadd, 1) := by decide +kernel
theorem dX8_see_67 : decode cX8_see 67 = .ok (.aload_n 0, 1) := by decide +kernel
theorem dX8_see_68 : decode cX8_see 68 = .ok (.getfield 7, 3) := by decide +kernel
theorem dX8_see_71 : decode cX8_see 71 = .ok (.sipush 499, 3) := by decide +kernel
theorem dX8_see_74 : decode cX8_see 74 = .ok (.iload_n 2, 1) := by decide +kernel
theorem dX8_see_75 : decode cX8_see 75 = .ok (.iadd, 1) := by decide +kernel
theorem dX8_see_76 : decode cX8_see 76 = .ok (.iaload, 1) := by decide +kernel
theorem dX8_see_77 : decode cX8_see 77 = .ok (.iastore, 1) := by decide +kernel
theorem dX8_see_78 : decode cX8_see 78 = .ok (.iinc 2 1, 3) := by decide +kernel
theorem dX8_see_81 : decode cX8_see 81 = .ok (.goto (-31), 3) := by decide +kernel
theorem dX8_see_84 : decode cX8_see 84 = .ok (.return_, 1) := by decide +kernel
theorem dX8_areAlike_0 : decode cX8_areAlike 0 = .ok (.iconst 1, 1) := by decide +kernel
theorem dX8_areAlike_1 : decode cX8_areAlike 1 = .ok (.istore_n 3, 1) := by decide +kernel
theorem dX8_areAlike_2 : decode cX8_areAlike 2 = .ok (.iconst 0, 1) := by decide +kernel
theorem dX8_areAlike_3 : decode cX8_areAlike 3 = .ok (.istore 4, 2) := by decide +kernel
theorem dX8_areAlike_5 : decode cX8_areAlike 5 = .ok (.iload 4, 2) := by decide +kernel
theorem dX8_areAlike_7 : decode cX8_areAlike 7 = .ok (.bipush 7, 2) := by decide +kernel
theorem dX8_areAlike_9 : decode cX8_areAlike 9 = .ok (.if_icmp .ge 46, 3) := by decide +kernel
theorem dX8_areAlike_12 : decode cX8_areAlike 12 = .ok (.iload_n 3, 1) := by decide +kernel
theorem dX8_areAlike_13 : decode cX8_areAlike 13 = .ok (.ifCond .eq 34, 3) := by decide +kernel
theorem dX8_areAlike_16 : decode cX8_areAlike 16 = .ok (.aload_n 0, 1) := by decide +kernel
theorem dX8_areAlike_17 : decode cX8_areAlike 17 = .ok (.getfield 41, 3) := by decide +kernel
theorem dX8_areAlike_20 : decode cX8_areAlike 20 = .ok (.bipush 7, 2) := by decide +kernel
theorem dX8_areAlike_22 : decode cX8_areAlike 22 = .ok (.iload_n 1, 1) := by decide +kernel
theorem dX8_areAlike_23 : decode cX8_areAlike 23 = .ok (.imul, 1) := by decide +kernel
theorem dX8_areAlike_24 : decode cX8_areAlike 24 = .ok (.iload 4, 2) := by decide +kernel
theorem dX8_areAlike_26 : decode cX8_areAlike 26 = .ok (.iadd, 1) := by decide +kernel
theorem dX8_areAlike_27 : decode cX8_areAlike 27 = .ok (.iaload, 1) := by decide +kernel
theorem dX8_areAlike_28 : decode cX8_areAlike 28 = .ok (.aload_n 0, 1) := by decide +kernel
theorem dX8_areAlike_29 : decode cX8_areAlike 29 = .ok (.getfield 41, 3) := by decide +kernel
theorem dX8_areAlike_32 : decode cX8_areAlike 32 = .ok (.bipush 7, 2) := by decide +kernel
theorem dX8_areAlike_34 : decode cX8_areAlike 34 = .ok (.iload_n 2, 1) := by decide +kernel
theorem dX8_areAlike_35 : decode cX8_areAlike 35 = .ok (.imul, 1) := by decide +kernel
theorem dX8_areAlike_36 : decode cX8_areAlike 36 = .ok (.iload 4, 2) := by decide +kernel
theorem dX8_areAlike_38 : decode cX8_areAlike 38 = .ok (.iadd, 1) := by decide +kernel
theorem dX8_areAlike_39 : decode cX8_areAlike 39 = .ok (.iaload, 1) := by decide +kernel
theorem dX8_areAlike_40 : decode cX8_areAlike 40 = .ok (.if_icmp .ne 7, 3) := by decide +kernel
theorem dX8_areAlike_43 : decode cX8_areAlike 43 = .ok (.iconst 1, 1) := by decide +kernel
theorem dX8_areAlike_44 : decode cX8_areAlike 44 = .ok (.goto 4, 3) := by decide +kernel
theorem dX8_areAlike_47 : decode cX8_areAlike 47 = .ok (.iconst 0, 1) := by decide +kernel
theorem dX8_areAlike_48 : decode cX8_areAlike 48 = .ok (.istore_n 3, 1) := by decide +kernel
theorem dX8_areAlike_49 : decode cX8_areAlike 49 = .ok (.iinc 4 1, 3) := by decide +kernel
theorem dX8_areAlike_52 : decode cX8_areAlike 52 = .ok (.goto (-47), 3) := by decide +kernel
theorem dX8_areAlike_55 : decode cX8_areAlike 55 = .ok (.iload_n 3, 1) := by decide +kernel
theorem dX8_areAlike_56 : decode cX8_areAlike 56 = .ok (.ireturn, 1) := by decide +kernel
theorem dX8_ring_0 : decode cX8_ring 0 = .ok (.iload_n 1, 1) := by decide +kernel
theorem dX8_ring_1 : decode cX8_ring 1 = .ok (.i2l, 1) := by decide +kernel
theorem dX8_ring_2 : decode cX8_ring 2 = .ok (.lconst 0, 1) := by decide +kernel
theorem dX8_ring_3 : decode cX8_ring 3 = .ok (.lconst 1, 1) := by decide +kernel
theorem dX8_ring_4 : decode cX8_ring 4 = .ok (.invokestatic 47, 3) := by decide +kernel
theorem dX8_ring_7 : decode cX8_ring 7 = .ok (.ifCond .ne 5, 3) := by decide +kernel
theorem dX8_ring_10 : decode cX8_ring 10 = .ok (.iconst (-1), 1) := by decide +kernel
theorem dX8_ring_11 : decode cX8_ring 11 = .ok (.ireturn, 1) := by decide +kernel
theorem dX8_ring_12 : decode cX8_ring 12 = .ok (.aload_n 0, 1) := by decide +kernel
theorem dX8_ring_13 : decode cX8_ring 13 = .ok (.invokevirtual 199, 3) := by decide +kernel
theorem dX8_ring_16 : decode cX8_ring 16 = .ok (.aload_n 0, 1) := by decide +kernel
theorem dX8_ring_17 : decode cX8_ring 17 = .ok (.iconst 0, 1) := by decide +kernel
theorem dX8_ring_18 : decode cX8_ring 18 = .ok (.invokevirtual 236, 3) := by decide +kernel
theorem dX8_ring_21 : decode cX8_ring 21 = .ok (.iconst 1, 1) := by decide +kernel
theorem dX8_ring_22 : decode cX8_ring 22 = .ok (.istore_n 2, 1) := by decide +kernel
theorem dX8_ring_23 : decode cX8_ring 23 = .ok (.iload_n 2, 1) := by decide +kernel
theorem dX8_ring_24 : decode cX8_ring 24 = .ok (.sipush 201, 3) := by decide +kernel
theorem dX8_ring_27 : decode cX8_ring 27 = .ok (.if_icmp .ge 62, 3) := by decide +kernel
theorem dX8_ring_30 : decode cX8_ring 30 = .ok (.aload_n 0, 1) := by decide +kernel
theorem dX8_ring_31 : decode cX8_ring 31 = .ok (.sipush 484, 3) := by decide +kernel
theorem dX8_ring_34 : decode cX8_ring 34 = .ok (.aload_n 0, 1) := by decide +kernel
theorem dX8_ring_35 : decode cX8_ring 35 = .ok (.sipush 484, 3) := by decide +kernel
theorem dX8_ring_38 : decode cX8_ring 38 = .ok (.invokevirtual 194, 3) := by decide +kernel
theorem dX8_ring_41 : decode cX8_ring 41 = .ok (.invokevirtual 182, 3) := by decide +kernel
theorem dX8_ring_44 : decode cX8_ring 44 = .ok (.aload_n 0, 1) := by decide +kernel
theorem dX8_ring_45 : decode cX8_ring 45 = .ok (.iload_n 2, 1) := by decide +kernel
theorem dX8_ring_46 : decode cX8_ring 46 = .ok (.invokevirtual 236, 3) := by decide +kernel
theorem dX8_ring_49 : decode cX8_ring 49 = .ok (.iconst 0, 1) := by decide +kernel
theorem dX8_ring_50 : decode cX8_ring 50 = .ok (.istore_n 3, 1) := by decide +kernel
theorem dX8_ring_51 : decode cX8_ring 51 = .ok (.iload_n 3, 1) := by decide +kernel
theorem dX8_ring_52 : decode cX8_ring 52 = .ok (.iload_n 2, 1) := by decide +kernel
theorem dX8_ring_53 : decode cX8_ring 53 = .ok (.if_icmp .ge 30, 3) := by decide +kernel
theorem dX8_ring_56 : decode cX8_ring 56 = .ok (.aload_n 0, 1) := by decide +kernel
theorem dX8_ring_57 : decode cX8_ring 57 = .ok (.iload_n 3, 1) := by decide +kernel
theorem dX8_ring_58 : decode cX8_ring 58 = .ok (.iload_n 2, 1) := by decide +kernel
theorem dX8_ring_59 : decode cX8_ring 59 = .ok (.invokevirtual 239, 3) := by decide +kernel
theorem dX8_ring_62 : decode cX8_ring 62 = .ok (.ifCond .eq 15, 3) := by decide +kernel
theorem dX8_ring_65 : decode cX8_ring 65 = .ok (.iload_n 1, 1) := by decide +kernel
theorem dX8_ring_66 : decode cX8_ring 66 = .ok (.ifCond .ne 7, 3) := by decide +kernel
theorem dX8_ring_69 : decode cX8_ring 69 = .ok (.iload_n 2, 1) := by decide +kernel
theorem dX8_ring_70 : decode cX8_ring 70 = .ok (.goto 6, 3) := by decide +kernel
theorem dX8_ring_73 : decode cX8_ring 73 = .ok (.iload_n 2, 1) := by decide +kernel
theorem dX8_ring_74 : decode cX8_ring 74 = .ok (.iload_n 3, 1) := by decide +kernel
theorem dX8_ring_75 : decode cX8_ring 75 = .ok (.isub, 1) := by decide +kernel
theorem dX8_ring_76 : decode cX8_ring 76 = .ok (.ireturn, 1) := by decide +kernel
theorem dX8_ring_77 : decode cX8_ring 77 = .ok (.iinc 3 1, 3) := by decide +kernel
theorem dX8_ring_80 : decode cX8_ring 80 = .ok (.goto (-29), 3) := by decide +kernel
theorem dX8_ring_83 : decode cX8_ring 83 = .ok (.iinc 2 1, 3) := by decide +kernel
theorem dX8_ring_86 : decode cX8_ring 86 = .ok (.goto (-63), 3) := by decide +kernel
theorem dX8_ring_89 : decode cX8_ring 89 = .ok (.bipush (-4), 2) := by decide +kernel
theorem dX8_ring_91 : decode cX8_ring 91 = .ok (.ireturn, 1) := by decide +kernel
theorem dX8_enough_0 : decode cX8_enough 0 = .ok (.aload_n 0, 1) := by decide +kernel
theorem dX8_enough_1 : decode cX8_enough 1 = .ok (.iload_n 1, 1) := by decide +kernel
theorem dX8_enough_2 : decode cX8_enough 2 = .ok (.invokevirtual 100, 3) := by decide +kernel
theorem dX8_enough_5 : decode cX8_enough 5 = .ok (.ifCond .ne 5, 3) := by decide +kernel
theorem dX8_enough_8 : decode cX8_enough 8 = .ok (.iconst (-1), 1) := by decide +kernel
theorem dX8_enough_9 : decode cX8_enough 9 = .ok (.ireturn, 1) := by decide +kernel
theorem dX8_enough_10 : decode cX8_enough 10 = .ok (.iconst 0, 1) := by decide +kernel
theorem dX8_enough_11 : decode cX8_enough 11 = .ok (.istore_n 2, 1) := by decide +kernel
theorem dX8_enough_12 : decode cX8_enough 12 = .ok (.iload_n 2, 1) := by decide +kernel
theorem dX8_enough_13 : decode cX8_enough 13 = .ok (.bipush 21, 2) := by decide +kernel
theorem dX8_enough_15 : decode cX8_enough 15 = .ok (.if_icmp .ge 46, 3) := by decide +kernel
theorem dX8_enough_18 : decode cX8_enough 18 = .ok (.aload_n 0, 1) := by decide +kernel
theorem dX8_enough_19 : decode cX8_enough 19 = .ok (.iconst 0, 1) := by decide +kernel
theorem dX8_enough_20 : decode cX8_enough 20 = .ok (.invokevirtual 166, 3) := by decide +kernel
theorem dX8_enough_23 : decode cX8_enough 23 = .ok (.ifCond .ne 38, 3) := by decide +kernel
theorem dX8_enough_26 : decode cX8_enough 26 = .ok (.aload_n 0, 1) := by decide +kernel
theorem dX8_enough_27 : decode cX8_enough 27 = .ok (.iconst 0, 1) := by decide +kernel
theorem dX8_enough_28 : decode cX8_enough 28 = .ok (.iload_n 2, 1) := by decide +kernel
theorem dX8_enough_29 : decode cX8_enough 29 = .ok (.aload_n 0, 1) := by decide +kernel
theorem dX8_enough_30 : decode cX8_enough 30 = .ok (.getfield 7, 3) := by decide +kernel
theorem dX8_enough_33 : decode cX8_enough 33 = .ok (.bipush 20, 2) := by decide +kernel
theorem dX8_enough_35 : decode cX8_enough 35 = .ok (.iload_n 1, 1) := by decide +kernel
theorem dX8_enough_36 : decode cX8_enough 36 = .ok (.iadd, 1) := by decide +kernel
theorem dX8_enough_37 : decode cX8_enough 37 = .ok (.iaload, 1) := by decide +kernel
theorem dX8_enough_38 : decode cX8_enough 38 = .ok (.aload_n 0, 1) := by decide +kernel
theorem dX8_enough_39 : decode cX8_enough 39 = .ok (.invokevirtual 67, 3) := by decide +kernel
theorem dX8_enough_42 : decode cX8_enough 42 = .ok (.invokevirtual 94, 3) := by decide +kernel
theorem dX8_enough_45 : decode cX8_enough 45 = .ok (.aload_n 0, 1) := by decide +kernel
theorem dX8_enough_46 : decode cX8_enough 46 = .ok (.iconst 0, 1) := by decide +kernel
theorem dX8_enough_47 : decode cX8_enough 47 = .ok (.invokevirtual 202, 3) := by decide +kernel
theorem dX8_enough_50 : decode cX8_enough 50 = .ok (.if_icmp .lt 5, 3) := by decide +kernel
theorem dX8_enough_53 : decode cX8_enough 53 = .ok (.iload_n 2, 1) := by decide +kernel
theorem dX8_enough_54 : decode cX8_enough 54 = .ok (.ireturn, 1) := by decide +kernel
theorem dX8_enough_55 : decode cX8_enough 55 = .ok (.iinc 2 1, 3) := by decide +kernel
theorem dX8_enough_58 : decode cX8_enough 58 = .ok (.goto (-46), 3) := by decide +kernel
theorem dX8_enough_61 : decode cX8_enough 61 = .ok (.bipush (-4), 2) := by decide +kernel
theorem dX8_enough_63 : decode cX8_enough 63 = .ok (.ireturn, 1) := by decide +kernel
theorem dX8_sick_0 : decode cX8_sick 0 = .ok (.aload_n 0, 1) := by decide +kernel
theorem dX8_sick_1 : decode cX8_sick 1 = .ok (.iload_n 1, 1) := by decide +kernel
theorem dX8_sick_2 : decode cX8_sick 2 = .ok (.invokevirtual 100, 3) := by decide +kernel
theorem dX8_sick_5 : decode cX8_sick 5 = .ok (.ifCond .eq 25, 3) := by decide +kernel
theorem dX8_sick_8 : decode cX8_sick 8 = .ok (.iload_n 2, 1) := by decide +kernel
theorem dX8_sick_9 : decode cX8_sick 9 = .ok (.i2l, 1) := by decide +kernel
theorem dX8_sick_10 : decode cX8_sick 10 = .ok (.lconst 0, 1) := by decide +kernel
theorem dX8_sick_11 : decode cX8_sick 11 = .ok (.ldc2_w 242, 3) := by decide +kernel
theorem dX8_sick_14 : decode cX8_sick 14 = .ok (.invokestatic 47, 3) := by decide +kernel
theorem dX8_sick_17 : decode cX8_sick 17 = .ok (.ifCond .eq 13, 3) := by decide +kernel
theorem dX8_sick_20 : decode cX8_sick 20 = .ok (.iload_n 3, 1) := by decide +kernel
theorem dX8_sick_21 : decode cX8_sick 21 = .ok (.i2l, 1) := by decide +kernel
theorem dX8_sick_22 : decode cX8_sick 22 = .ok (.lconst 0, 1) := by decide +kernel
theorem dX8_sick_23 : decode cX8_sick 23 = .ok (.lconst 1, 1) := by decide +kernel
theorem dX8_sick_24 : decode cX8_sick 24 = .ok (.invokestatic 47, 3) := by decide +kernel
theorem dX8_sick_27 : decode cX8_sick 27 = .ok (.ifCond .ne 5, 3) := by decide +kernel
theorem dX8_sick_30 : decode cX8_sick 30 = .ok (.iconst (-1), 1) := by decide +kernel
theorem dX8_sick_31 : decode cX8_sick 31 = .ok (.ireturn, 1) := by decide +kernel
theorem dX8_sick_32 : decode cX8_sick 32 = .ok (.iconst 0, 1) := by decide +kernel
theorem dX8_sick_33 : decode cX8_sick 33 = .ok (.istore 4, 2) := by decide +kernel
theorem dX8_sick_35 : decode cX8_sick 35 = .ok (.iconst 0, 1) := by decide +kernel
theorem dX8_sick_36 : decode cX8_sick 36 = .ok (.istore 5, 2) := by decide +kernel
theorem dX8_sick_38 : decode cX8_sick 38 = .ok (.iconst 0, 1) := by decide +kernel
theorem dX8_sick_39 : decode cX8_sick 39 = .ok (.istore 6, 2) := by decide +kernel
theorem dX8_sick_41 : decode cX8_sick 41 = .ok (.iload 6, 2) := by decide +kernel
theorem dX8_sick_43 : decode cX8_sick 43 = .ok (.aload_n 0, 1) := by decide +kernel
theorem dX8_sick_44 : decode cX8_sick 44 = .ok (.invokevirtual 67, 3) := by decide +kernel
theorem dX8_sick_47 : decode cX8_sick 47 = .ok (.if_icmp .gt 106, 3) := by decide +kernel
theorem dX8_sick_50 : decode cX8_sick 50 = .ok (.iconst 1, 1) := by decide +kernel
theorem dX8_sick_51 : decode cX8_sick 51 = .ok (.istore 7, 2) := by decide +kernel
theorem dX8_sick_53 : decode cX8_sick 53 = .ok (.iconst 0, 1) := by decide +kernel
theorem dX8_sick_54 : decode cX8_sick 54 = .ok (.istore 8, 2) := by decide +kernel
theorem dX8_sick_56 : decode cX8_sick 56 = .ok (.iload 8, 2) := by decide +kernel
theorem dX8_sick_58 : decode cX8_sick 58 = .ok (.aload_n 0, 1) := by decide +kernel
theorem dX8_sick_59 : decode cX8_sick 59 = .ok (.getfield 7, 3) := by decide +kernel
theorem dX8_sick_62 : decode cX8_sick 62 = .ok (.bipush 27, 2) := by decide +kernel
theorem dX8_sick_64 : decode cX8_sick 64 = .ok (.iaload, 1) := by decide +kernel
theorem dX8_sick_65 : decode cX8_sick 65 = .ok (.if_icmp .ge 32, 3) := by decide +kernel
theorem dX8_sick_68 : decode cX8_sick 68 = .ok (.iload 7, 2) := by decide +kernel
theorem dX8_sick_70 : decode cX8_sick 70 = .ok (.iload 6, 2) := by decide +kernel
theorem dX8_sick_72 : decode cX8_sick 72 = .ok (.iload 8, 2) := by decide +kernel
theorem dX8_sick_74 : decode cX8_sick 74 = .ok (.invokestatic 82, 3) := by decide +kernel
theorem dX8_sick_77 : decode cX8_sick 77 = .ok (.ifCond .eq 10, 3) := by decide +kernel
theorem dX8_sick_80 : decode cX8_sick 80 = .ok (.bipush 10, 2) := by decide +kernel
theorem dX8_sick_82 : decode cX8_sick 82 = .ok (.iload_n 2, 1) := by decide +kernel
theorem dX8_sick_83 : decode cX8_sick 83 = .ok (.isub, 1) := by decide +kernel
theorem dX8_sick_84 : decode cX8_sick 84 = .ok (.goto 4, 3) := by decide +kernel
theorem dX8_sick_87 : decode cX8_sick 87 = .ok (.iload_n 2, 1) := by decide +kernel
theorem dX8_sick_88 : decode cX8_sick 88 = .ok (.imul, 1) := by decide +kernel
theorem dX8_sick_89 : decode cX8_sick 89 = .ok (.istore 7, 2) := by decide +kernel
theorem dX8_sick_91 : decode cX8_sick 91 = .ok (.iinc 8 1, 3) := by decide +kernel
theorem dX8_sick_94 : decode cX8_sick 94 = .ok (.goto (-38), 3) := by decide +kernel
theorem dX8_sick_97 : decode cX8_sick 97 = .ok (.iload 4, 2) := by decide +kernel
theorem dX8_sick_99 : decode cX8_sick 99 = .ok (.aload_n 0, 1) := by decide +kernel
theorem dX8_sick_100 : decode cX8_sick 100 = .ok (.iconst 0, 1) := by decide +kernel
theorem dX8_sick_101 : decode cX8_sick 101 = .ok (.invokevirtual 166, 3) := by decide +kernel
theorem dX8_sick_104 : decode cX8_sick 104 = .ok (.ifCond .ne 32, 3) := by decide +kernel
theorem dX8_sick_107 : decode cX8_sick 107 = .ok (.aload_n 0, 1) := by decide +kernel
theorem dX8_sick_108 : decode cX8_sick 108 = .ok (.iload_n 1, 1) := by decide +kernel
theorem dX8_sick_109 : decode cX8_sick 109 = .ok (.aload_n 0, 1) := by decide +kernel
theorem dX8_sick_110 : decode cX8_sick 110 = .ok (.getfield 7, 3) := by decide +kernel
theorem dX8_sick_113 : decode cX8_sick 113 = .ok (.bipush 20, 2) := by decide +kernel
theorem dX8_sick_115 : decode cX8_sick 115 = .ok (.iload_n 1, 1) := by decide +kernel
theorem dX8_sick_116 : decode cX8_sick 116 = .ok (.iadd, 1) := by decide +kernel
theorem dX8_sick_117 : decode cX8_sick 117 = .ok (.iaload, 1) := by decide +kernel
theorem dX8_sick_118 : decode cX8_sick 118 = .ok (.iload 6, 2) := by decide +kernel
theorem dX8_sick_120 : decode cX8_sick 120 = .ok (.invokevirtual 228, 3) := by decide +kernel
theorem dX8_sick_123 : decode cX8_sick 123 = .ok (.aload_n 0, 1) := by decide +kernel
theorem dX8_sick_124 : decode cX8_sick 124 = .ok (.iconst 0, 1) := by decide +kernel
theorem dX8_sick_125 : decode cX8_sick 125 = .ok (.invokevirtual 202, 3) := by decide +kernel
theorem dX8_sick_128 : decode cX8_sick 128 = .ok (.if_icmp .lt 8, 3) := by decide +kernel
theorem dX8_sick_131 : decode cX8_sick 131 = .ok (.iload 7, 2) := by decide +kernel
theorem dX8_sick_133 : decode cX8_sick 133 = .ok (.goto 4, 3) := by decide +kernel
theorem dX8_sick_136 : decode cX8_sick 136 = .ok (.iconst 0, 1) := by decide +kernel
theorem dX8_sick_137 : decode cX8_sick 137 = .ok (.iadd, 1) := by decide +kernel
theorem dX8_sick_138 : decode cX8_sick 138 = .ok (.istore 4, 2) := by decide +kernel
theorem dX8_sick_140 : decode cX8_sick 140 = .ok (.iload 5, 2) := by decide +kernel
theorem dX8_sick_142 : decode cX8_sick 142 = .ok (.iload 7, 2) := by decide +kernel
theorem dX8_sick_144 : decode cX8_sick 144 = .ok (.iadd, 1) := by decide +kernel
theorem dX8_sick_145 : decode cX8_sick 145 = .ok (.istore 5, 2) := by decide +kernel
theorem dX8_sick_147 : decode cX8_sick 147 = .ok (.iinc 6 1, 3) := by decide +kernel
theorem dX8_sick_150 : decode cX8_sick 150 = .ok (.goto (-109), 3) := by decide +kernel
theorem dX8_sick_153 : decode cX8_sick 153 = .ok (.iload 4, 2) := by decide +kernel
theorem dX8_sick_155 : decode cX8_sick 155 = .ok (.istore 6, 2) := by decide +kernel
theorem dX8_sick_157 : decode cX8_sick 157 = .ok (.iload 5, 2) := by decide +kernel
theorem dX8_sick_159 : decode cX8_sick 159 = .ok (.istore 7, 2) := by decide +kernel
theorem dX8_sick_161 : decode cX8_sick 161 = .ok (.iload 7, 2) := by decide +kernel
theorem dX8_sick_163 : decode cX8_sick 163 = .ok (.ifCond .eq 21, 3) := by decide +kernel
theorem dX8_sick_166 : decode cX8_sick 166 = .ok (.iload 6, 2) := by decide +kernel
theorem dX8_sick_168 : decode cX8_sick 168 = .ok (.iload 7, 2) := by decide +kernel
theorem dX8_sick_170 : decode cX8_sick 170 = .ok (.irem, 1) := by decide +kernel
theorem dX8_sick_171 : decode cX8_sick 171 = .ok (.istore 8, 2) := by decide +kernel
theorem dX8_sick_173 : decode cX8_sick 173 = .ok (.iload 7, 2) := by decide +kernel
theorem dX8_sick_175 : decode cX8_sick 175 = .ok (.istore 6, 2) := by decide +kernel
theorem dX8_sick_177 : decode cX8_sick 177 = .ok (.iload 8, 2) := by decide +kernel
theorem dX8_sick_179 : decode cX8_sick 179 = .ok (.istore 7, 2) := by decide +kernel
theorem dX8_sick_181 : decode cX8_sick 181 = .ok (.goto (-20), 3) := by decide +kernel
theorem dX8_sick_184 : decode cX8_sick 184 = .ok (.iload_n 3, 1) := by decide +kernel
theorem dX8_sick_185 : decode cX8_sick 185 = .ok (.ifCond .ne 11, 3) := by decide +kernel
theorem dX8_sick_188 : decode cX8_sick 188 = .ok (.iload 4, 2) := by decide +kernel
theorem dX8_sick_190 : decode cX8_sick 190 = .ok (.iload 6, 2) := by decide +kernel
theorem dX8_sick_192 : decode cX8_sick 192 = .ok (.idiv, 1) := by decide +kernel
theorem dX8_sick_193 : decode cX8_sick 193 = .ok (.goto 8, 3) := by decide +kernel
theorem dX8_sick_196 : decode cX8_sick 196 = .ok (.iload 5, 2) := by decide +kernel
theorem dX8_sick_198 : decode cX8_sick 198 = .ok (.iload 6, 2) := by decide +kernel
theorem dX8_sick_200 : decode cX8_sick 200 = .ok (.idiv, 1) := by decide +kernel
theorem dX8_sick_201 : decode cX8_sick 201 = .ok (.ireturn, 1) := by decide +kernel
theorem dX8_image_0 : decode cX8_image 0 = .ok (.iconst 0, 1) := by decide +kernel
theorem dX8_image_1 : decode cX8_image 1 = .ok (.istore_n 1, 1) := by decide +kernel
theorem dX8_image_2 : decode cX8_image 2 = .ok (.iload_n 1, 1) := by decide +kernel
theorem dX8_image_3 : decode cX8_image 3 = .ok (.sipush 242, 3) := by decide +kernel
theorem dX8_image_6 : decode cX8_image 6 = .ok (.if_icmp .ge 25, 3) := by decide +kernel
theorem dX8_image_9 : decode cX8_image 9 = .ok (.aload_n 0, 1) := by decide +kernel
theorem dX8_image_10 : decode cX8_image 10 = .ok (.getfield 7, 3) := by decide +kernel
theorem dX8_image_13 : decode cX8_image 13 = .ok (.sipush 242, 3) := by decide +kernel
theorem dX8_image_16 : decode cX8_image 16 = .ok (.iload_n 1, 1) := by decide +kernel
theorem dX8_image_17 : decode cX8_image 17 = .ok (.iadd, 1) := by decide +kernel
theorem dX8_image_18 : decode cX8_image 18 = .ok (.aload_n 0, 1) := by decide +kernel
theorem dX8_image_19 : decode cX8_image 19 = .ok (.getfield 7, 3) := by decide +kernel
theorem dX8_image_22 : decode cX8_image 22 = .ok (.iload_n 1, 1) := by decide +kernel
theorem dX8_image_23 : decode cX8_image 23 = .ok (.iaload, 1) := by decide +kernel
theorem dX8_image_24 : decode cX8_image 24 = .ok (.iastore, 1) := by decide +kernel
theorem dX8_image_25 : decode cX8_image 25 = .ok (.iinc 1 1, 3) := by decide +kernel
theorem dX8_image_28 : decode cX8_image 28 = .ok (.goto (-26), 3) := by decide +kernel
theorem dX8_image_31 : decode cX8_image 31 = .ok (.aload_n 0, 1) := by decide +kernel
theorem dX8_image_32 : decode cX8_image 32 = .ok (.iconst 1, 1) := by decide +kernel
theorem dX8_image_33 : decode cX8_image 33 = .ok (.putfield 244, 3) := by decide +kernel
theorem dX8_image_36 : decode cX8_image 36 = .ok (.iconst 1, 1) := by decide +kernel
theorem dX8_image_37 : decode cX8_image 37 = .ok (.ireturn, 1) := by decide +kernel
theorem dX8_restore_0 : decode cX8_restore 0 = .ok (.aload_n 0, 1) := by decide +kernel
theorem dX8_restore_1 : decode cX8_restore 1 = .ok (.getfield 244, 3) := by decide +kernel
theorem dX8_restore_4 : decode cX8_restore 4 = .ok (.ifCond .ne 6, 3) := by decide +kernel
theorem dX8_restore_7 : decode cX8_restore 7 = .ok (.bipush (-4), 2) := by decide +kernel
theorem dX8_restore_9 : decode cX8_restore 9 = .ok (.ireturn, 1) := by decide +kernel
theorem dX8_restore_10 : decode cX8_restore 10 = .ok (.iconst 0, 1) := by decide +kernel
theorem dX8_restore_11 : decode cX8_restore 11 = .ok (.istore_n 1, 1) := by decide +kernel
theorem dX8_restore_12 : decode cX8_restore 12 = .ok (.iload_n 1, 1) := by decide +kernel
theorem dX8_restore_13 : decode cX8_restore 13 = .ok (.sipush 242, 3) := by decide +kernel
theorem dX8_restore_16 : decode cX8_restore 16 = .ok (.if_icmp .ge 25, 3) := by decide +kernel
theorem dX8_restore_19 : decode cX8_restore 19 = .ok (.aload_n 0, 1) := by decide +kernel
theorem dX8_restore_20 : decode cX8_restore 20 = .ok (.getfield 7, 3) := by decide +kernel
theorem dX8_restore_23 : decode cX8_restore 23 = .ok (.iload_n 1, 1) := by decide +kernel
theorem dX8_restore_24 : decode cX8_restore 24 = .ok (.aload_n 0, 1) := by decide +kernel
theorem dX8_restore_25 : decode cX8_restore 25 = .ok (.getfield 7, 3) := by decide +kernel
theorem dX8_restore_28 : decode cX8_restore 28 = .ok (.sipush 242, 3) := by decide +kernel
theorem dX8_restore_31 : decode cX8_restore 31 = .ok (.iload_n 1, 1) := by decide +kernel
theorem dX8_restore_32 : decode cX8_restore 32 = .ok (.iadd, 1) := by decide +kernel
theorem dX8_restore_33 : decode cX8_restore 33 = .ok (.iaload, 1) := by decide +kernel
theorem dX8_restore_34 : decode cX8_restore 34 = .ok (.iastore, 1) := by decide +kernel
theorem dX8_restore_35 : decode cX8_restore 35 = .ok (.iinc 1 1, 3) := by decide +kernel
theorem dX8_restore_38 : decode cX8_restore 38 = .ok (.goto (-26), 3) := by decide +kernel
theorem dX8_restore_41 : decode cX8_restore 41 = .ok (.iconst 1, 1) := by decide +kernel
theorem dX8_restore_42 : decode cX8_restore 42 = .ok (.ireturn, 1) := by decide +kernel
theorem dX8_isSheet_0 : decode cX8_isSheet 0 = .ok (.iload_n 0, 1) := by decide +kernel
theorem dX8_isSheet_1 : decode cX8_isSheet 1 = .ok (.i2l, 1) := by decide +kernel
theorem dX8_isSheet_2 : decode cX8_isSheet 2 = .ok (.lconst 0, 1) := by decide +kernel
theorem dX8_isSheet_3 : decode cX8_isSheet 3 = .ok (.ldc2_w 248, 3) := by decide +kernel
theorem dX8_isSheet_6 : decode cX8_isSheet 6 = .ok (.invokestatic 47, 3) := by decide +kernel
theorem dX8_isSheet_9 : decode cX8_isSheet 9 = .ok (.ireturn, 1) := by decide +kernel
theorem dX8_isSpan_0 : decode cX8_isSpan 0 = .ok (.iload_n 2, 1) := by decide +kernel
theorem dX8_isSpan_1 : decode cX8_isSpan 1 = .ok (.ifCond .lt 27, 3) := by decide +kernel
theorem dX8_isSpan_4 : decode cX8_isSpan 4 = .ok (.iload_n 3, 1) := by decide +kernel
theorem dX8_isSpan_5 : decode cX8_isSpan 5 = .ok (.ifCond .lt 23, 3) := by decide +kernel
theorem dX8_isSpan_8 : decode cX8_isSpan 8 = .ok (.iload_n 2, 1) := by decide +kernel
theorem dX8_isSpan_9 : decode cX8_isSpan 9 = .ok (.i2l, 1) := by decide +kernel
theorem dX8_isSpan_10 : decode cX8_isSpan 10 = .ok (.iload_n 3, 1) := by decide +kernel
theorem dX8_isSpan_11 : decode cX8_isSpan 11 = .ok (.i2l, 1) := by decide +kernel
theorem dX8_isSpan_12 : decode cX8_isSpan 12 = .ok (.ladd, 1) := by decide +kernel
theorem dX8_isSpan_13 : decode cX8_isSpan 13 = .ok (.aload_n 0, 1) := by decide +kernel
theorem dX8_isSpan_14 : decode cX8_isSpan 14 = .ok (.getfield 16, 3) := by decide +kernel
theorem dX8_isSpan_17 : decode cX8_isSpan 17 = .ok (.iload_n 1, 1) := by decide +kernel
theorem dX8_isSpan_18 : decode cX8_isSpan 18 = .ok (.iaload, 1) := by decide +kernel
theorem dX8_isSpan_19 : decode cX8_isSpan 19 = .ok (.i2l, 1) := by decide +kernel
theorem dX8_isSpan_20 : decode cX8_isSpan 20 = .ok (.lcmp, 1) := by decide +kernel
theorem dX8_isSpan_21 : decode cX8_isSpan 21 = .ok (.ifCond .gt 7, 3) := by decide +kernel
theorem dX8_isSpan_24 : decode cX8_isSpan 24 = .ok (.iconst 1, 1) := by decide +kernel
theorem dX8_isSpan_25 : decode cX8_isSpan 25 = .ok (.goto 4, 3) := by decide +kernel
theorem dX8_isSpan_28 : decode cX8_isSpan 28 = .ok (.iconst 0, 1) := by decide +kernel
theorem dX8_isSpan_29 : decode cX8_isSpan 29 = .ok (.ireturn, 1) := by decide +kernel
theorem dX8_noSheet_0 : decode cX8_noSheet 0 = .ok (.aload_n 0, 1) := by decide +kernel
theorem dX8_noSheet_1 : decode cX8_noSheet 1 = .ok (.getfield 16, 3) := by decide +kernel
theorem dX8_noSheet_4 : decode cX8_noSheet 4 = .ok (.iload_n 1, 1) := by decide +kernel
theorem dX8_noSheet_5 : decode cX8_noSheet 5 = .ok (.iaload, 1) := by decide +kernel
theorem dX8_noSheet_6 : decode cX8_noSheet 6 = .ok (.ifCond .ge 8, 3) := by decide +kernel
theorem dX8_noSheet_9 : decode cX8_noSheet 9 = .ok (.bipush (-11), 2) := by decide +kernel
theorem dX8_noSheet_11 : decode cX8_noSheet 11 = .ok (.goto 35, 3) := by decide +kernel
theorem dX8_noSheet_14 : decode cX8_noSheet 14 = .ok (.aload_n 0, 1) := by decide +kernel
theorem dX8_noSheet_15 : decode cX8_noSheet 15 = .ok (.getfield 13, 3) := by decide +kernel
theorem dX8_noSheet_18 : decode cX8_noSheet 18 = .ok (.iload_n 1, 1) := by decide +kernel
theorem dX8_noSheet_19 : decode cX8_noSheet 19 = .ok (.iaload, 1) := by decide +kernel
theorem dX8_noSheet_20 : decode cX8_noSheet 20 = .ok (.iload_n 2, 1) := by decide +kernel
theorem dX8_noSheet_21 : decode cX8_noSheet 21 = .ok (.if_icmp .eq 8, 3) := by decide +kernel
theorem dX8_noSheet_24 : decode cX8_noSheet 24 = .ok (.bipush (-12), 2) := by decide +kernel
theorem dX8_noSheet_26 : decode cX8_noSheet 26 = .ok (.goto 20, 3) := by decide +kernel
theorem dX8_noSheet_29 : decode cX8_noSheet 29 = .ok (.aload_n 0, 1) := by decide +kernel
theorem dX8_noSheet_30 : decode cX8_noSheet 30 = .ok (.iload_n 1, 1) := by decide +kernel
theorem dX8_noSheet_31 : decode cX8_noSheet 31 = .ok (.iload_n 3, 1) := by decide +kernel
theorem dX8_noSheet_32 : decode cX8_noSheet 32 = .ok (.iload 4, 2) := by decide +kernel
theorem dX8_noSheet_34 : decode cX8_noSheet 34 = .ok (.invokevirtual 250, 3) := by decide +kernel
theorem dX8_noSheet_37 : decode cX8_noSheet 37 = .ok (.ifCond .eq 7, 3) := by decide +kernel
theorem dX8_noSheet_40 : decode cX8_noSheet 40 = .ok (.iconst 0, 1) := by decide +kernel
theorem dX8_noSheet_41 : decode cX8_noSheet 41 = .ok (.goto 5, 3) := by decide +kernel
theorem dX8_noSheet_44 : decode cX8_noSheet 44 = .ok (.bipush (-13), 2) := by decide +kernel
theorem dX8_noSheet_46 : decode cX8_noSheet 46 = .ok (.ireturn, 1) := by decide +kernel
theorem dX8_cut_0 : decode cX8_cut 0 = .ok (.iload_n 0, 1) := by decide +kernel
theorem dX8_cut_1 : decode cX8_cut 1 = .ok (.ifCond .ne 10, 3) := by decide +kernel
theorem dX8_cut_4 : decode cX8_cut 4 = .ok (.lload_n 1, 1) := by decide +kernel
theorem dX8_cut_5 : decode cX8_cut 5 = .ok (.l2i, 1) := by decide +kernel
theorem dX8_cut_6 : decode cX8_cut 6 = .ok (.i2b, 1) := by decide +kernel
theorem dX8_cut_7 : decode cX8_cut 7 = .ok (.i2l, 1) := by decide +kernel
theorem dX8_cut_8 : decode cX8_cut 8 = .ok (.goto 27, 3) := by decide +kernel
theorem dX8_cut_11 : decode cX8_cut 11 = .ok (.iload_n 0, 1) := by decide +kernel
theorem dX8_cut_12 : decode cX8_cut 12 = .ok (.iconst 1, 1) := by decide +kernel
theorem dX8_cut_13 : decode cX8_cut 13 = .ok (.if_icmp .ne 10, 3) := by decide +kernel
theorem dX8_cut_16 : decode cX8_cut 16 = .ok (.lload_n 1, 1) := by decide +kernel
theorem dX8_cut_17 : decode cX8_cut 17 = .ok (.l2i, 1) := by decide +kernel
theorem dX8_cut_18 : decode cX8_cut 18 = .ok (.i2s, 1) := by decide +kernel
theorem dX8_cut_19 : decode cX8_cut 19 = .ok (.i2l, 1) := by decide +kernel
theorem dX8_cut_20 : decode cX8_cut 20 = .ok (.goto 15, 3) := by decide +kernel
theorem dX8_cut_23 : decode cX8_cut 23 = .ok (.iload_n 0, 1) := by decide +kernel
theorem dX8_cut_24 : decode cX8_cut 24 = .ok (.iconst 2, 1) := by decide +kernel
theorem dX8_cut_25 : decode cX8_cut 25 = .ok (.if_icmp .ne 9, 3) := by decide +kernel
theorem dX8_cut_28 : decode cX8_cut 28 = .ok (.lload_n 1, 1) := by decide +kernel
theorem dX8_cut_29 : decode cX8_cut 29 = .ok (.l2i, 1) := by decide +kernel
theorem dX8_cut_30 : decode cX8_cut 30 = .ok (.i2l, 1) := by decide +kernel
theorem dX8_cut_31 : decode cX8_cut 31 = .ok (.goto 4, 3) := by decide +kernel
theorem dX8_cut_34 : decode cX8_cut 34 = .ok (.lload_n 1, 1) := by decide +kernel
theorem dX8_cut_35 : decode cX8_cut 35 = .ok (.lreturn, 1) := by decide +kernel
theorem dX8_isFeltSo_0 : decode cX8_isFeltSo 0 = .ok (.iconst 1, 1) := by decide +kernel
theorem dX8_isFeltSo_1 : decode cX8_isFeltSo 1 = .ok (.istore 5, 2) := by decide +kernel
theorem dX8_isFeltSo_3 : decode cX8_isFeltSo 3 = .ok (.bipush 24, 2) := by decide +kernel
theorem dX8_isFeltSo_5 : decode cX8_isFeltSo 5 = .ok (.iload_n 1, 1) := by decide +kernel
theorem dX8_isFeltSo_6 : decode cX8_isFeltSo 6 = .ok (.imul, 1) := by decide +kernel
theorem dX8_isFeltSo_7 : decode cX8_isFeltSo 7 = .ok (.iload_n 2, 1) := by decide +kernel
theorem dX8_isFeltSo_8 : decode cX8_isFeltSo 8 = .ok (.iadd, 1) := by decide +kernel
theorem dX8_isFeltSo_9 : decode cX8_isFeltSo 9 = .ok (.istore 6, 2) := by decide +kernel
theorem dX8_isFeltSo_11 : decode cX8_isFeltSo 11 = .ok (.iload 6, 2) := by decide +kernel
theorem dX8_isFeltSo_13 : decode cX8_isFeltSo 13 = .ok (.bipush 24, 2) := by decide +kernel
theorem dX8_isFeltSo_15 : decode cX8_isFeltSo 15 = .ok (.iload_n 1, 1) := by decide +kernel
theorem dX8_isFeltSo_16 : decode cX8_isFeltSo 16 = .ok (.imul, 1) := by decide +kernel
theorem dX8_isFeltSo_17 : decode cX8_isFeltSo 17 = .ok (.iload_n 2, 1) := by decide +kernel
theorem dX8_isFeltSo_18 : decode cX8_isFeltSo 18 = .ok (.iadd, 1) := by decide +kernel
theorem dX8_isFeltSo_19 : decode cX8_isFeltSo 19 = .ok (.iconst 2, 1) := by decide +kernel
theorem dX8_isFeltSo_20 : decode cX8_isFeltSo 20 = .ok (.iload_n 3, 1) := by decide +kernel
theorem dX8_isFeltSo_21 : decode cX8_isFeltSo 21 = .ok (.imul, 1) := by decide +kernel
theorem dX8_isFeltSo_22 : decode cX8_isFeltSo 22 = .ok (.iadd, 1) := by decide +kernel
theorem dX8_isFeltSo_23 : decode cX8_isFeltSo 23 = .ok (.if_icmp .ge 53, 3) := by decide +kernel
theorem dX8_isFeltSo_26 : decode cX8_isFeltSo 26 = .ok (.iload 5, 2) := by decide +kernel
theorem dX8_isFeltSo_28 : decode cX8_isFeltSo 28 = .ok (.ifCond .eq 39, 3) := by decide +kernel
theorem dX8_isFeltSo_31 : decode cX8_isFeltSo 31 = .ok (.aload_n 0, 1) := by decide +kernel
theorem dX8_isFeltSo_32 : decode cX8_isFeltSo 32 = .ok (.aload_n 0, 1) := by decide +kernel
theorem dX8_isFeltSo_33 : decode cX8_isFeltSo 33 = .ok (.getfield 19, 3) := by decide +kernel
theorem dX8_isFeltSo_36 : decode cX8_isFeltSo 36 = .ok (.iload 6, 2) := by decide +kernel
theorem dX8_isFeltSo_38 : decode cX8_isFeltSo 38 = .ok (.laload, 1) := by decide +kernel
theorem dX8_isFeltSo_39 : decode cX8_isFeltSo 39 = .ok (.l2i, 1) := by decide +kernel
theorem dX8_isFeltSo_40 : decode cX8_isFeltSo 40 = .ok (.iload 4, 2) := by decide +kernel
theorem dX8_isFeltSo_42 : decode cX8_isFeltSo 42 = .ok (.aload_n 0, 1) := by decide +kernel
theorem dX8_isFeltSo_43 : decode cX8_isFeltSo 43 = .ok (.invokevirtual 67, 3) := by decide +kernel
theorem dX8_isFeltSo_46 : decode cX8_isFeltSo 46 = .ok (.invokevirtual 228, 3) := by decide +kernel
theorem dX8_isFeltSo_49 : decode cX8_isFeltSo 49 = .ok (.i2l, 1) := by decide +kernel
theorem dX8_isFeltSo_50 : decode cX8_isFeltSo 50 = .ok (.aload_n 0, 1) := by decide +kernel
theorem dX8_isFeltSo_51 : decode cX8_isFeltSo 51 = .ok (.getfield 19, 3) := by decide +kernel
theorem dX8_isFeltSo_54 : decode cX8_isFeltSo 54 = .ok (.iload 6, 2) := by decide +kernel
theorem dX8_isFeltSo_56 : decode cX8_isFeltSo 56 = .ok (.iconst 1, 1) := by decide +kernel
theorem dX8_isFeltSo_57 : decode cX8_isFeltSo 57 = .ok (.iadd, 1) := by decide +kernel
theorem dX8_isFeltSo_58 : decode cX8_isFeltSo 58 = .ok (.laload, 1) := by decide +kernel
theorem dX8_isFeltSo_59 : decode cX8_isFeltSo 59 = .ok (.lcmp, 1) := by decide +kernel
theorem dX8_isFeltSo_60 : decode cX8_isFeltSo 60 = .ok (.ifCond .ne 7, 3) := by decide +kernel
theorem dX8_isFeltSo_63 : decode cX8_isFeltSo 63 = .ok (.iconst 1, 1) := by decide +kernel
theorem dX8_isFeltSo_64 : decode cX8_isFeltSo 64 = .ok (.goto 4, 3) := by decide +kernel
theorem dX8_isFeltSo_67 : decode cX8_isFeltSo 67 = .ok (.iconst 0, 1) := by decide +kernel
theorem dX8_isFeltSo_68 : decode cX8_isFeltSo 68 = .ok (.istore 5, 2) := by decide +kernel
theorem dX8_isFeltSo_70 : decode cX8_isFeltSo 70 = .ok (.iinc 6 2, 3) := by decide +kernel
theorem dX8_isFeltSo_73 : decode cX8_isFeltSo 73 = .ok (.goto (-62), 3) := by decide +kernel
theorem dX8_isFeltSo_76 : decode cX8_isFeltSo 76 = .ok (.iload 5, 2) := by decide +kernel
theorem dX8_isFeltSo_78 : decode cX8_isFeltSo 78 = .ok (.ireturn, 1) := by decide +kernel
theorem dX8_felt_0 : decode cX8_felt 0 = .ok (.iload_n 1, 1) := by decide +kernel
theorem dX8_felt_1 : decode cX8_felt 1 = .ok (.invokestatic 254, 3) := by decide +kernel
theorem dX8_felt_4 : decode cX8_felt 4 = .ok (.ifCond .eq 39, 3) := by decide +kernel
theorem dX8_felt_7 : decode cX8_felt 7 = .ok (.iload_n 2, 1) := by decide +kernel
theorem dX8_felt_8 : decode cX8_felt 8 = .ok (.i2l, 1) := by decide +kernel
theorem dX8_felt_9 : decode cX8_felt 9 = .ok (.lconst 0, 1) := by decide +kernel
theorem dX8_felt_10 : decode cX8_felt 10 = .ok (.ldc2_w 248, 3) := by decide +kernel
theorem dX8_felt_13 : decode cX8_felt 13 = .ok (.invokestatic 47, 3) := by decide +kernel
theorem dX8_felt_16 : decode cX8_felt 16 = .ok (.ifCond .eq 27, 3) := by decide +kernel
theorem dX8_felt_19 : decode cX8_felt 19 = .ok (.iload 4, 2) := by decide +kernel
theorem dX8_felt_21 : decode cX8_felt 21 = .ok (.i2l, 1) := by decide +kernel
theorem dX8_felt_22 : decode cX8_felt 22 = .ok (.lconst 1, 1) := by decide +kernel
theorem dX8_felt_23 : decode cX8_felt 23 = .ok (.ldc2_w 257, 3) := by decide +kernel
theorem dX8_felt_26 : decode cX8_felt 26 = .ok (.invokestatic 47, 3) := by decide +kernel
theorem dX8_felt_29 : decode cX8_felt 29 = .ok (.ifCond .eq 14, 3) := by decide +kernel
theorem dX8_felt_32 : decode cX8_felt 32 = .ok (.iload 5, 2) := by decide +kernel
theorem dX8_felt_34 : decode cX8_felt 34 = .ok (.i2l, 1) := by decide +kernel
theorem dX8_felt_35 : decode cX8_felt 35 = .ok (.lconst 0, 1) := by decide +kernel
theorem dX8_felt_36 : decode cX8_felt 36 = .ok (.lconst 1, 1) := by decide +kernel
theorem dX8_felt_37 : decode cX8_felt 37 = .ok (.invokestatic 47, 3) := by decide +kernel
theorem dX8_felt_40 : decode cX8_felt 40 = .ok (.ifCond .ne 5, 3) := by decide +kernel
theorem dX8_felt_43 : decode cX8_felt 43 = .ok (.iconst (-1), 1) := by decide +kernel
theorem dX8_felt_44 : decode cX8_felt 44 = .ok (.ireturn, 1) := by decide +kernel
theorem dX8_felt_45 : decode cX8_felt 45 = .ok (.aload_n 0, 1) := by decide +kernel
theorem dX8_felt_46 : decode cX8_felt 46 = .ok (.iload_n 1, 1) := by decide +kernel
theorem dX8_felt_47 : decode cX8_felt 47 = .ok (.iload_n 2, 1) := by decide +kernel
theorem dX8_felt_48 : decode cX8_felt 48 = .ok (.iload_n 3, 1) := by decide +kernel
theorem dX8_felt_49 : decode cX8_felt 49 = .ok (.iconst 2, 1) := by decide +kernel
theorem dX8_felt_50 : decode cX8_felt 50 = .ok (.iload 4, 2) := by decide +kernel
theorem dX8_felt_52 : decode cX8_felt 52 = .ok (.imul, 1) := by decide +kernel
theorem dX8_felt_53 : decode cX8_felt 53 = .ok (.invokevirtual 259, 3) := by decide +kernel
theorem dX8_felt_56 : decode cX8_felt 56 = .ok (.istore 6, 2) := by decide +kernel
theorem dX8_felt_58 : decode cX8_felt 58 = .ok (.iload 6, 2) := by decide +kernel
theorem dX8_felt_60 : decode cX8_felt 60 = .ok (.ifCond .eq 6, 3) := by decide +kernel
theorem dX8_felt_63 : decode cX8_felt 63 = .ok (.iload 6, 2) := by decide +kernel
theorem dX8_felt_65 : decode cX8_felt 65 = .ok (.ireturn, 1) := by decide +kernel
theorem dX8_felt_66 : decode cX8_felt 66 = .ok (.bipush 24, 2) := by decide +kernel
theorem dX8_felt_68 : decode cX8_felt 68 = .ok (.iload_n 1, 1) := by decide +kernel
theorem dX8_felt_69 : decode cX8_felt 69 = .ok (.imul, 1) := by decide +kernel
theorem dX8_felt_70 : decode cX8_felt 70 = .ok (.iload_n 3, 1) := by decide +kernel
theorem dX8_felt_71 : decode cX8_felt 71 = .ok (.iadd, 1) := by decide +kernel
theorem dX8_felt_72 : decode cX8_felt 72 = .ok (.istore 7, 2) := by decide +kernel
theorem dX8_felt_74 : decode cX8_felt 74 = .ok (.iload 7, 2) := by decide +kernel
theorem dX8_felt_76 : decode cX8_felt 76 = .ok (.bipush 24, 2) := by decide +kernel
theorem dX8_felt_78 : decode cX8_felt 78 = .ok (.iload_n 1, 1) := by decide +kernel
theorem dX8_felt_79 : decode cX8_felt 79 = .ok (.imul, 1) := by decide +kernel
theorem dX8_felt_80 : decode cX8_felt 80 = .ok (.iload_n 3, 1) := by decide +kernel
theorem dX8_felt_81 : decode cX8_felt 81 = .ok (.iadd, 1) := by decide +kernel
theorem dX8_felt_82 : decode cX8_felt 82 = .ok (.iconst 2, 1) := by decide +kernel
theorem dX8_felt_83 : decode cX8_felt 83 = .ok (.iload 4, 2) := by decide +kernel
theorem dX8_felt_85 : decode cX8_felt 85 = .ok (.imul, 1) := by decide +kernel
theorem dX8_felt_86 : decode cX8_felt 86 = .ok (.iadd, 1) := by decide +kernel
theorem dX8_felt_87 : decode cX8_felt 87 = .ok (.if_icmp .ge 36, 3) := by decide +kernel
theorem dX8_felt_90 : decode cX8_felt 90 = .ok (.aload_n 0, 1) := by decide +kernel
theorem dX8_felt_91 : decode cX8_felt 91 = .ok (.getfield 19, 3) := by decide +kernel
theorem dX8_felt_94 : decode cX8_felt 94 = .ok (.iload 7, 2) := by decide +kernel
theorem dX8_felt_96 : decode cX8_felt 96 = .ok (.laload, 1) := by decide +kernel
theorem dX8_felt_97 : decode cX8_felt 97 = .ok (.lconst 0, 1) := by decide +kernel
theorem dX8_felt_98 : decode cX8_felt 98 = .ok (.aload_n 0, 1) := by decide +kernel
theorem dX8_felt_99 : decode cX8_felt 99 = .ok (.getfield 7, 3) := by decide +kernel
theorem dX8_felt_102 : decode cX8_felt 102 = .ok (.bipush 28, 2) := by decide +kernel
theorem dX8_felt_104 : decode cX8_felt 104 = .ok (.iaload, 1) := by decide +kernel
theorem dX8_felt_105 : decode cX8_felt 105 = .ok (.iconst 1, 1) := by decide +kernel
theorem dX8_felt_106 : decode cX8_felt 106 = .ok (.isub, 1) := by decide +kernel
theorem dX8_felt_107 : decode cX8_felt 107 = .ok (.i2l, 1) := by decide +kernel
theorem dX8_felt_108 : decode cX8_felt 108 = .ok (.invokestatic 47, 3) := by decide +kernel
theorem dX8_felt_111 : decode cX8_felt 111 = .ok (.ifCond .ne 6, 3) := by decide +kernel
theorem dX8_felt_114 : decode cX8_felt 114 = .ok (.bipush (-2), 2) := by decide +kernel
theorem dX8_felt_116 : decode cX8_felt 116 = .ok (.ireturn, 1) := by decide +kernel
theorem dX8_felt_117 : decode cX8_felt 117 = .ok (.iinc 7 2, 3) := by decide +kernel
theorem dX8_felt_120 : decode cX8_felt 120 = .ok (.goto (-46), 3) := by decide +kernel
theorem dX8_felt_123 : decode cX8_felt 123 = .ok (.iconst 0, 1) := by decide +kernel
theorem dX8_felt_124 : decode cX8_felt 124 = .ok (.istore 7, 2) := by decide +kernel
theorem dX8_felt_126 : decode cX8_felt 126 = .ok (.bipush (-4), 2) := by decide +kernel
theorem dX8_felt_128 : decode cX8_felt 128 = .ok (.istore 8, 2) := by decide +kernel
theorem dX8_felt_130 : decode cX8_felt 130 = .ok (.aload_n 0, 1) := by decide +kernel
theorem dX8_felt_131 : decode cX8_felt 131 = .ok (.invokevirtual 67, 3) := by decide +kernel
theorem dX8_felt_134 : decode cX8_felt 134 = .ok (.istore 9, 2) := by decide +kernel
theorem dX8_felt_136 : decode cX8_felt 136 = .ok (.iload 9, 2) := by decide +kernel
theorem dX8_felt_138 : decode cX8_felt 138 = .ok (.ifCond .lt 50, 3) := by decide +kernel
theorem dX8_felt_141 : decode cX8_felt 141 = .ok (.aload_n 0, 1) := by decide +kernel
theorem dX8_felt_142 : decode cX8_felt 142 = .ok (.iload_n 1, 1) := by decide +kernel
theorem dX8_felt_143 : decode cX8_felt 143 = .ok (.iload_n 3, 1) := by decide +kernel
theorem dX8_felt_144 : decode cX8_felt 144 = .ok (.iload 4, 2) := by decide +kernel
theorem dX8_felt_146 : decode cX8_felt 146 = .ok (.iload 9, 2) := by decide +kernel
theorem dX8_felt_148 : decode cX8_felt 148 = .ok (.invokevirtual 262, 3) := by decide +kernel
theorem dX8_felt_151 : decode cX8_felt 151 = .ok (.istore 10, 2) := by decide +kernel
theorem dX8_felt_153 : decode cX8_felt 153 = .ok (.iload 7, 2) := by decide +kernel
theorem dX8_felt_155 : decode cX8_felt 155 = .ok (.iload 10, 2) := by decide +kernel
theorem dX8_felt_157 : decode cX8_felt 157 = .ok (.ifCond .eq 7, 3) := by decide +kernel
theorem dX8_felt_160 : decode cX8_felt 160 = .ok (.iconst 1, 1) := by decide +kernel
theorem dX8_felt_161 : decode cX8_felt 161 = .ok (.goto 4, 3) := by decide +kernel
theorem dX8_felt_164 : decode cX8_felt 164 = .ok (.iconst 0, 1) := by decide +kernel
theorem dX8_felt_165 : decode cX8_felt 165 = .ok (.iadd, 1) := by decide +kernel
theorem dX8_felt_166 : decode cX8_felt 166 = .ok (.istore 7, 2) := by decide +kernel
theorem dX8_felt_168 : decode cX8_felt 168 = .ok (.iload 10, 2) := by decide +kernel
theorem dX8_felt_170 : decode cX8_felt 170 = .ok (.ifCond .eq 8, 3) := by decide +kernel
theorem dX8_felt_173 : decode cX8_felt 173 = .ok (.iload 9, 2) := by decide +kernel
theorem dX8_felt_175 : decode cX8_felt 175 = .ok (.goto 5, 3) := by decide +kernel
theorem dX8_felt_178 : decode cX8_felt 178 = .ok (.iload 8, 2) := by decide +kernel
theorem dX8_felt_180 : decode cX8_felt 180 = .ok (.istore 8, 2) := by decide +kernel
theorem dX8_felt_182 : decode cX8_felt 182 = .ok (.iinc 9 (-1), 3) := by decide +kernel
theorem dX8_felt_185 : decode cX8_felt 185 = .ok (.goto (-49), 3) := by decide +kernel
theorem dX8_felt_188 : decode cX8_felt 188 = .ok (.iload 5, 2) := by decide +kernel
theorem dX8_felt_190 : decode cX8_felt 190 = .ok (.ifCond .ne 8, 3) := by decide +kernel
theorem dX8_felt_193 : decode cX8_felt 193 = .ok (.iload 7, 2) := by decide +kernel
theorem dX8_felt_195 : decode cX8_felt 195 = .ok (.goto 5, 3) := by decide +kernel
theorem dX8_felt_198 : decode cX8_felt 198 = .ok (.iload 8, 2) := by decide +kernel
theorem dX8_felt_200 : decode cX8_felt 200 = .ok (.ireturn, 1) := by decide +kernel
theorem dX8_film_0 : decode cX8_film 0 = .ok (.aload_n 0, 1) := by decide +kernel
theorem dX8_film_1 : decode cX8_film 1 = .ok (.iload_n 1, 1) := by decide +kernel
theorem dX8_film_2 : decode cX8_film 2 = .ok (.invokevirtual 74, 3) := by decide +kernel
theorem dX8_film_5 : decode cX8_film 5 = .ok (.ifCond .eq 48, 3) := by decide +kernel
theorem dX8_film_8 : decode cX8_film 8 = .ok (.iload_n 2, 1) := by decide +kernel
theorem dX8_film_9 : decode cX8_film 9 = .ok (.i2l, 1) := by decide +kernel
theorem dX8_film_10 : decode cX8_film 10 = .ok (.lconst 1, 1) := by decide +kernel
theorem dX8_film_11 : decode cX8_film 11 = .ok (.ldc2_w 266, 3) := by decide +kernel
theorem dX8_film_14 : decode cX8_film 14 = .ok (.invokestatic 47, 3) := by decide +kernel
theorem dX8_film_17 : decode cX8_film 17 = .ok (.ifCond .eq 36, 3) := by decide +kernel
theorem dX8_film_20 : decode cX8_film 20 = .ok (.iload_n 1, 1) := by decide +kernel
theorem dX8_film_21 : decode cX8_film 21 = .ok (.iload_n 2, 1) := by decide +kernel
theorem dX8_film_22 : decode cX8_film 22 = .ok (.iadd, 1) := by decide +kernel
theorem dX8_film_23 : decode cX8_film 23 = .ok (.aload_n 0, 1) := by decide +kernel
theorem dX8_film_24 : decode cX8_film 24 = .ok (.getfield 7, 3) := by decide +kernel
theorem dX8_film_27 : decode cX8_film 27 = .ok (.bipush 26, 2) := by decide +kernel
theorem dX8_film_29 : decode cX8_film 29 = .ok (.iaload, 1) := by decide +kernel
theorem dX8_film_30 : decode cX8_film 30 = .ok (.if_icmp .gt 23, 3) := by decide +kernel
theorem dX8_film_33 : decode cX8_film 33 = .ok (.iload_n 3, 1) := by decide +kernel
theorem dX8_film_34 : decode cX8_film 34 = .ok (.invokestatic 254, 3) := by decide +kernel
theorem dX8_film_37 : decode cX8_film 37 = .ok (.ifCond .eq 16, 3) := by decide +kernel
theorem dX8_film_40 : decode cX8_film 40 = .ok (.iload 4, 2) := by decide +kernel
theorem dX8_film_42 : decode cX8_film 42 = .ok (.i2l, 1) := by decide +kernel
theorem dX8_film_43 : decode cX8_film 43 = .ok (.lconst 0, 1) := by decide +kernel
theorem dX8_film_44 : decode cX8_film 44 = .ok (.ldc2_w 248, 3) := by decide +kernel
theorem dX8_film_47 : decode cX8_film 47 = .ok (.invokestatic 47, 3) := by decide +kernel
theorem dX8_film_50 : decode cX8_film 50 = .ok (.ifCond .ne 5, 3) := by decide +kernel
theorem dX8_film_53 : decode cX8_film 53 = .ok (.iconst (-1), 1) := by decide +kernel
theorem dX8_film_54 : decode cX8_film 54 = .ok (.ireturn, 1) := by decide +kernel
theorem dX8_film_55 : decode cX8_film 55 = .ok (.aload_n 0, 1) := by decide +kernel
theorem dX8_film_56 : decode cX8_film 56 = .ok (.iload_n 3, 1) := by decide +kernel
theorem dX8_film_57 : decode cX8_film 57 = .ok (.iload 4, 2) := by decide +kernel
theorem dX8_film_59 : decode cX8_film 59 = .ok (.iload 5, 2) := by decide +kernel
theorem dX8_film_61 : decode cX8_film 61 = .ok (.iload_n 2, 1) := by decide +kernel
theorem dX8_film_62 : decode cX8_film 62 = .ok (.invokevirtual 259, 3) := by decide +kernel
theorem dX8_film_65 : decode cX8_film 65 = .ok (.istore 6, 2) := by decide +kernel
theorem dX8_film_67 : decode cX8_film 67 = .ok (.iload 6, 2) := by decide +kernel
theorem dX8_film_69 : decode cX8_film 69 = .ok (.ifCond .eq 6, 3) := by decide +kernel
theorem dX8_film_72 : decode cX8_film 72 = .ok (.iload 6, 2) := by decide +kernel
theorem dX8_film_74 : decode cX8_film 74 = .ok (.ireturn, 1) := by decide +kernel
theorem dX8_film_75 : decode cX8_film 75 = .ok (.iconst 0, 1) := by decide +kernel
theorem dX8_film_76 : decode cX8_film 76 = .ok (.istore 7, 2) := by decide +kernel
theorem dX8_film_78 : decode cX8_film 78 = .ok (.iload 7, 2) := by decide +kernel
theorem dX8_film_80 : decode cX8_film 80 = .ok (.iload_n 2, 1) := by decide +kernel
theorem dX8_film_81 : decode cX8_film 81 = .ok (.if_icmp .ge 36, 3) := by decide +kernel
theorem dX8_film_84 : decode cX8_film 84 = .ok (.aload_n 0, 1) := by decide +kernel
theorem dX8_film_85 : decode cX8_film 85 = .ok (.getfield 19, 3) := by decide +kernel
theorem dX8_film_88 : decode cX8_film 88 = .ok (.bipush 24, 2) := by decide +kernel
theorem dX8_film_90 : decode cX8_film 90 = .ok (.iload_n 3, 1) := by decide +kernel
theorem dX8_film_91 : decode cX8_film 91 = .ok (.imul, 1) := by decide +kernel
theorem dX8_film_92 : decode cX8_film 92 = .ok (.iload 5, 2) := by decide +kernel
theorem dX8_film_94 : decode cX8_film 94 = .ok (.iadd, 1) := by decide +kernel
theorem dX8_film_95 : decode cX8_film 95 = .ok (.iload 7, 2) := by decide +kernel
theorem dX8_film_97 : decode cX8_film 97 = .ok (.iadd, 1) := by decide +kernel
theorem dX8_film_98 : decode cX8_film 98 = .ok (.aload_n 0, 1) := by decide +kernel
theorem dX8_film_99 : decode cX8_film 99 = .ok (.getfield 7, 3) := by decide +kernel
theorem dX8_film_102 : decode cX8_film 102 = .ok (.iconst 3, 1) := by decide +kernel
theorem dX8_film_103 : decode cX8_film 103 = .ok (.iload_n 1, 1) := by decide +kernel
theorem dX8_film_104 : decode cX8_film 104 = .ok (.iadd, 1) := by decide +kernel
theorem dX8_film_105 : decode cX8_film 105 = .ok (.iload 7, 2) := by decide +kernel
theorem dX8_film_107 : decode cX8_film 107 = .ok (.iadd, 1) := by decide +kernel
theorem dX8_film_108 : decode cX8_film 108 = .ok (.iaload, 1) := by decide +kernel
theorem dX8_film_109 : decode cX8_film 109 = .ok (.i2l, 1) := by decide +kernel
theorem dX8_film_110 : decode cX8_film 110 = .ok (.lastore, 1) := by decide +kernel
theorem dX8_film_111 : decode cX8_film 111 = .ok (.iinc 7 1, 3) := by decide +kernel
theorem dX8_film_114 : decode cX8_film 114 = .ok (.goto (-36), 3) := by decide +kernel
theorem dX8_film_117 : decode cX8_film 117 = .ok (.iload_n 2, 1) := by decide +kernel
theorem dX8_film_118 : decode cX8_film 118 = .ok (.ireturn, 1) := by decide +kernel
theorem dX8_sheet_0 : decode cX8_sheet 0 = .ok (.iload_n 1, 1) := by decide +kernel
theorem dX8_sheet_1 : decode cX8_sheet 1 = .ok (.invokestatic 254, 3) := by decide +kernel
theorem dX8_sheet_4 : decode cX8_sheet 4 = .ok (.ifCond .eq 21, 3) := by decide +kernel
theorem dX8_sheet_7 : decode cX8_sheet 7 = .ok (.iload_n 2, 1) := by decide +kernel
theorem dX8_sheet_8 : decode cX8_sheet 8 = .ok (.i2l, 1) := by decide +kernel
theorem dX8_sheet_9 : decode cX8_sheet 9 = .ok (.lconst 0, 1) := by decide +kernel
theorem dX8_sheet_10 : decode cX8_sheet 10 = .ok (.ldc2_w 248, 3) := by decide +kernel
theorem dX8_sheet_13 : decode cX8_sheet 13 = .ok (.invokestatic 47, 3) := by decide +kernel
theorem dX8_sheet_16 : decode cX8_sheet 16 = .ok (.ifCond .eq 9, 3) := by decide +kernel
theorem dX8_sheet_19 : decode cX8_sheet 19 = .ok (.iload_n 3, 1) := by decide +kernel
theorem dX8_sheet_20 : decode cX8_sheet 20 = .ok (.bipush 24, 2) := by decide +kernel
theorem dX8_sheet_22 : decode cX8_sheet 22 = .ok (.if_icmp .le 5, 3) := by decide +kernel
theorem dX8_sheet_25 : decode cX8_sheet 25 = .ok (.iconst (-1), 1) := by decide +kernel
theorem dX8_sheet_26 : decode cX8_sheet 26 = .ok (.ireturn, 1) := by decide +kernel
theorem dX8_sheet_27 : decode cX8_sheet 27 = .ok (.iload_n 3, 1) := by decide +kernel
theorem dX8_sheet_28 : decode cX8_sheet 28 = .ok (.ifCond .ge 6, 3) := by decide +kernel
theorem dX8_sheet_31 : decode cX8_sheet 31 = .ok (.bipush (-14), 2) := by decide +kernel
theorem dX8_sheet_33 : decode cX8_sheet 33 = .ok (.ireturn, 1) := by decide +kernel
theorem dX8_sheet_34 : decode cX8_sheet 34 = .ok (.aload_n 0, 1) := by decide +kernel
theorem dX8_sheet_35 : decode cX8_sheet 35 = .ok (.getfield 13, 3) := by decide +kernel
theorem dX8_sheet_38 : decode cX8_sheet 38 = .ok (.iload_n 1, 1) := by decide +kernel
theorem dX8_sheet_39 : decode cX8_sheet 39 = .ok (.iload_n 2, 1) := by decide +kernel
theorem dX8_sheet_40 : decode cX8_sheet 40 = .ok (.iastore, 1) := by decide +kernel
theorem dX8_sheet_41 : decode cX8_sheet 41 = .ok (.aload_n 0, 1) := by decide +kernel
theorem dX8_sheet_42 : decode cX8_sheet 42 = .ok (.getfield 16, 3) := by decide +kernel
theorem dX8_sheet_45 : decode cX8_sheet 45 = .ok (.iload_n 1, 1) := by decide +kernel
theorem dX8_sheet_46 : decode cX8_sheet 46 = .ok (.iload_n 3, 1) := by decide +kernel
theorem dX8_sheet_47 : decode cX8_sheet 47 = .ok (.iastore, 1) := by decide +kernel
theorem dX8_sheet_48 : decode cX8_sheet 48 = .ok (.iconst 0, 1) := by decide +kernel
theorem dX8_sheet_49 : decode cX8_sheet 49 = .ok (.istore 4, 2) := by decide +kernel
theorem dX8_sheet_51 : decode cX8_sheet 51 = .ok (.iload 4, 2) := by decide +kernel
theorem dX8_sheet_53 : decode cX8_sheet 53 = .ok (.iload_n 3, 1) := by decide +kernel
theorem dX8_sheet_54 : decode cX8_sheet 54 = .ok (.if_icmp .ge 22, 3) := by decide +kernel
theorem dX8_sheet_57 : decode cX8_sheet 57 = .ok (.aload_n 0, 1) := by decide +kernel
theorem dX8_sheet_58 : decode cX8_sheet 58 = .ok (.getfield 19, 3) := by decide +kernel
theorem dX8_sheet_61 : decode cX8_sheet 61 = .ok (.bipush 24, 2) := by decide +kernel
theorem dX8_sheet_63 : decode cX8_sheet 63 = .ok (.iload_n 1, 1) := by decide +kernel
theorem dX8_sheet_64 : decode cX8_sheet 64 = .ok (.imul, 1) := by decide +kernel
theorem dX8_sheet_65 : decode cX8_sheet 65 = .ok (.iload 4, 2) := by decide +kernel
theorem dX8_sheet_67 : decode cX8_sheet 67 = .ok (.iadd, 1) := by decide +kernel
theorem dX8_sheet_68 : decode cX8_sheet 68 = .ok (.lconst 0, 1) := by decide +kernel
theorem dX8_sheet_69 : decode cX8_sheet 69 = .ok (.lastore, 1) := by decide +kernel
theorem dX8_sheet_70 : decode cX8_sheet 70 = .ok (.iinc 4 1, 3) := by decide +kernel
theorem dX8_sheet_73 : decode cX8_sheet 73 = .ok (.goto (-22), 3) := by decide +kernel
theorem dX8_sheet_76 : decode cX8_sheet 76 = .ok (.iload_n 3, 1) := by decide +kernel
theorem dX8_sheet_77 : decode cX8_sheet 77 = .ok (.ireturn, 1) := by decide +kernel
theorem dX8_drop_0 : decode cX8_drop 0 = .ok (.iload_n 1, 1) := by decide +kernel
theorem dX8_drop_1 : decode cX8_drop 1 = .ok (.invokestatic 254, 3) := by decide +kernel
theorem dX8_drop_4 : decode cX8_drop 4 = .ok (.ifCond .ne 5, 3) := by decide +kernel
theorem dX8_drop_7 : decode cX8_drop 7 = .ok (.iconst (-1), 1) := by decide +kernel
theorem dX8_drop_8 : decode cX8_drop 8 = .ok (.ireturn, 1) := by decide +kernel
theorem dX8_drop_9 : decode cX8_drop 9 = .ok (.aload_n 0, 1) := by decide +kernel
theorem dX8_drop_10 : decode cX8_drop 10 = .ok (.getfield 16, 3) := by decide +kernel
theorem dX8_drop_13 : decode cX8_drop 13 = .ok (.iload_n 1, 1) := by decide +kernel
theorem dX8_drop_14 : decode cX8_drop 14 = .ok (.iaload, 1) := by decide +kernel
theorem dX8_drop_15 : decode cX8_drop 15 = .ok (.ifCond .ge 6, 3) := by decide +kernel
theorem dX8_drop_18 : decode cX8_drop 18 = .ok (.bipush (-11), 2) := by decide +kernel
theorem dX8_drop_20 : decode cX8_drop 20 = .ok (.ireturn, 1) := by decide +kernel
theorem dX8_drop_21 : decode cX8_drop 21 = .ok (.aload_n 0, 1) := by decide +kernel
theorem dX8_drop_22 : decode cX8_drop 22 = .ok (.getfield 16, 3) := by decide +kernel
theorem dX8_drop_25 : decode cX8_drop 25 = .ok (.iload_n 1, 1) := by decide +kernel
theorem dX8_drop_26 : decode cX8_drop 26 = .ok (.iaload, 1) := by decide +kernel
theorem dX8_drop_27 : decode cX8_drop 27 = .ok (.istore_n 2, 1) := by decide +kernel
theorem dX8_drop_28 : decode cX8_drop 28 = .ok (.aload_n 0, 1) := by decide +kernel
theorem dX8_drop_29 : decode cX8_drop 29 = .ok (.getfield 16, 3) := by decide +kernel
theorem dX8_drop_32 : decode cX8_drop 32 = .ok (.iload_n 1, 1) := by decide +kernel
theorem dX8_drop_33 : decode cX8_drop 33 = .ok (.iconst (-1), 1) := by decide +kernel
theorem dX8_drop_34 : decode cX8_drop 34 = .ok (.iastore, 1) := by decide +kernel
theorem dX8_drop_35 : decode cX8_drop 35 = .ok (.iload_n 2, 1) := by decide +kernel
theorem dX8_drop_36 : decode cX8_drop 36 = .ok (.ireturn, 1) := by decide +kernel
theorem dX8_item_0 : decode cX8_item 0 = .ok (.iload_n 1, 1) := by decide +kernel
theorem dX8_item_1 : decode cX8_item 1 = .ok (.invokestatic 254, 3) := by decide +kernel
theorem dX8_item_4 : decode cX8_item 4 = .ok (.ifCond .eq 15, 3) := by decide +kernel
theorem dX8_item_7 : decode cX8_item 7 = .ok (.iload_n 2, 1) := by decide +kernel
theorem dX8_item_8 : decode cX8_item 8 = .ok (.i2l, 1) := by decide +kernel
theorem dX8_item_9 : decode cX8_item 9 = .ok (.lconst 0, 1) := by decide +kernel
theorem dX8_item_10 : decode cX8_item 10 = .ok (.ldc2_w 248, 3) := by decide +kernel
theorem dX8_item_13 : decode cX8_item 13 = .ok (.invokestatic 47, 3) := by decide +kernel
theorem dX8_item_16 : decode cX8_item 16 = .ok (.ifCond .ne 5, 3) := by decide +kernel
theorem dX8_item_19 : decode cX8_item 19 = .ok (.iconst (-1), 1) := by decide +kernel
theorem dX8_item_20 : decode cX8_item 20 = .ok (.ireturn, 1) := by decide +kernel
theorem dX8_item_21 : decode cX8_item 21 = .ok (.aload_n 0, 1) := by decide +kernel
theorem dX8_item_22 : decode cX8_item 22 = .ok (.iload_n 1, 1) := by decide +kernel
theorem dX8_item_23 : decode cX8_item 23 = .ok (.iload_n 2, 1) := by decide +kernel
theorem dX8_item_24 : decode cX8_item 24 = .ok (.iload_n 3, 1) := by decide +kernel
theorem dX8_item_25 : decode cX8_item 25 = .ok (.iconst 1, 1) := by decide +kernel
theorem dX8_item_26 : decode cX8_item 26 = .ok (.invokevirtual 259, 3) := by decide +kernel
theorem dX8_item_29 : decode cX8_item 29 = .ok (.istore 6, 2) := by decide +kernel
theorem dX8_item_31 : decode cX8_item 31 = .ok (.iload 6, 2) := by decide +kernel
theorem dX8_item_33 : decode cX8_item 33 = .ok (.ifCond .eq 6, 3) := by decide +kernel
theorem dX8_item_36 : decode cX8_item 36 = .ok (.iload 6, 2) := by decide +kernel
theorem dX8_item_38 : decode cX8_item 38 = .ok (.ireturn, 1) := by decide +kernel
theorem dX8_item_39 : decode cX8_item 39 = .ok (.aload_n 0, 1) := by decide +kernel
theorem dX8_item_40 : decode cX8_item 40 = .ok (.getfield 19, 3) := by decide +kernel
theorem dX8_item_43 : decode cX8_item 43 = .ok (.bipush 24, 2) := by decide +kernel
theorem dX8_item_45 : decode cX8_item 45 = .ok (.iload_n 1, 1) := by decide +kernel
theorem dX8_item_46 : decode cX8_item 46 = .ok (.imul, 1) := by decide +kernel
theorem dX8_item_47 : decode cX8_item 47 = .ok (.iload_n 3, 1) := by decide +kernel
theorem dX8_item_48 : decode cX8_item 48 = .ok (.iadd, 1) := by decide +kernel
theorem dX8_item_49 : decode cX8_item 49 = .ok (.iload_n 2, 1) := by decide +kernel
theorem dX8_item_50 : decode cX8_item 50 = .ok (.lload 4, 2) := by decide +kernel
theorem dX8_item_52 : decode cX8_item 52 = .ok (.invokestatic 268, 3) := by decide +kernel
theorem dX8_item_55 : decode cX8_item 55 = .ok (.lastore, 1) := by decide +kernel
theorem dX8_item_56 : decode cX8_item 56 = .ok (.iconst 1, 1) := by decide +kernel
theorem dX8_item_57 : decode cX8_item 57 = .ok (.ireturn, 1) := by decide +kernel
theorem dX8_copy_0 : decode cX8_copy 0 = .ok (.iload_n 1, 1) := by decide +kernel
theorem dX8_copy_1 : decode cX8_copy 1 = .ok (.invokestatic 254, 3) := by decide +kernel
theorem dX8_copy_4 : decode cX8_copy 4 = .ok (.ifCond .eq 10, 3) := by decide +kernel
theorem dX8_copy_7 : decode cX8_copy 7 = .ok (.iload_n 3, 1) := by decide +kernel
theorem dX8_copy_8 : decode cX8_copy 8 = .ok (.invokestatic 254, 3) := by decide +kernel
theorem dX8_copy_11 : decode cX8_copy 11 = .ok (.ifCond .ne 5, 3) := by decide +kernel
theorem dX8_copy_14 : decode cX8_copy 14 = .ok (.iconst (-1), 1) := by decide +kernel
theorem dX8_copy_15 : decode cX8_copy 15 = .ok (.ireturn, 1) := by decide +kernel
theorem dX8_copy_16 : decode cX8_copy 16 = .ok (.aload_n 0, 1) := by decide +kernel
theorem dX8_copy_17 : decode cX8_copy 17 = .ok (.getfield 16, 3) := by decide +kernel
theorem dX8_copy_20 : decode cX8_copy 20 = .ok (.iload_n 1, 1) := by decide +kernel
theorem dX8_copy_21 : decode cX8_copy 21 = .ok (.iaload, 1) := by decide +kernel
theorem dX8_copy_22 : decode cX8_copy 22 = .ok (.ifCond .lt 12, 3) := by decide +kernel
theorem dX8_copy_25 : decode cX8_copy 25 = .ok (.aload_n 0, 1) := by decide +kernel
theorem dX8_copy_26 : decode cX8_copy 26 = .ok (.getfield 16, 3) := by decide +kernel
theorem dX8_copy_29 : decode cX8_copy 29 = .ok (.iload_n 3, 1) := by decide +kernel
theorem dX8_copy_30 : decode cX8_copy 30 = .ok (.iaload, 1) := by decide +kernel
theorem dX8_copy_31 : decode cX8_copy 31 = .ok (.ifCond .ge 6, 3) := by decide +kernel
theorem dX8_copy_34 : decode cX8_copy 34 = .ok (.bipush (-11), 2) := by decide +kernel
theorem dX8_copy_36 : decode cX8_copy 36 = .ok (.ireturn, 1) := by decide +kernel
theorem dX8_copy_37 : decode cX8_copy 37 = .ok (.aload_n 0, 1) := by decide +kernel
theorem dX8_copy_38 : decode cX8_copy 38 = .ok (.getfield 13, 3) := by decide +kernel
theorem dX8_copy_41 : decode cX8_copy 41 = .ok (.iload_n 1, 1) := by decide +kernel
theorem dX8_copy_42 : decode cX8_copy 42 = .ok (.iaload, 1) := by decide +kernel
theorem dX8_copy_43 : decode cX8_copy 43 = .ok (.aload_n 0, 1) := by decide +kernel
theorem dX8_copy_44 : decode cX8_copy 44 = .ok (.getfield 13, 3) := by decide +kernel
theorem dX8_copy_47 : decode cX8_copy 47 = .ok (.iload_n 3, 1) := by decide +kernel
theorem dX8_copy_48 : decode cX8_copy 48 = .ok (.iaload, 1) := by decide +kernel
theorem dX8_copy_49 : decode cX8_copy 49 = .ok (.if_icmp .eq 6, 3) := by decide +kernel
theorem dX8_copy_52 : decode cX8_copy 52 = .ok (.bipush (-12), 2) := by decide +kernel
theorem dX8_copy_54 : decode cX8_copy 54 = .ok (.ireturn, 1) := by decide +kernel
theorem dX8_copy_55 : decode cX8_copy 55 = .ok (.aload_n 0, 1) := by decide +kernel
theorem dX8_copy_56 : decode cX8_copy 56 = .ok (.iload_n 1, 1) := by decide +kernel
theorem dX8_copy_57 : decode cX8_copy 57 = .ok (.iload_n 2, 1) := by decide +kernel
theorem dX8_copy_58 : decode cX8_copy 58 = .ok (.iload 5, 2) := by decide +kernel
theorem dX8_copy_60 : decode cX8_copy 60 = .ok (.invokevirtual 250, 3) := by decide +kernel
theorem dX8_copy_63 : decode cX8_copy 63 = .ok (.ifCond .eq 15, 3) := by decide +kernel
theorem dX8_copy_66 : decode cX8_copy 66 = .ok (.aload_n 0, 1) := by decide +kernel
theorem dX8_copy_67 : decode cX8_copy 67 = .ok (.iload_n 3, 1) := by decide +kernel
theorem dX8_copy_68 : decode cX8_copy 68 = .ok (.iload 4, 2) := by decide +kernel
theorem dX8_copy_70 : decode cX8_copy 70 = .ok (.iload 5, 2) := by decide +kernel
theorem dX8_copy_72 : decode cX8_copy 72 = .ok (.invokevirtual 250, 3) := by decide +kernel
theorem dX8_copy_75 : decode cX8_copy 75 = .ok (.ifCond .ne 6, 3) := by decide +kernel
theorem dX8_copy_78 : decode cX8_copy 78 = .ok (.bipush (-13), 2) := by decide +kernel
theorem dX8_copy_80 : decode cX8_copy 80 = .ok (.ireturn, 1) := by decide +kernel
theorem dX8_copy_81 : decode cX8_copy 81 = .ok (.iconst 0, 1) := by decide +kernel
theorem dX8_copy_82 : decode cX8_copy 82 = .ok (.istore 6, 2) := by decide +kernel
theorem dX8_copy_84 : decode cX8_copy 84 = .ok (.iload 6, 2) := by decide +kernel
theorem dX8_copy_86 : decode cX8_copy 86 = .ok (.iload 5, 2) := by decide +kernel
theorem dX8_copy_88 : decode cX8_copy 88 = .ok (.if_icmp .ge 30, 3) := by decide +kernel
theorem dX8_copy_91 : decode cX8_copy 91 = .ok (.aload_n 0, 1) := by decide +kernel
theorem dX8_copy_92 : decode cX8_copy 92 = .ok (.getfield 44, 3) := by decide +kernel
theorem dX8_copy_95 : decode cX8_copy 95 = .ok (.iload 6, 2) := by decide +kernel
theorem dX8_copy_97 : decode cX8_copy 97 = .ok (.aload_n 0, 1) := by decide +kernel
theorem dX8_copy_98 : decode cX8_copy 98 = .ok (.getfield 19, 3) := by decide +kernel
theorem dX8_copy_101 : decode cX8_copy 101 = .ok (.bipush 24, 2) := by decide +kernel
theorem dX8_copy_103 : decode cX8_copy 103 = .ok (.iload_n 1, 1) := by decide +kernel
theorem dX8_copy_104 : decode cX8_copy 104 = .ok (.imul, 1) := by decide +kernel
theorem dX8_copy_105 : decode cX8_copy 105 = .ok (.iload_n 2, 1) := by decide +kernel
theorem dX8_copy_106 : decode cX8_copy 106 = .ok (.iadd, 1) := by decide +kernel
theorem dX8_copy_107 : decode cX8_copy 107 = .ok (.iload 6, 2) := by decide +kernel
theorem dX8_copy_109 : decode cX8_copy 109 = .ok (.iadd, 1) := by decide +kernel
theorem dX8_copy_110 : decode cX8_copy 110 = .ok (.laload, 1) := by decide +kernel
theorem dX8_copy_111 : decode cX8_copy 111 = .ok (.lastore, 1) := by decide +kernel
theorem dX8_copy_112 : decode cX8_copy 112 = .ok (.iinc 6 1, 3) := by decide +kernel
theorem dX8_copy_115 : decode cX8_copy 115 = .ok (.goto (-31), 3) := by decide +kernel
theorem dX8_copy_118 : decode cX8_copy 118 = .ok (.iconst 0, 1) := by decide +kernel
theorem dX8_copy_119 : decode cX8_copy 119 = .ok (.istore 6, 2) := by decide +kernel
theorem dX8_copy_121 : decode cX8_copy 121 = .ok (.iload 6, 2) := by decide +kernel
theorem dX8_copy_123 : decode cX8_copy 123 = .ok (.iload 5, 2) := by decide +kernel
theorem dX8_copy_125 : decode cX8_copy 125 = .ok (.if_icmp .ge 31, 3) := by decide +kernel
theorem dX8_copy_128 : decode cX8_copy 128 = .ok (.aload_n 0, 1) := by decide +kernel
theorem dX8_copy_129 : decode cX8_copy 129 = .ok (.getfield 19, 3) := by decide +kernel
theorem dX8_copy_132 : decode cX8_copy 132 = .ok (.bipush 24, 2) := by decide +kernel
theorem dX8_copy_134 : decode cX8_copy 134 = .ok (.iload_n 3, 1) := by decide +kernel
theorem dX8_copy_135 : decode cX8_copy 135 = .ok (.imul, 1) := by decide +kernel
theorem dX8_copy_136 : decode cX8_copy 136 = .ok (.iload 4, 2) := by decide +kernel
theorem dX8_copy_138 : decode cX8_copy 138 = .ok (.iadd, 1) := by decide +kernel
theorem dX8_copy_139 : decode cX8_copy 139 = .ok (.iload 6, 2) := by decide +kernel
theorem dX8_copy_141 : decode cX8_copy 141 = .ok (.iadd, 1) := by decide +kernel
theorem dX8_copy_142 : decode cX8_copy 142 = .ok (.aload_n 0, 1) := by decide +kernel
theorem dX8_copy_143 : decode cX8_copy 143 = .ok (.getfield 44, 3) := by decide +kernel
theorem dX8_copy_146 : decode cX8_copy 146 = .ok (.iload 6, 2) := by decide +kernel
theorem dX8_copy_148 : decode cX8_copy 148 = .ok (.laload, 1) := by decide +kernel
theorem dX8_copy_149 : decode cX8_copy 149 = .ok (.lastore, 1) := by decide +kernel
theorem dX8_copy_150 : decode cX8_copy 150 = .ok (.iinc 6 1, 3) := by decide +kernel
theorem dX8_copy_153 : decode cX8_copy 153 = .ok (.goto (-32), 3) := by decide +kernel
theorem dX8_copy_156 : decode cX8_copy 156 = .ok (.iload 5, 2) := by decide +kernel
theorem dX8_copy_158 : decode cX8_copy 158 = .ok (.ireturn, 1) := by decide +kernel
