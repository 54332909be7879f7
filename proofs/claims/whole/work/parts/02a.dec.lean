theorem dJ11_isValidCodePoint_9a6ad_0 : decode cJ11_isValidCodePoint_9a6ad 0 = .ok (.iload_n 0, 1) := by decide +kernel
theorem dJ11_isValidCodePoint_9a6ad_1 : decode cJ11_isValidCodePoint_9a6ad 1 = .ok (.bipush 16, 2) := by decide +kernel
theorem dJ11_isValidCodePoint_9a6ad_3 : decode cJ11_isValidCodePoint_9a6ad 3 = .ok (.iushr, 1) := by decide +kernel
theorem dJ11_isValidCodePoint_9a6ad_4 : decode cJ11_isValidCodePoint_9a6ad 4 = .ok (.istore_n 1, 1) := by decide +kernel
theorem dJ11_isValidCodePoint_9a6ad_5 : decode cJ11_isValidCodePoint_9a6ad 5 = .ok (.iload_n 1, 1) := by decide +kernel
theorem dJ11_isValidCodePoint_9a6ad_6 : decode cJ11_isValidCodePoint_9a6ad 6 = .ok (.bipush 17, 2) := by decide +kernel
theorem dJ11_isValidCodePoint_9a6ad_8 : decode cJ11_isValidCodePoint_9a6ad 8 = .ok (.if_icmp .ge 7, 3) := by decide +kernel
theorem dJ11_isValidCodePoint_9a6ad_11 : decode cJ11_isValidCodePoint_9a6ad 11 = .ok (.iconst 1, 1) := by decide +kernel
theorem dJ11_isValidCodePoint_9a6ad_12 : decode cJ11_isValidCodePoint_9a6ad 12 = .ok (.goto 4, 3) := by decide +kernel
theorem dJ11_isValidCodePoint_9a6ad_15 : decode cJ11_isValidCodePoint_9a6ad 15 = .ok (.iconst 0, 1) := by decide +kernel
theorem dJ11_isValidCodePoint_9a6ad_16 : decode cJ11_isValidCodePoint_9a6ad 16 = .ok (.ireturn, 1) := by decide +kernel
theorem dJ11_highSurrogate_5068e_0 : decode cJ11_highSurrogate_5068e 0 = .ok (.iload_n 0, 1) := by decide +kernel
theorem dJ11_highSurrogate_5068e_1 : decode cJ11_highSurrogate_5068e 1 = .ok (.bipush 10, 2) := by decide +kernel
theorem dJ11_highSurrogate_5068e_3 : decode cJ11_highSurrogate_5068e 3 = .ok (.iushr, 1) := by decide +kernel
theorem dJ11_highSurrogate_5068e_4 : decode cJ11_highSurrogate_5068e 4 = .ok (.ldc 110, 2) := by decide +kernel
theorem dJ11_highSurrogate_5068e_6 : decode cJ11_highSurrogate_5068e 6 = .ok (.iadd, 1) := by decide +kernel
theorem dJ11_highSurrogate_5068e_7 : decode cJ11_highSurrogate_5068e 7 = .ok (.i2c, 1) := by decide +kernel
theorem dJ11_highSurrogate_5068e_8 : decode cJ11_highSurrogate_5068e 8 = .ok (.ireturn, 1) := by decide +kernel
theorem dJ11_lowSurrogate_5068e_0 : decode cJ11_lowSurrogate_5068e 0 = .ok (.iload_n 0, 1) := by decide +kernel
theorem dJ11_lowSurrogate_5068e_1 : decode cJ11_lowSurrogate_5068e 1 = .ok (.sipush 1023, 3) := by decide +kernel
theorem dJ11_lowSurrogate_5068e_4 : decode cJ11_lowSurrogate_5068e 4 = .ok (.iand, 1) := by decide +kernel
theorem dJ11_lowSurrogate_5068e_5 : decode cJ11_lowSurrogate_5068e 5 = .ok (.ldc 76, 2) := by decide +kernel
theorem dJ11_lowSurrogate_5068e_7 : decode cJ11_lowSurrogate_5068e 7 = .ok (.iadd, 1) := by decide +kernel
theorem dJ11_lowSurrogate_5068e_8 : decode cJ11_lowSurrogate_5068e 8 = .ok (.i2c, 1) := by decide +kernel
theorem dJ11_lowSurrogate_5068e_9 : decode cJ11_lowSurrogate_5068e 9 = .ok (.ireturn, 1) := by decide +kernel
theorem dJ6_bitCount_0f7a4_0 : decode cJ6_bitCount_0f7a4 0 = .ok (.iload_n 0, 1) := by decide +kernel
theorem dJ6_bitCount_0f7a4_1 : decode cJ6_bitCount_0f7a4 1 = .ok (.iload_n 0, 1) := by decide +kernel
theorem dJ6_bitCount_0f7a4_2 : decode cJ6_bitCount_0f7a4 2 = .ok (.iconst 1, 1) := by decide +kernel
theorem dJ6_bitCount_0f7a4_3 : decode cJ6_bitCount_0f7a4 3 = .ok (.iushr, 1) := by decide +kernel
theorem dJ6_bitCount_0f7a4_4 : decode cJ6_bitCount_0f7a4 4 = .ok (.ldc_w 265, 3) := by decide +kernel
theorem dJ6_bitCount_0f7a4_7 : decode cJ6_bitCount_0f7a4 7 = .ok (.iand, 1) := by decide +kernel
theorem dJ6_bitCount_0f7a4_8 : decode cJ6_bitCount_0f7a4 8 = .ok (.isub, 1) := by decide +kernel
theorem dJ6_bitCount_0f7a4_9 : decode cJ6_bitCount_0f7a4 9 = .ok (.istore_n 0, 1) := by decide +kernel
theorem dJ6_bitCount_0f7a4_10 : decode cJ6_bitCount_0f7a4 10 = .ok (.iload_n 0, 1) := by decide +kernel
theorem dJ6_bitCount_0f7a4_11 : decode cJ6_bitCount_0f7a4 11 = .ok (.ldc_w 266, 3) := by decide +kernel
theorem dJ6_bitCount_0f7a4_14 : decode cJ6_bitCount_0f7a4 14 = .ok (.iand, 1) := by decide +kernel
theorem dJ6_bitCount_0f7a4_15 : decode cJ6_bitCount_0f7a4 15 = .ok (.iload_n 0, 1) := by decide +kernel
theorem dJ6_bitCount_0f7a4_16 : decode cJ6_bitCount_0f7a4 16 = .ok (.iconst 2, 1) := by decide +kernel
theorem dJ6_bitCount_0f7a4_17 : decode cJ6_bitCount_0f7a4 17 = .ok (.iushr, 1) := by decide +kernel
theorem dJ6_bitCount_0f7a4_18 : decode cJ6_bitCount_0f7a4 18 = .ok (.ldc_w 266, 3) := by decide +kernel
theorem dJ6_bitCount_0f7a4_21 : decode cJ6_bitCount_0f7a4 21 = .ok (.iand, 1) := by decide +kernel
theorem dJ6_bitCount_0f7a4_22 : decode cJ6_bitCount_0f7a4 22 = .ok (.iadd, 1) := by decide +kernel
theorem dJ6_bitCount_0f7a4_23 : decode cJ6_bitCount_0f7a4 23 = .ok (.istore_n 0, 1) := by decide +kernel
theorem dJ6_bitCount_0f7a4_24 : decode cJ6_bitCount_0f7a4 24 = .ok (.iload_n 0, 1) := by decide +kernel
theorem dJ6_bitCount_0f7a4_25 : decode cJ6_bitCount_0f7a4 25 = .ok (.iload_n 0, 1) := by decide +kernel
theorem dJ6_bitCount_0f7a4_26 : decode cJ6_bitCount_0f7a4 26 = .ok (.iconst 4, 1) := by decide +kernel
theorem dJ6_bitCount_0f7a4_27 : decode cJ6_bitCount_0f7a4 27 = .ok (.iushr, 1) := by decide +kernel
theorem dJ6_bitCount_0f7a4_28 : decode cJ6_bitCount_0f7a4 28 = .ok (.iadd, 1) := by decide +kernel
theorem dJ6_bitCount_0f7a4_29 : decode cJ6_bitCount_0f7a4 29 = .ok (.ldc_w 267, 3) := by decide +kernel
theorem dJ6_bitCount_0f7a4_32 : decode cJ6_bitCount_0f7a4 32 = .ok (.iand, 1) := by decide +kernel
theorem dJ6_bitCount_0f7a4_33 : decode cJ6_bitCount_0f7a4 33 = .ok (.istore_n 0, 1) := by decide +kernel
theorem dJ6_bitCount_0f7a4_34 : decode cJ6_bitCount_0f7a4 34 = .ok (.iload_n 0, 1) := by decide +kernel
theorem dJ6_bitCount_0f7a4_35 : decode cJ6_bitCount_0f7a4 35 = .ok (.iload_n 0, 1) := by decide +kernel
theorem dJ6_bitCount_0f7a4_36 : decode cJ6_bitCount_0f7a4 36 = .ok (.bipush 8, 2) := by decide +kernel
theorem dJ6_bitCount_0f7a4_38 : decode cJ6_bitCount_0f7a4 38 = .ok (.iushr, 1) := by decide +kernel
theorem dJ6_bitCount_0f7a4_39 : decode cJ6_bitCount_0f7a4 39 = .ok (.iadd, 1) := by decide +kernel
theorem dJ6_bitCount_0f7a4_40 : decode cJ6_bitCount_0f7a4 40 = .ok (.istore_n 0, 1) := by decide +kernel
theorem dJ6_bitCount_0f7a4_41 : decode cJ6_bitCount_0f7a4 41 = .ok (.iload_n 0, 1) := by decide +kernel
theorem dJ6_bitCount_0f7a4_42 : decode cJ6_bitCount_0f7a4 42 = .ok (.iload_n 0, 1) := by decide +kernel
theorem dJ6_bitCount_0f7a4_43 : decode cJ6_bitCount_0f7a4 43 = .ok (.bipush 16, 2) := by decide +kernel
theorem dJ6_bitCount_0f7a4_45 : decode cJ6_bitCount_0f7a4 45 = .ok (.iushr, 1) := by decide +kernel
theorem dJ6_bitCount_0f7a4_46 : decode cJ6_bitCount_0f7a4 46 = .ok (.iadd, 1) := by decide +kernel
theorem dJ6_bitCount_0f7a4_47 : decode cJ6_bitCount_0f7a4 47 = .ok (.istore_n 0, 1) := by decide +kernel
theorem dJ6_bitCount_0f7a4_48 : decode cJ6_bitCount_0f7a4 48 = .ok (.iload_n 0, 1) := by decide +kernel
theorem dJ6_bitCount_0f7a4_49 : decode cJ6_bitCount_0f7a4 49 = .ok (.bipush 63, 2) := by decide +kernel
theorem dJ6_bitCount_0f7a4_51 : decode cJ6_bitCount_0f7a4 51 = .ok (.iand, 1) := by decide +kernel
theorem dJ6_bitCount_0f7a4_52 : decode cJ6_bitCount_0f7a4 52 = .ok (.ireturn, 1) := by decide +kernel
theorem dJ9_max_7cf53_0 : decode cJ9_max_7cf53 0 = .ok (.iload_n 0, 1) := by decide +kernel
theorem dJ9_max_7cf53_1 : decode cJ9_max_7cf53 1 = .ok (.iload_n 1, 1) := by decide +kernel
theorem dJ9_max_7cf53_2 : decode cJ9_max_7cf53 2 = .ok (.if_icmp .lt 7, 3) := by decide +kernel
theorem dJ9_max_7cf53_5 : decode cJ9_max_7cf53 5 = .ok (.iload_n 0, 1) := by decide +kernel
theorem dJ9_max_7cf53_6 : decode cJ9_max_7cf53 6 = .ok (.goto 4, 3) := by decide +kernel
theorem dJ9_max_7cf53_9 : decode cJ9_max_7cf53 9 = .ok (.iload_n 1, 1) := by decide +kernel
theorem dJ9_max_7cf53_10 : decode cJ9_max_7cf53 10 = .ok (.ireturn, 1) := by decide +kernel
theorem dJ9_min_7cf53_0 : decode cJ9_min_7cf53 0 = .ok (.iload_n 0, 1) := by decide +kernel
theorem dJ9_min_7cf53_1 : decode cJ9_min_7cf53 1 = .ok (.iload_n 1, 1) := by decide +kernel
theorem dJ9_min_7cf53_2 : decode cJ9_min_7cf53 2 = .ok (.if_icmp .gt 7, 3) := by decide +kernel
theorem dJ9_min_7cf53_5 : decode cJ9_min_7cf53 5 = .ok (.iload_n 0, 1) := by decide +kernel
theorem dJ9_min_7cf53_6 : decode cJ9_min_7cf53 6 = .ok (.goto 4, 3) := by decide +kernel
theorem dJ9_min_7cf53_9 : decode cJ9_min_7cf53 9 = .ok (.iload_n 1, 1) := by decide +kernel
theorem dJ9_min_7cf53_10 : decode cJ9_min_7cf53 10 = .ok (.ireturn, 1) := by decide +kernel
theorem dJ0_length_8abf5_0 : decode cJ0_length_8abf5 0 = .ok (.aload_n 0, 1) := by decide +kernel
theorem dJ0_length_8abf5_1 : decode cJ0_length_8abf5 1 = .ok (.getfield 9, 3) := by decide +kernel
theorem dJ0_length_8abf5_4 : decode cJ0_length_8abf5 4 = .ok (.arraylength, 1) := by decide +kernel
theorem dJ0_length_8abf5_5 : decode cJ0_length_8abf5 5 = .ok (.aload_n 0, 1) := by decide +kernel
theorem dJ0_length_8abf5_6 : decode cJ0_length_8abf5 6 = .ok (.invokevirtual 335, 3) := by decide +kernel
theorem dJ0_length_8abf5_9 : decode cJ0_length_8abf5 9 = .ok (.ishr, 1) := by decide +kernel
theorem dJ0_length_8abf5_10 : decode cJ0_length_8abf5 10 = .ok (.ireturn, 1) := by decide +kernel
theorem dJ0_indexOf_0f7a4_0 : decode cJ0_indexOf_0f7a4 0 = .ok (.aload_n 0, 1) := by decide +kernel
theorem dJ0_indexOf_0f7a4_1 : decode cJ0_indexOf_0f7a4 1 = .ok (.iload_n 1, 1) := by decide +kernel
theorem dJ0_indexOf_0f7a4_2 : decode cJ0_indexOf_0f7a4 2 = .ok (.iconst 0, 1) := by decide +kernel
theorem dJ0_indexOf_0f7a4_3 : decode cJ0_indexOf_0f7a4 3 = .ok (.invokevirtual 633, 3) := by decide +kernel
theorem dJ0_indexOf_0f7a4_6 : decode cJ0_indexOf_0f7a4 6 = .ok (.ireturn, 1) := by decide +kernel
theorem dJ0_indexOf_7cf53_0 : decode cJ0_indexOf_7cf53 0 = .ok (.aload_n 0, 1) := by decide +kernel
theorem dJ0_indexOf_7cf53_1 : decode cJ0_indexOf_7cf53 1 = .ok (.invokevirtual 492, 3) := by decide +kernel
theorem dJ0_indexOf_7cf53_4 : decode cJ0_indexOf_7cf53 4 = .ok (.ifCond .eq 19, 3) := by decide +kernel
theorem dJ0_indexOf_7cf53_7 : decode cJ0_indexOf_7cf53 7 = .ok (.aload_n 0, 1) := by decide +kernel
theorem dJ0_indexOf_7cf53_8 : decode cJ0_indexOf_7cf53 8 = .ok (.getfield 9, 3) := by decide +kernel
theorem dJ0_indexOf_7cf53_11 : decode cJ0_indexOf_7cf53 11 = .ok (.iload_n 1, 1) := by decide +kernel
theorem dJ0_indexOf_7cf53_12 : decode cJ0_indexOf_7cf53 12 = .ok (.iload_n 2, 1) := by decide +kernel
theorem dJ0_indexOf_7cf53_13 : decode cJ0_indexOf_7cf53 13 = .ok (.aload_n 0, 1) := by decide +kernel
theorem dJ0_indexOf_7cf53_14 : decode cJ0_indexOf_7cf53 14 = .ok (.invokevirtual 505, 3) := by decide +kernel
theorem dJ0_indexOf_7cf53_17 : decode cJ0_indexOf_7cf53 17 = .ok (.invokestatic 637, 3) := by decide +kernel
theorem dJ0_indexOf_7cf53_20 : decode cJ0_indexOf_7cf53 20 = .ok (.goto 16, 3) := by decide +kernel
theorem dJ0_indexOf_7cf53_23 : decode cJ0_indexOf_7cf53 23 = .ok (.aload_n 0, 1) := by decide +kernel
theorem dJ0_indexOf_7cf53_24 : decode cJ0_indexOf_7cf53 24 = .ok (.getfield 9, 3) := by decide +kernel
theorem dJ0_indexOf_7cf53_27 : decode cJ0_indexOf_7cf53 27 = .ok (.iload_n 1, 1) := by decide +kernel
theorem dJ0_indexOf_7cf53_28 : decode cJ0_indexOf_7cf53 28 = .ok (.iload_n 2, 1) := by decide +kernel
theorem dJ0_indexOf_7cf53_29 : decode cJ0_indexOf_7cf53 29 = .ok (.aload_n 0, 1) := by decide +kernel
theorem dJ0_indexOf_7cf53_30 : decode cJ0_indexOf_7cf53 30 = .ok (.invokevirtual 505, 3) := by decide +kernel
theorem dJ0_indexOf_7cf53_33 : decode cJ0_indexOf_7cf53 33 = .ok (.invokestatic 640, 3) := by decide +kernel
theorem dJ0_indexOf_7cf53_36 : decode cJ0_indexOf_7cf53 36 = .ok (.ireturn, 1) := by decide +kernel
theorem dJ0_coder_7d493_0 : decode cJ0_coder_7d493 0 = .ok (.getstatic 38, 3) := by decide +kernel
theorem dJ0_coder_7d493_3 : decode cJ0_coder_7d493 3 = .ok (.ifCond .eq 10, 3) := by decide +kernel
theorem dJ0_coder_7d493_6 : decode cJ0_coder_7d493 6 = .ok (.aload_n 0, 1) := by decide +kernel
theorem dJ0_coder_7d493_7 : decode cJ0_coder_7d493 7 = .ok (.getfield 15, 3) := by decide +kernel
theorem dJ0_coder_7d493_10 : decode cJ0_coder_7d493 10 = .ok (.goto 4, 3) := by decide +kernel
theorem dJ0_coder_7d493_13 : decode cJ0_coder_7d493 13 = .ok (.iconst 1, 1) := by decide +kernel
theorem dJ0_coder_7d493_14 : decode cJ0_coder_7d493 14 = .ok (.ireturn, 1) := by decide +kernel
theorem dJ0_isLatin1_aae02_0 : decode cJ0_isLatin1_aae02 0 = .ok (.getstatic 38, 3) := by decide +kernel
theorem dJ0_isLatin1_aae02_3 : decode cJ0_isLatin1_aae02 3 = .ok (.ifCond .eq 14, 3) := by decide +kernel
theorem dJ0_isLatin1_aae02_6 : decode cJ0_isLatin1_aae02 6 = .ok (.aload_n 0, 1) := by decide +kernel
theorem dJ0_isLatin1_aae02_7 : decode cJ0_isLatin1_aae02 7 = .ok (.getfield 15, 3) := by decide +kernel
theorem dJ0_isLatin1_aae02_10 : decode cJ0_isLatin1_aae02 10 = .ok (.ifCond .ne 7, 3) := by decide +kernel
theorem dJ0_isLatin1_aae02_13 : decode cJ0_isLatin1_aae02 13 = .ok (.iconst 1, 1) := by decide +kernel
theorem dJ0_isLatin1_aae02_14 : decode cJ0_isLatin1_aae02 14 = .ok (.goto 4, 3) := by decide +kernel
theorem dJ0_isLatin1_aae02_17 : decode cJ0_isLatin1_aae02 17 = .ok (.iconst 0, 1) := by decide +kernel
theorem dJ0_isLatin1_aae02_18 : decode cJ0_isLatin1_aae02 18 = .ok (.ireturn, 1) := by decide +kernel
theorem dJ0_checkBoundsBeginEnd_23922_0 : decode cJ0_checkBoundsBeginEnd_23922 0 = .ok (.iload_n 0, 1) := by decide +kernel
theorem dJ0_checkBoundsBeginEnd_23922_1 : decode cJ0_checkBoundsBeginEnd_23922 1 = .ok (.iload_n 1, 1) := by decide +kernel
theorem dJ0_checkBoundsBeginEnd_23922_2 : decode cJ0_checkBoundsBeginEnd_23922 2 = .ok (.iload_n 2, 1) := by decide +kernel
theorem dJ0_checkBoundsBeginEnd_23922_3 : decode cJ0_checkBoundsBeginEnd_23922 3 = .ok (.getstatic 1053, 3) := by decide +kernel
theorem dJ0_checkBoundsBeginEnd_23922_6 : decode cJ0_checkBoundsBeginEnd_23922 6 = .ok (.invokestatic 1062, 3) := by decide +kernel
theorem dJ0_checkBoundsBeginEnd_23922_9 : decode cJ0_checkBoundsBeginEnd_23922 9 = .ok (.pop, 1) := by decide +kernel
theorem dJ0_checkBoundsBeginEnd_23922_10 : decode cJ0_checkBoundsBeginEnd_23922 10 = .ok (.return_, 1) := by decide +kernel
theorem dJ1_canEncode_9a6ad_0 : decode cJ1_canEncode_9a6ad 0 = .ok (.iload_n 0, 1) := by decide +kernel
theorem dJ1_canEncode_9a6ad_1 : decode cJ1_canEncode_9a6ad 1 = .ok (.ifCond .lt 14, 3) := by decide +kernel
theorem dJ1_canEncode_9a6ad_4 : decode cJ1_canEncode_9a6ad 4 = .ok (.iload_n 0, 1) := by decide +kernel
theorem dJ1_canEncode_9a6ad_5 : decode cJ1_canEncode_9a6ad 5 = .ok (.sipush 255, 3) := by decide +kernel
theorem dJ1_canEncode_9a6ad_8 : decode cJ1_canEncode_9a6ad 8 = .ok (.if_icmp .gt 7, 3) := by decide +kernel
theorem dJ1_canEncode_9a6ad_11 : decode cJ1_canEncode_9a6ad 11 = .ok (.iconst 1, 1) := by decide +kernel
theorem dJ1_canEncode_9a6ad_12 : decode cJ1_canEncode_9a6ad 12 = .ok (.goto 4, 3) := by decide +kernel
theorem dJ1_canEncode_9a6ad_15 : decode cJ1_canEncode_9a6ad 15 = .ok (.iconst 0, 1) := by decide +kernel
theorem dJ1_canEncode_9a6ad_16 : decode cJ1_canEncode_9a6ad 16 = .ok (.ireturn, 1) := by decide +kernel
theorem dJ1_indexOf_4cfef_0 : decode cJ1_indexOf_4cfef 0 = .ok (.iload_n 1, 1) := by decide +kernel
theorem dJ1_indexOf_4cfef_1 : decode cJ1_indexOf_4cfef 1 = .ok (.invokestatic 88, 3) := by decide +kernel
theorem dJ1_indexOf_4cfef_4 : decode cJ1_indexOf_4cfef 4 = .ok (.ifCond .ne 5, 3) := by decide +kernel
theorem dJ1_indexOf_4cfef_7 : decode cJ1_indexOf_4cfef 7 = .ok (.iconst (-1), 1) := by decide +kernel
theorem dJ1_indexOf_4cfef_8 : decode cJ1_indexOf_4cfef 8 = .ok (.ireturn, 1) := by decide +kernel
theorem dJ1_indexOf_4cfef_9 : decode cJ1_indexOf_4cfef 9 = .ok (.iload_n 2, 1) := by decide +kernel
theorem dJ1_indexOf_4cfef_10 : decode cJ1_indexOf_4cfef 10 = .ok (.iconst 0, 1) := by decide +kernel
theorem dJ1_indexOf_4cfef_11 : decode cJ1_indexOf_4cfef 11 = .ok (.invokestatic 92, 3) := by decide +kernel
theorem dJ1_indexOf_4cfef_14 : decode cJ1_indexOf_4cfef 14 = .ok (.istore_n 2, 1) := by decide +kernel
theorem dJ1_indexOf_4cfef_15 : decode cJ1_indexOf_4cfef 15 = .ok (.iload_n 3, 1) := by decide +kernel
theorem dJ1_indexOf_4cfef_16 : decode cJ1_indexOf_4cfef 16 = .ok (.aload_n 0, 1) := by decide +kernel
theorem dJ1_indexOf_4cfef_17 : decode cJ1_indexOf_4cfef 17 = .ok (.arraylength, 1) := by decide +kernel
theorem dJ1_indexOf_4cfef_18 : decode cJ1_indexOf_4cfef 18 = .ok (.invokestatic 38, 3) := by decide +kernel
theorem dJ1_indexOf_4cfef_21 : decode cJ1_indexOf_4cfef 21 = .ok (.istore_n 3, 1) := by decide +kernel
theorem dJ1_indexOf_4cfef_22 : decode cJ1_indexOf_4cfef 22 = .ok (.iload_n 2, 1) := by decide +kernel
theorem dJ1_indexOf_4cfef_23 : decode cJ1_indexOf_4cfef 23 = .ok (.iload_n 3, 1) := by decide +kernel
theorem dJ1_indexOf_4cfef_24 : decode cJ1_indexOf_4cfef 24 = .ok (.if_icmp .lt 5, 3) := by decide +kernel
theorem dJ1_indexOf_4cfef_27 : decode cJ1_indexOf_4cfef 27 = .ok (.iconst (-1), 1) := by decide +kernel
theorem dJ1_indexOf_4cfef_28 : decode cJ1_indexOf_4cfef 28 = .ok (.ireturn, 1) := by decide +kernel
theorem dJ1_indexOf_4cfef_29 : decode cJ1_indexOf_4cfef 29 = .ok (.aload_n 0, 1) := by decide +kernel
theorem dJ1_indexOf_4cfef_30 : decode cJ1_indexOf_4cfef 30 = .ok (.iload_n 1, 1) := by decide +kernel
theorem dJ1_indexOf_4cfef_31 : decode cJ1_indexOf_4cfef 31 = .ok (.iload_n 2, 1) := by decide +kernel
theorem dJ1_indexOf_4cfef_32 : decode cJ1_indexOf_4cfef 32 = .ok (.iload_n 3, 1) := by decide +kernel
theorem dJ1_indexOf_4cfef_33 : decode cJ1_indexOf_4cfef 33 = .ok (.invokestatic 95, 3) := by decide +kernel
theorem dJ1_indexOf_4cfef_36 : decode cJ1_indexOf_4cfef 36 = .ok (.ireturn, 1) := by decide +kernel
theorem dJ1_indexOfChar_4cfef_0 : decode cJ1_indexOfChar_4cfef 0 = .ok (.iload_n 1, 1) := by decide +kernel
theorem dJ1_indexOfChar_4cfef_1 : decode cJ1_indexOfChar_4cfef 1 = .ok (.i2b, 1) := by decide +kernel
theorem dJ1_indexOfChar_4cfef_2 : decode cJ1_indexOfChar_4cfef 2 = .ok (.istore 4, 2) := by decide +kernel
theorem dJ1_indexOfChar_4cfef_4 : decode cJ1_indexOfChar_4cfef 4 = .ok (.iload_n 2, 1) := by decide +kernel
theorem dJ1_indexOfChar_4cfef_5 : decode cJ1_indexOfChar_4cfef 5 = .ok (.istore 5, 2) := by decide +kernel
theorem dJ1_indexOfChar_4cfef_7 : decode cJ1_indexOfChar_4cfef 7 = .ok (.iload 5, 2) := by decide +kernel
theorem dJ1_indexOfChar_4cfef_9 : decode cJ1_indexOfChar_4cfef 9 = .ok (.iload_n 3, 1) := by decide +kernel
theorem dJ1_indexOfChar_4cfef_10 : decode cJ1_indexOfChar_4cfef 10 = .ok (.if_icmp .ge 21, 3) := by decide +kernel
theorem dJ1_indexOfChar_4cfef_13 : decode cJ1_indexOfChar_4cfef 13 = .ok (.aload_n 0, 1) := by decide +kernel
theorem dJ1_indexOfChar_4cfef_14 : decode cJ1_indexOfChar_4cfef 14 = .ok (.iload 5, 2) := by decide +kernel
theorem dJ1_indexOfChar_4cfef_16 : decode cJ1_indexOfChar_4cfef 16 = .ok (.baload, 1) := by decide +kernel
theorem dJ1_indexOfChar_4cfef_17 : decode cJ1_indexOfChar_4cfef 17 = .ok (.iload 4, 2) := by decide +kernel
theorem dJ1_indexOfChar_4cfef_19 : decode cJ1_indexOfChar_4cfef 19 = .ok (.if_icmp .ne 6, 3) := by decide +kernel
theorem dJ1_indexOfChar_4cfef_22 : decode cJ1_indexOfChar_4cfef 22 = .ok (.iload 5, 2) := by decide +kernel
theorem dJ1_indexOfChar_4cfef_24 : decode cJ1_indexOfChar_4cfef 24 = .ok (.ireturn, 1) := by decide +kernel
theorem dJ1_indexOfChar_4cfef_25 : decode cJ1_indexOfChar_4cfef 25 = .ok (.iinc 5 1, 3) := by decide +kernel
theorem dJ1_indexOfChar_4cfef_28 : decode cJ1_indexOfChar_4cfef 28 = .ok (.goto (-21), 3) := by decide +kernel
theorem dJ1_indexOfChar_4cfef_31 : decode cJ1_indexOfChar_4cfef 31 = .ok (.iconst (-1), 1) := by decide +kernel
theorem dJ1_indexOfChar_4cfef_32 : decode cJ1_indexOfChar_4cfef 32 = .ok (.ireturn, 1) := by decide +kernel
theorem dJ2_getChar_3b067_0 : decode cJ2_getChar_3b067 0 = .ok (.getstatic 44, 3) := by decide +kernel
theorem dJ2_getChar_3b067_3 : decode cJ2_getChar_3b067 3 = .ok (.ifCond .ne 25, 3) := by decide +kernel
theorem dJ2_getChar_3b067_6 : decode cJ2_getChar_3b067 6 = .ok (.iload_n 1, 1) := by decide +kernel
theorem dJ2_getChar_3b067_7 : decode cJ2_getChar_3b067 7 = .ok (.ifCond .lt 11, 3) := by decide +kernel
theorem dJ2_getChar_3b067_10 : decode cJ2_getChar_3b067 10 = .ok (.iload_n 1, 1) := by decide +kernel
theorem dJ2_getChar_3b067_11 : decode cJ2_getChar_3b067 11 = .ok (.aload_n 0, 1) := by decide +kernel
theorem dJ2_getChar_3b067_12 : decode cJ2_getChar_3b067 12 = .ok (.invokestatic 48, 3) := by decide +kernel
theorem dJ2_getChar_3b067_15 : decode cJ2_getChar_3b067 15 = .ok (.if_icmp .lt 13, 3) := by decide +kernel
theorem dJ2_getChar_3b067_18 : decode cJ2_getChar_3b067 18 = .ok (.new 52, 3) := by decide +kernel
theorem dJ2_getChar_3b067_21 : decode cJ2_getChar_3b067 21 = .ok (.dup, 1) := by decide +kernel
theorem dJ2_getChar_3b067_22 : decode cJ2_getChar_3b067 22 = .ok (.ldc 54, 2) := by decide +kernel
theorem dJ2_getChar_3b067_24 : decode cJ2_getChar_3b067 24 = .ok (.invokespecial 56, 3) := by decide +kernel
theorem dJ2_getChar_3b067_27 : decode cJ2_getChar_3b067 27 = .ok (.athrow, 1) := by decide +kernel
theorem dJ2_getChar_3b067_28 : decode cJ2_getChar_3b067 28 = .ok (.iload_n 1, 1) := by decide +kernel
theorem dJ2_getChar_3b067_29 : decode cJ2_getChar_3b067 29 = .ok (.iconst 1, 1) := by decide +kernel
theorem dJ2_getChar_3b067_30 : decode cJ2_getChar_3b067 30 = .ok (.ishl, 1) := by decide +kernel
theorem dJ2_getChar_3b067_31 : decode cJ2_getChar_3b067 31 = .ok (.istore_n 1, 1) := by decide +kernel
theorem dJ2_getChar_3b067_32 : decode cJ2_getChar_3b067 32 = .ok (.aload_n 0, 1) := by decide +kernel
theorem dJ2_getChar_3b067_33 : decode cJ2_getChar_3b067 33 = .ok (.iload_n 1, 1) := by decide +kernel
theorem dJ2_getChar_3b067_34 : decode cJ2_getChar_3b067 34 = .ok (.iinc 1 1, 3) := by decide +kernel
theorem dJ2_getChar_3b067_37 : decode cJ2_getChar_3b067 37 = .ok (.baload, 1) := by decide +kernel
theorem dJ2_getChar_3b067_38 : decode cJ2_getChar_3b067 38 = .ok (.sipush 255, 3) := by decide +kernel
theorem dJ2_getChar_3b067_41 : decode cJ2_getChar_3b067 41 = .ok (.iand, 1) := by decide +kernel
theorem dJ2_getChar_3b067_42 : decode cJ2_getChar_3b067 42 = .ok (.getstatic 59, 3) := by decide +kernel
theorem dJ2_getChar_3b067_45 : decode cJ2_getChar_3b067 45 = .ok (.ishl, 1) := by decide +kernel
theorem dJ2_getChar_3b067_46 : decode cJ2_getChar_3b067 46 = .ok (.aload_n 0, 1) := by decide +kernel
theorem dJ2_getChar_3b067_47 : decode cJ2_getChar_3b067 47 = .ok (.iload_n 1, 1) := by decide +kernel
theorem dJ2_getChar_3b067_48 : decode cJ2_getChar_3b067 48 = .ok (.baload, 1) := by decide +kernel
theorem dJ2_getChar_3b067_49 : decode cJ2_getChar_3b067 49 = .ok (.sipush 255, 3) := by decide +kernel
theorem dJ2_getChar_3b067_52 : decode cJ2_getChar_3b067 52 = .ok (.iand, 1) := by decide +kernel
theorem dJ2_getChar_3b067_53 : decode cJ2_getChar_3b067 53 = .ok (.getstatic 63, 3) := by decide +kernel
theorem dJ2_getChar_3b067_56 : decode cJ2_getChar_3b067 56 = .ok (.ishl, 1) := by decide +kernel
theorem dJ2_getChar_3b067_57 : decode cJ2_getChar_3b067 57 = .ok (.ior, 1) := by decide +kernel
theorem dJ2_getChar_3b067_58 : decode cJ2_getChar_3b067 58 = .ok (.i2c, 1) := by decide +kernel
theorem dJ2_getChar_3b067_59 : decode cJ2_getChar_3b067 59 = .ok (.ireturn, 1) := by decide +kernel
theorem dJ2_length_9d52b_0 : decode cJ2_length_9d52b 0 = .ok (.aload_n 0, 1) := by decide +kernel
theorem dJ2_length_9d52b_1 : decode cJ2_length_9d52b 1 = .ok (.arraylength, 1) := by decide +kernel
theorem dJ2_length_9d52b_2 : decode cJ2_length_9d52b 2 = .ok (.iconst 1, 1) := by decide +kernel
theorem dJ2_length_9d52b_3 : decode cJ2_length_9d52b 3 = .ok (.ishr, 1) := by decide +kernel
theorem dJ2_length_9d52b_4 : decode cJ2_length_9d52b 4 = .ok (.ireturn, 1) := by decide +kernel
theorem dJ2_indexOf_4cfef_0 : decode cJ2_indexOf_4cfef 0 = .ok (.iload_n 2, 1) := by decide +kernel
theorem dJ2_indexOf_4cfef_1 : decode cJ2_indexOf_4cfef 1 = .ok (.iconst 0, 1) := by decide +kernel
theorem dJ2_indexOf_4cfef_2 : decode cJ2_indexOf_4cfef 2 = .ok (.invokestatic 224, 3) := by decide +kernel
theorem dJ2_indexOf_4cfef_5 : decode cJ2_indexOf_4cfef 5 = .ok (.istore_n 2, 1) := by decide +kernel
theorem dJ2_indexOf_4cfef_6 : decode cJ2_indexOf_4cfef 6 = .ok (.iload_n 3, 1) := by decide +kernel
theorem dJ2_indexOf_4cfef_7 : decode cJ2_indexOf_4cfef 7 = .ok (.aload_n 0, 1) := by decide +kernel
theorem dJ2_indexOf_4cfef_8 : decode cJ2_indexOf_4cfef 8 = .ok (.arraylength, 1) := by decide +kernel
theorem dJ2_indexOf_4cfef_9 : decode cJ2_indexOf_4cfef 9 = .ok (.iconst 1, 1) := by decide +kernel
theorem dJ2_indexOf_4cfef_10 : decode cJ2_indexOf_4cfef 10 = .ok (.ishr, 1) := by decide +kernel
theorem dJ2_indexOf_4cfef_11 : decode cJ2_indexOf_4cfef 11 = .ok (.invokestatic 183, 3) := by decide +kernel
theorem dJ2_indexOf_4cfef_14 : decode cJ2_indexOf_4cfef 14 = .ok (.istore_n 3, 1) := by decide +kernel
theorem dJ2_indexOf_4cfef_15 : decode cJ2_indexOf_4cfef 15 = .ok (.iload_n 2, 1) := by decide +kernel
theorem dJ2_indexOf_4cfef_16 : decode cJ2_indexOf_4cfef 16 = .ok (.iload_n 3, 1) := by decide +kernel
theorem dJ2_indexOf_4cfef_17 : decode cJ2_indexOf_4cfef 17 = .ok (.if_icmp .lt 5, 3) := by decide +kernel
theorem dJ2_indexOf_4cfef_20 : decode cJ2_indexOf_4cfef 20 = .ok (.iconst (-1), 1) := by decide +kernel
theorem dJ2_indexOf_4cfef_21 : decode cJ2_indexOf_4cfef 21 = .ok (.ireturn, 1) := by decide +kernel
theorem dJ2_indexOf_4cfef_22 : decode cJ2_indexOf_4cfef 22 = .ok (.iload_n 1, 1) := by decide +kernel
theorem dJ2_indexOf_4cfef_23 : decode cJ2_indexOf_4cfef 23 = .ok (.ldc 227, 2) := by decide +kernel
theorem dJ2_indexOf_4cfef_25 : decode cJ2_indexOf_4cfef 25 = .ok (.if_icmp .ge 11, 3) := by decide +kernel
theorem dJ2_indexOf_4cfef_28 : decode cJ2_indexOf_4cfef 28 = .ok (.aload_n 0, 1) := by decide +kernel
theorem dJ2_indexOf_4cfef_29 : decode cJ2_indexOf_4cfef 29 = .ok (.iload_n 1, 1) := by decide +kernel
theorem dJ2_indexOf_4cfef_30 : decode cJ2_indexOf_4cfef 30 = .ok (.iload_n 2, 1) := by decide +kernel
theorem dJ2_indexOf_4cfef_31 : decode cJ2_indexOf_4cfef 31 = .ok (.iload_n 3, 1) := by decide +kernel
theorem dJ2_indexOf_4cfef_32 : decode cJ2_indexOf_4cfef 32 = .ok (.invokestatic 228, 3) := by decide +kernel
theorem dJ2_indexOf_4cfef_35 : decode cJ2_indexOf_4cfef 35 = .ok (.ireturn, 1) := by decide +kernel
theorem dJ2_indexOf_4cfef_36 : decode cJ2_indexOf_4cfef 36 = .ok (.aload_n 0, 1) := by decide +kernel
theorem dJ2_indexOf_4cfef_37 : decode cJ2_indexOf_4cfef 37 = .ok (.iload_n 1, 1) := by decide +kernel
theorem dJ2_indexOf_4cfef_38 : decode cJ2_indexOf_4cfef 38 = .ok (.iload_n 2, 1) := by decide +kernel
theorem dJ2_indexOf_4cfef_39 : decode cJ2_indexOf_4cfef 39 = .ok (.iload_n 3, 1) := by decide +kernel
theorem dJ2_indexOf_4cfef_40 : decode cJ2_indexOf_4cfef 40 = .ok (.invokestatic 232, 3) := by decide +kernel
theorem dJ2_indexOf_4cfef_43 : decode cJ2_indexOf_4cfef 43 = .ok (.ireturn, 1) := by decide +kernel
theorem dJ2_indexOfChar_4cfef_0 : decode cJ2_indexOfChar_4cfef 0 = .ok (.iload_n 2, 1) := by decide +kernel
theorem dJ2_indexOfChar_4cfef_1 : decode cJ2_indexOfChar_4cfef 1 = .ok (.iload_n 3, 1) := by decide +kernel
theorem dJ2_indexOfChar_4cfef_2 : decode cJ2_indexOfChar_4cfef 2 = .ok (.aload_n 0, 1) := by decide +kernel
theorem dJ2_indexOfChar_4cfef_3 : decode cJ2_indexOfChar_4cfef 3 = .ok (.invokestatic 96, 3) := by decide +kernel
theorem dJ2_indexOfChar_4cfef_6 : decode cJ2_indexOfChar_4cfef 6 = .ok (.aload_n 0, 1) := by decide +kernel
theorem dJ2_indexOfChar_4cfef_7 : decode cJ2_indexOfChar_4cfef 7 = .ok (.iload_n 1, 1) := by decide +kernel
theorem dJ2_indexOfChar_4cfef_8 : decode cJ2_indexOfChar_4cfef 8 = .ok (.iload_n 2, 1) := by decide +kernel
theorem dJ2_indexOfChar_4cfef_9 : decode cJ2_indexOfChar_4cfef 9 = .ok (.iload_n 3, 1) := by decide +kernel
theorem dJ2_indexOfChar_4cfef_10 : decode cJ2_indexOfChar_4cfef 10 = .ok (.invokestatic 244, 3) := by decide +kernel
theorem dJ2_indexOfChar_4cfef_13 : decode cJ2_indexOfChar_4cfef 13 = .ok (.ireturn, 1) := by decide +kernel
theorem dJ2_indexOfCharUnsafe_4cfef_0 : decode cJ2_indexOfCharUnsafe_4cfef 0 = .ok (.iload_n 2, 1) := by decide +kernel
theorem dJ2_indexOfCharUnsafe_4cfef_1 : decode cJ2_indexOfCharUnsafe_4cfef 1 = .ok (.istore 4, 2) := by decide +kernel
theorem dJ2_indexOfCharUnsafe_4cfef_3 : decode cJ2_indexOfCharUnsafe_4cfef 3 = .ok (.iload 4, 2) := by decide +kernel
theorem dJ2_indexOfCharUnsafe_4cfef_5 : decode cJ2_indexOfCharUnsafe_4cfef 5 = .ok (.iload_n 3, 1) := by decide +kernel
theorem dJ2_indexOfCharUnsafe_4cfef_6 : decode cJ2_indexOfCharUnsafe_4cfef 6 = .ok (.if_icmp .ge 22, 3) := by decide +kernel
theorem dJ2_indexOfCharUnsafe_4cfef_9 : decode cJ2_indexOfCharUnsafe_4cfef 9 = .ok (.aload_n 0, 1) := by decide +kernel
theorem dJ2_indexOfCharUnsafe_4cfef_10 : decode cJ2_indexOfCharUnsafe_4cfef 10 = .ok (.iload 4, 2) := by decide +kernel
theorem dJ2_indexOfCharUnsafe_4cfef_12 : decode cJ2_indexOfCharUnsafe_4cfef 12 = .ok (.invokestatic 71, 3) := by decide +kernel
theorem dJ2_indexOfCharUnsafe_4cfef_15 : decode cJ2_indexOfCharUnsafe_4cfef 15 = .ok (.iload_n 1, 1) := by decide +kernel
theorem dJ2_indexOfCharUnsafe_4cfef_16 : decode cJ2_indexOfCharUnsafe_4cfef 16 = .ok (.if_icmp .ne 6, 3) := by decide +kernel
theorem dJ2_indexOfCharUnsafe_4cfef_19 : decode cJ2_indexOfCharUnsafe_4cfef 19 = .ok (.iload 4, 2) := by decide +kernel
theorem dJ2_indexOfCharUnsafe_4cfef_21 : decode cJ2_indexOfCharUnsafe_4cfef 21 = .ok (.ireturn, 1) := by decide +kernel
theorem dJ2_indexOfCharUnsafe_4cfef_22 : decode cJ2_indexOfCharUnsafe_4cfef 22 = .ok (.iinc 4 1, 3) := by decide +kernel
theorem dJ2_indexOfCharUnsafe_4cfef_25 : decode cJ2_indexOfCharUnsafe_4cfef 25 = .ok (.goto (-22), 3) := by decide +kernel
theorem dJ2_indexOfCharUnsafe_4cfef_28 : decode cJ2_indexOfCharUnsafe_4cfef 28 = .ok (.iconst (-1), 1) := by decide +kernel
theorem dJ2_indexOfCharUnsafe_4cfef_29 : decode cJ2_indexOfCharUnsafe_4cfef 29 = .ok (.ireturn, 1) := by decide +kernel
theorem dJ2_indexOfSupplementary_4cfef_0 : decode cJ2_indexOfSupplementary_4cfef 0 = .ok (.iload_n 1, 1) := by decide +kernel
theorem dJ2_indexOfSupplementary_4cfef_1 : decode cJ2_indexOfSupplementary_4cfef 1 = .ok (.invokestatic 164, 3) := by decide +kernel
theorem dJ2_indexOfSupplementary_4cfef_4 : decode cJ2_indexOfSupplementary_4cfef 4 = .ok (.ifCond .eq 65, 3) := by decide +kernel
theorem dJ2_indexOfSupplementary_4cfef_7 : decode cJ2_indexOfSupplementary_4cfef 7 = .ok (.iload_n 1, 1) := by decide +kernel
theorem dJ2_indexOfSupplementary_4cfef_8 : decode cJ2_indexOfSupplementary_4cfef 8 = .ok (.invokestatic 157, 3) := by decide +kernel
theorem dJ2_indexOfSupplementary_4cfef_11 : decode cJ2_indexOfSupplementary_4cfef 11 = .ok (.istore 4, 2) := by decide +kernel
theorem dJ2_indexOfSupplementary_4cfef_13 : decode cJ2_indexOfSupplementary_4cfef 13 = .ok (.iload_n 1, 1) := by decide +kernel
theorem dJ2_indexOfSupplementary_4cfef_14 : decode cJ2_indexOfSupplementary_4cfef 14 = .ok (.invokestatic 161, 3) := by decide +kernel
theorem dJ2_indexOfSupplementary_4cfef_17 : decode cJ2_indexOfSupplementary_4cfef 17 = .ok (.istore 5, 2) := by decide +kernel
theorem dJ2_indexOfSupplementary_4cfef_19 : decode cJ2_indexOfSupplementary_4cfef 19 = .ok (.iload_n 2, 1) := by decide +kernel
theorem dJ2_indexOfSupplementary_4cfef_20 : decode cJ2_indexOfSupplementary_4cfef 20 = .ok (.iload_n 3, 1) := by decide +kernel
theorem dJ2_indexOfSupplementary_4cfef_21 : decode cJ2_indexOfSupplementary_4cfef 21 = .ok (.aload_n 0, 1) := by decide +kernel
theorem dJ2_indexOfSupplementary_4cfef_22 : decode cJ2_indexOfSupplementary_4cfef 22 = .ok (.invokestatic 96, 3) := by decide +kernel
theorem dJ2_indexOfSupplementary_4cfef_25 : decode cJ2_indexOfSupplementary_4cfef 25 = .ok (.iload_n 2, 1) := by decide +kernel
theorem dJ2_indexOfSupplementary_4cfef_26 : decode cJ2_indexOfSupplementary_4cfef 26 = .ok (.istore 6, 2) := by decide +kernel
theorem dJ2_indexOfSupplementary_4cfef_28 : decode cJ2_indexOfSupplementary_4cfef 28 = .ok (.iload 6, 2) := by decide +kernel
theorem dJ2_indexOfSupplementary_4cfef_30 : decode cJ2_indexOfSupplementary_4cfef 30 = .ok (.iload_n 3, 1) := by decide +kernel
theorem dJ2_indexOfSupplementary_4cfef_31 : decode cJ2_indexOfSupplementary_4cfef 31 = .ok (.iconst 1, 1) := by decide +kernel
theorem dJ2_indexOfSupplementary_4cfef_32 : decode cJ2_indexOfSupplementary_4cfef 32 = .ok (.isub, 1) := by decide +kernel
theorem dJ2_indexOfSupplementary_4cfef_33 : decode cJ2_indexOfSupplementary_4cfef 33 = .ok (.if_icmp .ge 36, 3) := by decide +kernel
theorem dJ2_indexOfSupplementary_4cfef_36 : decode cJ2_indexOfSupplementary_4cfef 36 = .ok (.aload_n 0, 1) := by decide +kernel
theorem dJ2_indexOfSupplementary_4cfef_37 : decode cJ2_indexOfSupplementary_4cfef 37 = .ok (.iload 6, 2) := by decide +kernel
theorem dJ2_indexOfSupplementary_4cfef_39 : decode cJ2_indexOfSupplementary_4cfef 39 = .ok (.invokestatic 71, 3) := by decide +kernel
theorem dJ2_indexOfSupplementary_4cfef_42 : decode cJ2_indexOfSupplementary_4cfef 42 = .ok (.iload 4, 2) := by decide +kernel
theorem dJ2_indexOfSupplementary_4cfef_44 : decode cJ2_indexOfSupplementary_4cfef 44 = .ok (.if_icmp .ne 19, 3) := by decide +kernel
theorem dJ2_indexOfSupplementary_4cfef_47 : decode cJ2_indexOfSupplementary_4cfef 47 = .ok (.aload_n 0, 1) := by decide +kernel
theorem dJ2_indexOfSupplementary_4cfef_48 : decode cJ2_indexOfSupplementary_4cfef 48 = .ok (.iload 6, 2) := by decide +kernel
theorem dJ2_indexOfSupplementary_4cfef_50 : decode cJ2_indexOfSupplementary_4cfef 50 = .ok (.iconst 1, 1) := by decide +kernel
theorem dJ2_indexOfSupplementary_4cfef_51 : decode cJ2_indexOfSupplementary_4cfef 51 = .ok (.iadd, 1) := by decide +kernel
theorem dJ2_indexOfSupplementary_4cfef_52 : decode cJ2_indexOfSupplementary_4cfef 52 = .ok (.invokestatic 71, 3) := by decide +kernel
theorem dJ2_indexOfSupplementary_4cfef_55 : decode cJ2_indexOfSupplementary_4cfef 55 = .ok (.iload 5, 2) := by decide +kernel
theorem dJ2_indexOfSupplementary_4cfef_57 : decode cJ2_indexOfSupplementary_4cfef 57 = .ok (.if_icmp .ne 6, 3) := by decide +kernel
theorem dJ2_indexOfSupplementary_4cfef_60 : decode cJ2_indexOfSupplementary_4cfef 60 = .ok (.iload 6, 2) := by decide +kernel
theorem dJ2_indexOfSupplementary_4cfef_62 : decode cJ2_indexOfSupplementary_4cfef 62 = .ok (.ireturn, 1) := by decide +kernel
theorem dJ2_indexOfSupplementary_4cfef_63 : decode cJ2_indexOfSupplementary_4cfef 63 = .ok (.iinc 6 1, 3) := by decide +kernel
theorem dJ2_indexOfSupplementary_4cfef_66 : decode cJ2_indexOfSupplementary_4cfef 66 = .ok (.goto (-38), 3) := by decide +kernel
theorem dJ2_indexOfSupplementary_4cfef_69 : decode cJ2_indexOfSupplementary_4cfef 69 = .ok (.iconst (-1), 1) := by decide +kernel
theorem dJ2_indexOfSupplementary_4cfef_70 : decode cJ2_indexOfSupplementary_4cfef 70 = .ok (.ireturn, 1) := by decide +kernel
theorem dJ2_checkBoundsBeginEnd_d044e_0 : decode cJ2_checkBoundsBeginEnd_d044e 0 = .ok (.iload_n 0, 1) := by decide +kernel
theorem dJ2_checkBoundsBeginEnd_d044e_1 : decode cJ2_checkBoundsBeginEnd_d044e 1 = .ok (.iload_n 1, 1) := by decide +kernel
theorem dJ2_checkBoundsBeginEnd_d044e_2 : decode cJ2_checkBoundsBeginEnd_d044e 2 = .ok (.aload_n 2, 1) := by decide +kernel
theorem dJ2_checkBoundsBeginEnd_d044e_3 : decode cJ2_checkBoundsBeginEnd_d044e 3 = .ok (.invokestatic 48, 3) := by decide +kernel
theorem dJ2_checkBoundsBeginEnd_d044e_6 : decode cJ2_checkBoundsBeginEnd_d044e 6 = .ok (.invokestatic 241, 3) := by decide +kernel
theorem dJ2_checkBoundsBeginEnd_d044e_9 : decode cJ2_checkBoundsBeginEnd_d044e 9 = .ok (.return_, 1) := by decide +kernel
theorem dJ3_checkFromToIndex_8c36e_0 : decode cJ3_checkFromToIndex_8c36e 0 = .ok (.iload_n 0, 1) := by decide +kernel
theorem dJ3_checkFromToIndex_8c36e_1 : decode cJ3_checkFromToIndex_8c36e 1 = .ok (.ifCond .lt 13, 3) := by decide +kernel
theorem dJ3_checkFromToIndex_8c36e_4 : decode cJ3_checkFromToIndex_8c36e 4 = .ok (.iload_n 0, 1) := by decide +kernel
theorem dJ3_checkFromToIndex_8c36e_5 : decode cJ3_checkFromToIndex_8c36e 5 = .ok (.iload_n 1, 1) := by decide +kernel
theorem dJ3_checkFromToIndex_8c36e_6 : decode cJ3_checkFromToIndex_8c36e 6 = .ok (.if_icmp .gt 8, 3) := by decide +kernel
theorem dJ3_checkFromToIndex_8c36e_9 : decode cJ3_checkFromToIndex_8c36e 9 = .ok (.iload_n 1, 1) := by decide +kernel
theorem dJ3_checkFromToIndex_8c36e_10 : decode cJ3_checkFromToIndex_8c36e 10 = .ok (.iload_n 2, 1) := by decide +kernel
theorem dJ3_checkFromToIndex_8c36e_11 : decode cJ3_checkFromToIndex_8c36e 11 = .ok (.if_icmp .le 11, 3) := by decide +kernel
theorem dJ3_checkFromToIndex_8c36e_14 : decode cJ3_checkFromToIndex_8c36e 14 = .ok (.aload_n 3, 1) := by decide +kernel
theorem dJ3_checkFromToIndex_8c36e_15 : decode cJ3_checkFromToIndex_8c36e 15 = .ok (.iload_n 0, 1) := by decide +kernel
theorem dJ3_checkFromToIndex_8c36e_16 : decode cJ3_checkFromToIndex_8c36e 16 = .ok (.iload_n 1, 1) := by decide +kernel
theorem dJ3_checkFromToIndex_8c36e_17 : decode cJ3_checkFromToIndex_8c36e 17 = .ok (.iload_n 2, 1) := by decide +kernel
theorem dJ3_checkFromToIndex_8c36e_18 : decode cJ3_checkFromToIndex_8c36e 18 = .ok (.invokestatic 99, 3) := by decide +kernel
theorem dJ3_checkFromToIndex_8c36e_21 : decode cJ3_checkFromToIndex_8c36e 21 = .ok (.athrow, 1) := by decide +kernel
theorem dJ3_checkFromToIndex_8c36e_22 : decode cJ3_checkFromToIndex_8c36e 22 = .ok (.iload_n 0, 1) := by decide +kernel
theorem dJ3_checkFromToIndex_8c36e_23 : decode cJ3_checkFromToIndex_8c36e 23 = .ok (.ireturn, 1) := by decide +kernel
theorem dX0_init_0 : decode cX0_init 0 = .ok (.aload_n 0, 1) := by decide +kernel
theorem dX0_init_1 : decode cX0_init 1 = .ok (.invokespecial 3, 3) := by decide +kernel
theorem dX0_init_4 : decode cX0_init 4 = .ok (.aload_n 0, 1) := by decide +kernel
theorem dX0_init_5 : decode cX0_init 5 = .ok (.bipush 6, 2) := by decide +kernel
theorem dX0_init_7 : decode cX0_init 7 = .ok (.newarray .int, 2) := by decide +kernel
theorem dX0_init_9 : decode cX0_init 9 = .ok (.putfield 9, 3) := by decide +kernel
theorem dX0_init_12 : decode cX0_init 12 = .ok (.aload_n 0, 1) := by decide +kernel
theorem dX0_init_13 : decode cX0_init 13 = .ok (.bipush 6, 2) := by decide +kernel
theorem dX0_init_15 : decode cX0_init 15 = .ok (.newarray .int, 2) := by decide +kernel
theorem dX0_init_17 : decode cX0_init 17 = .ok (.putfield 15, 3) := by decide +kernel
theorem dX0_init_20 : decode cX0_init 20 = .ok (.aload_n 0, 1) := by decide +kernel
theorem dX0_init_21 : decode cX0_init 21 = .ok (.new 18, 3) := by decide +kernel
theorem dX0_init_24 : decode cX0_init 24 = .ok (.dup, 1) := by decide +kernel
theorem dX0_init_25 : decode cX0_init 25 = .ok (.invokespecial 20, 3) := by decide +kernel
theorem dX0_init_28 : decode cX0_init 28 = .ok (.putfield 21, 3) := by decide +kernel
theorem dX0_init_31 : decode cX0_init 31 = .ok (.aload_n 0, 1) := by decide +kernel
theorem dX0_init_32 : decode cX0_init 32 = .ok (.iconst 0, 1) := by decide +kernel
theorem dX0_init_33 : decode cX0_init 33 = .ok (.putfield 25, 3) := by decide +kernel
theorem dX0_init_36 : decode cX0_init 36 = .ok (.aload_n 0, 1) := by decide +kernel
theorem dX0_init_37 : decode cX0_init 37 = .ok (.iconst 0, 1) := by decide +kernel
theorem dX0_init_38 : decode cX0_init 38 = .ok (.putfield 29, 3) := by decide +kernel
theorem dX0_init_41 : decode cX0_init 41 = .ok (.aload_n 0, 1) := by decide +kernel
theorem dX0_init_42 : decode cX0_init 42 = .ok (.iconst 0, 1) := by decide +kernel
theorem dX0_init_43 : decode cX0_init 43 = .ok (.putfield 32, 3) := by decide +kernel
theorem dX0_init_46 : decode cX0_init 46 = .ok (.aload_n 0, 1) := by decide +kernel
theorem dX0_init_47 : decode cX0_init 47 = .ok (.iconst 1, 1) := by decide +kernel
theorem dX0_init_48 : decode cX0_init 48 = .ok (.putfield 35, 3) := by decide +kernel
theorem dX0_init_51 : decode cX0_init 51 = .ok (.return_, 1) := by decide +kernel
theorem dX0_take_0 : decode cX0_take 0 = .ok (.aload_n 1, 1) := by decide +kernel
theorem dX0_take_1 : decode cX0_take 1 = .ok (.getfield 9, 3) := by decide +kernel
theorem dX0_take_4 : decode cX0_take 4 = .ok (.iconst 0, 1) := by decide +kernel
theorem dX0_take_5 : decode cX0_take 5 = .ok (.aload_n 0, 1) := by decide +kernel
theorem dX0_take_6 : decode cX0_take 6 = .ok (.getfield 9, 3) := by decide +kernel
theorem dX0_take_9 : decode cX0_take 9 = .ok (.iconst 0, 1) := by decide +kernel
theorem dX0_take_10 : decode cX0_take 10 = .ok (.bipush 6, 2) := by decide +kernel
theorem dX0_take_12 : decode cX0_take 12 = .ok (.invokestatic 38, 3) := by decide +kernel
theorem dX0_take_15 : decode cX0_take 15 = .ok (.aload_n 1, 1) := by decide +kernel
theorem dX0_take_16 : decode cX0_take 16 = .ok (.getfield 15, 3) := by decide +kernel
theorem dX0_take_19 : decode cX0_take 19 = .ok (.iconst 0, 1) := by decide +kernel
theorem dX0_take_20 : decode cX0_take 20 = .ok (.aload_n 0, 1) := by decide +kernel
theorem dX0_take_21 : decode cX0_take 21 = .ok (.getfield 15, 3) := by decide +kernel
theorem dX0_take_24 : decode cX0_take 24 = .ok (.iconst 0, 1) := by decide +kernel
theorem dX0_take_25 : decode cX0_take 25 = .ok (.bipush 6, 2) := by decide +kernel
theorem dX0_take_27 : decode cX0_take 27 = .ok (.invokestatic 38, 3) := by decide +kernel
theorem dX0_take_30 : decode cX0_take 30 = .ok (.aload_n 0, 1) := by decide +kernel
theorem dX0_take_31 : decode cX0_take 31 = .ok (.getfield 21, 3) := by decide +kernel
theorem dX0_take_34 : decode cX0_take 34 = .ok (.aload_n 1, 1) := by decide +kernel
theorem dX0_take_35 : decode cX0_take 35 = .ok (.getfield 21, 3) := by decide +kernel
theorem dX0_take_38 : decode cX0_take 38 = .ok (.invokevirtual 44, 3) := by decide +kernel
theorem dX0_take_41 : decode cX0_take 41 = .ok (.aload_n 0, 1) := by decide +kernel
theorem dX0_take_42 : decode cX0_take 42 = .ok (.aload_n 1, 1) := by decide +kernel
theorem dX0_take_43 : decode cX0_take 43 = .ok (.getfield 25, 3) := by decide +kernel
theorem dX0_take_46 : decode cX0_take 46 = .ok (.putfield 25, 3) := by decide +kernel
theorem dX0_take_49 : decode cX0_take 49 = .ok (.aload_n 0, 1) := by decide +kernel
theorem dX0_take_50 : decode cX0_take 50 = .ok (.aload_n 1, 1) := by decide +kernel
theorem dX0_take_51 : decode cX0_take 51 = .ok (.getfield 29, 3) := by decide +kernel
theorem dX0_take_54 : decode cX0_take 54 = .ok (.putfield 29, 3) := by decide +kernel
theorem dX0_take_57 : decode cX0_take 57 = .ok (.aload_n 0, 1) := by decide +kernel
theorem dX0_take_58 : decode cX0_take 58 = .ok (.aload_n 1, 1) := by decide +kernel
theorem dX0_take_59 : decode cX0_take 59 = .ok (.getfield 32, 3) := by decide +kernel
theorem dX0_take_62 : decode cX0_take 62 = .ok (.putfield 32, 3) := by decide +kernel
theorem dX0_take_65 : decode cX0_take 65 = .ok (.aload_n 0, 1) := by decide +kernel
theorem dX0_take_66 : decode cX0_take 66 = .ok (.aload_n 1, 1) := by decide +kernel
theorem dX0_take_67 : decode cX0_take 67 = .ok (.getfield 35, 3) := by decide +kernel
theorem dX0_take_70 : decode cX0_take 70 = .ok (.putfield 35, 3) := by decide +kernel
theorem dX0_take_73 : decode cX0_take 73 = .ok (.return_, 1) := by decide +kernel
theorem dX0_hasCell_0 : decode cX0_hasCell 0 = .ok (.iload_n 1, 1) := by decide +kernel
theorem dX0_hasCell_1 : decode cX0_hasCell 1 = .ok (.ifCond .lt 15, 3) := by decide +kernel
theorem dX0_hasCell_4 : decode cX0_hasCell 4 = .ok (.iload_n 1, 1) := by decide +kernel
theorem dX0_hasCell_5 : decode cX0_hasCell 5 = .ok (.aload_n 0, 1) := by decide +kernel
theorem dX0_hasCell_6 : decode cX0_hasCell 6 = .ok (.getfield 25, 3) := by decide +kernel
theorem dX0_hasCell_9 : decode cX0_hasCell 9 = .ok (.if_icmp .ge 7, 3) := by decide +kernel
theorem dX0_hasCell_12 : decode cX0_hasCell 12 = .ok (.iconst 1, 1) := by decide +kernel
theorem dX0_hasCell_13 : decode cX0_hasCell 13 = .ok (.goto 4, 3) := by decide +kernel
theorem dX0_hasCell_16 : decode cX0_hasCell 16 = .ok (.iconst 0, 1) := by decide +kernel
theorem dX0_hasCell_17 : decode cX0_hasCell 17 = .ok (.ireturn, 1) := by decide +kernel
theorem dX0_hasPerson_0 : decode cX0_hasPerson 0 = .ok (.iload_n 1, 1) := by decide +kernel
theorem dX0_hasPerson_1 : decode cX0_hasPerson 1 = .ok (.ifCond .lt 15, 3) := by decide +kernel
theorem dX0_hasPerson_4 : decode cX0_hasPerson 4 = .ok (.iload_n 1, 1) := by decide +kernel
theorem dX0_hasPerson_5 : decode cX0_hasPerson 5 = .ok (.aload_n 0, 1) := by decide +kernel
theorem dX0_hasPerson_6 : decode cX0_hasPerson 6 = .ok (.getfield 29, 3) := by decide +kernel
theorem dX0_hasPerson_9 : decode cX0_hasPerson 9 = .ok (.if_icmp .ge 7, 3) := by decide +kernel
theorem dX0_hasPerson_12 : decode cX0_hasPerson 12 = .ok (.iconst 1, 1) := by decide +kernel
theorem dX0_hasPerson_13 : decode cX0_hasPerson 13 = .ok (.goto 4, 3) := by decide +kernel
theorem dX0_hasPerson_16 : decode cX0_hasPerson 16 = .ok (.iconst 0, 1) := by decide +kernel
theorem dX0_hasPerson_17 : decode cX0_hasPerson 17 = .ok (.ireturn, 1) := by decide +kernel
theorem dX0_hasSaying_0 : decode cX0_hasSaying 0 = .ok (.iload_n 1, 1) := by decide +kernel
theorem dX0_hasSaying_1 : decode cX0_hasSaying 1 = .ok (.ifCond .lt 15, 3) := by decide +kernel
theorem dX0_hasSaying_4 : decode cX0_hasSaying 4 = .ok (.iload_n 1, 1) := by decide +kernel
theorem dX0_hasSaying_5 : decode cX0_hasSaying 5 = .ok (.aload_n 0, 1) := by decide +kernel
theorem dX0_hasSaying_6 : decode cX0_hasSaying 6 = .ok (.getfield 32, 3) := by decide +kernel
theorem dX0_hasSaying_9 : decode cX0_hasSaying 9 = .ok (.if_icmp .ge 7, 3) := by decide +kernel
theorem dX0_hasSaying_12 : decode cX0_hasSaying 12 = .ok (.iconst 1, 1) := by decide +kernel
theorem dX0_hasSaying_13 : decode cX0_hasSaying 13 = .ok (.goto 4, 3) := by decide +kernel
theorem dX0_hasSaying_16 : decode cX0_hasSaying 16 = .ok (.iconst 0, 1) := by decide +kernel
theorem dX0_hasSaying_17 : decode cX0_hasSaying 17 = .ok (.ireturn, 1) := by decide +kernel
theorem dX0_everybody_0 : decode cX0_everybody 0 = .ok (.iconst 1, 1) := by decide +kernel
theorem dX0_everybody_1 : decode cX0_everybody 1 = .ok (.aload_n 0, 1) := by decide +kernel
theorem dX0_everybody_2 : decode cX0_everybody 2 = .ok (.getfield 29, 3) := by decide +kernel
theorem dX0_everybody_5 : decode cX0_everybody 5 = .ok (.ishl, 1) := by decide +kernel
theorem dX0_everybody_6 : decode cX0_everybody 6 = .ok (.iconst 1, 1) := by decide +kernel
theorem dX0_everybody_7 : decode cX0_everybody 7 = .ok (.isub, 1) := by decide +kernel
theorem dX0_everybody_8 : decode cX0_everybody 8 = .ok (.ireturn, 1) := by decide +kernel
theorem dX0_addCell_0 : decode cX0_addCell 0 = .ok (.aload_n 0, 1) := by decide +kernel
theorem dX0_addCell_1 : decode cX0_addCell 1 = .ok (.getfield 21, 3) := by decide +kernel
theorem dX0_addCell_4 : decode cX0_addCell 4 = .ok (.getfield 48, 3) := by decide +kernel
theorem dX0_addCell_7 : decode cX0_addCell 7 = .ok (.aload_n 0, 1) := by decide +kernel
theorem dX0_addCell_8 : decode cX0_addCell 8 = .ok (.getfield 25, 3) := by decide +kernel
theorem dX0_addCell_11 : decode cX0_addCell 11 = .ok (.iload_n 1, 1) := by decide +kernel
theorem dX0_addCell_12 : decode cX0_addCell 12 = .ok (.iastore, 1) := by decide +kernel
theorem dX0_addCell_13 : decode cX0_addCell 13 = .ok (.aload_n 0, 1) := by decide +kernel
theorem dX0_addCell_14 : decode cX0_addCell 14 = .ok (.dup, 1) := by decide +kernel
theorem dX0_addCell_15 : decode cX0_addCell 15 = .ok (.getfield 25, 3) := by decide +kernel
theorem dX0_addCell_18 : decode cX0_addCell 18 = .ok (.iconst 1, 1) := by decide +kernel
theorem dX0_addCell_19 : decode cX0_addCell 19 = .ok (.iadd, 1) := by decide +kernel
theorem dX0_addCell_20 : decode cX0_addCell 20 = .ok (.putfield 25, 3) := by decide +kernel
theorem dX0_addCell_23 : decode cX0_addCell 23 = .ok (.aload_n 0, 1) := by decide +kernel
theorem dX0_addCell_24 : decode cX0_addCell 24 = .ok (.getfield 25, 3) := by decide +kernel
theorem dX0_addCell_27 : decode cX0_addCell 27 = .ok (.iconst 1, 1) := by decide +kernel
theorem dX0_addCell_28 : decode cX0_addCell 28 = .ok (.isub, 1) := by decide +kernel
theorem dX0_addCell_29 : decode cX0_addCell 29 = .ok (.ireturn, 1) := by decide +kernel
theorem dX0_addPerson_0 : decode cX0_addPerson 0 = .ok (.aload_n 0, 1) := by decide +kernel
theorem dX0_addPerson_1 : decode cX0_addPerson 1 = .ok (.getfield 9, 3) := by decide +kernel
theorem dX0_addPerson_4 : decode cX0_addPerson 4 = .ok (.aload_n 0, 1) := by decide +kernel
theorem dX0_addPerson_5 : decode cX0_addPerson 5 = .ok (.getfield 29, 3) := by decide +kernel
theorem dX0_addPerson_8 : decode cX0_addPerson 8 = .ok (.iload_n 1, 1) := by decide +kernel
theorem dX0_addPerson_9 : decode cX0_addPerson 9 = .ok (.iastore, 1) := by decide +kernel
theorem dX0_addPerson_10 : decode cX0_addPerson 10 = .ok (.aload_n 0, 1) := by decide +kernel
theorem dX0_addPerson_11 : decode cX0_addPerson 11 = .ok (.getfield 15, 3) := by decide +kernel
theorem dX0_addPerson_14 : decode cX0_addPerson 14 = .ok (.aload_n 0, 1) := by decide +kernel
theorem dX0_addPerson_15 : decode cX0_addPerson 15 = .ok (.getfield 29, 3) := by decide +kernel
theorem dX0_addPerson_18 : decode cX0_addPerson 18 = .ok (.iload_n 2, 1) := by decide +kernel
theorem dX0_addPerson_19 : decode cX0_addPerson 19 = .ok (.iastore, 1) := by decide +kernel
theorem dX0_addPerson_20 : decode cX0_addPerson 20 = .ok (.aload_n 0, 1) := by decide +kernel
theorem dX0_addPerson_21 : decode cX0_addPerson 21 = .ok (.dup, 1) := by decide +kernel
theorem dX0_addPerson_22 : decode cX0_addPerson 22 = .ok (.getfield 29, 3) := by decide +kernel
theorem dX0_addPerson_25 : decode cX0_addPerson 25 = .ok (.iconst 1, 1) := by decide +kernel
theorem dX0_addPerson_26 : decode cX0_addPerson 26 = .ok (.iadd, 1) := by decide +kernel
theorem dX0_addPerson_27 : decode cX0_addPerson 27 = .ok (.putfield 29, 3) := by decide +kernel
theorem dX0_addPerson_30 : decode cX0_addPerson 30 = .ok (.aload_n 0, 1) := by decide +kernel
theorem dX0_addPerson_31 : decode cX0_addPerson 31 = .ok (.getfield 29, 3) := by decide +kernel
theorem dX0_addPerson_34 : decode cX0_addPerson 34 = .ok (.iconst 1, 1) := by decide +kernel
theorem dX0_addPerson_35 : decode cX0_addPerson 35 = .ok (.isub, 1) := by decide +kernel
theorem dX0_addPerson_36 : decode cX0_addPerson 36 = .ok (.ireturn, 1) := by decide +kernel
theorem dX0_addSaying_0 : decode cX0_addSaying 0 = .ok (.aload_n 0, 1) := by decide +kernel
theorem dX0_addSaying_1 : decode cX0_addSaying 1 = .ok (.getfield 21, 3) := by decide +kernel
theorem dX0_addSaying_4 : decode cX0_addSaying 4 = .ok (.getfield 51, 3) := by decide +kernel
theorem dX0_addSaying_7 : decode cX0_addSaying 7 = .ok (.aload_n 0, 1) := by decide +kernel
theorem dX0_addSaying_8 : decode cX0_addSaying 8 = .ok (.getfield 32, 3) := by decide +kernel
theorem dX0_addSaying_11 : decode cX0_addSaying 11 = .ok (.iload_n 1, 1) := by decide +kernel
theorem dX0_addSaying_12 : decode cX0_addSaying 12 = .ok (.iastore, 1) := by decide +kernel
theorem dX0_addSaying_13 : decode cX0_addSaying 13 = .ok (.aload_n 0, 1) := by decide +kernel
theorem dX0_addSaying_14 : decode cX0_addSaying 14 = .ok (.getfield 21, 3) := by decide +kernel
theorem dX0_addSaying_17 : decode cX0_addSaying 17 = .ok (.getfield 54, 3) := by decide +kernel
theorem dX0_addSaying_20 : decode cX0_addSaying 20 = .ok (.aload_n 0, 1) := by decide +kernel
theorem dX0_addSaying_21 : decode cX0_addSaying 21 = .ok (.getfield 32, 3) := by decide +kernel
theorem dX0_addSaying_24 : decode cX0_addSaying 24 = .ok (.iload_n 2, 1) := by decide +kernel
theorem dX0_addSaying_25 : decode cX0_addSaying 25 = .ok (.iastore, 1) := by decide +kernel
theorem dX0_addSaying_26 : decode cX0_addSaying 26 = .ok (.aload_n 0, 1) := by decide +kernel
theorem dX0_addSaying_27 : decode cX0_addSaying 27 = .ok (.dup, 1) := by decide +kernel
theorem dX0_addSaying_28 : decode cX0_addSaying 28 = .ok (.getfield 32, 3) := by decide +kernel
theorem dX0_addSaying_31 : decode cX0_addSaying 31 = .ok (.iconst 1, 1) := by decide +kernel
theorem dX0_addSaying_32 : decode cX0_addSaying 32 = .ok (.iadd, 1) := by decide +kernel
theorem dX0_addSaying_33 : decode cX0_addSaying 33 = .ok (.putfield 32, 3) := by decide +kernel
theorem dX0_addSaying_36 : decode cX0_addSaying 36 = .ok (.aload_n 0, 1) := by decide +kernel
theorem dX0_addSaying_37 : decode cX0_addSaying 37 = .ok (.getfield 32, 3) := by decide +kernel
theorem dX0_addSaying_40 : decode cX0_addSaying 40 = .ok (.iconst 1, 1) := by decide +kernel
theorem dX0_addSaying_41 : decode cX0_addSaying 41 = .ok (.isub, 1) := by decide +kernel
theorem dX0_addSaying_42 : decode cX0_addSaying 42 = .ok (.ireturn, 1) := by decide +kernel
theorem dX0_sayingsFor_0 : decode cX0_sayingsFor 0 = .ok (.iconst 0, 1) := by decide +kernel
theorem dX0_sayingsFor_1 : decode cX0_sayingsFor 1 = .ok (.istore_n 2, 1) := by decide +kernel
theorem dX0_sayingsFor_2 : decode cX0_sayingsFor 2 = .ok (.iconst 0, 1) := by decide +kernel
theorem dX0_sayingsFor_3 : decode cX0_sayingsFor 3 = .ok (.istore_n 3, 1) := by decide +kernel
theorem dX0_sayingsFor_4 : decode cX0_sayingsFor 4 = .ok (.iload_n 3, 1) := by decide +kernel
theorem dX0_sayingsFor_5 : decode cX0_sayingsFor 5 = .ok (.aload_n 0, 1) := by decide +kernel
theorem dX0_sayingsFor_6 : decode cX0_sayingsFor 6 = .ok (.getfield 32, 3) := by decide +kernel
theorem dX0_sayingsFor_9 : decode cX0_sayingsFor 9 = .ok (.if_icmp .ge 27, 3) := by decide +kernel
theorem dX0_sayingsFor_12 : decode cX0_sayingsFor 12 = .ok (.iload_n 2, 1) := by decide +kernel
theorem dX0_sayingsFor_13 : decode cX0_sayingsFor 13 = .ok (.aload_n 0, 1) := by decide +kernel
theorem dX0_sayingsFor_14 : decode cX0_sayingsFor 14 = .ok (.getfield 21, 3) := by decide +kernel
theorem dX0_sayingsFor_17 : decode cX0_sayingsFor 17 = .ok (.getfield 54, 3) := by decide +kernel
theorem dX0_sayingsFor_20 : decode cX0_sayingsFor 20 = .ok (.iload_n 3, 1) := by decide +kernel
theorem dX0_sayingsFor_21 : decode cX0_sayingsFor 21 = .ok (.iaload, 1) := by decide +kernel
theorem dX0_sayingsFor_22 : decode cX0_sayingsFor 22 = .ok (.iload_n 1, 1) := by decide +kernel
theorem dX0_sayingsFor_23 : decode cX0_sayingsFor 23 = .ok (.ishr, 1) := by decide +kernel
theorem dX0_sayingsFor_24 : decode cX0_sayingsFor 24 = .ok (.iconst 1, 1) := by decide +kernel
theorem dX0_sayingsFor_25 : decode cX0_sayingsFor 25 = .ok (.iand, 1) := by decide +kernel
theorem dX0_sayingsFor_26 : decode cX0_sayingsFor 26 = .ok (.iload_n 3, 1) := by decide +kernel
theorem dX0_sayingsFor_27 : decode cX0_sayingsFor 27 = .ok (.ishl, 1) := by decide +kernel
theorem dX0_sayingsFor_28 : decode cX0_sayingsFor 28 = .ok (.ior, 1) := by decide +kernel
theorem dX0_sayingsFor_29 : decode cX0_sayingsFor 29 = .ok (.istore_n 2, 1) := by decide +kernel
theorem dX0_sayingsFor_30 : decode cX0_sayingsFor 30 = .ok (.iinc 3 1, 3) := by decide +kernel
theorem dX0_sayingsFor_33 : decode cX0_sayingsFor 33 = .ok (.goto (-29), 3) := by decide +kernel
theorem dX0_sayingsFor_36 : decode cX0_sayingsFor 36 = .ok (.iload_n 2, 1) := by decide +kernel
theorem dX0_sayingsFor_37 : decode cX0_sayingsFor 37 = .ok (.ireturn, 1) := by decide +kernel
theorem dX0_sideOf_0 : decode cX0_sideOf 0 = .ok (.aload_n 0, 1) := by decide +kernel
theorem dX0_sideOf_1 : decode cX0_sideOf 1 = .ok (.getfield 21, 3) := by decide +kernel
theorem dX0_sideOf_4 : decode cX0_sideOf 4 = .ok (.getfield 54, 3) := by decide +kernel
theorem dX0_sideOf_7 : decode cX0_sideOf 7 = .ok (.iload_n 2, 1) := by decide +kernel
theorem dX0_sideOf_8 : decode cX0_sideOf 8 = .ok (.iaload, 1) := by decide +kernel
theorem dX0_sideOf_9 : decode cX0_sideOf 9 = .ok (.iload_n 1, 1) := by decide +kernel
theorem dX0_sideOf_10 : decode cX0_sideOf 10 = .ok (.ishr, 1) := by decide +kernel
theorem dX0_sideOf_11 : decode cX0_sideOf 11 = .ok (.iconst 1, 1) := by decide +kernel
theorem dX0_sideOf_12 : decode cX0_sideOf 12 = .ok (.iand, 1) := by decide +kernel
theorem dX0_sideOf_13 : decode cX0_sideOf 13 = .ok (.ifCond .eq 7, 3) := by decide +kernel
theorem dX0_sideOf_16 : decode cX0_sideOf 16 = .ok (.iconst 1, 1) := by decide +kernel
theorem dX0_sideOf_17 : decode cX0_sideOf 17 = .ok (.goto 4, 3) := by decide +kernel
theorem dX0_sideOf_20 : decode cX0_sideOf 20 = .ok (.iconst 0, 1) := by decide +kernel
theorem dX0_sideOf_21 : decode cX0_sideOf 21 = .ok (.istore_n 3, 1) := by decide +kernel
theorem dX0_sideOf_22 : decode cX0_sideOf 22 = .ok (.aload_n 0, 1) := by decide +kernel
theorem dX0_sideOf_23 : decode cX0_sideOf 23 = .ok (.invokevirtual 57, 3) := by decide +kernel
theorem dX0_sideOf_26 : decode cX0_sideOf 26 = .ok (.iload_n 3, 1) := by decide +kernel
theorem dX0_sideOf_27 : decode cX0_sideOf 27 = .ok (.ifCond .eq 15, 3) := by decide +kernel
theorem dX0_sideOf_30 : decode cX0_sideOf 30 = .ok (.aload_n 0, 1) := by decide +kernel
theorem dX0_sideOf_31 : decode cX0_sideOf 31 = .ok (.getfield 21, 3) := by decide +kernel
theorem dX0_sideOf_34 : decode cX0_sideOf 34 = .ok (.getfield 54, 3) := by decide +kernel
theorem dX0_sideOf_37 : decode cX0_sideOf 37 = .ok (.iload_n 2, 1) := by decide +kernel
theorem dX0_sideOf_38 : decode cX0_sideOf 38 = .ok (.iaload, 1) := by decide +kernel
theorem dX0_sideOf_39 : decode cX0_sideOf 39 = .ok (.goto 14, 3) := by decide +kernel
theorem dX0_sideOf_42 : decode cX0_sideOf 42 = .ok (.aload_n 0, 1) := by decide +kernel
theorem dX0_sideOf_43 : decode cX0_sideOf 43 = .ok (.getfield 21, 3) := by decide +kernel
theorem dX0_sideOf_46 : decode cX0_sideOf 46 = .ok (.getfield 54, 3) := by decide +kernel
theorem dX0_sideOf_49 : decode cX0_sideOf 49 = .ok (.iload_n 2, 1) := by decide +kernel
theorem dX0_sideOf_50 : decode cX0_sideOf 50 = .ok (.iaload, 1) := by decide +kernel
theorem dX0_sideOf_51 : decode cX0_sideOf 51 = .ok (.iconst (-1), 1) := by decide +kernel
theorem dX0_sideOf_52 : decode cX0_sideOf 52 = .ok (.ixor, 1) := by decide +kernel
theorem dX0_sideOf_53 : decode cX0_sideOf 53 = .ok (.iand, 1) := by decide +kernel
theorem dX0_sideOf_54 : decode cX0_sideOf 54 = .ok (.ireturn, 1) := by decide +kernel
theorem dX0_iceFromHereOn_0 : decode cX0_iceFromHereOn 0 = .ok (.iconst 0, 1) := by decide +kernel
theorem dX0_iceFromHereOn_1 : decode cX0_iceFromHereOn 1 = .ok (.istore_n 1, 1) := by decide +kernel
theorem dX0_iceFromHereOn_2 : decode cX0_iceFromHereOn 2 = .ok (.aload_n 0, 1) := by decide +kernel
theorem dX0_iceFromHereOn_3 : decode cX0_iceFromHereOn 3 = .ok (.getfield 21, 3) := by decide +kernel
theorem dX0_iceFromHereOn_6 : decode cX0_iceFromHereOn 6 = .ok (.getfield 61, 3) := by decide +kernel
theorem dX0_iceFromHereOn_9 : decode cX0_iceFromHereOn 9 = .ok (.istore_n 2, 1) := by decide +kernel
theorem dX0_iceFromHereOn_10 : decode cX0_iceFromHereOn 10 = .ok (.iload_n 2, 1) := by decide +kernel
theorem dX0_iceFromHereOn_11 : decode cX0_iceFromHereOn 11 = .ok (.aload_n 0, 1) := by decide +kernel
theorem dX0_iceFromHereOn_12 : decode cX0_iceFromHereOn 12 = .ok (.getfield 25, 3) := by decide +kernel
theorem dX0_iceFromHereOn_15 : decode cX0_iceFromHereOn 15 = .ok (.if_icmp .ge 21, 3) := by decide +kernel
theorem dX0_iceFromHereOn_18 : decode cX0_iceFromHereOn 18 = .ok (.iload_n 1, 1) := by decide +kernel
theorem dX0_iceFromHereOn_19 : decode cX0_iceFromHereOn 19 = .ok (.aload_n 0, 1) := by decide +kernel
theorem dX0_iceFromHereOn_20 : decode cX0_iceFromHereOn 20 = .ok (.getfield 21, 3) := by decide +kernel
theorem dX0_iceFromHereOn_23 : decode cX0_iceFromHereOn 23 = .ok (.getfield 48, 3) := by decide +kernel
theorem dX0_iceFromHereOn_26 : decode cX0_iceFromHereOn 26 = .ok (.iload_n 2, 1) := by decide +kernel
theorem dX0_iceFromHereOn_27 : decode cX0_iceFromHereOn 27 = .ok (.iaload, 1) := by decide +kernel
theorem dX0_iceFromHereOn_28 : decode cX0_iceFromHereOn 28 = .ok (.iadd, 1) := by decide +kernel
theorem dX0_iceFromHereOn_29 : decode cX0_iceFromHereOn 29 = .ok (.istore_n 1, 1) := by decide +kernel
theorem dX0_iceFromHereOn_30 : decode cX0_iceFromHereOn 30 = .ok (.iinc 2 1, 3) := by decide +kernel
theorem dX0_iceFromHereOn_33 : decode cX0_iceFromHereOn 33 = .ok (.goto (-23), 3) := by decide +kernel
theorem dX0_iceFromHereOn_36 : decode cX0_iceFromHereOn 36 = .ok (.iload_n 1, 1) := by decide +kernel
theorem dX0_iceFromHereOn_37 : decode cX0_iceFromHereOn 37 = .ok (.ireturn, 1) := by decide +kernel
theorem dX0_juiceOfAll_0 : decode cX0_juiceOfAll 0 = .ok (.iconst 0, 1) := by decide +kernel
theorem dX0_juiceOfAll_1 : decode cX0_juiceOfAll 1 = .ok (.istore_n 1, 1) := by decide +kernel
theorem dX0_juiceOfAll_2 : decode cX0_juiceOfAll 2 = .ok (.iconst 0, 1) := by decide +kernel
theorem dX0_juiceOfAll_3 : decode cX0_juiceOfAll 3 = .ok (.istore_n 2, 1) := by decide +kernel
theorem dX0_juiceOfAll_4 : decode cX0_juiceOfAll 4 = .ok (.iload_n 2, 1) := by decide +kernel
theorem dX0_juiceOfAll_5 : decode cX0_juiceOfAll 5 = .ok (.aload_n 0, 1) := by decide +kernel
theorem dX0_juiceOfAll_6 : decode cX0_juiceOfAll 6 = .ok (.getfield 32, 3) := by decide +kernel
theorem dX0_juiceOfAll_9 : decode cX0_juiceOfAll 9 = .ok (.if_icmp .ge 21, 3) := by decide +kernel
theorem dX0_juiceOfAll_12 : decode cX0_juiceOfAll 12 = .ok (.iload_n 1, 1) := by decide +kernel
theorem dX0_juiceOfAll_13 : decode cX0_juiceOfAll 13 = .ok (.aload_n 0, 1) := by decide +kernel
theorem dX0_juiceOfAll_14 : decode cX0_juiceOfAll 14 = .ok (.getfield 21, 3) := by decide +kernel
theorem dX0_juiceOfAll_17 : decode cX0_juiceOfAll 17 = .ok (.getfield 51, 3) := by decide +kernel
theorem dX0_juiceOfAll_20 : decode cX0_juiceOfAll 20 = .ok (.iload_n 2, 1) := by decide +kernel
theorem dX0_juiceOfAll_21 : decode cX0_juiceOfAll 21 = .ok (.iaload, 1) := by decide +kernel
theorem dX0_juiceOfAll_22 : decode cX0_juiceOfAll 22 = .ok (.iadd, 1) := by decide +kernel
theorem dX0_juiceOfAll_23 : decode cX0_juiceOfAll 23 = .ok (.istore_n 1, 1) := by decide +kernel
theorem dX0_juiceOfAll_24 : decode cX0_juiceOfAll 24 = .ok (.iinc 2 1, 3) := by decide +kernel
theorem dX0_juiceOfAll_27 : decode cX0_juiceOfAll 27 = .ok (.goto (-23), 3) := by decide +kernel
theorem dX0_juiceOfAll_30 : decode cX0_juiceOfAll 30 = .ok (.iload_n 1, 1) := by decide +kernel
theorem dX0_juiceOfAll_31 : decode cX0_juiceOfAll 31 = .ok (.ireturn, 1) := by decide +kernel
theorem dX0_isThrough_0 : decode cX0_isThrough 0 = .ok (.aload_n 1, 1) := by decide +kernel
theorem dX0_isThrough_1 : decode cX0_isThrough 1 = .ok (.getfield 61, 3) := by decide +kernel
theorem dX0_isThrough_4 : decode cX0_isThrough 4 = .ok (.aload_n 0, 1) := by decide +kernel
theorem dX0_isThrough_5 : decode cX0_isThrough 5 = .ok (.getfield 25, 3) := by decide +kernel
theorem dX0_isThrough_8 : decode cX0_isThrough 8 = .ok (.if_icmp .lt 7, 3) := by decide +kernel
theorem dX0_isThrough_11 : decode cX0_isThrough 11 = .ok (.iconst 1, 1) := by decide +kernel
theorem dX0_isThrough_12 : decode cX0_isThrough 12 = .ok (.goto 4, 3) := by decide +kernel
theorem dX0_isThrough_15 : decode cX0_isThrough 15 = .ok (.iconst 0, 1) := by decide +kernel
theorem dX0_isThrough_16 : decode cX0_isThrough 16 = .ok (.ireturn, 1) := by decide +kernel
theorem dX0_iceAhead_0 : decode cX0_iceAhead 0 = .ok (.aload_n 0, 1) := by decide +kernel
theorem dX0_iceAhead_1 : decode cX0_iceAhead 1 = .ok (.aload_n 1, 1) := by decide +kernel
theorem dX0_iceAhead_2 : decode cX0_iceAhead 2 = .ok (.invokevirtual 64, 3) := by decide +kernel
theorem dX0_iceAhead_5 : decode cX0_iceAhead 5 = .ok (.ifCond .eq 7, 3) := by decide +kernel
theorem dX0_iceAhead_8 : decode cX0_iceAhead 8 = .ok (.iconst 0, 1) := by decide +kernel
theorem dX0_iceAhead_9 : decode cX0_iceAhead 9 = .ok (.goto 12, 3) := by decide +kernel
theorem dX0_iceAhead_12 : decode cX0_iceAhead 12 = .ok (.aload_n 1, 1) := by decide +kernel
theorem dX0_iceAhead_13 : decode cX0_iceAhead 13 = .ok (.getfield 48, 3) := by decide +kernel
theorem dX0_iceAhead_16 : decode cX0_iceAhead 16 = .ok (.aload_n 1, 1) := by decide +kernel
theorem dX0_iceAhead_17 : decode cX0_iceAhead 17 = .ok (.getfield 61, 3) := by decide +kernel
theorem dX0_iceAhead_20 : decode cX0_iceAhead 20 = .ok (.iaload, 1) := by decide +kernel
theorem dX0_iceAhead_21 : decode cX0_iceAhead 21 = .ok (.ireturn, 1) := by decide +kernel
theorem dX0_personRocks_0 : decode cX0_personRocks 0 = .ok (.aload_n 0, 1) := by decide +kernel
theorem dX0_personRocks_1 : decode cX0_personRocks 1 = .ok (.getfield 15, 3) := by decide +kernel
theorem dX0_personRocks_4 : decode cX0_personRocks 4 = .ok (.iload_n 1, 1) := by decide +kernel
theorem dX0_personRocks_5 : decode cX0_personRocks 5 = .ok (.iaload, 1) := by decide +kernel
theorem dX0_personRocks_6 : decode cX0_personRocks 6 = .ok (.istore 5, 2) := by decide +kernel
theorem dX0_personRocks_8 : decode cX0_personRocks 8 = .ok (.iload 5, 2) := by decide +kernel
theorem dX0_personRocks_10 : decode cX0_personRocks 10 = .ok (.iload_n 2, 1) := by decide +kernel
theorem dX0_personRocks_11 : decode cX0_personRocks 11 = .ok (.iconst 4, 1) := by decide +kernel
theorem dX0_personRocks_12 : decode cX0_personRocks 12 = .ok (.idiv, 1) := by decide +kernel
theorem dX0_personRocks_13 : decode cX0_personRocks 13 = .ok (.iadd, 1) := by decide +kernel
theorem dX0_personRocks_14 : decode cX0_personRocks 14 = .ok (.istore 6, 2) := by decide +kernel
theorem dX0_personRocks_16 : decode cX0_personRocks 16 = .ok (.iload_n 2, 1) := by decide +kernel
theorem dX0_personRocks_17 : decode cX0_personRocks 17 = .ok (.bipush 6, 2) := by decide +kernel
theorem dX0_personRocks_19 : decode cX0_personRocks 19 = .ok (.if_icmp .ge 7, 3) := by decide +kernel
theorem dX0_personRocks_22 : decode cX0_personRocks 22 = .ok (.iconst 0, 1) := by decide +kernel
theorem dX0_personRocks_23 : decode cX0_personRocks 23 = .ok (.goto 5, 3) := by decide +kernel
theorem dX0_personRocks_26 : decode cX0_personRocks 26 = .ok (.iload 5, 2) := by decide +kernel
theorem dX0_personRocks_28 : decode cX0_personRocks 28 = .ok (.istore 7, 2) := by decide +kernel
theorem dX0_personRocks_30 : decode cX0_personRocks 30 = .ok (.aload_n 0, 1) := by decide +kernel
theorem dX0_personRocks_31 : decode cX0_personRocks 31 = .ok (.getfield 9, 3) := by decide +kernel
theorem dX0_personRocks_34 : decode cX0_personRocks 34 = .ok (.iload_n 1, 1) := by decide +kernel
theorem dX0_personRocks_35 : decode cX0_personRocks 35 = .ok (.iaload, 1) := by decide +kernel
theorem dX0_personRocks_36 : decode cX0_personRocks 36 = .ok (.tableswitch 67 1 4 #[32, 35, 38, 52], 32) := by decide +kernel
theorem dX0_personRocks_68 : decode cX0_personRocks 68 = .ok (.iload 6, 2) := by decide +kernel
theorem dX0_personRocks_70 : decode cX0_personRocks 70 = .ok (.ireturn, 1) := by decide +kernel
theorem dX0_personRocks_71 : decode cX0_personRocks 71 = .ok (.iload 7, 2) := by decide +kernel
theorem dX0_personRocks_73 : decode cX0_personRocks 73 = .ok (.ireturn, 1) := by decide +kernel
theorem dX0_personRocks_74 : decode cX0_personRocks 74 = .ok (.iload_n 3, 1) := by decide +kernel
theorem dX0_personRocks_75 : decode cX0_personRocks 75 = .ok (.ifCond .eq 10, 3) := by decide +kernel
theorem dX0_personRocks_78 : decode cX0_personRocks 78 = .ok (.iconst 2, 1) := by decide +kernel
theorem dX0_personRocks_79 : decode cX0_personRocks 79 = .ok (.iload 6, 2) := by decide +kernel
theorem dX0_personRocks_81 : decode cX0_personRocks 81 = .ok (.imul, 1) := by decide +kernel
theorem dX0_personRocks_82 : decode cX0_personRocks 82 = .ok (.goto 5, 3) := by decide +kernel
theorem dX0_personRocks_85 : decode cX0_personRocks 85 = .ok (.iload 6, 2) := by decide +kernel
theorem dX0_personRocks_87 : decode cX0_personRocks 87 = .ok (.ireturn, 1) := by decide +kernel
theorem dX0_personRocks_88 : decode cX0_personRocks 88 = .ok (.iload 4, 2) := by decide +kernel
theorem dX0_personRocks_90 : decode cX0_personRocks 90 = .ok (.ifCond .eq 10, 3) := by decide +kernel
theorem dX0_personRocks_93 : decode cX0_personRocks 93 = .ok (.iload 7, 2) := by decide +kernel
theorem dX0_personRocks_95 : decode cX0_personRocks 95 = .ok (.iconst 3, 1) := by decide +kernel
theorem dX0_personRocks_96 : decode cX0_personRocks 96 = .ok (.iadd, 1) := by decide +kernel
theorem dX0_personRocks_97 : decode cX0_personRocks 97 = .ok (.goto 5, 3) := by decide +kernel
theorem dX0_personRocks_100 : decode cX0_personRocks 100 = .ok (.iload 7, 2) := by decide +kernel
theorem dX0_personRocks_102 : decode cX0_personRocks 102 = .ok (.ireturn, 1) := by decide +kernel
theorem dX0_personRocks_103 : decode cX0_personRocks 103 = .ok (.iload 5, 2) := by decide +kernel
theorem dX0_personRocks_105 : decode cX0_personRocks 105 = .ok (.ireturn, 1) := by decide +kernel
theorem dX0_sideRocks_0 : decode cX0_sideRocks 0 = .ok (.iload_n 1, 1) := by decide +kernel
theorem dX0_sideRocks_1 : decode cX0_sideRocks 1 = .ok (.invokestatic 68, 3) := by decide +kernel
theorem dX0_sideRocks_4 : decode cX0_sideRocks 4 = .ok (.iconst 1, 1) := by decide +kernel
theorem dX0_sideRocks_5 : decode cX0_sideRocks 5 = .ok (.if_icmp .ne 7, 3) := by decide +kernel
theorem dX0_sideRocks_8 : decode cX0_sideRocks 8 = .ok (.iconst 1, 1) := by decide +kernel
theorem dX0_sideRocks_9 : decode cX0_sideRocks 9 = .ok (.goto 4, 3) := by decide +kernel
theorem dX0_sideRocks_12 : decode cX0_sideRocks 12 = .ok (.iconst 0, 1) := by decide +kernel
theorem dX0_sideRocks_13 : decode cX0_sideRocks 13 = .ok (.istore 4, 2) := by decide +kernel
theorem dX0_sideRocks_15 : decode cX0_sideRocks 15 = .ok (.iconst 0, 1) := by decide +kernel
theorem dX0_sideRocks_16 : decode cX0_sideRocks 16 = .ok (.istore 5, 2) := by decide +kernel
theorem dX0_sideRocks_18 : decode cX0_sideRocks 18 = .ok (.iconst 0, 1) := by decide +kernel
theorem dX0_sideRocks_19 : decode cX0_sideRocks 19 = .ok (.istore 6, 2) := by decide +kernel
theorem dX0_sideRocks_21 : decode cX0_sideRocks 21 = .ok (.iload 6, 2) := by decide +kernel
theorem dX0_sideRocks_23 : decode cX0_sideRocks 23 = .ok (.aload_n 0, 1) := by decide +kernel
theorem dX0_sideRocks_24 : decode cX0_sideRocks 24 = .ok (.getfield 29, 3) := by decide +kernel
theorem dX0_sideRocks_27 : decode cX0_sideRocks 27 = .ok (.if_icmp .ge 33, 3) := by decide +kernel
theorem dX0_sideRocks_30 : decode cX0_sideRocks 30 = .ok (.iload_n 1, 1) := by decide +kernel
theorem dX0_sideRocks_31 : decode cX0_sideRocks 31 = .ok (.iload 6, 2) := by decide +kernel
theorem dX0_sideRocks_33 : decode cX0_sideRocks 33 = .ok (.ishr, 1) := by decide +kernel
theorem dX0_sideRocks_34 : decode cX0_sideRocks 34 = .ok (.iconst 1, 1) := by decide +kernel
theorem dX0_sideRocks_35 : decode cX0_sideRocks 35 = .ok (.iand, 1) := by decide +kernel
theorem dX0_sideRocks_36 : decode cX0_sideRocks 36 = .ok (.ifCond .eq 18, 3) := by decide +kernel
theorem dX0_sideRocks_39 : decode cX0_sideRocks 39 = .ok (.iload 5, 2) := by decide +kernel
theorem dX0_sideRocks_41 : decode cX0_sideRocks 41 = .ok (.aload_n 0, 1) := by decide +kernel
theorem dX0_sideRocks_42 : decode cX0_sideRocks 42 = .ok (.iload 6, 2) := by decide +kernel
theorem dX0_sideRocks_44 : decode cX0_sideRocks 44 = .ok (.iload_n 2, 1) := by decide +kernel
theorem dX0_sideRocks_45 : decode cX0_sideRocks 45 = .ok (.iload 4, 2) := by decide +kernel
theorem dX0_sideRocks_47 : decode cX0_sideRocks 47 = .ok (.iload_n 3, 1) := by decide +kernel
theorem dX0_sideRocks_48 : decode cX0_sideRocks 48 = .ok (.invokevirtual 74, 3) := by decide +kernel
theorem dX0_sideRocks_51 : decode cX0_sideRocks 51 = .ok (.iadd, 1) := by decide +kernel
theorem dX0_sideRocks_52 : decode cX0_sideRocks 52 = .ok (.istore 5, 2) := by decide +kernel
theorem dX0_sideRocks_54 : decode cX0_sideRocks 54 = .ok (.iinc 6 1, 3) := by decide +kernel
theorem dX0_sideRocks_57 : decode cX0_sideRocks 57 = .ok (.goto (-36), 3) := by decide +kernel
theorem dX0_sideRocks_60 : decode cX0_sideRocks 60 = .ok (.iload 5, 2) := by decide +kernel
theorem dX0_sideRocks_62 : decode cX0_sideRocks 62 = .ok (.ireturn, 1) := by decide +kernel
theorem dX0_boatRocks_0 : decode cX0_boatRocks 0 = .ok (.iload_n 1, 1) := by decide +kernel
theorem dX0_boatRocks_1 : decode cX0_boatRocks 1 = .ok (.ifCond .ne 5, 3) := by decide +kernel
theorem dX0_boatRocks_4 : decode cX0_boatRocks 4 = .ok (.iconst 0, 1) := by decide +kernel
theorem dX0_boatRocks_5 : decode cX0_boatRocks 5 = .ok (.ireturn, 1) := by decide +kernel
theorem dX0_boatRocks_6 : decode cX0_boatRocks 6 = .ok (.iconst 2, 1) := by decide +kernel
theorem dX0_boatRocks_7 : decode cX0_boatRocks 7 = .ok (.aload_n 0, 1) := by decide +kernel
theorem dX0_boatRocks_8 : decode cX0_boatRocks 8 = .ok (.iload_n 3, 1) := by decide +kernel
theorem dX0_boatRocks_9 : decode cX0_boatRocks 9 = .ok (.iload_n 2, 1) := by decide +kernel
theorem dX0_boatRocks_10 : decode cX0_boatRocks 10 = .ok (.iand, 1) := by decide +kernel
theorem dX0_boatRocks_11 : decode cX0_boatRocks 11 = .ok (.iload_n 1, 1) := by decide +kernel
theorem dX0_boatRocks_12 : decode cX0_boatRocks 12 = .ok (.iload 4, 2) := by decide +kernel
theorem dX0_boatRocks_14 : decode cX0_boatRocks 14 = .ok (.invokevirtual 78, 3) := by decide +kernel
theorem dX0_boatRocks_17 : decode cX0_boatRocks 17 = .ok (.aload_n 0, 1) := by decide +kernel
theorem dX0_boatRocks_18 : decode cX0_boatRocks 18 = .ok (.iload_n 3, 1) := by decide +kernel
theorem dX0_boatRocks_19 : decode cX0_boatRocks 19 = .ok (.iload_n 2, 1) := by decide +kernel
theorem dX0_boatRocks_20 : decode cX0_boatRocks 20 = .ok (.iconst (-1), 1) := by decide +kernel
theorem dX0_boatRocks_21 : decode cX0_boatRocks 21 = .ok (.ixor, 1) := by decide +kernel
theorem dX0_boatRocks_22 : decode cX0_boatRocks 22 = .ok (.iand, 1) := by decide +kernel
theorem dX0_boatRocks_23 : decode cX0_boatRocks 23 = .ok (.iload_n 1, 1) := by decide +kernel
theorem dX0_boatRocks_24 : decode cX0_boatRocks 24 = .ok (.iload 4, 2) := by decide +kernel
theorem dX0_boatRocks_26 : decode cX0_boatRocks 26 = .ok (.invokevirtual 78, 3) := by decide +kernel
theorem dX0_boatRocks_29 : decode cX0_boatRocks 29 = .ok (.invokestatic 82, 3) := by decide +kernel
theorem dX0_boatRocks_32 : decode cX0_boatRocks 32 = .ok (.imul, 1) := by decide +kernel
theorem dX0_boatRocks_33 : decode cX0_boatRocks 33 = .ok (.ireturn, 1) := by decide +kernel
theorem dX0_sayingRocks_0 : decode cX0_sayingRocks 0 = .ok (.aload_n 0, 1) := by decide +kernel
theorem dX0_sayingRocks_1 : decode cX0_sayingRocks 1 = .ok (.aload_n 1, 1) := by decide +kernel
theorem dX0_sayingRocks_2 : decode cX0_sayingRocks 2 = .ok (.getfield 51, 3) := by decide +kernel
theorem dX0_sayingRocks_5 : decode cX0_sayingRocks 5 = .ok (.iload_n 2, 1) := by decide +kernel
theorem dX0_sayingRocks_6 : decode cX0_sayingRocks 6 = .ok (.iaload, 1) := by decide +kernel
theorem dX0_sayingRocks_7 : decode cX0_sayingRocks 7 = .ok (.aload_n 1, 1) := by decide +kernel
theorem dX0_sayingRocks_8 : decode cX0_sayingRocks 8 = .ok (.getfield 54, 3) := by decide +kernel
theorem dX0_sayingRocks_11 : decode cX0_sayingRocks 11 = .ok (.iload_n 2, 1) := by decide +kernel
theorem dX0_sayingRocks_12 : decode cX0_sayingRocks 12 = .ok (.iaload, 1) := by decide +kernel
theorem dX0_sayingRocks_13 : decode cX0_sayingRocks 13 = .ok (.aload_n 0, 1) := by decide +kernel
theorem dX0_sayingRocks_14 : decode cX0_sayingRocks 14 = .ok (.invokevirtual 57, 3) := by decide +kernel
theorem dX0_sayingRocks_17 : decode cX0_sayingRocks 17 = .ok (.aload_n 1, 1) := by decide +kernel
theorem dX0_sayingRocks_18 : decode cX0_sayingRocks 18 = .ok (.invokevirtual 88, 3) := by decide +kernel
theorem dX0_sayingRocks_21 : decode cX0_sayingRocks 21 = .ok (.invokevirtual 92, 3) := by decide +kernel
theorem dX0_sayingRocks_24 : decode cX0_sayingRocks 24 = .ok (.ireturn, 1) := by decide +kernel
theorem dX0_crewRocks_0 : decode cX0_crewRocks 0 = .ok (.aload_n 0, 1) := by decide +kernel
theorem dX0_crewRocks_1 : decode cX0_crewRocks 1 = .ok (.aload_n 0, 1) := by decide +kernel
theorem dX0_crewRocks_2 : decode cX0_crewRocks 2 = .ok (.getfield 21, 3) := by decide +kernel
theorem dX0_crewRocks_5 : decode cX0_crewRocks 5 = .ok (.getfield 51, 3) := by decide +kernel
theorem dX0_crewRocks_8 : decode cX0_crewRocks 8 = .ok (.iload_n 1, 1) := by decide +kernel
theorem dX0_crewRocks_9 : decode cX0_crewRocks 9 = .ok (.iaload, 1) := by decide +kernel
theorem dX0_crewRocks_10 : decode cX0_crewRocks 10 = .ok (.aload_n 0, 1) := by decide +kernel
theorem dX0_crewRocks_11 : decode cX0_crewRocks 11 = .ok (.getfield 21, 3) := by decide +kernel
theorem dX0_crewRocks_14 : decode cX0_crewRocks 14 = .ok (.getfield 54, 3) := by decide +kernel
theorem dX0_crewRocks_17 : decode cX0_crewRocks 17 = .ok (.iload_n 1, 1) := by decide +kernel
theorem dX0_crewRocks_18 : decode cX0_crewRocks 18 = .ok (.iaload, 1) := by decide +kernel
theorem dX0_crewRocks_19 : decode cX0_crewRocks 19 = .ok (.iload_n 2, 1) := by decide +kernel
theorem dX0_crewRocks_20 : decode cX0_crewRocks 20 = .ok (.aload_n 0, 1) := by decide +kernel
theorem dX0_crewRocks_21 : decode cX0_crewRocks 21 = .ok (.getfield 21, 3) := by decide +kernel
theorem dX0_crewRocks_24 : decode cX0_crewRocks 24 = .ok (.invokevirtual 88, 3) := by decide +kernel
theorem dX0_crewRocks_27 : decode cX0_crewRocks 27 = .ok (.invokevirtual 92, 3) := by decide +kernel
theorem dX0_crewRocks_30 : decode cX0_crewRocks 30 = .ok (.ireturn, 1) := by decide +kernel
theorem dX0_swayedRocks_0 : decode cX0_swayedRocks 0 = .ok (.aload_n 0, 1) := by decide +kernel
theorem dX0_swayedRocks_1 : decode cX0_swayedRocks 1 = .ok (.aload_n 0, 1) := by decide +kernel
theorem dX0_swayedRocks_2 : decode cX0_swayedRocks 2 = .ok (.getfield 21, 3) := by decide +kernel
theorem dX0_swayedRocks_5 : decode cX0_swayedRocks 5 = .ok (.getfield 51, 3) := by decide +kernel
theorem dX0_swayedRocks_8 : decode cX0_swayedRocks 8 = .ok (.iload_n 1, 1) := by decide +kernel
theorem dX0_swayedRocks_9 : decode cX0_swayedRocks 9 = .ok (.iaload, 1) := by decide +kernel
theorem dX0_swayedRocks_10 : decode cX0_swayedRocks 10 = .ok (.aload_n 0, 1) := by decide +kernel
theorem dX0_swayedRocks_11 : decode cX0_swayedRocks 11 = .ok (.getfield 21, 3) := by decide +kernel
theorem dX0_swayedRocks_14 : decode cX0_swayedRocks 14 = .ok (.getfield 54, 3) := by decide +kernel
theorem dX0_swayedRocks_17 : decode cX0_swayedRocks 17 = .ok (.iload_n 1, 1) := by decide +kernel
theorem dX0_swayedRocks_18 : decode cX0_swayedRocks 18 = .ok (.iaload, 1) := by decide +kernel
theorem dX0_swayedRocks_19 : decode cX0_swayedRocks 19 = .ok (.iload_n 2, 1) := by decide +kernel
theorem dX0_swayedRocks_20 : decode cX0_swayedRocks 20 = .ok (.ixor, 1) := by decide +kernel
theorem dX0_swayedRocks_21 : decode cX0_swayedRocks 21 = .ok (.aload_n 0, 1) := by decide +kernel
theorem dX0_swayedRocks_22 : decode cX0_swayedRocks 22 = .ok (.invokevirtual 57, 3) := by decide +kernel
theorem dX0_swayedRocks_25 : decode cX0_swayedRocks 25 = .ok (.aload_n 0, 1) := by decide +kernel
theorem dX0_swayedRocks_26 : decode cX0_swayedRocks 26 = .ok (.getfield 21, 3) := by decide +kernel
theorem dX0_swayedRocks_29 : decode cX0_swayedRocks 29 = .ok (.invokevirtual 88, 3) := by decide +kernel
theorem dX0_swayedRocks_32 : decode cX0_swayedRocks 32 = .ok (.invokevirtual 92, 3) := by decide +kernel
theorem dX0_swayedRocks_35 : decode cX0_swayedRocks 35 = .ok (.ireturn, 1) := by decide +kernel
theorem dX0_partingRocks_0 : decode cX0_partingRocks 0 = .ok (.iconst 0, 1) := by decide +kernel
theorem dX0_partingRocks_1 : decode cX0_partingRocks 1 = .ok (.istore_n 2, 1) := by decide +kernel
theorem dX0_partingRocks_2 : decode cX0_partingRocks 2 = .ok (.iconst 0, 1) := by decide +kernel
theorem dX0_partingRocks_3 : decode cX0_partingRocks 3 = .ok (.istore_n 3, 1) := by decide +kernel
theorem dX0_partingRocks_4 : decode cX0_partingRocks 4 = .ok (.iconst 0, 1) := by decide +kernel
theorem dX0_partingRocks_5 : decode cX0_partingRocks 5 = .ok (.istore 4, 2) := by decide +kernel
theorem dX0_partingRocks_7 : decode cX0_partingRocks 7 = .ok (.iload 4, 2) := by decide +kernel
theorem dX0_partingRocks_9 : decode cX0_partingRocks 9 = .ok (.aload_n 0, 1) := by decide +kernel
theorem dX0_partingRocks_10 : decode cX0_partingRocks 10 = .ok (.getfield 32, 3) := by decide +kernel
theorem dX0_partingRocks_13 : decode cX0_partingRocks 13 = .ok (.if_icmp .ge 40, 3) := by decide +kernel
theorem dX0_partingRocks_16 : decode cX0_partingRocks 16 = .ok (.iload_n 2, 1) := by decide +kernel
theorem dX0_partingRocks_17 : decode cX0_partingRocks 17 = .ok (.aload_n 0, 1) := by decide +kernel
theorem dX0_partingRocks_18 : decode cX0_partingRocks 18 = .ok (.iload 4, 2) := by decide +kernel
theorem dX0_partingRocks_20 : decode cX0_partingRocks 20 = .ok (.iload_n 1, 1) := by decide +kernel
theorem dX0_partingRocks_21 : decode cX0_partingRocks 21 = .ok (.invokevirtual 96, 3) := by decide +kernel
theorem dX0_partingRocks_24 : decode cX0_partingRocks 24 = .ok (.invokestatic 99, 3) := by decide +kernel
theorem dX0_partingRocks_27 : decode cX0_partingRocks 27 = .ok (.istore_n 2, 1) := by decide +kernel
theorem dX0_partingRocks_28 : decode cX0_partingRocks 28 = .ok (.iload_n 3, 1) := by decide +kernel
theorem dX0_partingRocks_29 : decode cX0_partingRocks 29 = .ok (.aload_n 0, 1) := by decide +kernel
theorem dX0_partingRocks_30 : decode cX0_partingRocks 30 = .ok (.iload 4, 2) := by decide +kernel
theorem dX0_partingRocks_32 : decode cX0_partingRocks 32 = .ok (.aload_n 0, 1) := by decide +kernel
theorem dX0_partingRocks_33 : decode cX0_partingRocks 33 = .ok (.invokevirtual 57, 3) := by decide +kernel
theorem dX0_partingRocks_36 : decode cX0_partingRocks 36 = .ok (.iload_n 1, 1) := by decide +kernel
theorem dX0_partingRocks_37 : decode cX0_partingRocks 37 = .ok (.iconst (-1), 1) := by decide +kernel
theorem dX0_partingRocks_38 : decode cX0_partingRocks 38 = .ok (.ixor, 1) := by decide +kernel
theorem dX0_partingRocks_39 : decode cX0_partingRocks 39 = .ok (.iand, 1) := by decide +kernel
theorem dX0_partingRocks_40 : decode cX0_partingRocks 40 = .ok (.invokevirtual 96, 3) := by decide +kernel
theorem dX0_partingRocks_43 : decode cX0_partingRocks 43 = .ok (.invokestatic 99, 3) := by decide +kernel
theorem dX0_partingRocks_46 : decode cX0_partingRocks 46 = .ok (.istore_n 3, 1) := by decide +kernel
theorem dX0_partingRocks_47 : decode cX0_partingRocks 47 = .ok (.iinc 4 1, 3) := by decide +kernel
theorem dX0_partingRocks_50 : decode cX0_partingRocks 50 = .ok (.goto (-43), 3) := by decide +kernel
theorem dX0_partingRocks_53 : decode cX0_partingRocks 53 = .ok (.iload_n 2, 1) := by decide +kernel
theorem dX0_partingRocks_54 : decode cX0_partingRocks 54 = .ok (.iload_n 3, 1) := by decide +kernel
theorem dX0_partingRocks_55 : decode cX0_partingRocks 55 = .ok (.invokestatic 82, 3) := by decide +kernel
theorem dX0_partingRocks_58 : decode cX0_partingRocks 58 = .ok (.ireturn, 1) := by decide +kernel
theorem dX0_mostRocking_0 : decode cX0_mostRocking 0 = .ok (.bipush (-4), 2) := by decide +kernel
theorem dX0_mostRocking_2 : decode cX0_mostRocking 2 = .ok (.istore_n 2, 1) := by decide +kernel
theorem dX0_mostRocking_3 : decode cX0_mostRocking 3 = .ok (.iconst (-1), 1) := by decide +kernel
theorem dX0_mostRocking_4 : decode cX0_mostRocking 4 = .ok (.istore_n 3, 1) := by decide +kernel
theorem dX0_mostRocking_5 : decode cX0_mostRocking 5 = .ok (.iconst 0, 1) := by decide +kernel
theorem dX0_mostRocking_6 : decode cX0_mostRocking 6 = .ok (.istore 4, 2) := by decide +kernel
theorem dX0_mostRocking_8 : decode cX0_mostRocking 8 = .ok (.iload 4, 2) := by decide +kernel
theorem dX0_mostRocking_10 : decode cX0_mostRocking 10 = .ok (.aload_n 0, 1) := by decide +kernel
theorem dX0_mostRocking_11 : decode cX0_mostRocking 11 = .ok (.getfield 32, 3) := by decide +kernel
theorem dX0_mostRocking_14 : decode cX0_mostRocking 14 = .ok (.if_icmp .ge 30, 3) := by decide +kernel
theorem dX0_mostRocking_17 : decode cX0_mostRocking 17 = .ok (.aload_n 0, 1) := by decide +kernel
theorem dX0_mostRocking_18 : decode cX0_mostRocking 18 = .ok (.aload_n 1, 1) := by decide +kernel
theorem dX0_mostRocking_19 : decode cX0_mostRocking 19 = .ok (.iload 4, 2) := by decide +kernel
theorem dX0_mostRocking_21 : decode cX0_mostRocking 21 = .ok (.invokevirtual 102, 3) := by decide +kernel
theorem dX0_mostRocking_24 : decode cX0_mostRocking 24 = .ok (.istore 5, 2) := by decide +kernel
theorem dX0_mostRocking_26 : decode cX0_mostRocking 26 = .ok (.iload 5, 2) := by decide +kernel
theorem dX0_mostRocking_28 : decode cX0_mostRocking 28 = .ok (.iload_n 3, 1) := by decide +kernel
theorem dX0_mostRocking_29 : decode cX0_mostRocking 29 = .ok (.if_icmp .le 9, 3) := by decide +kernel
theorem dX0_mostRocking_32 : decode cX0_mostRocking 32 = .ok (.iload 4, 2) := by decide +kernel
theorem dX0_mostRocking_34 : decode cX0_mostRocking 34 = .ok (.istore_n 2, 1) := by decide +kernel
theorem dX0_mostRocking_35 : decode cX0_mostRocking 35 = .ok (.iload 5, 2) := by decide +kernel
theorem dX0_mostRocking_37 : decode cX0_mostRocking 37 = .ok (.istore_n 3, 1) := by decide +kernel
theorem dX0_mostRocking_38 : decode cX0_mostRocking 38 = .ok (.iinc 4 1, 3) := by decide +kernel
theorem dX0_mostRocking_41 : decode cX0_mostRocking 41 = .ok (.goto (-33), 3) := by decide +kernel
theorem dX0_mostRocking_44 : decode cX0_mostRocking 44 = .ok (.iload_n 2, 1) := by decide +kernel
theorem dX0_mostRocking_45 : decode cX0_mostRocking 45 = .ok (.ireturn, 1) := by decide +kernel
theorem dX0_pass_0 : decode cX0_pass 0 = .ok (.aload_n 0, 1) := by decide +kernel
theorem dX0_pass_1 : decode cX0_pass 1 = .ok (.aload_n 1, 1) := by decide +kernel
theorem dX0_pass_2 : decode cX0_pass 2 = .ok (.invokevirtual 64, 3) := by decide +kernel
theorem dX0_pass_5 : decode cX0_pass 5 = .ok (.ifCond .ne 26, 3) := by decide +kernel
theorem dX0_pass_8 : decode cX0_pass 8 = .ok (.aload_n 0, 1) := by decide +kernel
theorem dX0_pass_9 : decode cX0_pass 9 = .ok (.aload_n 1, 1) := by decide +kernel
theorem dX0_pass_10 : decode cX0_pass 10 = .ok (.aload_n 0, 1) := by decide +kernel
theorem dX0_pass_11 : decode cX0_pass 11 = .ok (.iload_n 2, 1) := by decide +kernel
theorem dX0_pass_12 : decode cX0_pass 12 = .ok (.invokevirtual 106, 3) := by decide +kernel
theorem dX0_pass_15 : decode cX0_pass 15 = .ok (.ifCond .eq 12, 3) := by decide +kernel
theorem dX0_pass_18 : decode cX0_pass 18 = .ok (.aload_n 0, 1) := by decide +kernel
theorem dX0_pass_19 : decode cX0_pass 19 = .ok (.aload_n 1, 1) := by decide +kernel
theorem dX0_pass_20 : decode cX0_pass 20 = .ok (.iload_n 2, 1) := by decide +kernel
theorem dX0_pass_21 : decode cX0_pass 21 = .ok (.invokevirtual 102, 3) := by decide +kernel
theorem dX0_pass_24 : decode cX0_pass 24 = .ok (.goto 4, 3) := by decide +kernel
theorem dX0_pass_27 : decode cX0_pass 27 = .ok (.iconst 0, 1) := by decide +kernel
theorem dX0_pass_28 : decode cX0_pass 28 = .ok (.invokevirtual 110, 3) := by decide +kernel
theorem dX0_pass_31 : decode cX0_pass 31 = .ok (.iconst 0, 1) := by decide +kernel
theorem dX0_pass_32 : decode cX0_pass 32 = .ok (.istore_n 3, 1) := by decide +kernel
theorem dX0_pass_33 : decode cX0_pass 33 = .ok (.iload_n 3, 1) := by decide +kernel
theorem dX0_pass_34 : decode cX0_pass 34 = .ok (.aload_n 0, 1) := by decide +kernel
theorem dX0_pass_35 : decode cX0_pass 35 = .ok (.getfield 32, 3) := by decide +kernel
theorem dX0_pass_38 : decode cX0_pass 38 = .ok (.if_icmp .ge 63, 3) := by decide +kernel
theorem dX0_pass_41 : decode cX0_pass 41 = .ok (.iload_n 3, 1) := by decide +kernel
theorem dX0_pass_42 : decode cX0_pass 42 = .ok (.iload_n 2, 1) := by decide +kernel
theorem dX0_pass_43 : decode cX0_pass 43 = .ok (.if_icmp .ne 24, 3) := by decide +kernel
theorem dX0_pass_46 : decode cX0_pass 46 = .ok (.aload_n 1, 1) := by decide +kernel
theorem dX0_pass_47 : decode cX0_pass 47 = .ok (.getfield 51, 3) := by decide +kernel
theorem dX0_pass_50 : decode cX0_pass 50 = .ok (.iload_n 3, 1) := by decide +kernel
theorem dX0_pass_51 : decode cX0_pass 51 = .ok (.iconst 0, 1) := by decide +kernel
theorem dX0_pass_52 : decode cX0_pass 52 = .ok (.aload_n 1, 1) := by decide +kernel
theorem dX0_pass_53 : decode cX0_pass 53 = .ok (.getfield 51, 3) := by decide +kernel
theorem dX0_pass_56 : decode cX0_pass 56 = .ok (.iload_n 3, 1) := by decide +kernel
theorem dX0_pass_57 : decode cX0_pass 57 = .ok (.iaload, 1) := by decide +kernel
theorem dX0_pass_58 : decode cX0_pass 58 = .ok (.iconst 2, 1) := by decide +kernel
theorem dX0_pass_59 : decode cX0_pass 59 = .ok (.isub, 1) := by decide +kernel
theorem dX0_pass_60 : decode cX0_pass 60 = .ok (.invokestatic 99, 3) := by decide +kernel
theorem dX0_pass_63 : decode cX0_pass 63 = .ok (.iastore, 1) := by decide +kernel
theorem dX0_pass_64 : decode cX0_pass 64 = .ok (.goto 31, 3) := by decide +kernel
theorem dX0_pass_67 : decode cX0_pass 67 = .ok (.aload_n 1, 1) := by decide +kernel
theorem dX0_pass_68 : decode cX0_pass 68 = .ok (.getfield 51, 3) := by decide +kernel
theorem dX0_pass_71 : decode cX0_pass 71 = .ok (.iload_n 3, 1) := by decide +kernel
theorem dX0_pass_72 : decode cX0_pass 72 = .ok (.iaload, 1) := by decide +kernel
theorem dX0_pass_73 : decode cX0_pass 73 = .ok (.ifCond .le 22, 3) := by decide +kernel
theorem dX0_pass_76 : decode cX0_pass 76 = .ok (.aload_n 1, 1) := by decide +kernel
theorem dX0_pass_77 : decode cX0_pass 77 = .ok (.getfield 51, 3) := by decide +kernel
theorem dX0_pass_80 : decode cX0_pass 80 = .ok (.iload_n 3, 1) := by decide +kernel
theorem dX0_pass_81 : decode cX0_pass 81 = .ok (.bipush 20, 2) := by decide +kernel
theorem dX0_pass_83 : decode cX0_pass 83 = .ok (.aload_n 1, 1) := by decide +kernel
theorem dX0_pass_84 : decode cX0_pass 84 = .ok (.getfield 51, 3) := by decide +kernel
theorem dX0_pass_87 : decode cX0_pass 87 = .ok (.iload_n 3, 1) := by decide +kernel
theorem dX0_pass_88 : decode cX0_pass 88 = .ok (.iaload, 1) := by decide +kernel
theorem dX0_pass_89 : decode cX0_pass 89 = .ok (.iconst 1, 1) := by decide +kernel
theorem dX0_pass_90 : decode cX0_pass 90 = .ok (.iadd, 1) := by decide +kernel
theorem dX0_pass_91 : decode cX0_pass 91 = .ok (.invokestatic 82, 3) := by decide +kernel
theorem dX0_pass_94 : decode cX0_pass 94 = .ok (.iastore, 1) := by decide +kernel
theorem dX0_pass_95 : decode cX0_pass 95 = .ok (.iinc 3 1, 3) := by decide +kernel
theorem dX0_pass_98 : decode cX0_pass 98 = .ok (.goto (-65), 3) := by decide +kernel
theorem dX0_pass_101 : decode cX0_pass 101 = .ok (.aload_n 1, 1) := by decide +kernel
theorem dX0_pass_102 : decode cX0_pass 102 = .ok (.dup, 1) := by decide +kernel
theorem dX0_pass_103 : decode cX0_pass 103 = .ok (.getfield 114, 3) := by decide +kernel
theorem dX0_pass_106 : decode cX0_pass 106 = .ok (.iconst 1, 1) := by decide +kernel
theorem dX0_pass_107 : decode cX0_pass 107 = .ok (.iadd, 1) := by decide +kernel
theorem dX0_pass_108 : decode cX0_pass 108 = .ok (.putfield 114, 3) := by decide +kernel
theorem dX0_pass_111 : decode cX0_pass 111 = .ok (.return_, 1) := by decide +kernel
theorem dX0_breakIce_0 : decode cX0_breakIce 0 = .ok (.aload_n 1, 1) := by decide +kernel
theorem dX0_breakIce_1 : decode cX0_breakIce 1 = .ok (.getfield 48, 3) := by decide +kernel
theorem dX0_breakIce_4 : decode cX0_breakIce 4 = .ok (.aload_n 1, 1) := by decide +kernel
theorem dX0_breakIce_5 : decode cX0_breakIce 5 = .ok (.getfield 61, 3) := by decide +kernel
theorem dX0_breakIce_8 : decode cX0_breakIce 8 = .ok (.iaload, 1) := by decide +kernel
theorem dX0_breakIce_9 : decode cX0_breakIce 9 = .ok (.iload_n 2, 1) := by decide +kernel
theorem dX0_breakIce_10 : decode cX0_breakIce 10 = .ok (.isub, 1) := by decide +kernel
theorem dX0_breakIce_11 : decode cX0_breakIce 11 = .ok (.istore_n 3, 1) := by decide +kernel
theorem dX0_breakIce_12 : decode cX0_breakIce 12 = .ok (.iload_n 3, 1) := by decide +kernel
theorem dX0_breakIce_13 : decode cX0_breakIce 13 = .ok (.ifCond .gt 26, 3) := by decide +kernel
theorem dX0_breakIce_16 : decode cX0_breakIce 16 = .ok (.aload_n 1, 1) := by decide +kernel
theorem dX0_breakIce_17 : decode cX0_breakIce 17 = .ok (.getfield 48, 3) := by decide +kernel
theorem dX0_breakIce_20 : decode cX0_breakIce 20 = .ok (.aload_n 1, 1) := by decide +kernel
theorem dX0_breakIce_21 : decode cX0_breakIce 21 = .ok (.getfield 61, 3) := by decide +kernel
theorem dX0_breakIce_24 : decode cX0_breakIce 24 = .ok (.iconst 0, 1) := by decide +kernel
theorem dX0_breakIce_25 : decode cX0_breakIce 25 = .ok (.iastore, 1) := by decide +kernel
theorem dX0_breakIce_26 : decode cX0_breakIce 26 = .ok (.aload_n 1, 1) := by decide +kernel
theorem dX0_breakIce_27 : decode cX0_breakIce 27 = .ok (.dup, 1) := by decide +kernel
theorem dX0_breakIce_28 : decode cX0_breakIce 28 = .ok (.getfield 61, 3) := by decide +kernel
theorem dX0_breakIce_31 : decode cX0_breakIce 31 = .ok (.iconst 1, 1) := by decide +kernel
theorem dX0_breakIce_32 : decode cX0_breakIce 32 = .ok (.iadd, 1) := by decide +kernel
theorem dX0_breakIce_33 : decode cX0_breakIce 33 = .ok (.putfield 61, 3) := by decide +kernel
theorem dX0_breakIce_36 : decode cX0_breakIce 36 = .ok (.goto 23, 3) := by decide +kernel
theorem dX0_breakIce_39 : decode cX0_breakIce 39 = .ok (.aload_n 1, 1) := by decide +kernel
theorem dX0_breakIce_40 : decode cX0_breakIce 40 = .ok (.getfield 48, 3) := by decide +kernel
theorem dX0_breakIce_43 : decode cX0_breakIce 43 = .ok (.aload_n 1, 1) := by decide +kernel
theorem dX0_breakIce_44 : decode cX0_breakIce 44 = .ok (.getfield 61, 3) := by decide +kernel
theorem dX0_breakIce_47 : decode cX0_breakIce 47 = .ok (.bipush 60, 2) := by decide +kernel
theorem dX0_breakIce_49 : decode cX0_breakIce 49 = .ok (.iload_n 3, 1) := by decide +kernel
theorem dX0_breakIce_50 : decode cX0_breakIce 50 = .ok (.aload_n 0, 1) := by decide +kernel
theorem dX0_breakIce_51 : decode cX0_breakIce 51 = .ok (.getfield 35, 3) := by decide +kernel
theorem dX0_breakIce_54 : decode cX0_breakIce 54 = .ok (.iadd, 1) := by decide +kernel
theorem dX0_breakIce_55 : decode cX0_breakIce 55 = .ok (.invokestatic 82, 3) := by decide +kernel
theorem dX0_breakIce_58 : decode cX0_breakIce 58 = .ok (.iastore, 1) := by decide +kernel
theorem dX0_breakIce_59 : decode cX0_breakIce 59 = .ok (.return_, 1) := by decide +kernel
theorem dX0_drawSaying_0 : decode cX0_drawSaying 0 = .ok (.aload_n 0, 1) := by decide +kernel
theorem dX0_drawSaying_1 : decode cX0_drawSaying 1 = .ok (.getfield 21, 3) := by decide +kernel
theorem dX0_drawSaying_4 : decode cX0_drawSaying 4 = .ok (.aload_n 0, 1) := by decide +kernel
theorem dX0_drawSaying_5 : decode cX0_drawSaying 5 = .ok (.getfield 21, 3) := by decide +kernel
theorem dX0_drawSaying_8 : decode cX0_drawSaying 8 = .ok (.getfield 117, 3) := by decide +kernel
theorem dX0_drawSaying_11 : decode cX0_drawSaying 11 = .ok (.ldc 120, 2) := by decide +kernel
theorem dX0_drawSaying_13 : decode cX0_drawSaying 13 = .ok (.imul, 1) := by decide +kernel
theorem dX0_drawSaying_14 : decode cX0_drawSaying 14 = .ok (.sipush 12345, 3) := by decide +kernel
theorem dX0_drawSaying_17 : decode cX0_drawSaying 17 = .ok (.iadd, 1) := by decide +kernel
theorem dX0_drawSaying_18 : decode cX0_drawSaying 18 = .ok (.ldc 121, 2) := by decide +kernel
theorem dX0_drawSaying_20 : decode cX0_drawSaying 20 = .ok (.iand, 1) := by decide +kernel
theorem dX0_drawSaying_21 : decode cX0_drawSaying 21 = .ok (.putfield 117, 3) := by decide +kernel
theorem dX0_drawSaying_24 : decode cX0_drawSaying 24 = .ok (.aload_n 0, 1) := by decide +kernel
theorem dX0_drawSaying_25 : decode cX0_drawSaying 25 = .ok (.getfield 21, 3) := by decide +kernel
theorem dX0_drawSaying_28 : decode cX0_drawSaying 28 = .ok (.getfield 117, 3) := by decide +kernel
theorem dX0_drawSaying_31 : decode cX0_drawSaying 31 = .ok (.ldc 122, 2) := by decide +kernel
theorem dX0_drawSaying_33 : decode cX0_drawSaying 33 = .ok (.idiv, 1) := by decide +kernel
theorem dX0_drawSaying_34 : decode cX0_drawSaying 34 = .ok (.aload_n 0, 1) := by decide +kernel
theorem dX0_drawSaying_35 : decode cX0_drawSaying 35 = .ok (.getfield 32, 3) := by decide +kernel
theorem dX0_drawSaying_38 : decode cX0_drawSaying 38 = .ok (.iconst 1, 1) := by decide +kernel
theorem dX0_drawSaying_39 : decode cX0_drawSaying 39 = .ok (.iadd, 1) := by decide +kernel
theorem dX0_drawSaying_40 : decode cX0_drawSaying 40 = .ok (.irem, 1) := by decide +kernel
theorem dX0_drawSaying_41 : decode cX0_drawSaying 41 = .ok (.istore_n 1, 1) := by decide +kernel
theorem dX0_drawSaying_42 : decode cX0_drawSaying 42 = .ok (.iload_n 1, 1) := by decide +kernel
theorem dX0_drawSaying_43 : decode cX0_drawSaying 43 = .ok (.aload_n 0, 1) := by decide +kernel
theorem dX0_drawSaying_44 : decode cX0_drawSaying 44 = .ok (.getfield 32, 3) := by decide +kernel
theorem dX0_drawSaying_47 : decode cX0_drawSaying 47 = .ok (.if_icmp .ge 7, 3) := by decide +kernel
theorem dX0_drawSaying_50 : decode cX0_drawSaying 50 = .ok (.iload_n 1, 1) := by decide +kernel
theorem dX0_drawSaying_51 : decode cX0_drawSaying 51 = .ok (.goto 5, 3) := by decide +kernel
theorem dX0_drawSaying_54 : decode cX0_drawSaying 54 = .ok (.bipush (-4), 2) := by decide +kernel
theorem dX0_drawSaying_56 : decode cX0_drawSaying 56 = .ok (.ireturn, 1) := by decide +kernel
theorem dX1_init_0 : decode cX1_init 0 = .ok (.aload_n 0, 1) := by decide +kernel
theorem dX1_init_1 : decode cX1_init 1 = .ok (.invokespecial 3, 3) := by decide +kernel
theorem dX1_init_4 : decode cX1_init 4 = .ok (.aload_n 0, 1) := by decide +kernel
theorem dX1_init_5 : decode cX1_init 5 = .ok (.new 9, 3) := by decide +kernel
theorem dX1_init_8 : decode cX1_init 8 = .ok (.dup, 1) := by decide +kernel
theorem dX1_init_9 : decode cX1_init 9 = .ok (.invokespecial 11, 3) := by decide +kernel
theorem dX1_init_12 : decode cX1_init 12 = .ok (.putfield 12, 3) := by decide +kernel
theorem dX1_init_15 : decode cX1_init 15 = .ok (.aload_n 0, 1) := by decide +kernel
theorem dX1_init_16 : decode cX1_init 16 = .ok (.sipush 201, 3) := by decide +kernel
theorem dX1_init_19 : decode cX1_init 19 = .ok (.newarray .long, 2) := by decide +kernel
theorem dX1_init_21 : decode cX1_init 21 = .ok (.putfield 18, 3) := by decide +kernel
theorem dX1_init_24 : decode cX1_init 24 = .ok (.return_, 1) := by decide +kernel
theorem dX1_greedyFor_0 : decode cX1_greedyFor 0 = .ok (.aload_n 0, 1) := by decide +kernel
theorem dX1_greedyFor_1 : decode cX1_greedyFor 1 = .ok (.getfield 12, 3) := by decide +kernel
theorem dX1_greedyFor_4 : decode cX1_greedyFor 4 = .ok (.aload_n 1, 1) := by decide +kernel
theorem dX1_greedyFor_5 : decode cX1_greedyFor 5 = .ok (.getfield 22, 3) := by decide +kernel
theorem dX1_greedyFor_8 : decode cX1_greedyFor 8 = .ok (.invokevirtual 27, 3) := by decide +kernel
theorem dX1_greedyFor_11 : decode cX1_greedyFor 11 = .ok (.iconst 0, 1) := by decide +kernel
theorem dX1_greedyFor_12 : decode cX1_greedyFor 12 = .ok (.istore_n 3, 1) := by decide +kernel
theorem dX1_greedyFor_13 : decode cX1_greedyFor 13 = .ok (.iload_n 3, 1) := by decide +kernel
theorem dX1_greedyFor_14 : decode cX1_greedyFor 14 = .ok (.iload_n 2, 1) := by decide +kernel
theorem dX1_greedyFor_15 : decode cX1_greedyFor 15 = .ok (.if_icmp .ge 25, 3) := by decide +kernel
theorem dX1_greedyFor_18 : decode cX1_greedyFor 18 = .ok (.aload_n 1, 1) := by decide +kernel
theorem dX1_greedyFor_19 : decode cX1_greedyFor 19 = .ok (.aload_n 0, 1) := by decide +kernel
theorem dX1_greedyFor_20 : decode cX1_greedyFor 20 = .ok (.getfield 12, 3) := by decide +kernel
theorem dX1_greedyFor_23 : decode cX1_greedyFor 23 = .ok (.aload_n 1, 1) := by decide +kernel
theorem dX1_greedyFor_24 : decode cX1_greedyFor 24 = .ok (.aload_n 0, 1) := by decide +kernel
theorem dX1_greedyFor_25 : decode cX1_greedyFor 25 = .ok (.getfield 12, 3) := by decide +kernel
theorem dX1_greedyFor_28 : decode cX1_greedyFor 28 = .ok (.invokevirtual 31, 3) := by decide +kernel
theorem dX1_greedyFor_31 : decode cX1_greedyFor 31 = .ok (.invokevirtual 35, 3) := by decide +kernel
theorem dX1_greedyFor_34 : decode cX1_greedyFor 34 = .ok (.iinc 3 1, 3) := by decide +kernel
theorem dX1_greedyFor_37 : decode cX1_greedyFor 37 = .ok (.goto (-24), 3) := by decide +kernel
theorem dX1_greedyFor_40 : decode cX1_greedyFor 40 = .ok (.aload_n 0, 1) := by decide +kernel
theorem dX1_greedyFor_41 : decode cX1_greedyFor 41 = .ok (.getfield 12, 3) := by decide +kernel
theorem dX1_greedyFor_44 : decode cX1_greedyFor 44 = .ok (.areturn, 1) := by decide +kernel
theorem dX1_minutesUntilThrough_0 : decode cX1_minutesUntilThrough 0 = .ok (.aload_n 0, 1) := by decide +kernel
theorem dX1_minutesUntilThrough_1 : decode cX1_minutesUntilThrough 1 = .ok (.getfield 12, 3) := by decide +kernel
theorem dX1_minutesUntilThrough_4 : decode cX1_minutesUntilThrough 4 = .ok (.aload_n 1, 1) := by decide +kernel
theorem dX1_minutesUntilThrough_5 : decode cX1_minutesUntilThrough 5 = .ok (.getfield 22, 3) := by decide +kernel
theorem dX1_minutesUntilThrough_8 : decode cX1_minutesUntilThrough 8 = .ok (.invokevirtual 27, 3) := by decide +kernel
theorem dX1_minutesUntilThrough_11 : decode cX1_minutesUntilThrough 11 = .ok (.iconst 0, 1) := by decide +kernel
theorem dX1_minutesUntilThrough_12 : decode cX1_minutesUntilThrough 12 = .ok (.istore_n 2, 1) := by decide +kernel
theorem dX1_minutesUntilThrough_13 : decode cX1_minutesUntilThrough 13 = .ok (.iload_n 2, 1) := by decide +kernel
theorem dX1_minutesUntilThrough_14 : decode cX1_minutesUntilThrough 14 = .ok (.bipush 99, 2) := by decide +kernel
theorem dX1_minutesUntilThrough_16 : decode cX1_minutesUntilThrough 16 = .ok (.if_icmp .gt 38, 3) := by decide +kernel
theorem dX1_minutesUntilThrough_19 : decode cX1_minutesUntilThrough 19 = .ok (.aload_n 1, 1) := by decide +kernel
theorem dX1_minutesUntilThrough_20 : decode cX1_minutesUntilThrough 20 = .ok (.aload_n 0, 1) := by decide +kernel
theorem dX1_minutesUntilThrough_21 : decode cX1_minutesUntilThrough 21 = .ok (.getfield 12, 3) := by decide +kernel
theorem dX1_minutesUntilThrough_24 : decode cX1_minutesUntilThrough 24 = .ok (.invokevirtual 39, 3) := by decide +kernel
theorem dX1_minutesUntilThrough_27 : decode cX1_minutesUntilThrough 27 = .ok (.ifCond .eq 5, 3) := by decide +kernel
theorem dX1_minutesUntilThrough_30 : decode cX1_minutesUntilThrough 30 = .ok (.iload_n 2, 1) := by decide +kernel
theorem dX1_minutesUntilThrough_31 : decode cX1_minutesUntilThrough 31 = .ok (.ireturn, 1) := by decide +kernel
theorem dX1_minutesUntilThrough_32 : decode cX1_minutesUntilThrough 32 = .ok (.aload_n 1, 1) := by decide +kernel
theorem dX1_minutesUntilThrough_33 : decode cX1_minutesUntilThrough 33 = .ok (.aload_n 0, 1) := by decide +kernel
theorem dX1_minutesUntilThrough_34 : decode cX1_minutesUntilThrough 34 = .ok (.getfield 12, 3) := by decide +kernel
theorem dX1_minutesUntilThrough_37 : decode cX1_minutesUntilThrough 37 = .ok (.aload_n 1, 1) := by decide +kernel
theorem dX1_minutesUntilThrough_38 : decode cX1_minutesUntilThrough 38 = .ok (.aload_n 0, 1) := by decide +kernel
theorem dX1_minutesUntilThrough_39 : decode cX1_minutesUntilThrough 39 = .ok (.getfield 12, 3) := by decide +kernel
theorem dX1_minutesUntilThrough_42 : decode cX1_minutesUntilThrough 42 = .ok (.invokevirtual 31, 3) := by decide +kernel
theorem dX1_minutesUntilThrough_45 : decode cX1_minutesUntilThrough 45 = .ok (.invokevirtual 35, 3) := by decide +kernel
theorem dX1_minutesUntilThrough_48 : decode cX1_minutesUntilThrough 48 = .ok (.iinc 2 1, 3) := by decide +kernel
theorem dX1_minutesUntilThrough_51 : decode cX1_minutesUntilThrough 51 = .ok (.goto (-38), 3) := by decide +kernel
theorem dX1_minutesUntilThrough_54 : decode cX1_minutesUntilThrough 54 = .ok (.bipush (-4), 2) := by decide +kernel
theorem dX1_minutesUntilThrough_56 : decode cX1_minutesUntilThrough 56 = .ok (.ireturn, 1) := by decide +kernel
theorem dX1_ringEnd_0 : decode cX1_ringEnd 0 = .ok (.aload_n 0, 1) := by decide +kernel
theorem dX1_ringEnd_1 : decode cX1_ringEnd 1 = .ok (.getfield 12, 3) := by decide +kernel
theorem dX1_ringEnd_4 : decode cX1_ringEnd 4 = .ok (.aload_n 1, 1) := by decide +kernel
theorem dX1_ringEnd_5 : decode cX1_ringEnd 5 = .ok (.getfield 22, 3) := by decide +kernel
theorem dX1_ringEnd_8 : decode cX1_ringEnd 8 = .ok (.invokevirtual 27, 3) := by decide +kernel
theorem dX1_ringEnd_11 : decode cX1_ringEnd 11 = .ok (.aload_n 0, 1) := by decide +kernel
theorem dX1_ringEnd_12 : decode cX1_ringEnd 12 = .ok (.getfield 18, 3) := by decide +kernel
theorem dX1_ringEnd_15 : decode cX1_ringEnd 15 = .ok (.iconst 0, 1) := by decide +kernel
theorem dX1_ringEnd_16 : decode cX1_ringEnd 16 = .ok (.aload_n 0, 1) := by decide +kernel
theorem dX1_ringEnd_17 : decode cX1_ringEnd 17 = .ok (.aload_n 1, 1) := by decide +kernel
theorem dX1_ringEnd_18 : decode cX1_ringEnd 18 = .ok (.invokevirtual 43, 3) := by decide +kernel
theorem dX1_ringEnd_21 : decode cX1_ringEnd 21 = .ok (.lastore, 1) := by decide +kernel
theorem dX1_ringEnd_22 : decode cX1_ringEnd 22 = .ok (.iconst 1, 1) := by decide +kernel
theorem dX1_ringEnd_23 : decode cX1_ringEnd 23 = .ok (.istore_n 2, 1) := by decide +kernel
theorem dX1_ringEnd_24 : decode cX1_ringEnd 24 = .ok (.iload_n 2, 1) := by decide +kernel
theorem dX1_ringEnd_25 : decode cX1_ringEnd 25 = .ok (.sipush 200, 3) := by decide +kernel
theorem dX1_ringEnd_28 : decode cX1_ringEnd 28 = .ok (.if_icmp .gt 47, 3) := by decide +kernel
theorem dX1_ringEnd_31 : decode cX1_ringEnd 31 = .ok (.aload_n 1, 1) := by decide +kernel
theorem dX1_ringEnd_32 : decode cX1_ringEnd 32 = .ok (.aload_n 0, 1) := by decide +kernel
theorem dX1_ringEnd_33 : decode cX1_ringEnd 33 = .ok (.getfield 12, 3) := by decide +kernel
theorem dX1_ringEnd_36 : decode cX1_ringEnd 36 = .ok (.aload_n 1, 1) := by decide +kernel
theorem dX1_ringEnd_37 : decode cX1_ringEnd 37 = .ok (.aload_n 0, 1) := by decide +kernel
theorem dX1_ringEnd_38 : decode cX1_ringEnd 38 = .ok (.getfield 12, 3) := by decide +kernel
theorem dX1_ringEnd_41 : decode cX1_ringEnd 41 = .ok (.invokevirtual 31, 3) := by decide +kernel
theorem dX1_ringEnd_44 : decode cX1_ringEnd 44 = .ok (.invokevirtual 35, 3) := by decide +kernel
theorem dX1_ringEnd_47 : decode cX1_ringEnd 47 = .ok (.aload_n 0, 1) := by decide +kernel
theorem dX1_ringEnd_48 : decode cX1_ringEnd 48 = .ok (.getfield 18, 3) := by decide +kernel
theorem dX1_ringEnd_51 : decode cX1_ringEnd 51 = .ok (.iload_n 2, 1) := by decide +kernel
theorem dX1_ringEnd_52 : decode cX1_ringEnd 52 = .ok (.aload_n 0, 1) := by decide +kernel
theorem dX1_ringEnd_53 : decode cX1_ringEnd 53 = .ok (.aload_n 1, 1) := by decide +kernel
theorem dX1_ringEnd_54 : decode cX1_ringEnd 54 = .ok (.invokevirtual 43, 3) := by decide +kernel
theorem dX1_ringEnd_57 : decode cX1_ringEnd 57 = .ok (.lastore, 1) := by decide +kernel
theorem dX1_ringEnd_58 : decode cX1_ringEnd 58 = .ok (.aload_n 0, 1) := by decide +kernel
theorem dX1_ringEnd_59 : decode cX1_ringEnd 59 = .ok (.iload_n 2, 1) := by decide +kernel
theorem dX1_ringEnd_60 : decode cX1_ringEnd 60 = .ok (.invokevirtual 47, 3) := by decide +kernel
theorem dX1_ringEnd_63 : decode cX1_ringEnd 63 = .ok (.iload_n 2, 1) := by decide +kernel
theorem dX1_ringEnd_64 : decode cX1_ringEnd 64 = .ok (.if_icmp .ge 5, 3) := by decide +kernel
theorem dX1_ringEnd_67 : decode cX1_ringEnd 67 = .ok (.iload_n 2, 1) := by decide +kernel
theorem dX1_ringEnd_68 : decode cX1_ringEnd 68 = .ok (.ireturn, 1) := by decide +kernel
theorem dX1_ringEnd_69 : decode cX1_ringEnd 69 = .ok (.iinc 2 1, 3) := by decide +kernel
theorem dX1_ringEnd_72 : decode cX1_ringEnd 72 = .ok (.goto (-48), 3) := by decide +kernel
theorem dX1_ringEnd_75 : decode cX1_ringEnd 75 = .ok (.bipush (-4), 2) := by decide +kernel
theorem dX1_ringEnd_77 : decode cX1_ringEnd 77 = .ok (.ireturn, 1) := by decide +kernel
theorem dX1_firstLike_0 : decode cX1_firstLike 0 = .ok (.iconst 0, 1) := by decide +kernel
theorem dX1_firstLike_1 : decode cX1_firstLike 1 = .ok (.istore_n 2, 1) := by decide +kernel
theorem dX1_firstLike_2 : decode cX1_firstLike 2 = .ok (.iload_n 2, 1) := by decide +kernel
theorem dX1_firstLike_3 : decode cX1_firstLike 3 = .ok (.iload_n 1, 1) := by decide +kernel
theorem dX1_firstLike_4 : decode cX1_firstLike 4 = .ok (.if_icmp .ge 27, 3) := by decide +kernel
theorem dX1_firstLike_7 : decode cX1_firstLike 7 = .ok (.aload_n 0, 1) := by decide +kernel
theorem dX1_firstLike_8 : decode cX1_firstLike 8 = .ok (.getfield 18, 3) := by decide +kernel
theorem dX1_firstLike_11 : decode cX1_firstLike 11 = .ok (.iload_n 2, 1) := by decide +kernel
theorem dX1_firstLike_12 : decode cX1_firstLike 12 = .ok (.laload, 1) := by decide +kernel
theorem dX1_firstLike_13 : decode cX1_firstLike 13 = .ok (.aload_n 0, 1) := by decide +kernel
theorem dX1_firstLike_14 : decode cX1_firstLike 14 = .ok (.getfield 18, 3) := by decide +kernel
theorem dX1_firstLike_17 : decode cX1_firstLike 17 = .ok (.iload_n 1, 1) := by decide +kernel
theorem dX1_firstLike_18 : decode cX1_firstLike 18 = .ok (.laload, 1) := by decide +kernel
theorem dX1_firstLike_19 : decode cX1_firstLike 19 = .ok (.lcmp, 1) := by decide +kernel
theorem dX1_firstLike_20 : decode cX1_firstLike 20 = .ok (.ifCond .ne 5, 3) := by decide +kernel
theorem dX1_firstLike_23 : decode cX1_firstLike 23 = .ok (.iload_n 2, 1) := by decide +kernel
theorem dX1_firstLike_24 : decode cX1_firstLike 24 = .ok (.ireturn, 1) := by decide +kernel
theorem dX1_firstLike_25 : decode cX1_firstLike 25 = .ok (.iinc 2 1, 3) := by decide +kernel
theorem dX1_firstLike_28 : decode cX1_firstLike 28 = .ok (.goto (-26), 3) := by decide +kernel
theorem dX1_firstLike_31 : decode cX1_firstLike 31 = .ok (.iload_n 1, 1) := by decide +kernel
theorem dX1_firstLike_32 : decode cX1_firstLike 32 = .ok (.ireturn, 1) := by decide +kernel
theorem dX1_mark_0 : decode cX1_mark 0 = .ok (.aload_n 0, 1) := by decide +kernel
theorem dX1_mark_1 : decode cX1_mark 1 = .ok (.getfield 12, 3) := by decide +kernel
theorem dX1_mark_4 : decode cX1_mark 4 = .ok (.getfield 51, 3) := by decide +kernel
theorem dX1_mark_7 : decode cX1_mark 7 = .ok (.i2l, 1) := by decide +kernel
theorem dX1_mark_8 : decode cX1_mark 8 = .ok (.ldc2_w 55, 3) := by decide +kernel
theorem dX1_mark_11 : decode cX1_mark 11 = .ok (.lmul, 1) := by decide +kernel
theorem dX1_mark_12 : decode cX1_mark 12 = .ok (.aload_n 1, 1) := by decide +kernel
theorem dX1_mark_13 : decode cX1_mark 13 = .ok (.aload_n 0, 1) := by decide +kernel
theorem dX1_mark_14 : decode cX1_mark 14 = .ok (.getfield 12, 3) := by decide +kernel
theorem dX1_mark_17 : decode cX1_mark 17 = .ok (.invokevirtual 57, 3) := by decide +kernel
theorem dX1_mark_20 : decode cX1_mark 20 = .ok (.i2l, 1) := by decide +kernel
theorem dX1_mark_21 : decode cX1_mark 21 = .ok (.ladd, 1) := by decide +kernel
theorem dX1_mark_22 : decode cX1_mark 22 = .ok (.lstore_n 2, 1) := by decide +kernel
theorem dX1_mark_23 : decode cX1_mark 23 = .ok (.iconst 0, 1) := by decide +kernel
theorem dX1_mark_24 : decode cX1_mark 24 = .ok (.istore 4, 2) := by decide +kernel
theorem dX1_mark_26 : decode cX1_mark 26 = .ok (.iload 4, 2) := by decide +kernel
theorem dX1_mark_28 : decode cX1_mark 28 = .ok (.aload_n 1, 1) := by decide +kernel
theorem dX1_mark_29 : decode cX1_mark 29 = .ok (.getfield 60, 3) := by decide +kernel
theorem dX1_mark_32 : decode cX1_mark 32 = .ok (.if_icmp .ge 27, 3) := by decide +kernel
theorem dX1_mark_35 : decode cX1_mark 35 = .ok (.lload_n 2, 1) := by decide +kernel
theorem dX1_mark_36 : decode cX1_mark 36 = .ok (.ldc2_w 63, 3) := by decide +kernel
theorem dX1_mark_39 : decode cX1_mark 39 = .ok (.lmul, 1) := by decide +kernel
theorem dX1_mark_40 : decode cX1_mark 40 = .ok (.aload_n 0, 1) := by decide +kernel
theorem dX1_mark_41 : decode cX1_mark 41 = .ok (.getfield 12, 3) := by decide +kernel
theorem dX1_mark_44 : decode cX1_mark 44 = .ok (.getfield 65, 3) := by decide +kernel
theorem dX1_mark_47 : decode cX1_mark 47 = .ok (.iload 4, 2) := by decide +kernel
theorem dX1_mark_49 : decode cX1_mark 49 = .ok (.iaload, 1) := by decide +kernel
theorem dX1_mark_50 : decode cX1_mark 50 = .ok (.i2l, 1) := by decide +kernel
theorem dX1_mark_51 : decode cX1_mark 51 = .ok (.ladd, 1) := by decide +kernel
theorem dX1_mark_52 : decode cX1_mark 52 = .ok (.lstore_n 2, 1) := by decide +kernel
theorem dX1_mark_53 : decode cX1_mark 53 = .ok (.iinc 4 1, 3) := by decide +kernel
theorem dX1_mark_56 : decode cX1_mark 56 = .ok (.goto (-30), 3) := by decide +kernel
theorem dX1_mark_59 : decode cX1_mark 59 = .ok (.lload_n 2, 1) := by decide +kernel
theorem dX1_mark_60 : decode cX1_mark 60 = .ok (.ldc2_w 69, 3) := by decide +kernel
theorem dX1_mark_63 : decode cX1_mark 63 = .ok (.lmul, 1) := by decide +kernel
theorem dX1_mark_64 : decode cX1_mark 64 = .ok (.aload_n 0, 1) := by decide +kernel
theorem dX1_mark_65 : decode cX1_mark 65 = .ok (.getfield 12, 3) := by decide +kernel
theorem dX1_mark_68 : decode cX1_mark 68 = .ok (.invokevirtual 71, 3) := by decide +kernel
theorem dX1_mark_71 : decode cX1_mark 71 = .ok (.ifCond .eq 7, 3) := by decide +kernel
theorem dX1_mark_74 : decode cX1_mark 74 = .ok (.iconst 0, 1) := by decide +kernel
theorem dX1_mark_75 : decode cX1_mark 75 = .ok (.goto 4, 3) := by decide +kernel
theorem dX1_mark_78 : decode cX1_mark 78 = .ok (.iconst 1, 1) := by decide +kernel
theorem dX1_mark_79 : decode cX1_mark 79 = .ok (.i2l, 1) := by decide +kernel
theorem dX1_mark_80 : decode cX1_mark 80 = .ok (.ladd, 1) := by decide +kernel
theorem dX1_mark_81 : decode cX1_mark 81 = .ok (.lreturn, 1) := by decide +kernel
theorem dX1_bestCrew_0 : decode cX1_bestCrew 0 = .ok (.iconst 0, 1) := by decide +kernel
theorem dX1_bestCrew_1 : decode cX1_bestCrew 1 = .ok (.istore 4, 2) := by decide +kernel
theorem dX1_bestCrew_3 : decode cX1_bestCrew 3 = .ok (.iconst (-1), 1) := by decide +kernel
theorem dX1_bestCrew_4 : decode cX1_bestCrew 4 = .ok (.istore 5, 2) := by decide +kernel
theorem dX1_bestCrew_6 : decode cX1_bestCrew 6 = .ok (.iconst 0, 1) := by decide +kernel
theorem dX1_bestCrew_7 : decode cX1_bestCrew 7 = .ok (.istore 6, 2) := by decide +kernel
theorem dX1_bestCrew_9 : decode cX1_bestCrew 9 = .ok (.iload 6, 2) := by decide +kernel
theorem dX1_bestCrew_11 : decode cX1_bestCrew 11 = .ok (.aload_n 1, 1) := by decide +kernel
theorem dX1_bestCrew_12 : decode cX1_bestCrew 12 = .ok (.invokevirtual 75, 3) := by decide +kernel
theorem dX1_bestCrew_15 : decode cX1_bestCrew 15 = .ok (.if_icmp .gt 42, 3) := by decide +kernel
theorem dX1_bestCrew_18 : decode cX1_bestCrew 18 = .ok (.iload 6, 2) := by decide +kernel
theorem dX1_bestCrew_20 : decode cX1_bestCrew 20 = .ok (.invokestatic 79, 3) := by decide +kernel
theorem dX1_bestCrew_23 : decode cX1_bestCrew 23 = .ok (.iload_n 3, 1) := by decide +kernel
theorem dX1_bestCrew_24 : decode cX1_bestCrew 24 = .ok (.if_icmp .ne 27, 3) := by decide +kernel
theorem dX1_bestCrew_27 : decode cX1_bestCrew 27 = .ok (.aload_n 1, 1) := by decide +kernel
theorem dX1_bestCrew_28 : decode cX1_bestCrew 28 = .ok (.iload_n 2, 1) := by decide +kernel
theorem dX1_bestCrew_29 : decode cX1_bestCrew 29 = .ok (.iload 6, 2) := by decide +kernel
theorem dX1_bestCrew_31 : decode cX1_bestCrew 31 = .ok (.invokevirtual 84, 3) := by decide +kernel
theorem dX1_bestCrew_34 : decode cX1_bestCrew 34 = .ok (.istore 7, 2) := by decide +kernel
theorem dX1_bestCrew_36 : decode cX1_bestCrew 36 = .ok (.iload 7, 2) := by decide +kernel
theorem dX1_bestCrew_38 : decode cX1_bestCrew 38 = .ok (.iload 5, 2) := by decide +kernel
theorem dX1_bestCrew_40 : decode cX1_bestCrew 40 = .ok (.if_icmp .le 11, 3) := by decide +kernel
theorem dX1_bestCrew_43 : decode cX1_bestCrew 43 = .ok (.iload 6, 2) := by decide +kernel
theorem dX1_bestCrew_45 : decode cX1_bestCrew 45 = .ok (.istore 4, 2) := by decide +kernel
theorem dX1_bestCrew_47 : decode cX1_bestCrew 47 = .ok (.iload 7, 2) := by decide +kernel
theorem dX1_bestCrew_49 : decode cX1_bestCrew 49 = .ok (.istore 5, 2) := by decide +kernel
theorem dX1_bestCrew_51 : decode cX1_bestCrew 51 = .ok (.iinc 6 1, 3) := by decide +kernel
theorem dX1_bestCrew_54 : decode cX1_bestCrew 54 = .ok (.goto (-45), 3) := by decide +kernel
theorem dX1_bestCrew_57 : decode cX1_bestCrew 57 = .ok (.iload 4, 2) := by decide +kernel
theorem dX1_bestCrew_59 : decode cX1_bestCrew 59 = .ok (.ireturn, 1) := by decide +kernel
theorem dX1_bestMind_0 : decode cX1_bestMind 0 = .ok (.bipush (-4), 2) := by decide +kernel
theorem dX1_bestMind_2 : decode cX1_bestMind 2 = .ok (.istore_n 3, 1) := by decide +kernel
theorem dX1_bestMind_3 : decode cX1_bestMind 3 = .ok (.aload_n 1, 1) := by decide +kernel
theorem dX1_bestMind_4 : decode cX1_bestMind 4 = .ok (.aload_n 1, 1) := by decide +kernel
theorem dX1_bestMind_5 : decode cX1_bestMind 5 = .ok (.getfield 22, 3) := by decide +kernel
theorem dX1_bestMind_8 : decode cX1_bestMind 8 = .ok (.iload_n 2, 1) := by decide +kernel
theorem dX1_bestMind_9 : decode cX1_bestMind 9 = .ok (.invokevirtual 88, 3) := by decide +kernel
theorem dX1_bestMind_12 : decode cX1_bestMind 12 = .ok (.istore 4, 2) := by decide +kernel
theorem dX1_bestMind_14 : decode cX1_bestMind 14 = .ok (.iconst 0, 1) := by decide +kernel
theorem dX1_bestMind_15 : decode cX1_bestMind 15 = .ok (.istore 5, 2) := by decide +kernel
theorem dX1_bestMind_17 : decode cX1_bestMind 17 = .ok (.iload 5, 2) := by decide +kernel
theorem dX1_bestMind_19 : decode cX1_bestMind 19 = .ok (.aload_n 1, 1) := by decide +kernel
theorem dX1_bestMind_20 : decode cX1_bestMind 20 = .ok (.getfield 92, 3) := by decide +kernel
theorem dX1_bestMind_23 : decode cX1_bestMind 23 = .ok (.if_icmp .ge 34, 3) := by decide +kernel
theorem dX1_bestMind_26 : decode cX1_bestMind 26 = .ok (.aload_n 1, 1) := by decide +kernel
theorem dX1_bestMind_27 : decode cX1_bestMind 27 = .ok (.iload_n 2, 1) := by decide +kernel
theorem dX1_bestMind_28 : decode cX1_bestMind 28 = .ok (.iconst 1, 1) := by decide +kernel
theorem dX1_bestMind_29 : decode cX1_bestMind 29 = .ok (.iload 5, 2) := by decide +kernel
theorem dX1_bestMind_31 : decode cX1_bestMind 31 = .ok (.ishl, 1) := by decide +kernel
theorem dX1_bestMind_32 : decode cX1_bestMind 32 = .ok (.invokevirtual 95, 3) := by decide +kernel
theorem dX1_bestMind_35 : decode cX1_bestMind 35 = .ok (.istore 6, 2) := by decide +kernel
theorem dX1_bestMind_37 : decode cX1_bestMind 37 = .ok (.iload 6, 2) := by decide +kernel
theorem dX1_bestMind_39 : decode cX1_bestMind 39 = .ok (.iload 4, 2) := by decide +kernel
theorem dX1_bestMind_41 : decode cX1_bestMind 41 = .ok (.if_icmp .le 10, 3) := by decide +kernel
theorem dX1_bestMind_44 : decode cX1_bestMind 44 = .ok (.iload 5, 2) := by decide +kernel
theorem dX1_bestMind_46 : decode cX1_bestMind 46 = .ok (.istore_n 3, 1) := by decide +kernel
theorem dX1_bestMind_47 : decode cX1_bestMind 47 = .ok (.iload 6, 2) := by decide +kernel
theorem dX1_bestMind_49 : decode cX1_bestMind 49 = .ok (.istore 4, 2) := by decide +kernel
theorem dX1_bestMind_51 : decode cX1_bestMind 51 = .ok (.iinc 5 1, 3) := by decide +kernel
theorem dX1_bestMind_54 : decode cX1_bestMind 54 = .ok (.goto (-37), 3) := by decide +kernel
theorem dX1_bestMind_57 : decode cX1_bestMind 57 = .ok (.iload_n 3, 1) := by decide +kernel
theorem dX1_bestMind_58 : decode cX1_bestMind 58 = .ok (.ireturn, 1) := by decide +kernel
theorem dX1_fewestMinds_0 : decode cX1_fewestMinds 0 = .ok (.bipush (-4), 2) := by decide +kernel
theorem dX1_fewestMinds_2 : decode cX1_fewestMinds 2 = .ok (.istore 4, 2) := by decide +kernel
theorem dX1_fewestMinds_4 : decode cX1_fewestMinds 4 = .ok (.bipush 7, 2) := by decide +kernel
theorem dX1_fewestMinds_6 : decode cX1_fewestMinds 6 = .ok (.istore 5, 2) := by decide +kernel
theorem dX1_fewestMinds_8 : decode cX1_fewestMinds 8 = .ok (.iconst 0, 1) := by decide +kernel
theorem dX1_fewestMinds_9 : decode cX1_fewestMinds 9 = .ok (.istore 6, 2) := by decide +kernel
theorem dX1_fewestMinds_11 : decode cX1_fewestMinds 11 = .ok (.iload 6, 2) := by decide +kernel
theorem dX1_fewestMinds_13 : decode cX1_fewestMinds 13 = .ok (.aload_n 1, 1) := by decide +kernel
theorem dX1_fewestMinds_14 : decode cX1_fewestMinds 14 = .ok (.invokevirtual 75, 3) := by decide +kernel
theorem dX1_fewestMinds_17 : decode cX1_fewestMinds 17 = .ok (.if_icmp .gt 42, 3) := by decide +kernel
theorem dX1_fewestMinds_20 : decode cX1_fewestMinds 20 = .ok (.iload 6, 2) := by decide +kernel
theorem dX1_fewestMinds_22 : decode cX1_fewestMinds 22 = .ok (.invokestatic 79, 3) := by decide +kernel
theorem dX1_fewestMinds_25 : decode cX1_fewestMinds 25 = .ok (.istore 7, 2) := by decide +kernel
theorem dX1_fewestMinds_27 : decode cX1_fewestMinds 27 = .ok (.iload 7, 2) := by decide +kernel
theorem dX1_fewestMinds_29 : decode cX1_fewestMinds 29 = .ok (.iload 5, 2) := by decide +kernel
theorem dX1_fewestMinds_31 : decode cX1_fewestMinds 31 = .ok (.if_icmp .ge 22, 3) := by decide +kernel
theorem dX1_fewestMinds_34 : decode cX1_fewestMinds 34 = .ok (.aload_n 1, 1) := by decide +kernel
theorem dX1_fewestMinds_35 : decode cX1_fewestMinds 35 = .ok (.iload_n 2, 1) := by decide +kernel
theorem dX1_fewestMinds_36 : decode cX1_fewestMinds 36 = .ok (.iload 6, 2) := by decide +kernel
theorem dX1_fewestMinds_38 : decode cX1_fewestMinds 38 = .ok (.invokevirtual 95, 3) := by decide +kernel
theorem dX1_fewestMinds_41 : decode cX1_fewestMinds 41 = .ok (.iload_n 3, 1) := by decide +kernel
theorem dX1_fewestMinds_42 : decode cX1_fewestMinds 42 = .ok (.if_icmp .lt 11, 3) := by decide +kernel
theorem dX1_fewestMinds_45 : decode cX1_fewestMinds 45 = .ok (.iload 6, 2) := by decide +kernel
theorem dX1_fewestMinds_47 : decode cX1_fewestMinds 47 = .ok (.istore 4, 2) := by decide +kernel
theorem dX1_fewestMinds_49 : decode cX1_fewestMinds 49 = .ok (.iload 7, 2) := by decide +kernel
theorem dX1_fewestMinds_51 : decode cX1_fewestMinds 51 = .ok (.istore 5, 2) := by decide +kernel
theorem dX1_fewestMinds_53 : decode cX1_fewestMinds 53 = .ok (.iinc 6 1, 3) := by decide +kernel
theorem dX1_fewestMinds_56 : decode cX1_fewestMinds 56 = .ok (.goto (-45), 3) := by decide +kernel
theorem dX1_fewestMinds_59 : decode cX1_fewestMinds 59 = .ok (.iload 4, 2) := by decide +kernel
theorem dX1_fewestMinds_61 : decode cX1_fewestMinds 61 = .ok (.ireturn, 1) := by decide +kernel
theorem dX1_bestParting_0 : decode cX1_bestParting 0 = .ok (.iconst 0, 1) := by decide +kernel
theorem dX1_bestParting_1 : decode cX1_bestParting 1 = .ok (.istore_n 2, 1) := by decide +kernel
theorem dX1_bestParting_2 : decode cX1_bestParting 2 = .ok (.iconst (-1), 1) := by decide +kernel
theorem dX1_bestParting_3 : decode cX1_bestParting 3 = .ok (.istore_n 3, 1) := by decide +kernel
theorem dX1_bestParting_4 : decode cX1_bestParting 4 = .ok (.iconst 0, 1) := by decide +kernel
theorem dX1_bestParting_5 : decode cX1_bestParting 5 = .ok (.istore 4, 2) := by decide +kernel
theorem dX1_bestParting_7 : decode cX1_bestParting 7 = .ok (.iload 4, 2) := by decide +kernel
theorem dX1_bestParting_9 : decode cX1_bestParting 9 = .ok (.aload_n 1, 1) := by decide +kernel
theorem dX1_bestParting_10 : decode cX1_bestParting 10 = .ok (.invokevirtual 75, 3) := by decide +kernel
theorem dX1_bestParting_13 : decode cX1_bestParting 13 = .ok (.if_icmp .gt 29, 3) := by decide +kernel
theorem dX1_bestParting_16 : decode cX1_bestParting 16 = .ok (.aload_n 1, 1) := by decide +kernel
theorem dX1_bestParting_17 : decode cX1_bestParting 17 = .ok (.iload 4, 2) := by decide +kernel
theorem dX1_bestParting_19 : decode cX1_bestParting 19 = .ok (.invokevirtual 98, 3) := by decide +kernel
theorem dX1_bestParting_22 : decode cX1_bestParting 22 = .ok (.istore 5, 2) := by decide +kernel
theorem dX1_bestParting_24 : decode cX1_bestParting 24 = .ok (.iload 5, 2) := by decide +kernel
theorem dX1_bestParting_26 : decode cX1_bestParting 26 = .ok (.iload_n 3, 1) := by decide +kernel
theorem dX1_bestParting_27 : decode cX1_bestParting 27 = .ok (.if_icmp .le 9, 3) := by decide +kernel
theorem dX1_bestParting_30 : decode cX1_bestParting 30 = .ok (.iload 4, 2) := by decide +kernel
theorem dX1_bestParting_32 : decode cX1_bestParting 32 = .ok (.istore_n 2, 1) := by decide +kernel
theorem dX1_bestParting_33 : decode cX1_bestParting 33 = .ok (.iload 5, 2) := by decide +kernel
theorem dX1_bestParting_35 : decode cX1_bestParting 35 = .ok (.istore_n 3, 1) := by decide +kernel
theorem dX1_bestParting_36 : decode cX1_bestParting 36 = .ok (.iinc 4 1, 3) := by decide +kernel
theorem dX1_bestParting_39 : decode cX1_bestParting 39 = .ok (.goto (-32), 3) := by decide +kernel
theorem dX1_bestParting_42 : decode cX1_bestParting 42 = .ok (.iload_n 2, 1) := by decide +kernel
theorem dX1_bestParting_43 : decode cX1_bestParting 43 = .ok (.ireturn, 1) := by decide +kernel
theorem dX1_leastJuice_0 : decode cX1_leastJuice 0 = .ok (.aload_n 1, 1) := by decide +kernel
theorem dX1_leastJuice_1 : decode cX1_leastJuice 1 = .ok (.getfield 22, 3) := by decide +kernel
theorem dX1_leastJuice_4 : decode cX1_leastJuice 4 = .ok (.astore_n 3, 1) := by decide +kernel
theorem dX1_leastJuice_5 : decode cX1_leastJuice 5 = .ok (.aload_n 1, 1) := by decide +kernel
theorem dX1_leastJuice_6 : decode cX1_leastJuice 6 = .ok (.aload_n 3, 1) := by decide +kernel
theorem dX1_leastJuice_7 : decode cX1_leastJuice 7 = .ok (.invokevirtual 39, 3) := by decide +kernel
theorem dX1_leastJuice_10 : decode cX1_leastJuice 10 = .ok (.ifCond .eq 6, 3) := by decide +kernel
theorem dX1_leastJuice_13 : decode cX1_leastJuice 13 = .ok (.bipush (-4), 2) := by decide +kernel
theorem dX1_leastJuice_15 : decode cX1_leastJuice 15 = .ok (.ireturn, 1) := by decide +kernel
theorem dX1_leastJuice_16 : decode cX1_leastJuice 16 = .ok (.iconst 0, 1) := by decide +kernel
theorem dX1_leastJuice_17 : decode cX1_leastJuice 17 = .ok (.istore 4, 2) := by decide +kernel
theorem dX1_leastJuice_19 : decode cX1_leastJuice 19 = .ok (.iload 4, 2) := by decide +kernel
theorem dX1_leastJuice_21 : decode cX1_leastJuice 21 = .ok (.bipush 20, 2) := by decide +kernel
theorem dX1_leastJuice_23 : decode cX1_leastJuice 23 = .ok (.if_icmp .gt 44, 3) := by decide +kernel
theorem dX1_leastJuice_26 : decode cX1_leastJuice 26 = .ok (.aload_n 1, 1) := by decide +kernel
theorem dX1_leastJuice_27 : decode cX1_leastJuice 27 = .ok (.iload 4, 2) := by decide +kernel
theorem dX1_leastJuice_29 : decode cX1_leastJuice 29 = .ok (.aload_n 3, 1) := by decide +kernel
theorem dX1_leastJuice_30 : decode cX1_leastJuice 30 = .ok (.getfield 101, 3) := by decide +kernel
theorem dX1_leastJuice_33 : decode cX1_leastJuice 33 = .ok (.iload_n 2, 1) := by decide +kernel
theorem dX1_leastJuice_34 : decode cX1_leastJuice 34 = .ok (.iaload, 1) := by decide +kernel
theorem dX1_leastJuice_35 : decode cX1_leastJuice 35 = .ok (.aload_n 1, 1) := by decide +kernel
theorem dX1_leastJuice_36 : decode cX1_leastJuice 36 = .ok (.invokevirtual 75, 3) := by decide +kernel
theorem dX1_leastJuice_39 : decode cX1_leastJuice 39 = .ok (.aload_n 3, 1) := by decide +kernel
theorem dX1_leastJuice_40 : decode cX1_leastJuice 40 = .ok (.invokevirtual 71, 3) := by decide +kernel
theorem dX1_leastJuice_43 : decode cX1_leastJuice 43 = .ok (.invokevirtual 104, 3) := by decide +kernel
theorem dX1_leastJuice_46 : decode cX1_leastJuice 46 = .ok (.istore 5, 2) := by decide +kernel
theorem dX1_leastJuice_48 : decode cX1_leastJuice 48 = .ok (.iload 5, 2) := by decide +kernel
theorem dX1_leastJuice_50 : decode cX1_leastJuice 50 = .ok (.aload_n 1, 1) := by decide +kernel
theorem dX1_leastJuice_51 : decode cX1_leastJuice 51 = .ok (.aload_n 3, 1) := by decide +kernel
theorem dX1_leastJuice_52 : decode cX1_leastJuice 52 = .ok (.invokevirtual 57, 3) := by decide +kernel
theorem dX1_leastJuice_55 : decode cX1_leastJuice 55 = .ok (.if_icmp .lt 6, 3) := by decide +kernel
theorem dX1_leastJuice_58 : decode cX1_leastJuice 58 = .ok (.iload 4, 2) := by decide +kernel
theorem dX1_leastJuice_60 : decode cX1_leastJuice 60 = .ok (.ireturn, 1) := by decide +kernel
theorem dX1_leastJuice_61 : decode cX1_leastJuice 61 = .ok (.iinc 4 1, 3) := by decide +kernel
theorem dX1_leastJuice_64 : decode cX1_leastJuice 64 = .ok (.goto (-45), 3) := by decide +kernel
theorem dX1_leastJuice_67 : decode cX1_leastJuice 67 = .ok (.bipush (-4), 2) := by decide +kernel
theorem dX1_leastJuice_69 : decode cX1_leastJuice 69 = .ok (.ireturn, 1) := by decide +kernel
theorem dX1_likelihood_0 : decode cX1_likelihood 0 = .ok (.aload_n 1, 1) := by decide +kernel
theorem dX1_likelihood_1 : decode cX1_likelihood 1 = .ok (.aload_n 1, 1) := by decide +kernel
theorem dX1_likelihood_2 : decode cX1_likelihood 2 = .ok (.getfield 22, 3) := by decide +kernel
theorem dX1_likelihood_5 : decode cX1_likelihood 5 = .ok (.invokevirtual 39, 3) := by decide +kernel
theorem dX1_likelihood_8 : decode cX1_likelihood 8 = .ok (.ifCond .eq 7, 3) := by decide +kernel
theorem dX1_likelihood_11 : decode cX1_likelihood 11 = .ok (.iconst 0, 1) := by decide +kernel
theorem dX1_likelihood_12 : decode cX1_likelihood 12 = .ok (.goto 9, 3) := by decide +kernel
theorem dX1_likelihood_15 : decode cX1_likelihood 15 = .ok (.aload_n 1, 1) := by decide +kernel
theorem dX1_likelihood_16 : decode cX1_likelihood 16 = .ok (.iload_n 2, 1) := by decide +kernel
theorem dX1_likelihood_17 : decode cX1_likelihood 17 = .ok (.iload_n 3, 1) := by decide +kernel
theorem dX1_likelihood_18 : decode cX1_likelihood 18 = .ok (.invokestatic 108, 3) := by decide +kernel
theorem dX1_likelihood_21 : decode cX1_likelihood 21 = .ok (.istore 5, 2) := by decide +kernel
theorem dX1_likelihood_23 : decode cX1_likelihood 23 = .ok (.bipush 10, 2) := by decide +kernel
theorem dX1_likelihood_25 : decode cX1_likelihood 25 = .ok (.aload_n 1, 1) := by decide +kernel
theorem dX1_likelihood_26 : decode cX1_likelihood 26 = .ok (.getfield 92, 3) := by decide +kernel
theorem dX1_likelihood_29 : decode cX1_likelihood 29 = .ok (.invokestatic 112, 3) := by decide +kernel
theorem dX1_likelihood_32 : decode cX1_likelihood 32 = .ok (.istore 6, 2) := by decide +kernel
theorem dX1_likelihood_34 : decode cX1_likelihood 34 = .ok (.iconst 0, 1) := by decide +kernel
theorem dX1_likelihood_35 : decode cX1_likelihood 35 = .ok (.istore 7, 2) := by decide +kernel
theorem dX1_likelihood_37 : decode cX1_likelihood 37 = .ok (.iload 7, 2) := by decide +kernel
theorem dX1_likelihood_39 : decode cX1_likelihood 39 = .ok (.aload_n 1, 1) := by decide +kernel
theorem dX1_likelihood_40 : decode cX1_likelihood 40 = .ok (.getfield 92, 3) := by decide +kernel
theorem dX1_likelihood_43 : decode cX1_likelihood 43 = .ok (.if_icmp .ge 47, 3) := by decide +kernel
theorem dX1_likelihood_46 : decode cX1_likelihood 46 = .ok (.iload 5, 2) := by decide +kernel
theorem dX1_likelihood_48 : decode cX1_likelihood 48 = .ok (.iconst 2, 1) := by decide +kernel
theorem dX1_likelihood_49 : decode cX1_likelihood 49 = .ok (.irem, 1) := by decide +kernel
theorem dX1_likelihood_50 : decode cX1_likelihood 50 = .ok (.ifCond .ne 15, 3) := by decide +kernel
theorem dX1_likelihood_53 : decode cX1_likelihood 53 = .ok (.iload 5, 2) := by decide +kernel
theorem dX1_likelihood_55 : decode cX1_likelihood 55 = .ok (.iconst 2, 1) := by decide +kernel
theorem dX1_likelihood_56 : decode cX1_likelihood 56 = .ok (.idiv, 1) := by decide +kernel
theorem dX1_likelihood_57 : decode cX1_likelihood 57 = .ok (.istore 5, 2) := by decide +kernel
theorem dX1_likelihood_59 : decode cX1_likelihood 59 = .ok (.iload 6, 2) := by decide +kernel
theorem dX1_likelihood_61 : decode cX1_likelihood 61 = .ok (.iconst 2, 1) := by decide +kernel
theorem dX1_likelihood_62 : decode cX1_likelihood 62 = .ok (.idiv, 1) := by decide +kernel
theorem dX1_likelihood_63 : decode cX1_likelihood 63 = .ok (.istore 6, 2) := by decide +kernel
theorem dX1_likelihood_65 : decode cX1_likelihood 65 = .ok (.iload 5, 2) := by decide +kernel
theorem dX1_likelihood_67 : decode cX1_likelihood 67 = .ok (.iconst 5, 1) := by decide +kernel
theorem dX1_likelihood_68 : decode cX1_likelihood 68 = .ok (.irem, 1) := by decide +kernel
theorem dX1_likelihood_69 : decode cX1_likelihood 69 = .ok (.ifCond .ne 15, 3) := by decide +kernel
theorem dX1_likelihood_72 : decode cX1_likelihood 72 = .ok (.iload 5, 2) := by decide +kernel
theorem dX1_likelihood_74 : decode cX1_likelihood 74 = .ok (.iconst 5, 1) := by decide +kernel
theorem dX1_likelihood_75 : decode cX1_likelihood 75 = .ok (.idiv, 1) := by decide +kernel
theorem dX1_likelihood_76 : decode cX1_likelihood 76 = .ok (.istore 5, 2) := by decide +kernel
theorem dX1_likelihood_78 : decode cX1_likelihood 78 = .ok (.iload 6, 2) := by decide +kernel
theorem dX1_likelihood_80 : decode cX1_likelihood 80 = .ok (.iconst 5, 1) := by decide +kernel
theorem dX1_likelihood_81 : decode cX1_likelihood 81 = .ok (.idiv, 1) := by decide +kernel
theorem dX1_likelihood_82 : decode cX1_likelihood 82 = .ok (.istore 6, 2) := by decide +kernel
theorem dX1_likelihood_84 : decode cX1_likelihood 84 = .ok (.iinc 7 1, 3) := by decide +kernel
theorem dX1_likelihood_87 : decode cX1_likelihood 87 = .ok (.goto (-50), 3) := by decide +kernel
theorem dX1_likelihood_90 : decode cX1_likelihood 90 = .ok (.iload 4, 2) := by decide +kernel
theorem dX1_likelihood_92 : decode cX1_likelihood 92 = .ok (.ifCond .eq 8, 3) := by decide +kernel
theorem dX1_likelihood_95 : decode cX1_likelihood 95 = .ok (.iload 5, 2) := by decide +kernel
theorem dX1_likelihood_97 : decode cX1_likelihood 97 = .ok (.goto 5, 3) := by decide +kernel
theorem dX1_likelihood_100 : decode cX1_likelihood 100 = .ok (.iload 6, 2) := by decide +kernel
theorem dX1_likelihood_102 : decode cX1_likelihood 102 = .ok (.ireturn, 1) := by decide +kernel
theorem dX1_chances_0 : decode cX1_chances 0 = .ok (.iconst 0, 1) := by decide +kernel
theorem dX1_chances_1 : decode cX1_chances 1 = .ok (.istore_n 3, 1) := by decide +kernel
theorem dX1_chances_2 : decode cX1_chances 2 = .ok (.iconst 0, 1) := by decide +kernel
theorem dX1_chances_3 : decode cX1_chances 3 = .ok (.istore 4, 2) := by decide +kernel
theorem dX1_chances_5 : decode cX1_chances 5 = .ok (.iload 4, 2) := by decide +kernel
theorem dX1_chances_7 : decode cX1_chances 7 = .ok (.aload_n 0, 1) := by decide +kernel
theorem dX1_chances_8 : decode cX1_chances 8 = .ok (.invokevirtual 75, 3) := by decide +kernel
theorem dX1_chances_11 : decode cX1_chances 11 = .ok (.if_icmp .gt 58, 3) := by decide +kernel
theorem dX1_chances_14 : decode cX1_chances 14 = .ok (.aload_n 0, 1) := by decide +kernel
theorem dX1_chances_15 : decode cX1_chances 15 = .ok (.iload_n 1, 1) := by decide +kernel
theorem dX1_chances_16 : decode cX1_chances 16 = .ok (.iload 4, 2) := by decide +kernel
theorem dX1_chances_18 : decode cX1_chances 18 = .ok (.invokevirtual 84, 3) := by decide +kernel
theorem dX1_chances_21 : decode cX1_chances 21 = .ok (.aload_n 0, 1) := by decide +kernel
theorem dX1_chances_22 : decode cX1_chances 22 = .ok (.aload_n 0, 1) := by decide +kernel
theorem dX1_chances_23 : decode cX1_chances 23 = .ok (.getfield 22, 3) := by decide +kernel
theorem dX1_chances_26 : decode cX1_chances 26 = .ok (.invokevirtual 57, 3) := by decide +kernel
theorem dX1_chances_29 : decode cX1_chances 29 = .ok (.if_icmp .lt 34, 3) := by decide +kernel
theorem dX1_chances_32 : decode cX1_chances 32 = .ok (.iload 4, 2) := by decide +kernel
theorem dX1_chances_34 : decode cX1_chances 34 = .ok (.invokestatic 79, 3) := by decide +kernel
theorem dX1_chances_37 : decode cX1_chances 37 = .ok (.istore 5, 2) := by decide +kernel
theorem dX1_chances_39 : decode cX1_chances 39 = .ok (.iload_n 3, 1) := by decide +kernel
theorem dX1_chances_40 : decode cX1_chances 40 = .ok (.bipush 10, 2) := by decide +kernel
theorem dX1_chances_42 : decode cX1_chances 42 = .ok (.iload_n 2, 1) := by decide +kernel
theorem dX1_chances_43 : decode cX1_chances 43 = .ok (.isub, 1) := by decide +kernel
theorem dX1_chances_44 : decode cX1_chances 44 = .ok (.iload 5, 2) := by decide +kernel
theorem dX1_chances_46 : decode cX1_chances 46 = .ok (.invokestatic 112, 3) := by decide +kernel
theorem dX1_chances_49 : decode cX1_chances 49 = .ok (.iload_n 2, 1) := by decide +kernel
theorem dX1_chances_50 : decode cX1_chances 50 = .ok (.aload_n 0, 1) := by decide +kernel
theorem dX1_chances_51 : decode cX1_chances 51 = .ok (.getfield 92, 3) := by decide +kernel
theorem dX1_chances_54 : decode cX1_chances 54 = .ok (.iload 5, 2) := by decide +kernel
theorem dX1_chances_56 : decode cX1_chances 56 = .ok (.isub, 1) := by decide +kernel
theorem dX1_chances_57 : decode cX1_chances 57 = .ok (.invokestatic 112, 3) := by decide +kernel
theorem dX1_chances_60 : decode cX1_chances 60 = .ok (.imul, 1) := by decide +kernel
theorem dX1_chances_61 : decode cX1_chances 61 = .ok (.iadd, 1) := by decide +kernel
theorem dX1_chances_62 : decode cX1_chances 62 = .ok (.istore_n 3, 1) := by decide +kernel
theorem dX1_chances_63 : decode cX1_chances 63 = .ok (.iinc 4 1, 3) := by decide +kernel
theorem dX1_chances_66 : decode cX1_chances 66 = .ok (.goto (-61), 3) := by decide +kernel
theorem dX1_chances_69 : decode cX1_chances 69 = .ok (.iload_n 3, 1) := by decide +kernel
theorem dX1_chances_70 : decode cX1_chances 70 = .ok (.ireturn, 1) := by decide +kernel
theorem dX1_power_0 : decode cX1_power 0 = .ok (.iconst 1, 1) := by decide +kernel
theorem dX1_power_1 : decode cX1_power 1 = .ok (.istore_n 2, 1) := by decide +kernel
theorem dX1_power_2 : decode cX1_power 2 = .ok (.iconst 0, 1) := by decide +kernel
theorem dX1_power_3 : decode cX1_power 3 = .ok (.istore_n 3, 1) := by decide +kernel
theorem dX1_power_4 : decode cX1_power 4 = .ok (.iload_n 3, 1) := by decide +kernel
theorem dX1_power_5 : decode cX1_power 5 = .ok (.iload_n 1, 1) := by decide +kernel
theorem dX1_power_6 : decode cX1_power 6 = .ok (.if_icmp .ge 13, 3) := by decide +kernel
theorem dX1_power_9 : decode cX1_power 9 = .ok (.iload_n 2, 1) := by decide +kernel
theorem dX1_power_10 : decode cX1_power 10 = .ok (.iload_n 0, 1) := by decide +kernel
theorem dX1_power_11 : decode cX1_power 11 = .ok (.imul, 1) := by decide +kernel
theorem dX1_power_12 : decode cX1_power 12 = .ok (.istore_n 2, 1) := by decide +kernel
theorem dX1_power_13 : decode cX1_power 13 = .ok (.iinc 3 1, 3) := by decide +kernel
theorem dX1_power_16 : decode cX1_power 16 = .ok (.goto (-12), 3) := by decide +kernel
theorem dX1_power_19 : decode cX1_power 19 = .ok (.iload_n 2, 1) := by decide +kernel
theorem dX1_power_20 : decode cX1_power 20 = .ok (.ireturn, 1) := by decide +kernel
theorem dX2_init_0 : decode cX2_init 0 = .ok (.aload_n 0, 1) := by decide +kernel
theorem dX2_init_1 : decode cX2_init 1 = .ok (.invokespecial 1, 3) := by decide +kernel
theorem dX2_init_4 : decode cX2_init 4 = .ok (.aload_n 0, 1) := by decide +kernel
theorem dX2_init_5 : decode cX2_init 5 = .ok (.bipush 8, 2) := by decide +kernel
theorem dX2_init_7 : decode cX2_init 7 = .ok (.anewarray 9, 3) := by decide +kernel
theorem dX2_init_10 : decode cX2_init 10 = .ok (.putfield 11, 3) := by decide +kernel
theorem dX2_init_13 : decode cX2_init 13 = .ok (.aload_n 0, 1) := by decide +kernel
theorem dX2_init_14 : decode cX2_init 14 = .ok (.iconst 0, 1) := by decide +kernel
theorem dX2_init_15 : decode cX2_init 15 = .ok (.putfield 15, 3) := by decide +kernel
theorem dX2_init_18 : decode cX2_init 18 = .ok (.aload_n 0, 1) := by decide +kernel
theorem dX2_init_19 : decode cX2_init 19 = .ok (.iconst 0, 1) := by decide +kernel
theorem dX2_init_20 : decode cX2_init 20 = .ok (.putfield 19, 3) := by decide +kernel
theorem dX2_init_23 : decode cX2_init 23 = .ok (.iconst 0, 1) := by decide +kernel
theorem dX2_init_24 : decode cX2_init 24 = .ok (.istore_n 1, 1) := by decide +kernel
theorem dX2_init_25 : decode cX2_init 25 = .ok (.iload_n 1, 1) := by decide +kernel
theorem dX2_init_26 : decode cX2_init 26 = .ok (.bipush 8, 2) := by decide +kernel
theorem dX2_init_28 : decode cX2_init 28 = .ok (.if_icmp .ge 22, 3) := by decide +kernel
theorem dX2_init_31 : decode cX2_init 31 = .ok (.aload_n 0, 1) := by decide +kernel
theorem dX2_init_32 : decode cX2_init 32 = .ok (.getfield 11, 3) := by decide +kernel
theorem dX2_init_35 : decode cX2_init 35 = .ok (.iload_n 1, 1) := by decide +kernel
theorem dX2_init_36 : decode cX2_init 36 = .ok (.new 9, 3) := by decide +kernel
theorem dX2_init_39 : decode cX2_init 39 = .ok (.dup, 1) := by decide +kernel
theorem dX2_init_40 : decode cX2_init 40 = .ok (.invokespecial 22, 3) := by decide +kernel
theorem dX2_init_43 : decode cX2_init 43 = .ok (.aastore, 1) := by decide +kernel
theorem dX2_init_44 : decode cX2_init 44 = .ok (.iinc 1 1, 3) := by decide +kernel
theorem dX2_init_47 : decode cX2_init 47 = .ok (.goto (-22), 3) := by decide +kernel
theorem dX2_init_50 : decode cX2_init 50 = .ok (.return_, 1) := by decide +kernel
theorem dX2_keep_0 : decode cX2_keep 0 = .ok (.aload_n 0, 1) := by decide +kernel
theorem dX2_keep_1 : decode cX2_keep 1 = .ok (.getfield 11, 3) := by decide +kernel
theorem dX2_keep_4 : decode cX2_keep 4 = .ok (.aload_n 0, 1) := by decide +kernel
theorem dX2_keep_5 : decode cX2_keep 5 = .ok (.getfield 15, 3) := by decide +kernel
theorem dX2_keep_8 : decode cX2_keep 8 = .ok (.aaload, 1) := by decide +kernel
theorem dX2_keep_9 : decode cX2_keep 9 = .ok (.aload_n 1, 1) := by decide +kernel
theorem dX2_keep_10 : decode cX2_keep 10 = .ok (.invokevirtual 23, 3) := by decide +kernel
theorem dX2_keep_13 : decode cX2_keep 13 = .ok (.aload_n 0, 1) := by decide +kernel
theorem dX2_keep_14 : decode cX2_keep 14 = .ok (.aload_n 0, 1) := by decide +kernel
theorem dX2_keep_15 : decode cX2_keep 15 = .ok (.getfield 15, 3) := by decide +kernel
theorem dX2_keep_18 : decode cX2_keep 18 = .ok (.iconst 1, 1) := by decide +kernel
theorem dX2_keep_19 : decode cX2_keep 19 = .ok (.iadd, 1) := by decide +kernel
theorem dX2_keep_20 : decode cX2_keep 20 = .ok (.bipush 8, 2) := by decide +kernel
theorem dX2_keep_22 : decode cX2_keep 22 = .ok (.irem, 1) := by decide +kernel
theorem dX2_keep_23 : decode cX2_keep 23 = .ok (.putfield 15, 3) := by decide +kernel
theorem dX2_keep_26 : decode cX2_keep 26 = .ok (.aload_n 0, 1) := by decide +kernel
theorem dX2_keep_27 : decode cX2_keep 27 = .ok (.bipush 8, 2) := by decide +kernel
theorem dX2_keep_29 : decode cX2_keep 29 = .ok (.aload_n 0, 1) := by decide +kernel
theorem dX2_keep_30 : decode cX2_keep 30 = .ok (.getfield 19, 3) := by decide +kernel
theorem dX2_keep_33 : decode cX2_keep 33 = .ok (.iconst 1, 1) := by decide +kernel
theorem dX2_keep_34 : decode cX2_keep 34 = .ok (.iadd, 1) := by decide +kernel
theorem dX2_keep_35 : decode cX2_keep 35 = .ok (.invokestatic 27, 3) := by decide +kernel
theorem dX2_keep_38 : decode cX2_keep 38 = .ok (.putfield 19, 3) := by decide +kernel
theorem dX2_keep_41 : decode cX2_keep 41 = .ok (.return_, 1) := by decide +kernel
theorem dX2_bringBack_0 : decode cX2_bringBack 0 = .ok (.aload_n 0, 1) := by decide +kernel
theorem dX2_bringBack_1 : decode cX2_bringBack 1 = .ok (.aload_n 0, 1) := by decide +kernel
theorem dX2_bringBack_2 : decode cX2_bringBack 2 = .ok (.getfield 15, 3) := by decide +kernel
theorem dX2_bringBack_5 : decode cX2_bringBack 5 = .ok (.bipush 8, 2) := by decide +kernel
theorem dX2_bringBack_7 : decode cX2_bringBack 7 = .ok (.iadd, 1) := by decide +kernel
theorem dX2_bringBack_8 : decode cX2_bringBack 8 = .ok (.iconst 1, 1) := by decide +kernel
theorem dX2_bringBack_9 : decode cX2_bringBack 9 = .ok (.isub, 1) := by decide +kernel
theorem dX2_bringBack_10 : decode cX2_bringBack 10 = .ok (.bipush 8, 2) := by decide +kernel
theorem dX2_bringBack_12 : decode cX2_bringBack 12 = .ok (.irem, 1) := by decide +kernel
theorem dX2_bringBack_13 : decode cX2_bringBack 13 = .ok (.putfield 15, 3) := by decide +kernel
theorem dX2_bringBack_16 : decode cX2_bringBack 16 = .ok (.aload_n 0, 1) := by decide +kernel
theorem dX2_bringBack_17 : decode cX2_bringBack 17 = .ok (.dup, 1) := by decide +kernel
theorem dX2_bringBack_18 : decode cX2_bringBack 18 = .ok (.getfield 19, 3) := by decide +kernel
theorem dX2_bringBack_21 : decode cX2_bringBack 21 = .ok (.iconst 1, 1) := by decide +kernel
theorem dX2_bringBack_22 : decode cX2_bringBack 22 = .ok (.isub, 1) := by decide +kernel
theorem dX2_bringBack_23 : decode cX2_bringBack 23 = .ok (.putfield 19, 3) := by decide +kernel
theorem dX2_bringBack_26 : decode cX2_bringBack 26 = .ok (.aload_n 1, 1) := by decide +kernel
theorem dX2_bringBack_27 : decode cX2_bringBack 27 = .ok (.aload_n 0, 1) := by decide +kernel
theorem dX2_bringBack_28 : decode cX2_bringBack 28 = .ok (.getfield 11, 3) := by decide +kernel
theorem dX2_bringBack_31 : decode cX2_bringBack 31 = .ok (.aload_n 0, 1) := by decide +kernel
theorem dX2_bringBack_32 : decode cX2_bringBack 32 = .ok (.getfield 15, 3) := by decide +kernel
theorem dX2_bringBack_35 : decode cX2_bringBack 35 = .ok (.aaload, 1) := by decide +kernel
theorem dX2_bringBack_36 : decode cX2_bringBack 36 = .ok (.invokevirtual 23, 3) := by decide +kernel
theorem dX2_bringBack_39 : decode cX2_bringBack 39 = .ok (.return_, 1) := by decide +kernel
theorem dX2_forget_0 : decode cX2_forget 0 = .ok (.aload_n 0, 1) := by decide +kernel
theorem dX2_forget_1 : decode cX2_forget 1 = .ok (.iconst 0, 1) := by decide +kernel
theorem dX2_forget_2 : decode cX2_forget 2 = .ok (.putfield 19, 3) := by decide +kernel
theorem dX2_forget_5 : decode cX2_forget 5 = .ok (.return_, 1) := by decide +kernel
theorem dX2_take_0 : decode cX2_take 0 = .ok (.iconst 0, 1) := by decide +kernel
theorem dX2_take_1 : decode cX2_take 1 = .ok (.istore_n 2, 1) := by decide +kernel
theorem dX2_take_2 : decode cX2_take 2 = .ok (.iload_n 2, 1) := by decide +kernel
theorem dX2_take_3 : decode cX2_take 3 = .ok (.bipush 8, 2) := by decide +kernel
theorem dX2_take_5 : decode cX2_take 5 = .ok (.if_icmp .ge 24, 3) := by decide +kernel
theorem dX2_take_8 : decode cX2_take 8 = .ok (.aload_n 0, 1) := by decide +kernel
theorem dX2_take_9 : decode cX2_take 9 = .ok (.getfield 11, 3) := by decide +kernel
theorem dX2_take_12 : decode cX2_take 12 = .ok (.iload_n 2, 1) := by decide +kernel
theorem dX2_take_13 : decode cX2_take 13 = .ok (.aaload, 1) := by decide +kernel
theorem dX2_take_14 : decode cX2_take 14 = .ok (.aload_n 1, 1) := by decide +kernel
theorem dX2_take_15 : decode cX2_take 15 = .ok (.getfield 11, 3) := by decide +kernel
theorem dX2_take_18 : decode cX2_take 18 = .ok (.iload_n 2, 1) := by decide +kernel
theorem dX2_take_19 : decode cX2_take 19 = .ok (.aaload, 1) := by decide +kernel
theorem dX2_take_20 : decode cX2_take 20 = .ok (.invokevirtual 23, 3) := by decide +kernel
theorem dX2_take_23 : decode cX2_take 23 = .ok (.iinc 2 1, 3) := by decide +kernel
theorem dX2_take_26 : decode cX2_take 26 = .ok (.goto (-24), 3) := by decide +kernel
theorem dX2_take_29 : decode cX2_take 29 = .ok (.aload_n 0, 1) := by decide +kernel
theorem dX2_take_30 : decode cX2_take 30 = .ok (.aload_n 1, 1) := by decide +kernel
theorem dX2_take_31 : decode cX2_take 31 = .ok (.getfield 15, 3) := by decide +kernel
theorem dX2_take_34 : decode cX2_take 34 = .ok (.putfield 15, 3) := by decide +kernel
theorem dX2_take_37 : decode cX2_take 37 = .ok (.aload_n 0, 1) := by decide +kernel
theorem dX2_take_38 : decode cX2_take 38 = .ok (.aload_n 1, 1) := by decide +kernel
theorem dX2_take_39 : decode cX2_take 39 = .ok (.getfield 19, 3) := by decide +kernel
theorem dX2_take_42 : decode cX2_take 42 = .ok (.putfield 19, 3) := by decide +kernel
theorem dX2_take_45 : decode cX2_take 45 = .ok (.return_, 1) := by decide +kernel
theorem dX3_init_0 : decode cX3_init 0 = .ok (.aload_n 0, 1) := by decide +kernel
theorem dX3_init_1 : decode cX3_init 1 = .ok (.invokespecial 3, 3) := by decide +kernel
theorem dX3_init_4 : decode cX3_init 4 = .ok (.aload_n 0, 1) := by decide +kernel
theorem dX3_init_5 : decode cX3_init 5 = .ok (.bipush 12, 2) := by decide +kernel
theorem dX3_init_7 : decode cX3_init 7 = .ok (.newarray .int, 2) := by decide +kernel
theorem dX3_init_9 : decode cX3_init 9 = .ok (.putfield 9, 3) := by decide +kernel
theorem dX3_init_12 : decode cX3_init 12 = .ok (.aload_n 0, 1) := by decide +kernel
theorem dX3_init_13 : decode cX3_init 13 = .ok (.iconst 5, 1) := by decide +kernel
theorem dX3_init_14 : decode cX3_init 14 = .ok (.newarray .int, 2) := by decide +kernel
theorem dX3_init_16 : decode cX3_init 16 = .ok (.putfield 15, 3) := by decide +kernel
theorem dX3_init_19 : decode cX3_init 19 = .ok (.aload_n 0, 1) := by decide +kernel
theorem dX3_init_20 : decode cX3_init 20 = .ok (.iconst 5, 1) := by decide +kernel
theorem dX3_init_21 : decode cX3_init 21 = .ok (.newarray .int, 2) := by decide +kernel
theorem dX3_init_23 : decode cX3_init 23 = .ok (.putfield 18, 3) := by decide +kernel
theorem dX3_init_26 : decode cX3_init 26 = .ok (.aload_n 0, 1) := by decide +kernel
theorem dX3_init_27 : decode cX3_init 27 = .ok (.iconst 0, 1) := by decide +kernel
theorem dX3_init_28 : decode cX3_init 28 = .ok (.putfield 21, 3) := by decide +kernel
theorem dX3_init_31 : decode cX3_init 31 = .ok (.aload_n 0, 1) := by decide +kernel
theorem dX3_init_32 : decode cX3_init 32 = .ok (.iconst 0, 1) := by decide +kernel
theorem dX3_init_33 : decode cX3_init 33 = .ok (.putfield 25, 3) := by decide +kernel
theorem dX3_init_36 : decode cX3_init 36 = .ok (.aload_n 0, 1) := by decide +kernel
theorem dX3_init_37 : decode cX3_init 37 = .ok (.iconst 1, 1) := by decide +kernel
theorem dX3_init_38 : decode cX3_init 38 = .ok (.putfield 28, 3) := by decide +kernel
theorem dX3_init_41 : decode cX3_init 41 = .ok (.return_, 1) := by decide +kernel
theorem dX3_take_0 : decode cX3_take 0 = .ok (.aload_n 1, 1) := by decide +kernel
theorem dX3_take_1 : decode cX3_take 1 = .ok (.getfield 9, 3) := by decide +kernel
theorem dX3_take_4 : decode cX3_take 4 = .ok (.iconst 0, 1) := by decide +kernel
theorem dX3_take_5 : decode cX3_take 5 = .ok (.aload_n 0, 1) := by decide +kernel
theorem dX3_take_6 : decode cX3_take 6 = .ok (.getfield 9, 3) := by decide +kernel
theorem dX3_take_9 : decode cX3_take 9 = .ok (.iconst 0, 1) := by decide +kernel
theorem dX3_take_10 : decode cX3_take 10 = .ok (.bipush 12, 2) := by decide +kernel
theorem dX3_take_12 : decode cX3_take 12 = .ok (.invokestatic 31, 3) := by decide +kernel
theorem dX3_take_15 : decode cX3_take 15 = .ok (.aload_n 1, 1) := by decide +kernel
theorem dX3_take_16 : decode cX3_take 16 = .ok (.getfield 15, 3) := by decide +kernel
theorem dX3_take_19 : decode cX3_take 19 = .ok (.iconst 0, 1) := by decide +kernel
theorem dX3_take_20 : decode cX3_take 20 = .ok (.aload_n 0, 1) := by decide +kernel
theorem dX3_take_21 : decode cX3_take 21 = .ok (.getfield 15, 3) := by decide +kernel
theorem dX3_take_24 : decode cX3_take 24 = .ok (.iconst 0, 1) := by decide +kernel
theorem dX3_take_25 : decode cX3_take 25 = .ok (.iconst 5, 1) := by decide +kernel
theorem dX3_take_26 : decode cX3_take 26 = .ok (.invokestatic 31, 3) := by decide +kernel
theorem dX3_take_29 : decode cX3_take 29 = .ok (.aload_n 1, 1) := by decide +kernel
theorem dX3_take_30 : decode cX3_take 30 = .ok (.getfield 18, 3) := by decide +kernel
theorem dX3_take_33 : decode cX3_take 33 = .ok (.iconst 0, 1) := by decide +kernel
theorem dX3_take_34 : decode cX3_take 34 = .ok (.aload_n 0, 1) := by decide +kernel
theorem dX3_take_35 : decode cX3_take 35 = .ok (.getfield 18, 3) := by decide +kernel
theorem dX3_take_38 : decode cX3_take 38 = .ok (.iconst 0, 1) := by decide +kernel
theorem dX3_take_39 : decode cX3_take 39 = .ok (.iconst 5, 1) := by decide +kernel
theorem dX3_take_40 : decode cX3_take 40 = .ok (.invokestatic 31, 3) := by decide +kernel
theorem dX3_take_43 : decode cX3_take 43 = .ok (.aload_n 0, 1) := by decide +kernel
theorem dX3_take_44 : decode cX3_take 44 = .ok (.aload_n 1, 1) := by decide +kernel
theorem dX3_take_45 : decode cX3_take 45 = .ok (.getfield 21, 3) := by decide +kernel
theorem dX3_take_48 : decode cX3_take 48 = .ok (.putfield 21, 3) := by decide +kernel
theorem dX3_take_51 : decode cX3_take 51 = .ok (.aload_n 0, 1) := by decide +kernel
theorem dX3_take_52 : decode cX3_take 52 = .ok (.aload_n 1, 1) := by decide +kernel
theorem dX3_take_53 : decode cX3_take 53 = .ok (.getfield 25, 3) := by decide +kernel
theorem dX3_take_56 : decode cX3_take 56 = .ok (.putfield 25, 3) := by decide +kernel
theorem dX3_take_59 : decode cX3_take 59 = .ok (.aload_n 0, 1) := by decide +kernel
theorem dX3_take_60 : decode cX3_take 60 = .ok (.aload_n 1, 1) := by decide +kernel
theorem dX3_take_61 : decode cX3_take 61 = .ok (.getfield 28, 3) := by decide +kernel
theorem dX3_take_64 : decode cX3_take 64 = .ok (.putfield 28, 3) := by decide +kernel
theorem dX3_take_67 : decode cX3_take 67 = .ok (.return_, 1) := by decide +kernel
theorem dX3_isEven_0 : decode cX3_isEven 0 = .ok (.aload_n 0, 1) := by decide +kernel
theorem dX3_isEven_1 : decode cX3_isEven 1 = .ok (.getfield 25, 3) := by decide +kernel
theorem dX3_isEven_4 : decode cX3_isEven 4 = .ok (.iconst 2, 1) := by decide +kernel
theorem dX3_isEven_5 : decode cX3_isEven 5 = .ok (.irem, 1) := by decide +kernel
theorem dX3_isEven_6 : decode cX3_isEven 6 = .ok (.ifCond .ne 7, 3) := by decide +kernel
theorem dX3_isEven_9 : decode cX3_isEven 9 = .ok (.iconst 1, 1) := by decide +kernel
theorem dX3_isEven_10 : decode cX3_isEven 10 = .ok (.goto 4, 3) := by decide +kernel
theorem dX3_isEven_13 : decode cX3_isEven 13 = .ok (.iconst 0, 1) := by decide +kernel
theorem dX3_isEven_14 : decode cX3_isEven 14 = .ok (.ireturn, 1) := by decide +kernel
theorem dX4_init_0 : decode cX4_init 0 = .ok (.aload_n 0, 1) := by decide +kernel
theorem dX4_init_1 : decode cX4_init 1 = .ok (.invokespecial 3, 3) := by decide +kernel
theorem dX4_init_4 : decode cX4_init 4 = .ok (.aload_n 0, 1) := by decide +kernel
theorem dX4_init_5 : decode cX4_init 5 = .ok (.bipush 6, 2) := by decide +kernel
theorem dX4_init_7 : decode cX4_init 7 = .ok (.anewarray 9, 3) := by decide +kernel
theorem dX4_init_10 : decode cX4_init 10 = .ok (.putfield 11, 3) := by decide +kernel
theorem dX4_init_13 : decode cX4_init 13 = .ok (.aload_n 0, 1) := by decide +kernel
theorem dX4_init_14 : decode cX4_init 14 = .ok (.iconst 5, 1) := by decide +kernel
theorem dX4_init_15 : decode cX4_init 15 = .ok (.newarray .int, 2) := by decide +kernel
theorem dX4_init_17 : decode cX4_init 17 = .ok (.putfield 17, 3) := by decide +kernel
theorem dX4_init_20 : decode cX4_init 20 = .ok (.aload_n 0, 1) := by decide +kernel
theorem dX4_init_21 : decode cX4_init 21 = .ok (.iconst 5, 1) := by decide +kernel
theorem dX4_init_22 : decode cX4_init 22 = .ok (.newarray .int, 2) := by decide +kernel
theorem dX4_init_24 : decode cX4_init 24 = .ok (.putfield 21, 3) := by decide +kernel
theorem dX4_init_27 : decode cX4_init 27 = .ok (.aload_n 0, 1) := by decide +kernel
theorem dX4_init_28 : decode cX4_init 28 = .ok (.iconst 0, 1) := by decide +kernel
theorem dX4_init_29 : decode cX4_init 29 = .ok (.putfield 24, 3) := by decide +kernel
theorem dX4_init_32 : decode cX4_init 32 = .ok (.aload_n 0, 1) := by decide +kernel
theorem dX4_init_33 : decode cX4_init 33 = .ok (.iconst 0, 1) := by decide +kernel
theorem dX4_init_34 : decode cX4_init 34 = .ok (.putfield 28, 3) := by decide +kernel
theorem dX4_init_37 : decode cX4_init 37 = .ok (.aload_n 0, 1) := by decide +kernel
theorem dX4_init_38 : decode cX4_init 38 = .ok (.iconst 0, 1) := by decide +kernel
theorem dX4_init_39 : decode cX4_init 39 = .ok (.putfield 32, 3) := by decide +kernel
theorem dX4_init_42 : decode cX4_init 42 = .ok (.aload_n 0, 1) := by decide +kernel
theorem dX4_init_43 : decode cX4_init 43 = .ok (.iconst 0, 1) := by decide +kernel
theorem dX4_init_44 : decode cX4_init 44 = .ok (.putfield 35, 3) := by decide +kernel
theorem dX4_init_47 : decode cX4_init 47 = .ok (.iconst 0, 1) := by decide +kernel
theorem dX4_init_48 : decode cX4_init 48 = .ok (.istore_n 1, 1) := by decide +kernel
theorem dX4_init_49 : decode cX4_init 49 = .ok (.iload_n 1, 1) := by decide +kernel
theorem dX4_init_50 : decode cX4_init 50 = .ok (.iconst 5, 1) := by decide +kernel
theorem dX4_init_51 : decode cX4_init 51 = .ok (.if_icmp .gt 22, 3) := by decide +kernel
theorem dX4_init_54 : decode cX4_init 54 = .ok (.aload_n 0, 1) := by decide +kernel
theorem dX4_init_55 : decode cX4_init 55 = .ok (.getfield 11, 3) := by decide +kernel
theorem dX4_init_58 : decode cX4_init 58 = .ok (.iload_n 1, 1) := by decide +kernel
theorem dX4_init_59 : decode cX4_init 59 = .ok (.new 9, 3) := by decide +kernel
theorem dX4_init_62 : decode cX4_init 62 = .ok (.dup, 1) := by decide +kernel
theorem dX4_init_63 : decode cX4_init 63 = .ok (.invokespecial 38, 3) := by decide +kernel
theorem dX4_init_66 : decode cX4_init 66 = .ok (.aastore, 1) := by decide +kernel
theorem dX4_init_67 : decode cX4_init 67 = .ok (.iinc 1 1, 3) := by decide +kernel
theorem dX4_init_70 : decode cX4_init 70 = .ok (.goto (-21), 3) := by decide +kernel
theorem dX4_init_73 : decode cX4_init 73 = .ok (.return_, 1) := by decide +kernel
theorem dX4_best_0 : decode cX4_best 0 = .ok (.aload_n 1, 1) := by decide +kernel
theorem dX4_best_1 : decode cX4_best 1 = .ok (.getfield 39, 3) := by decide +kernel
theorem dX4_best_4 : decode cX4_best 4 = .ok (.ifCond .eq 9, 3) := by decide +kernel
theorem dX4_best_7 : decode cX4_best 7 = .ok (.iload 4, 2) := by decide +kernel
theorem dX4_best_9 : decode cX4_best 9 = .ok (.iload_n 2, 1) := by decide +kernel
theorem dX4_best_10 : decode cX4_best 10 = .ok (.if_icmp .lt 6, 3) := by decide +kernel
theorem dX4_best_13 : decode cX4_best 13 = .ok (.bipush (-4), 2) := by decide +kernel
theorem dX4_best_15 : decode cX4_best 15 = .ok (.ireturn, 1) := by decide +kernel
theorem dX4_best_16 : decode cX4_best 16 = .ok (.aload_n 0, 1) := by decide +kernel
theorem dX4_best_17 : decode cX4_best 17 = .ok (.iconst 5, 1) := by decide +kernel
theorem dX4_best_18 : decode cX4_best 18 = .ok (.iload_n 2, 1) := by decide +kernel
theorem dX4_best_19 : decode cX4_best 19 = .ok (.invokestatic 44, 3) := by decide +kernel
theorem dX4_best_22 : decode cX4_best 22 = .ok (.putfield 24, 3) := by decide +kernel
theorem dX4_best_25 : decode cX4_best 25 = .ok (.aload_n 0, 1) := by decide +kernel
theorem dX4_best_26 : decode cX4_best 26 = .ok (.iload_n 3, 1) := by decide +kernel
theorem dX4_best_27 : decode cX4_best 27 = .ok (.putfield 28, 3) := by decide +kernel
theorem dX4_best_30 : decode cX4_best 30 = .ok (.aload_n 0, 1) := by decide +kernel
theorem dX4_best_31 : decode cX4_best 31 = .ok (.iconst (-1), 1) := by decide +kernel
theorem dX4_best_32 : decode cX4_best 32 = .ok (.putfield 32, 3) := by decide +kernel
theorem dX4_best_35 : decode cX4_best 35 = .ok (.aload_n 0, 1) := by decide +kernel
theorem dX4_best_36 : decode cX4_best 36 = .ok (.getfield 11, 3) := by decide +kernel
theorem dX4_best_39 : decode cX4_best 39 = .ok (.iconst 0, 1) := by decide +kernel
theorem dX4_best_40 : decode cX4_best 40 = .ok (.aaload, 1) := by decide +kernel
theorem dX4_best_41 : decode cX4_best 41 = .ok (.aload_n 1, 1) := by decide +kernel
theorem dX4_best_42 : decode cX4_best 42 = .ok (.getfield 50, 3) := by decide +kernel
theorem dX4_best_45 : decode cX4_best 45 = .ok (.invokevirtual 54, 3) := by decide +kernel
theorem dX4_best_48 : decode cX4_best 48 = .ok (.aload_n 0, 1) := by decide +kernel
theorem dX4_best_49 : decode cX4_best 49 = .ok (.aload_n 1, 1) := by decide +kernel
theorem dX4_best_50 : decode cX4_best 50 = .ok (.iconst 0, 1) := by decide +kernel
theorem dX4_best_51 : decode cX4_best 51 = .ok (.iconst 0, 1) := by decide +kernel
theorem dX4_best_52 : decode cX4_best 52 = .ok (.invokestatic 58, 3) := by decide +kernel
theorem dX4_best_55 : decode cX4_best 55 = .ok (.iload 4, 2) := by decide +kernel
theorem dX4_best_57 : decode cX4_best 57 = .ok (.ifCond .ge 10, 3) := by decide +kernel
theorem dX4_best_60 : decode cX4_best 60 = .ok (.aload_n 0, 1) := by decide +kernel
theorem dX4_best_61 : decode cX4_best 61 = .ok (.getfield 32, 3) := by decide +kernel
theorem dX4_best_64 : decode cX4_best 64 = .ok (.goto 10, 3) := by decide +kernel
theorem dX4_best_67 : decode cX4_best 67 = .ok (.aload_n 0, 1) := by decide +kernel
theorem dX4_best_68 : decode cX4_best 68 = .ok (.getfield 21, 3) := by decide +kernel
theorem dX4_best_71 : decode cX4_best 71 = .ok (.iload 4, 2) := by decide +kernel
theorem dX4_best_73 : decode cX4_best 73 = .ok (.iaload, 1) := by decide +kernel
theorem dX4_best_74 : decode cX4_best 74 = .ok (.ireturn, 1) := by decide +kernel
theorem dX4_tryFrom_0 : decode cX4_tryFrom 0 = .ok (.iload_n 2, 1) := by decide +kernel
theorem dX4_tryFrom_1 : decode cX4_tryFrom 1 = .ok (.aload_n 0, 1) := by decide +kernel
theorem dX4_tryFrom_2 : decode cX4_tryFrom 2 = .ok (.getfield 24, 3) := by decide +kernel
theorem dX4_tryFrom_5 : decode cX4_tryFrom 5 = .ok (.if_icmp .lt 18, 3) := by decide +kernel
theorem dX4_tryFrom_8 : decode cX4_tryFrom 8 = .ok (.aload_n 0, 1) := by decide +kernel
theorem dX4_tryFrom_9 : decode cX4_tryFrom 9 = .ok (.aload_n 1, 1) := by decide +kernel
theorem dX4_tryFrom_10 : decode cX4_tryFrom 10 = .ok (.aload_n 0, 1) := by decide +kernel
theorem dX4_tryFrom_11 : decode cX4_tryFrom 11 = .ok (.getfield 11, 3) := by decide +kernel
theorem dX4_tryFrom_14 : decode cX4_tryFrom 14 = .ok (.aload_n 0, 1) := by decide +kernel
theorem dX4_tryFrom_15 : decode cX4_tryFrom 15 = .ok (.getfield 24, 3) := by decide +kernel
theorem dX4_tryFrom_18 : decode cX4_tryFrom 18 = .ok (.aaload, 1) := by decide +kernel
theorem dX4_tryFrom_19 : decode cX4_tryFrom 19 = .ok (.invokevirtual 62, 3) := by decide +kernel
theorem dX4_tryFrom_22 : decode cX4_tryFrom 22 = .ok (.return_, 1) := by decide +kernel
theorem dX4_tryFrom_23 : decode cX4_tryFrom 23 = .ok (.iconst 0, 1) := by decide +kernel
theorem dX4_tryFrom_24 : decode cX4_tryFrom 24 = .ok (.istore 4, 2) := by decide +kernel
theorem dX4_tryFrom_26 : decode cX4_tryFrom 26 = .ok (.iload 4, 2) := by decide +kernel
theorem dX4_tryFrom_28 : decode cX4_tryFrom 28 = .ok (.aload_n 1, 1) := by decide +kernel
theorem dX4_tryFrom_29 : decode cX4_tryFrom 29 = .ok (.getfield 39, 3) := by decide +kernel
theorem dX4_tryFrom_32 : decode cX4_tryFrom 32 = .ok (.if_icmp .ge 79, 3) := by decide +kernel
theorem dX4_tryFrom_35 : decode cX4_tryFrom 35 = .ok (.aload_n 0, 1) := by decide +kernel
theorem dX4_tryFrom_36 : decode cX4_tryFrom 36 = .ok (.getfield 28, 3) := by decide +kernel
theorem dX4_tryFrom_39 : decode cX4_tryFrom 39 = .ok (.ifCond .eq 15, 3) := by decide +kernel
theorem dX4_tryFrom_42 : decode cX4_tryFrom 42 = .ok (.iload_n 3, 1) := by decide +kernel
theorem dX4_tryFrom_43 : decode cX4_tryFrom 43 = .ok (.iload 4, 2) := by decide +kernel
theorem dX4_tryFrom_45 : decode cX4_tryFrom 45 = .ok (.ishr, 1) := by decide +kernel
theorem dX4_tryFrom_46 : decode cX4_tryFrom 46 = .ok (.iconst 1, 1) := by decide +kernel
theorem dX4_tryFrom_47 : decode cX4_tryFrom 47 = .ok (.iand, 1) := by decide +kernel
theorem dX4_tryFrom_48 : decode cX4_tryFrom 48 = .ok (.ifCond .eq 6, 3) := by decide +kernel
theorem dX4_tryFrom_51 : decode cX4_tryFrom 51 = .ok (.goto 54, 3) := by decide +kernel
theorem dX4_tryFrom_54 : decode cX4_tryFrom 54 = .ok (.aload_n 0, 1) := by decide +kernel
theorem dX4_tryFrom_55 : decode cX4_tryFrom 55 = .ok (.getfield 11, 3) := by decide +kernel
theorem dX4_tryFrom_58 : decode cX4_tryFrom 58 = .ok (.iload_n 2, 1) := by decide +kernel
theorem dX4_tryFrom_59 : decode cX4_tryFrom 59 = .ok (.iconst 1, 1) := by decide +kernel
theorem dX4_tryFrom_60 : decode cX4_tryFrom 60 = .ok (.iadd, 1) := by decide +kernel
theorem dX4_tryFrom_61 : decode cX4_tryFrom 61 = .ok (.aaload, 1) := by decide +kernel
theorem dX4_tryFrom_62 : decode cX4_tryFrom 62 = .ok (.astore 5, 2) := by decide +kernel
theorem dX4_tryFrom_64 : decode cX4_tryFrom 64 = .ok (.aload 5, 2) := by decide +kernel
theorem dX4_tryFrom_66 : decode cX4_tryFrom 66 = .ok (.aload_n 0, 1) := by decide +kernel
theorem dX4_tryFrom_67 : decode cX4_tryFrom 67 = .ok (.getfield 11, 3) := by decide +kernel
theorem dX4_tryFrom_70 : decode cX4_tryFrom 70 = .ok (.iload_n 2, 1) := by decide +kernel
theorem dX4_tryFrom_71 : decode cX4_tryFrom 71 = .ok (.aaload, 1) := by decide +kernel
theorem dX4_tryFrom_72 : decode cX4_tryFrom 72 = .ok (.invokevirtual 54, 3) := by decide +kernel
theorem dX4_tryFrom_75 : decode cX4_tryFrom 75 = .ok (.aload_n 1, 1) := by decide +kernel
theorem dX4_tryFrom_76 : decode cX4_tryFrom 76 = .ok (.aload 5, 2) := by decide +kernel
theorem dX4_tryFrom_78 : decode cX4_tryFrom 78 = .ok (.iload 4, 2) := by decide +kernel
theorem dX4_tryFrom_80 : decode cX4_tryFrom 80 = .ok (.invokevirtual 66, 3) := by decide +kernel
theorem dX4_tryFrom_83 : decode cX4_tryFrom 83 = .ok (.aload_n 0, 1) := by decide +kernel
theorem dX4_tryFrom_84 : decode cX4_tryFrom 84 = .ok (.getfield 17, 3) := by decide +kernel
theorem dX4_tryFrom_87 : decode cX4_tryFrom 87 = .ok (.iload_n 2, 1) := by decide +kernel
theorem dX4_tryFrom_88 : decode cX4_tryFrom 88 = .ok (.iload 4, 2) := by decide +kernel
theorem dX4_tryFrom_90 : decode cX4_tryFrom 90 = .ok (.iastore, 1) := by decide +kernel
theorem dX4_tryFrom_91 : decode cX4_tryFrom 91 = .ok (.aload_n 0, 1) := by decide +kernel
theorem dX4_tryFrom_92 : decode cX4_tryFrom 92 = .ok (.aload_n 1, 1) := by decide +kernel
theorem dX4_tryFrom_93 : decode cX4_tryFrom 93 = .ok (.iload_n 2, 1) := by decide +kernel
theorem dX4_tryFrom_94 : decode cX4_tryFrom 94 = .ok (.iconst 1, 1) := by decide +kernel
theorem dX4_tryFrom_95 : decode cX4_tryFrom 95 = .ok (.iadd, 1) := by decide +kernel
theorem dX4_tryFrom_96 : decode cX4_tryFrom 96 = .ok (.iload_n 3, 1) := by decide +kernel
theorem dX4_tryFrom_97 : decode cX4_tryFrom 97 = .ok (.iconst 1, 1) := by decide +kernel
theorem dX4_tryFrom_98 : decode cX4_tryFrom 98 = .ok (.iload 4, 2) := by decide +kernel
theorem dX4_tryFrom_100 : decode cX4_tryFrom 100 = .ok (.ishl, 1) := by decide +kernel
theorem dX4_tryFrom_101 : decode cX4_tryFrom 101 = .ok (.ior, 1) := by decide +kernel
theorem dX4_tryFrom_102 : decode cX4_tryFrom 102 = .ok (.invokestatic 58, 3) := by decide +kernel
theorem dX4_tryFrom_105 : decode cX4_tryFrom 105 = .ok (.iinc 4 1, 3) := by decide +kernel
theorem dX4_tryFrom_108 : decode cX4_tryFrom 108 = .ok (.goto (-82), 3) := by decide +kernel
theorem dX4_tryFrom_111 : decode cX4_tryFrom 111 = .ok (.return_, 1) := by decide +kernel
theorem dX4_judge_0 : decode cX4_judge 0 = .ok (.aload_n 1, 1) := by decide +kernel
theorem dX4_judge_1 : decode cX4_judge 1 = .ok (.aload_n 2, 1) := by decide +kernel
theorem dX4_judge_2 : decode cX4_judge 2 = .ok (.invokevirtual 70, 3) := by decide +kernel
theorem dX4_judge_5 : decode cX4_judge 5 = .ok (.istore_n 3, 1) := by decide +kernel
theorem dX4_judge_6 : decode cX4_judge 6 = .ok (.aload_n 2, 1) := by decide +kernel
theorem dX4_judge_7 : decode cX4_judge 7 = .ok (.getfield 74, 3) := by decide +kernel
theorem dX4_judge_10 : decode cX4_judge 10 = .ok (.aload_n 0, 1) := by decide +kernel
theorem dX4_judge_11 : decode cX4_judge 11 = .ok (.getfield 32, 3) := by decide +kernel
theorem dX4_judge_14 : decode cX4_judge 14 = .ok (.if_icmp .gt 22, 3) := by decide +kernel
theorem dX4_judge_17 : decode cX4_judge 17 = .ok (.aload_n 2, 1) := by decide +kernel
theorem dX4_judge_18 : decode cX4_judge 18 = .ok (.getfield 74, 3) := by decide +kernel
theorem dX4_judge_21 : decode cX4_judge 21 = .ok (.aload_n 0, 1) := by decide +kernel
theorem dX4_judge_22 : decode cX4_judge 22 = .ok (.getfield 32, 3) := by decide +kernel
theorem dX4_judge_25 : decode cX4_judge 25 = .ok (.if_icmp .ne 41, 3) := by decide +kernel
theorem dX4_judge_28 : decode cX4_judge 28 = .ok (.iload_n 3, 1) := by decide +kernel
theorem dX4_judge_29 : decode cX4_judge 29 = .ok (.aload_n 0, 1) := by decide +kernel
theorem dX4_judge_30 : decode cX4_judge 30 = .ok (.getfield 35, 3) := by decide +kernel
theorem dX4_judge_33 : decode cX4_judge 33 = .ok (.if_icmp .ge 33, 3) := by decide +kernel
theorem dX4_judge_36 : decode cX4_judge 36 = .ok (.aload_n 0, 1) := by decide +kernel
theorem dX4_judge_37 : decode cX4_judge 37 = .ok (.aload_n 2, 1) := by decide +kernel
theorem dX4_judge_38 : decode cX4_judge 38 = .ok (.getfield 74, 3) := by decide +kernel
theorem dX4_judge_41 : decode cX4_judge 41 = .ok (.putfield 32, 3) := by decide +kernel
theorem dX4_judge_44 : decode cX4_judge 44 = .ok (.aload_n 0, 1) := by decide +kernel
theorem dX4_judge_45 : decode cX4_judge 45 = .ok (.iload_n 3, 1) := by decide +kernel
theorem dX4_judge_46 : decode cX4_judge 46 = .ok (.putfield 35, 3) := by decide +kernel
theorem dX4_judge_49 : decode cX4_judge 49 = .ok (.aload_n 0, 1) := by decide +kernel
theorem dX4_judge_50 : decode cX4_judge 50 = .ok (.getfield 17, 3) := by decide +kernel
theorem dX4_judge_53 : decode cX4_judge 53 = .ok (.iconst 0, 1) := by decide +kernel
theorem dX4_judge_54 : decode cX4_judge 54 = .ok (.aload_n 0, 1) := by decide +kernel
theorem dX4_judge_55 : decode cX4_judge 55 = .ok (.getfield 21, 3) := by decide +kernel
theorem dX4_judge_58 : decode cX4_judge 58 = .ok (.iconst 0, 1) := by decide +kernel
theorem dX4_judge_59 : decode cX4_judge 59 = .ok (.aload_n 0, 1) := by decide +kernel
theorem dX4_judge_60 : decode cX4_judge 60 = .ok (.getfield 24, 3) := by decide +kernel
theorem dX4_judge_63 : decode cX4_judge 63 = .ok (.invokestatic 77, 3) := by decide +kernel
theorem dX4_judge_66 : decode cX4_judge 66 = .ok (.return_, 1) := by decide +kernel
theorem dX5_init_0 : decode cX5_init 0 = .ok (.aload_n 0, 1) := by decide +kernel
theorem dX5_init_1 : decode cX5_init 1 = .ok (.invokespecial 3, 3) := by decide +kernel
theorem dX5_init_4 : decode cX5_init 4 = .ok (.aload_n 0, 1) := by decide +kernel
theorem dX5_init_5 : decode cX5_init 5 = .ok (.bipush 24, 2) := by decide +kernel
theorem dX5_init_7 : decode cX5_init 7 = .ok (.newarray .long, 2) := by decide +kernel
theorem dX5_init_9 : decode cX5_init 9 = .ok (.putfield 9, 3) := by decide +kernel
theorem dX5_init_12 : decode cX5_init 12 = .ok (.aload_n 0, 1) := by decide +kernel
theorem dX5_init_13 : decode cX5_init 13 = .ok (.iconst 0, 1) := by decide +kernel
theorem dX5_init_14 : decode cX5_init 14 = .ok (.putfield 15, 3) := by decide +kernel
theorem dX5_init_17 : decode cX5_init 17 = .ok (.aload_n 0, 1) := by decide +kernel
theorem dX5_init_18 : decode cX5_init 18 = .ok (.iconst (-1), 1) := by decide +kernel
theorem dX5_init_19 : decode cX5_init 19 = .ok (.putfield 19, 3) := by decide +kernel
theorem dX5_init_22 : decode cX5_init 22 = .ok (.return_, 1) := by decide +kernel
theorem dX5_begin_0 : decode cX5_begin 0 = .ok (.aload_n 0, 1) := by decide +kernel
theorem dX5_begin_1 : decode cX5_begin 1 = .ok (.iload_n 1, 1) := by decide +kernel
theorem dX5_begin_2 : decode cX5_begin 2 = .ok (.putfield 15, 3) := by decide +kernel
theorem dX5_begin_5 : decode cX5_begin 5 = .ok (.aload_n 0, 1) := by decide +kernel
theorem dX5_begin_6 : decode cX5_begin 6 = .ok (.iload_n 2, 1) := by decide +kernel
theorem dX5_begin_7 : decode cX5_begin 7 = .ok (.putfield 19, 3) := by decide +kernel
theorem dX5_begin_10 : decode cX5_begin 10 = .ok (.iconst 0, 1) := by decide +kernel
theorem dX5_begin_11 : decode cX5_begin 11 = .ok (.istore_n 3, 1) := by decide +kernel
theorem dX5_begin_12 : decode cX5_begin 12 = .ok (.iload_n 3, 1) := by decide +kernel
theorem dX5_begin_13 : decode cX5_begin 13 = .ok (.iload_n 2, 1) := by decide +kernel
theorem dX5_begin_14 : decode cX5_begin 14 = .ok (.if_icmp .ge 16, 3) := by decide +kernel
theorem dX5_begin_17 : decode cX5_begin 17 = .ok (.aload_n 0, 1) := by decide +kernel
theorem dX5_begin_18 : decode cX5_begin 18 = .ok (.getfield 9, 3) := by decide +kernel
theorem dX5_begin_21 : decode cX5_begin 21 = .ok (.iload_n 3, 1) := by decide +kernel
theorem dX5_begin_22 : decode cX5_begin 22 = .ok (.lconst 0, 1) := by decide +kernel
theorem dX5_begin_23 : decode cX5_begin 23 = .ok (.lastore, 1) := by decide +kernel
theorem dX5_begin_24 : decode cX5_begin 24 = .ok (.iinc 3 1, 3) := by decide +kernel
theorem dX5_begin_27 : decode cX5_begin 27 = .ok (.goto (-15), 3) := by decide +kernel
theorem dX5_begin_30 : decode cX5_begin 30 = .ok (.return_, 1) := by decide +kernel
theorem dX5_end_0 : decode cX5_end 0 = .ok (.aload_n 0, 1) := by decide +kernel
theorem dX5_end_1 : decode cX5_end 1 = .ok (.iconst (-1), 1) := by decide +kernel
theorem dX5_end_2 : decode cX5_end 2 = .ok (.putfield 19, 3) := by decide +kernel
theorem dX5_end_5 : decode cX5_end 5 = .ok (.return_, 1) := by decide +kernel
theorem dX5_isNothing_0 : decode cX5_isNothing 0 = .ok (.aload_n 0, 1) := by decide +kernel
theorem dX5_isNothing_1 : decode cX5_isNothing 1 = .ok (.getfield 19, 3) := by decide +kernel
theorem dX5_isNothing_4 : decode cX5_isNothing 4 = .ok (.ifCond .ge 7, 3) := by decide +kernel
theorem dX5_isNothing_7 : decode cX5_isNothing 7 = .ok (.iconst 1, 1) := by decide +kernel
theorem dX5_isNothing_8 : decode cX5_isNothing 8 = .ok (.goto 4, 3) := by decide +kernel
theorem dX5_isNothing_11 : decode cX5_isNothing 11 = .ok (.iconst 0, 1) := by decide +kernel
theorem dX5_isNothing_12 : decode cX5_isNothing 12 = .ok (.ireturn, 1) := by decide +kernel
theorem dX5_holds_0 : decode cX5_holds 0 = .ok (.iload_n 1, 1) := by decide +kernel
theorem dX5_holds_1 : decode cX5_holds 1 = .ok (.ifCond .lt 21, 3) := by decide +kernel
theorem dX5_holds_4 : decode cX5_holds 4 = .ok (.iload_n 2, 1) := by decide +kernel
theorem dX5_holds_5 : decode cX5_holds 5 = .ok (.ifCond .lt 17, 3) := by decide +kernel
theorem dX5_holds_8 : decode cX5_holds 8 = .ok (.iload_n 1, 1) := by decide +kernel
theorem dX5_holds_9 : decode cX5_holds 9 = .ok (.aload_n 0, 1) := by decide +kernel
theorem dX5_holds_10 : decode cX5_holds 10 = .ok (.getfield 19, 3) := by decide +kernel
theorem dX5_holds_13 : decode cX5_holds 13 = .ok (.iload_n 2, 1) := by decide +kernel
theorem dX5_holds_14 : decode cX5_holds 14 = .ok (.isub, 1) := by decide +kernel
theorem dX5_holds_15 : decode cX5_holds 15 = .ok (.if_icmp .gt 7, 3) := by decide +kernel
theorem dX5_holds_18 : decode cX5_holds 18 = .ok (.iconst 1, 1) := by decide +kernel
theorem dX5_holds_19 : decode cX5_holds 19 = .ok (.goto 4, 3) := by decide +kernel
theorem dX5_holds_22 : decode cX5_holds 22 = .ok (.iconst 0, 1) := by decide +kernel
theorem dX5_holds_23 : decode cX5_holds 23 = .ok (.ireturn, 1) := by decide +kernel
theorem dX5_refusal_0 : decode cX5_refusal 0 = .ok (.aload_n 0, 1) := by decide +kernel
theorem dX5_refusal_1 : decode cX5_refusal 1 = .ok (.invokevirtual 22, 3) := by decide +kernel
theorem dX5_refusal_4 : decode cX5_refusal 4 = .ok (.ifCond .eq 6, 3) := by decide +kernel
theorem dX5_refusal_7 : decode cX5_refusal 7 = .ok (.bipush (-11), 2) := by decide +kernel
theorem dX5_refusal_9 : decode cX5_refusal 9 = .ok (.ireturn, 1) := by decide +kernel
theorem dX5_refusal_10 : decode cX5_refusal 10 = .ok (.aload_n 0, 1) := by decide +kernel
theorem dX5_refusal_11 : decode cX5_refusal 11 = .ok (.getfield 15, 3) := by decide +kernel
theorem dX5_refusal_14 : decode cX5_refusal 14 = .ok (.iload_n 1, 1) := by decide +kernel
theorem dX5_refusal_15 : decode cX5_refusal 15 = .ok (.if_icmp .eq 6, 3) := by decide +kernel
theorem dX5_refusal_18 : decode cX5_refusal 18 = .ok (.bipush (-12), 2) := by decide +kernel
theorem dX5_refusal_20 : decode cX5_refusal 20 = .ok (.ireturn, 1) := by decide +kernel
theorem dX5_refusal_21 : decode cX5_refusal 21 = .ok (.aload_n 0, 1) := by decide +kernel
theorem dX5_refusal_22 : decode cX5_refusal 22 = .ok (.iload_n 2, 1) := by decide +kernel
theorem dX5_refusal_23 : decode cX5_refusal 23 = .ok (.iload_n 3, 1) := by decide +kernel
theorem dX5_refusal_24 : decode cX5_refusal 24 = .ok (.invokevirtual 26, 3) := by decide +kernel
theorem dX5_refusal_27 : decode cX5_refusal 27 = .ok (.ifCond .eq 7, 3) := by decide +kernel
theorem dX5_refusal_30 : decode cX5_refusal 30 = .ok (.iconst 0, 1) := by decide +kernel
theorem dX5_refusal_31 : decode cX5_refusal 31 = .ok (.goto 5, 3) := by decide +kernel
theorem dX5_refusal_34 : decode cX5_refusal 34 = .ok (.bipush (-13), 2) := by decide +kernel
theorem dX5_refusal_36 : decode cX5_refusal 36 = .ok (.ireturn, 1) := by decide +kernel
theorem dX5_put_0 : decode cX5_put 0 = .ok (.aload_n 0, 1) := by decide +kernel
theorem dX5_put_1 : decode cX5_put 1 = .ok (.getfield 15, 3) := by decide +kernel
theorem dX5_put_4 : decode cX5_put 4 = .ok (.tableswitch 66 0 2 #[28, 41, 54], 28) := by decide +kernel
theorem dX5_put_32 : decode cX5_put 32 = .ok (.aload_n 0, 1) := by decide +kernel
theorem dX5_put_33 : decode cX5_put 33 = .ok (.getfield 9, 3) := by decide +kernel
theorem dX5_put_36 : decode cX5_put 36 = .ok (.iload_n 1, 1) := by decide +kernel
theorem dX5_put_37 : decode cX5_put 37 = .ok (.lload_n 2, 1) := by decide +kernel
theorem dX5_put_38 : decode cX5_put 38 = .ok (.l2i, 1) := by decide +kernel
theorem dX5_put_39 : decode cX5_put 39 = .ok (.i2b, 1) := by decide +kernel
theorem dX5_put_40 : decode cX5_put 40 = .ok (.i2l, 1) := by decide +kernel
theorem dX5_put_41 : decode cX5_put 41 = .ok (.lastore, 1) := by decide +kernel
theorem dX5_put_42 : decode cX5_put 42 = .ok (.goto 35, 3) := by decide +kernel
theorem dX5_put_45 : decode cX5_put 45 = .ok (.aload_n 0, 1) := by decide +kernel
theorem dX5_put_46 : decode cX5_put 46 = .ok (.getfield 9, 3) := by decide +kernel
theorem dX5_put_49 : decode cX5_put 49 = .ok (.iload_n 1, 1) := by decide +kernel
theorem dX5_put_50 : decode cX5_put 50 = .ok (.lload_n 2, 1) := by decide +kernel
theorem dX5_put_51 : decode cX5_put 51 = .ok (.l2i, 1) := by decide +kernel
theorem dX5_put_52 : decode cX5_put 52 = .ok (.i2s, 1) := by decide +kernel
theorem dX5_put_53 : decode cX5_put 53 = .ok (.i2l, 1) := by decide +kernel
theorem dX5_put_54 : decode cX5_put 54 = .ok (.lastore, 1) := by decide +kernel
theorem dX5_put_55 : decode cX5_put 55 = .ok (.goto 22, 3) := by decide +kernel
theorem dX5_put_58 : decode cX5_put 58 = .ok (.aload_n 0, 1) := by decide +kernel
theorem dX5_put_59 : decode cX5_put 59 = .ok (.getfield 9, 3) := by decide +kernel
theorem dX5_put_62 : decode cX5_put 62 = .ok (.iload_n 1, 1) := by decide +kernel
theorem dX5_put_63 : decode cX5_put 63 = .ok (.lload_n 2, 1) := by decide +kernel
theorem dX5_put_64 : decode cX5_put 64 = .ok (.l2i, 1) := by decide +kernel
theorem dX5_put_65 : decode cX5_put 65 = .ok (.i2l, 1) := by decide +kernel
theorem dX5_put_66 : decode cX5_put 66 = .ok (.lastore, 1) := by decide +kernel
theorem dX5_put_67 : decode cX5_put 67 = .ok (.goto 10, 3) := by decide +kernel
theorem dX5_put_70 : decode cX5_put 70 = .ok (.aload_n 0, 1) := by decide +kernel
theorem dX5_put_71 : decode cX5_put 71 = .ok (.getfield 9, 3) := by decide +kernel
theorem dX5_put_74 : decode cX5_put 74 = .ok (.iload_n 1, 1) := by decide +kernel
theorem dX5_put_75 : decode cX5_put 75 = .ok (.lload_n 2, 1) := by decide +kernel
theorem dX5_put_76 : decode cX5_put 76 = .ok (.lastore, 1) := by decide +kernel
theorem dX5_put_77 : decode cX5_put 77 = .ok (.return_, 1) := by decide +kernel
theorem dX6_init_0 : decode cX6_init 0 = .ok (.aload_n 0, 1) := by decide +kernel
theorem dX6_init_1 : decode cX6_init 1 = .ok (.invokespecial 3, 3) := by decide +kernel
theorem dX6_init_4 : decode cX6_init 4 = .ok (.aload_n 0, 1) := by decide +kernel
theorem dX6_init_5 : decode cX6_init 5 = .ok (.bipush 110, 2) := by decide +kernel
theorem dX6_init_7 : decode cX6_init 7 = .ok (.newarray .char, 2) := by decide +kernel
theorem dX6_init_9 : decode cX6_init 9 = .ok (.putfield 11, 3) := by decide +kernel
theorem dX6_init_12 : decode cX6_init 12 = .ok (.aload_n 0, 1) := by decide +kernel
theorem dX6_init_13 : decode cX6_init 13 = .ok (.new 15, 3) := by decide +kernel
theorem dX6_init_16 : decode cX6_init 16 = .ok (.dup, 1) := by decide +kernel
theorem dX6_init_17 : decode cX6_init 17 = .ok (.invokespecial 17, 3) := by decide +kernel
theorem dX6_init_20 : decode cX6_init 20 = .ok (.putfield 18, 3) := by decide +kernel
theorem dX6_init_23 : decode cX6_init 23 = .ok (.aload_n 0, 1) := by decide +kernel
theorem dX6_init_24 : decode cX6_init 24 = .ok (.iconst 0, 1) := by decide +kernel
theorem dX6_init_25 : decode cX6_init 25 = .ok (.putfield 22, 3) := by decide +kernel
theorem dX6_init_28 : decode cX6_init 28 = .ok (.aload_n 0, 1) := by decide +kernel
theorem dX6_init_29 : decode cX6_init 29 = .ok (.iconst 0, 1) := by decide +kernel
theorem dX6_init_30 : decode cX6_init 30 = .ok (.putfield 26, 3) := by decide +kernel
theorem dX6_init_33 : decode cX6_init 33 = .ok (.aload_n 0, 1) := by decide +kernel
theorem dX6_init_34 : decode cX6_init 34 = .ok (.iconst 0, 1) := by decide +kernel
theorem dX6_init_35 : decode cX6_init 35 = .ok (.putfield 29, 3) := by decide +kernel
theorem dX6_init_38 : decode cX6_init 38 = .ok (.return_, 1) := by decide +kernel
theorem dX6_isFull_0 : decode cX6_isFull 0 = .ok (.aload_n 0, 1) := by decide +kernel
theorem dX6_isFull_1 : decode cX6_isFull 1 = .ok (.getfield 22, 3) := by decide +kernel
theorem dX6_isFull_4 : decode cX6_isFull 4 = .ok (.bipush 110, 2) := by decide +kernel
theorem dX6_isFull_6 : decode cX6_isFull 6 = .ok (.if_icmp .lt 7, 3) := by decide +kernel
theorem dX6_isFull_9 : decode cX6_isFull 9 = .ok (.iconst 1, 1) := by decide +kernel
theorem dX6_isFull_10 : decode cX6_isFull 10 = .ok (.goto 4, 3) := by decide +kernel
theorem dX6_isFull_13 : decode cX6_isFull 13 = .ok (.iconst 0, 1) := by decide +kernel
theorem dX6_isFull_14 : decode cX6_isFull 14 = .ok (.ireturn, 1) := by decide +kernel
theorem dX6_add_0 : decode cX6_add 0 = .ok (.aload_n 0, 1) := by decide +kernel
theorem dX6_add_1 : decode cX6_add 1 = .ok (.getfield 11, 3) := by decide +kernel
theorem dX6_add_4 : decode cX6_add 4 = .ok (.aload_n 0, 1) := by decide +kernel
theorem dX6_add_5 : decode cX6_add 5 = .ok (.getfield 22, 3) := by decide +kernel
theorem dX6_add_8 : decode cX6_add 8 = .ok (.iload_n 1, 1) := by decide +kernel
theorem dX6_add_9 : decode cX6_add 9 = .ok (.i2c, 1) := by decide +kernel
theorem dX6_add_10 : decode cX6_add 10 = .ok (.castore, 1) := by decide +kernel
theorem dX6_add_11 : decode cX6_add 11 = .ok (.aload_n 0, 1) := by decide +kernel
theorem dX6_add_12 : decode cX6_add 12 = .ok (.dup, 1) := by decide +kernel
theorem dX6_add_13 : decode cX6_add 13 = .ok (.getfield 22, 3) := by decide +kernel
theorem dX6_add_16 : decode cX6_add 16 = .ok (.iconst 1, 1) := by decide +kernel
theorem dX6_add_17 : decode cX6_add 17 = .ok (.iadd, 1) := by decide +kernel
theorem dX6_add_18 : decode cX6_add 18 = .ok (.putfield 22, 3) := by decide +kernel
theorem dX6_add_21 : decode cX6_add 21 = .ok (.aload_n 0, 1) := by decide +kernel
theorem dX6_add_22 : decode cX6_add 22 = .ok (.getfield 22, 3) := by decide +kernel
theorem dX6_add_25 : decode cX6_add 25 = .ok (.ireturn, 1) := by decide +kernel
theorem dX6_readInto_0 : decode cX6_readInto 0 = .ok (.aload_n 0, 1) := by decide +kernel
theorem dX6_readInto_1 : decode cX6_readInto 1 = .ok (.iconst 0, 1) := by decide +kernel
theorem dX6_readInto_2 : decode cX6_readInto 2 = .ok (.putfield 26, 3) := by decide +kernel
theorem dX6_readInto_5 : decode cX6_readInto 5 = .ok (.aload_n 0, 1) := by decide +kernel
theorem dX6_readInto_6 : decode cX6_readInto 6 = .ok (.getfield 18, 3) := by decide +kernel
theorem dX6_readInto_9 : decode cX6_readInto 9 = .ok (.iconst 0, 1) := by decide +kernel
theorem dX6_readInto_10 : decode cX6_readInto 10 = .ok (.putfield 32, 3) := by decide +kernel
theorem dX6_readInto_13 : decode cX6_readInto 13 = .ok (.aload_n 0, 1) := by decide +kernel
theorem dX6_readInto_14 : decode cX6_readInto 14 = .ok (.getfield 18, 3) := by decide +kernel
theorem dX6_readInto_17 : decode cX6_readInto 17 = .ok (.iconst 0, 1) := by decide +kernel
theorem dX6_readInto_18 : decode cX6_readInto 18 = .ok (.putfield 35, 3) := by decide +kernel
theorem dX6_readInto_21 : decode cX6_readInto 21 = .ok (.aload_n 0, 1) := by decide +kernel
theorem dX6_readInto_22 : decode cX6_readInto 22 = .ok (.getfield 18, 3) := by decide +kernel
theorem dX6_readInto_25 : decode cX6_readInto 25 = .ok (.iconst 0, 1) := by decide +kernel
theorem dX6_readInto_26 : decode cX6_readInto 26 = .ok (.putfield 38, 3) := by decide +kernel
theorem dX6_readInto_29 : decode cX6_readInto 29 = .ok (.aload_n 0, 1) := by decide +kernel
theorem dX6_readInto_30 : decode cX6_readInto 30 = .ok (.invokevirtual 41, 3) := by decide +kernel
theorem dX6_readInto_33 : decode cX6_readInto 33 = .ok (.ifCond .eq 17, 3) := by decide +kernel
theorem dX6_readInto_36 : decode cX6_readInto 36 = .ok (.aload_n 0, 1) := by decide +kernel
theorem dX6_readInto_37 : decode cX6_readInto 37 = .ok (.invokevirtual 45, 3) := by decide +kernel
theorem dX6_readInto_40 : decode cX6_readInto 40 = .ok (.ifCond .eq 10, 3) := by decide +kernel
theorem dX6_readInto_43 : decode cX6_readInto 43 = .ok (.aload_n 0, 1) := by decide +kernel
theorem dX6_readInto_44 : decode cX6_readInto 44 = .ok (.invokevirtual 48, 3) := by decide +kernel
theorem dX6_readInto_47 : decode cX6_readInto 47 = .ok (.ifCond .ne 11, 3) := by decide +kernel
theorem dX6_readInto_50 : decode cX6_readInto 50 = .ok (.bipush (-20), 2) := by decide +kernel
theorem dX6_readInto_52 : decode cX6_readInto 52 = .ok (.aload_n 0, 1) := by decide +kernel
theorem dX6_readInto_53 : decode cX6_readInto 53 = .ok (.getfield 26, 3) := by decide +kernel
theorem dX6_readInto_56 : decode cX6_readInto 56 = .ok (.isub, 1) := by decide +kernel
theorem dX6_readInto_57 : decode cX6_readInto 57 = .ok (.ireturn, 1) := by decide +kernel
theorem dX6_readInto_58 : decode cX6_readInto 58 = .ok (.aload_n 0, 1) := by decide +kernel
theorem dX6_readInto_59 : decode cX6_readInto 59 = .ok (.getfield 18, 3) := by decide +kernel
theorem dX6_readInto_62 : decode cX6_readInto 62 = .ok (.aload_n 1, 1) := by decide +kernel
theorem dX6_readInto_63 : decode cX6_readInto 63 = .ok (.getfield 51, 3) := by decide +kernel
theorem dX6_readInto_66 : decode cX6_readInto 66 = .ok (.putfield 51, 3) := by decide +kernel
theorem dX6_readInto_69 : decode cX6_readInto 69 = .ok (.aload_n 0, 1) := by decide +kernel
theorem dX6_readInto_70 : decode cX6_readInto 70 = .ok (.getfield 18, 3) := by decide +kernel
theorem dX6_readInto_73 : decode cX6_readInto 73 = .ok (.getfield 54, 3) := by decide +kernel
theorem dX6_readInto_76 : decode cX6_readInto 76 = .ok (.aload_n 1, 1) := by decide +kernel
theorem dX6_readInto_77 : decode cX6_readInto 77 = .ok (.getfield 54, 3) := by decide +kernel
theorem dX6_readInto_80 : decode cX6_readInto 80 = .ok (.getfield 58, 3) := by decide +kernel
theorem dX6_readInto_83 : decode cX6_readInto 83 = .ok (.putfield 58, 3) := by decide +kernel
theorem dX6_readInto_86 : decode cX6_readInto 86 = .ok (.aload_n 1, 1) := by decide +kernel
theorem dX6_readInto_87 : decode cX6_readInto 87 = .ok (.aload_n 0, 1) := by decide +kernel
theorem dX6_readInto_88 : decode cX6_readInto 88 = .ok (.getfield 18, 3) := by decide +kernel
theorem dX6_readInto_91 : decode cX6_readInto 91 = .ok (.invokevirtual 63, 3) := by decide +kernel
theorem dX6_readInto_94 : decode cX6_readInto 94 = .ok (.aload_n 1, 1) := by decide +kernel
theorem dX6_readInto_95 : decode cX6_readInto 95 = .ok (.getfield 32, 3) := by decide +kernel
theorem dX6_readInto_98 : decode cX6_readInto 98 = .ok (.ireturn, 1) := by decide +kernel
theorem dX6_readCells_0 : decode cX6_readCells 0 = .ok (.iconst 0, 1) := by decide +kernel
theorem dX6_readCells_1 : decode cX6_readCells 1 = .ok (.istore_n 1, 1) := by decide +kernel
theorem dX6_readCells_2 : decode cX6_readCells 2 = .ok (.iload_n 1, 1) := by decide +kernel
theorem dX6_readCells_3 : decode cX6_readCells 3 = .ok (.bipush 12, 2) := by decide +kernel
theorem dX6_readCells_5 : decode cX6_readCells 5 = .ok (.if_icmp .ge 52, 3) := by decide +kernel
theorem dX6_readCells_8 : decode cX6_readCells 8 = .ok (.aload_n 0, 1) := by decide +kernel
theorem dX6_readCells_9 : decode cX6_readCells 9 = .ok (.bipush 60, 2) := by decide +kernel
theorem dX6_readCells_11 : decode cX6_readCells 11 = .ok (.invokevirtual 67, 3) := by decide +kernel
theorem dX6_readCells_14 : decode cX6_readCells 14 = .ok (.ifCond .ne 5, 3) := by decide +kernel
theorem dX6_readCells_17 : decode cX6_readCells 17 = .ok (.iconst 0, 1) := by decide +kernel
theorem dX6_readCells_18 : decode cX6_readCells 18 = .ok (.ireturn, 1) := by decide +kernel
theorem dX6_readCells_19 : decode cX6_readCells 19 = .ok (.aload_n 0, 1) := by decide +kernel
theorem dX6_readCells_20 : decode cX6_readCells 20 = .ok (.getfield 18, 3) := by decide +kernel
theorem dX6_readCells_23 : decode cX6_readCells 23 = .ok (.aload_n 0, 1) := by decide +kernel
theorem dX6_readCells_24 : decode cX6_readCells 24 = .ok (.getfield 29, 3) := by decide +kernel
theorem dX6_readCells_27 : decode cX6_readCells 27 = .ok (.invokevirtual 71, 3) := by decide +kernel
theorem dX6_readCells_30 : decode cX6_readCells 30 = .ok (.pop, 1) := by decide +kernel
theorem dX6_readCells_31 : decode cX6_readCells 31 = .ok (.iload_n 1, 1) := by decide +kernel
theorem dX6_readCells_32 : decode cX6_readCells 32 = .ok (.iconst 1, 1) := by decide +kernel
theorem dX6_readCells_33 : decode cX6_readCells 33 = .ok (.iadd, 1) := by decide +kernel
theorem dX6_readCells_34 : decode cX6_readCells 34 = .ok (.bipush 12, 2) := by decide +kernel
theorem dX6_readCells_36 : decode cX6_readCells 36 = .ok (.if_icmp .eq 21, 3) := by decide +kernel
theorem dX6_readCells_39 : decode cX6_readCells 39 = .ok (.aload_n 0, 1) := by decide +kernel
theorem dX6_readCells_40 : decode cX6_readCells 40 = .ok (.bipush 46, 2) := by decide +kernel
theorem dX6_readCells_42 : decode cX6_readCells 42 = .ok (.invokevirtual 75, 3) := by decide +kernel
theorem dX6_readCells_45 : decode cX6_readCells 45 = .ok (.ifCond .ne 6, 3) := by decide +kernel
theorem dX6_readCells_48 : decode cX6_readCells 48 = .ok (.goto 9, 3) := by decide +kernel
theorem dX6_readCells_51 : decode cX6_readCells 51 = .ok (.iinc 1 1, 3) := by decide +kernel
theorem dX6_readCells_54 : decode cX6_readCells 54 = .ok (.goto (-52), 3) := by decide +kernel
theorem dX6_readCells_57 : decode cX6_readCells 57 = .ok (.aload_n 0, 1) := by decide +kernel
theorem dX6_readCells_58 : decode cX6_readCells 58 = .ok (.bipush 59, 2) := by decide +kernel
theorem dX6_readCells_60 : decode cX6_readCells 60 = .ok (.invokevirtual 75, 3) := by decide +kernel
theorem dX6_readCells_63 : decode cX6_readCells 63 = .ok (.ireturn, 1) := by decide +kernel
theorem dX6_readPeople_0 : decode cX6_readPeople 0 = .ok (.iconst 0, 1) := by decide +kernel
theorem dX6_readPeople_1 : decode cX6_readPeople 1 = .ok (.istore_n 1, 1) := by decide +kernel
theorem dX6_readPeople_2 : decode cX6_readPeople 2 = .ok (.iload_n 1, 1) := by decide +kernel
theorem dX6_readPeople_3 : decode cX6_readPeople 3 = .ok (.bipush 6, 2) := by decide +kernel
theorem dX6_readPeople_5 : decode cX6_readPeople 5 = .ok (.if_icmp .ge 38, 3) := by decide +kernel
theorem dX6_readPeople_8 : decode cX6_readPeople 8 = .ok (.aload_n 0, 1) := by decide +kernel
theorem dX6_readPeople_9 : decode cX6_readPeople 9 = .ok (.invokevirtual 79, 3) := by decide +kernel
theorem dX6_readPeople_12 : decode cX6_readPeople 12 = .ok (.ifCond .ne 5, 3) := by decide +kernel
theorem dX6_readPeople_15 : decode cX6_readPeople 15 = .ok (.iconst 0, 1) := by decide +kernel
theorem dX6_readPeople_16 : decode cX6_readPeople 16 = .ok (.ireturn, 1) := by decide +kernel
theorem dX6_readPeople_17 : decode cX6_readPeople 17 = .ok (.iload_n 1, 1) := by decide +kernel
theorem dX6_readPeople_18 : decode cX6_readPeople 18 = .ok (.iconst 1, 1) := by decide +kernel
theorem dX6_readPeople_19 : decode cX6_readPeople 19 = .ok (.iadd, 1) := by decide +kernel
theorem dX6_readPeople_20 : decode cX6_readPeople 20 = .ok (.bipush 6, 2) := by decide +kernel
theorem dX6_readPeople_22 : decode cX6_readPeople 22 = .ok (.if_icmp .eq 21, 3) := by decide +kernel
theorem dX6_readPeople_25 : decode cX6_readPeople 25 = .ok (.aload_n 0, 1) := by decide +kernel
theorem dX6_readPeople_26 : decode cX6_readPeople 26 = .ok (.bipush 44, 2) := by decide +kernel
theorem dX6_readPeople_28 : decode cX6_readPeople 28 = .ok (.invokevirtual 75, 3) := by decide +kernel
theorem dX6_readPeople_31 : decode cX6_readPeople 31 = .ok (.ifCond .ne 6, 3) := by decide +kernel
theorem dX6_readPeople_34 : decode cX6_readPeople 34 = .ok (.goto 9, 3) := by decide +kernel
theorem dX6_readPeople_37 : decode cX6_readPeople 37 = .ok (.iinc 1 1, 3) := by decide +kernel
theorem dX6_readPeople_40 : decode cX6_readPeople 40 = .ok (.goto (-38), 3) := by decide +kernel
theorem dX6_readPeople_43 : decode cX6_readPeople 43 = .ok (.iconst 1, 1) := by decide +kernel
theorem dX6_readPeople_44 : decode cX6_readPeople 44 = .ok (.ireturn, 1) := by decide +kernel
theorem dX6_readPerson_0 : decode cX6_readPerson 0 = .ok (.aload_n 0, 1) := by decide +kernel
theorem dX6_readPerson_1 : decode cX6_readPerson 1 = .ok (.invokevirtual 82, 3) := by decide +kernel
theorem dX6_readPerson_4 : decode cX6_readPerson 4 = .ok (.aload_n 0, 1) := by decide +kernel
theorem dX6_readPerson_5 : decode cX6_readPerson 5 = .ok (.getfield 26, 3) := by decide +kernel
theorem dX6_readPerson_8 : decode cX6_readPerson 8 = .ok (.aload_n 0, 1) := by decide +kernel
theorem dX6_readPerson_9 : decode cX6_readPerson 9 = .ok (.getfield 22, 3) := by decide +kernel
theorem dX6_readPerson_12 : decode cX6_readPerson 12 = .ok (.if_icmp .ge 20, 3) := by decide +kernel
theorem dX6_readPerson_15 : decode cX6_readPerson 15 = .ok (.ldc 85, 2) := by decide +kernel
theorem dX6_readPerson_17 : decode cX6_readPerson 17 = .ok (.aload_n 0, 1) := by decide +kernel
theorem dX6_readPerson_18 : decode cX6_readPerson 18 = .ok (.getfield 11, 3) := by decide +kernel
theorem dX6_readPerson_21 : decode cX6_readPerson 21 = .ok (.aload_n 0, 1) := by decide +kernel
theorem dX6_readPerson_22 : decode cX6_readPerson 22 = .ok (.getfield 26, 3) := by decide +kernel
theorem dX6_readPerson_25 : decode cX6_readPerson 25 = .ok (.caload, 1) := by decide +kernel
theorem dX6_readPerson_26 : decode cX6_readPerson 26 = .ok (.invokevirtual 87, 3) := by decide +kernel
theorem dX6_readPerson_29 : decode cX6_readPerson 29 = .ok (.goto 4, 3) := by decide +kernel
theorem dX6_readPerson_32 : decode cX6_readPerson 32 = .ok (.iconst (-1), 1) := by decide +kernel
theorem dX6_readPerson_33 : decode cX6_readPerson 33 = .ok (.istore_n 1, 1) := by decide +kernel
theorem dX6_readPerson_34 : decode cX6_readPerson 34 = .ok (.iload_n 1, 1) := by decide +kernel
theorem dX6_readPerson_35 : decode cX6_readPerson 35 = .ok (.ifCond .ge 5, 3) := by decide +kernel
theorem dX6_readPerson_38 : decode cX6_readPerson 38 = .ok (.iconst 0, 1) := by decide +kernel
theorem dX6_readPerson_39 : decode cX6_readPerson 39 = .ok (.ireturn, 1) := by decide +kernel
theorem dX6_readPerson_40 : decode cX6_readPerson 40 = .ok (.aload_n 0, 1) := by decide +kernel
theorem dX6_readPerson_41 : decode cX6_readPerson 41 = .ok (.dup, 1) := by decide +kernel
theorem dX6_readPerson_42 : decode cX6_readPerson 42 = .ok (.getfield 26, 3) := by decide +kernel
theorem dX6_readPerson_45 : decode cX6_readPerson 45 = .ok (.iconst 1, 1) := by decide +kernel
theorem dX6_readPerson_46 : decode cX6_readPerson 46 = .ok (.iadd, 1) := by decide +kernel
theorem dX6_readPerson_47 : decode cX6_readPerson 47 = .ok (.putfield 26, 3) := by decide +kernel
theorem dX6_readPerson_50 : decode cX6_readPerson 50 = .ok (.aload_n 0, 1) := by decide +kernel
theorem dX6_readPerson_51 : decode cX6_readPerson 51 = .ok (.invokevirtual 82, 3) := by decide +kernel
theorem dX6_readPerson_54 : decode cX6_readPerson 54 = .ok (.aload_n 0, 1) := by decide +kernel
theorem dX6_readPerson_55 : decode cX6_readPerson 55 = .ok (.invokevirtual 92, 3) := by decide +kernel
theorem dX6_readPerson_58 : decode cX6_readPerson 58 = .ok (.istore_n 2, 1) := by decide +kernel
theorem dX6_readPerson_59 : decode cX6_readPerson 59 = .ok (.iload_n 2, 1) := by decide +kernel
theorem dX6_readPerson_60 : decode cX6_readPerson 60 = .ok (.iconst 1, 1) := by decide +kernel
theorem dX6_readPerson_61 : decode cX6_readPerson 61 = .ok (.if_icmp .ge 5, 3) := by decide +kernel
theorem dX6_readPerson_64 : decode cX6_readPerson 64 = .ok (.iconst 0, 1) := by decide +kernel
theorem dX6_readPerson_65 : decode cX6_readPerson 65 = .ok (.ireturn, 1) := by decide +kernel
theorem dX6_readPerson_66 : decode cX6_readPerson 66 = .ok (.aload_n 0, 1) := by decide +kernel
theorem dX6_readPerson_67 : decode cX6_readPerson 67 = .ok (.dup, 1) := by decide +kernel
theorem dX6_readPerson_68 : decode cX6_readPerson 68 = .ok (.getfield 26, 3) := by decide +kernel
theorem dX6_readPerson_71 : decode cX6_readPerson 71 = .ok (.iconst 1, 1) := by decide +kernel
theorem dX6_readPerson_72 : decode cX6_readPerson 72 = .ok (.iadd, 1) := by decide +kernel
theorem dX6_readPerson_73 : decode cX6_readPerson 73 = .ok (.putfield 26, 3) := by decide +kernel
theorem dX6_readPerson_76 : decode cX6_readPerson 76 = .ok (.aload_n 0, 1) := by decide +kernel
theorem dX6_readPerson_77 : decode cX6_readPerson 77 = .ok (.getfield 18, 3) := by decide +kernel
theorem dX6_readPerson_80 : decode cX6_readPerson 80 = .ok (.iload_n 1, 1) := by decide +kernel
theorem dX6_readPerson_81 : decode cX6_readPerson 81 = .ok (.iload_n 2, 1) := by decide +kernel
theorem dX6_readPerson_82 : decode cX6_readPerson 82 = .ok (.invokevirtual 96, 3) := by decide +kernel
theorem dX6_readPerson_85 : decode cX6_readPerson 85 = .ok (.pop, 1) := by decide +kernel
theorem dX6_readPerson_86 : decode cX6_readPerson 86 = .ok (.iconst 1, 1) := by decide +kernel
theorem dX6_readPerson_87 : decode cX6_readPerson 87 = .ok (.ireturn, 1) := by decide +kernel
theorem dX6_readEnd_0 : decode cX6_readEnd 0 = .ok (.aload_n 0, 1) := by decide +kernel
theorem dX6_readEnd_1 : decode cX6_readEnd 1 = .ok (.bipush 59, 2) := by decide +kernel
theorem dX6_readEnd_3 : decode cX6_readEnd 3 = .ok (.invokevirtual 75, 3) := by decide +kernel
theorem dX6_readEnd_6 : decode cX6_readEnd 6 = .ok (.ifCond .eq 12, 3) := by decide +kernel
theorem dX6_readEnd_9 : decode cX6_readEnd 9 = .ok (.aload_n 0, 1) := by decide +kernel
theorem dX6_readEnd_10 : decode cX6_readEnd 10 = .ok (.invokevirtual 100, 3) := by decide +kernel
theorem dX6_readEnd_13 : decode cX6_readEnd 13 = .ok (.ifCond .ne 5, 3) := by decide +kernel
theorem dX6_readEnd_16 : decode cX6_readEnd 16 = .ok (.iconst 0, 1) := by decide +kernel
theorem dX6_readEnd_17 : decode cX6_readEnd 17 = .ok (.ireturn, 1) := by decide +kernel
theorem dX6_readEnd_18 : decode cX6_readEnd 18 = .ok (.aload_n 0, 1) := by decide +kernel
theorem dX6_readEnd_19 : decode cX6_readEnd 19 = .ok (.invokevirtual 82, 3) := by decide +kernel
theorem dX6_readEnd_22 : decode cX6_readEnd 22 = .ok (.aload_n 0, 1) := by decide +kernel
theorem dX6_readEnd_23 : decode cX6_readEnd 23 = .ok (.getfield 26, 3) := by decide +kernel
theorem dX6_readEnd_26 : decode cX6_readEnd 26 = .ok (.aload_n 0, 1) := by decide +kernel
theorem dX6_readEnd_27 : decode cX6_readEnd 27 = .ok (.getfield 22, 3) := by decide +kernel
theorem dX6_readEnd_30 : decode cX6_readEnd 30 = .ok (.if_icmp .ne 7, 3) := by decide +kernel
theorem dX6_readEnd_33 : decode cX6_readEnd 33 = .ok (.iconst 1, 1) := by decide +kernel
theorem dX6_readEnd_34 : decode cX6_readEnd 34 = .ok (.goto 4, 3) := by decide +kernel
theorem dX6_readEnd_37 : decode cX6_readEnd 37 = .ok (.iconst 0, 1) := by decide +kernel
theorem dX6_readEnd_38 : decode cX6_readEnd 38 = .ok (.ireturn, 1) := by decide +kernel
theorem dX6_readSayings_0 : decode cX6_readSayings 0 = .ok (.iconst 0, 1) := by decide +kernel
theorem dX6_readSayings_1 : decode cX6_readSayings 1 = .ok (.istore_n 1, 1) := by decide +kernel
theorem dX6_readSayings_2 : decode cX6_readSayings 2 = .ok (.iload_n 1, 1) := by decide +kernel
theorem dX6_readSayings_3 : decode cX6_readSayings 3 = .ok (.iconst 5, 1) := by decide +kernel
theorem dX6_readSayings_4 : decode cX6_readSayings 4 = .ok (.if_icmp .ge 71, 3) := by decide +kernel
theorem dX6_readSayings_7 : decode cX6_readSayings 7 = .ok (.aload_n 0, 1) := by decide +kernel
theorem dX6_readSayings_8 : decode cX6_readSayings 8 = .ok (.bipush 20, 2) := by decide +kernel
theorem dX6_readSayings_10 : decode cX6_readSayings 10 = .ok (.invokevirtual 67, 3) := by decide +kernel
theorem dX6_readSayings_13 : decode cX6_readSayings 13 = .ok (.ifCond .ne 5, 3) := by decide +kernel
theorem dX6_readSayings_16 : decode cX6_readSayings 16 = .ok (.iconst 0, 1) := by decide +kernel
theorem dX6_readSayings_17 : decode cX6_readSayings 17 = .ok (.ireturn, 1) := by decide +kernel
theorem dX6_readSayings_18 : decode cX6_readSayings 18 = .ok (.aload_n 0, 1) := by decide +kernel
theorem dX6_readSayings_19 : decode cX6_readSayings 19 = .ok (.getfield 18, 3) := by decide +kernel
theorem dX6_readSayings_22 : decode cX6_readSayings 22 = .ok (.aload_n 0, 1) := by decide +kernel
theorem dX6_readSayings_23 : decode cX6_readSayings 23 = .ok (.getfield 29, 3) := by decide +kernel
theorem dX6_readSayings_26 : decode cX6_readSayings 26 = .ok (.iconst 0, 1) := by decide +kernel
theorem dX6_readSayings_27 : decode cX6_readSayings 27 = .ok (.invokevirtual 103, 3) := by decide +kernel
theorem dX6_readSayings_30 : decode cX6_readSayings 30 = .ok (.pop, 1) := by decide +kernel
theorem dX6_readSayings_31 : decode cX6_readSayings 31 = .ok (.aload_n 0, 1) := by decide +kernel
theorem dX6_readSayings_32 : decode cX6_readSayings 32 = .ok (.bipush 58, 2) := by decide +kernel
theorem dX6_readSayings_34 : decode cX6_readSayings 34 = .ok (.invokevirtual 75, 3) := by decide +kernel
theorem dX6_readSayings_37 : decode cX6_readSayings 37 = .ok (.ifCond .eq 13, 3) := by decide +kernel
theorem dX6_readSayings_40 : decode cX6_readSayings 40 = .ok (.aload_n 0, 1) := by decide +kernel
theorem dX6_readSayings_41 : decode cX6_readSayings 41 = .ok (.iload_n 1, 1) := by decide +kernel
theorem dX6_readSayings_42 : decode cX6_readSayings 42 = .ok (.invokevirtual 106, 3) := by decide +kernel
theorem dX6_readSayings_45 : decode cX6_readSayings 45 = .ok (.ifCond .ne 5, 3) := by decide +kernel
theorem dX6_readSayings_48 : decode cX6_readSayings 48 = .ok (.iconst 0, 1) := by decide +kernel
theorem dX6_readSayings_49 : decode cX6_readSayings 49 = .ok (.ireturn, 1) := by decide +kernel
theorem dX6_readSayings_50 : decode cX6_readSayings 50 = .ok (.iload_n 1, 1) := by decide +kernel
theorem dX6_readSayings_51 : decode cX6_readSayings 51 = .ok (.iconst 1, 1) := by decide +kernel
theorem dX6_readSayings_52 : decode cX6_readSayings 52 = .ok (.iadd, 1) := by decide +kernel
theorem dX6_readSayings_53 : decode cX6_readSayings 53 = .ok (.iconst 5, 1) := by decide +kernel
theorem dX6_readSayings_54 : decode cX6_readSayings 54 = .ok (.if_icmp .eq 21, 3) := by decide +kernel
theorem dX6_readSayings_57 : decode cX6_readSayings 57 = .ok (.aload_n 0, 1) := by decide +kernel
theorem dX6_readSayings_58 : decode cX6_readSayings 58 = .ok (.bipush 44, 2) := by decide +kernel
theorem dX6_readSayings_60 : decode cX6_readSayings 60 = .ok (.invokevirtual 75, 3) := by decide +kernel
theorem dX6_readSayings_63 : decode cX6_readSayings 63 = .ok (.ifCond .ne 6, 3) := by decide +kernel
theorem dX6_readSayings_66 : decode cX6_readSayings 66 = .ok (.goto 9, 3) := by decide +kernel
theorem dX6_readSayings_69 : decode cX6_readSayings 69 = .ok (.iinc 1 1, 3) := by decide +kernel
theorem dX6_readSayings_72 : decode cX6_readSayings 72 = .ok (.goto (-70), 3) := by decide +kernel
theorem dX6_readSayings_75 : decode cX6_readSayings 75 = .ok (.iconst 1, 1) := by decide +kernel
theorem dX6_readSayings_76 : decode cX6_readSayings 76 = .ok (.ireturn, 1) := by decide +kernel
theorem dX6_readFors_0 : decode cX6_readFors 0 = .ok (.iconst 0, 1) := by decide +kernel
theorem dX6_readFors_1 : decode cX6_readFors 1 = .ok (.istore_n 2, 1) := by decide +kernel
theorem dX6_readFors_2 : decode cX6_readFors 2 = .ok (.aload_n 0, 1) := by decide +kernel
theorem dX6_readFors_3 : decode cX6_readFors 3 = .ok (.invokevirtual 82, 3) := by decide +kernel
theorem dX6_readFors_6 : decode cX6_readFors 6 = .ok (.iconst 0, 1) := by decide +kernel
theorem dX6_readFors_7 : decode cX6_readFors 7 = .ok (.istore_n 3, 1) := by decide +kernel
theorem dX6_readFors_8 : decode cX6_readFors 8 = .ok (.iload_n 3, 1) := by decide +kernel
theorem dX6_readFors_9 : decode cX6_readFors 9 = .ok (.bipush 6, 2) := by decide +kernel
theorem dX6_readFors_11 : decode cX6_readFors 11 = .ok (.if_icmp .ge 83, 3) := by decide +kernel
theorem dX6_readFors_14 : decode cX6_readFors 14 = .ok (.aload_n 0, 1) := by decide +kernel
theorem dX6_readFors_15 : decode cX6_readFors 15 = .ok (.invokevirtual 92, 3) := by decide +kernel
theorem dX6_readFors_18 : decode cX6_readFors 18 = .ok (.istore 4, 2) := by decide +kernel
theorem dX6_readFors_20 : decode cX6_readFors 20 = .ok (.iload 4, 2) := by decide +kernel
theorem dX6_readFors_22 : decode cX6_readFors 22 = .ok (.iload_n 2, 1) := by decide +kernel
theorem dX6_readFors_23 : decode cX6_readFors 23 = .ok (.if_icmp .lt 15, 3) := by decide +kernel
theorem dX6_readFors_26 : decode cX6_readFors 26 = .ok (.iload 4, 2) := by decide +kernel
theorem dX6_readFors_28 : decode cX6_readFors 28 = .ok (.aload_n 0, 1) := by decide +kernel
theorem dX6_readFors_29 : decode cX6_readFors 29 = .ok (.getfield 18, 3) := by decide +kernel
theorem dX6_readFors_32 : decode cX6_readFors 32 = .ok (.getfield 35, 3) := by decide +kernel
theorem dX6_readFors_35 : decode cX6_readFors 35 = .ok (.if_icmp .lt 5, 3) := by decide +kernel
theorem dX6_readFors_38 : decode cX6_readFors 38 = .ok (.iconst 0, 1) := by decide +kernel
theorem dX6_readFors_39 : decode cX6_readFors 39 = .ok (.ireturn, 1) := by decide +kernel
theorem dX6_readFors_40 : decode cX6_readFors 40 = .ok (.aload_n 0, 1) := by decide +kernel
theorem dX6_readFors_41 : decode cX6_readFors 41 = .ok (.getfield 18, 3) := by decide +kernel
theorem dX6_readFors_44 : decode cX6_readFors 44 = .ok (.getfield 54, 3) := by decide +kernel
theorem dX6_readFors_47 : decode cX6_readFors 47 = .ok (.getfield 109, 3) := by decide +kernel
theorem dX6_readFors_50 : decode cX6_readFors 50 = .ok (.iload_n 1, 1) := by decide +kernel
theorem dX6_readFors_51 : decode cX6_readFors 51 = .ok (.dup2, 1) := by decide +kernel
theorem dX6_readFors_52 : decode cX6_readFors 52 = .ok (.iaload, 1) := by decide +kernel
theorem dX6_readFors_53 : decode cX6_readFors 53 = .ok (.iconst 1, 1) := by decide +kernel
theorem dX6_readFors_54 : decode cX6_readFors 54 = .ok (.iload 4, 2) := by decide +kernel
theorem dX6_readFors_56 : decode cX6_readFors 56 = .ok (.ishl, 1) := by decide +kernel
theorem dX6_readFors_57 : decode cX6_readFors 57 = .ok (.ior, 1) := by decide +kernel
theorem dX6_readFors_58 : decode cX6_readFors 58 = .ok (.iastore, 1) := by decide +kernel
theorem dX6_readFors_59 : decode cX6_readFors 59 = .ok (.iload 4, 2) := by decide +kernel
theorem dX6_readFors_61 : decode cX6_readFors 61 = .ok (.iconst 1, 1) := by decide +kernel
theorem dX6_readFors_62 : decode cX6_readFors 62 = .ok (.iadd, 1) := by decide +kernel
theorem dX6_readFors_63 : decode cX6_readFors 63 = .ok (.istore_n 2, 1) := by decide +kernel
theorem dX6_readFors_64 : decode cX6_readFors 64 = .ok (.aload_n 0, 1) := by decide +kernel
theorem dX6_readFors_65 : decode cX6_readFors 65 = .ok (.dup, 1) := by decide +kernel
theorem dX6_readFors_66 : decode cX6_readFors 66 = .ok (.getfield 26, 3) := by decide +kernel
theorem dX6_readFors_69 : decode cX6_readFors 69 = .ok (.iconst 1, 1) := by decide +kernel
theorem dX6_readFors_70 : decode cX6_readFors 70 = .ok (.iadd, 1) := by decide +kernel
theorem dX6_readFors_71 : decode cX6_readFors 71 = .ok (.putfield 26, 3) := by decide +kernel
theorem dX6_readFors_74 : decode cX6_readFors 74 = .ok (.aload_n 0, 1) := by decide +kernel
theorem dX6_readFors_75 : decode cX6_readFors 75 = .ok (.invokevirtual 82, 3) := by decide +kernel
theorem dX6_readFors_78 : decode cX6_readFors 78 = .ok (.aload_n 0, 1) := by decide +kernel
theorem dX6_readFors_79 : decode cX6_readFors 79 = .ok (.invokevirtual 92, 3) := by decide +kernel
theorem dX6_readFors_82 : decode cX6_readFors 82 = .ok (.ifCond .ge 6, 3) := by decide +kernel
theorem dX6_readFors_85 : decode cX6_readFors 85 = .ok (.goto 9, 3) := by decide +kernel
theorem dX6_readFors_88 : decode cX6_readFors 88 = .ok (.iinc 3 1, 3) := by decide +kernel
theorem dX6_readFors_91 : decode cX6_readFors 91 = .ok (.goto (-83), 3) := by decide +kernel
theorem dX6_readFors_94 : decode cX6_readFors 94 = .ok (.iconst 1, 1) := by decide +kernel
theorem dX6_readFors_95 : decode cX6_readFors 95 = .ok (.ireturn, 1) := by decide +kernel
theorem dX6_readNumber_0 : decode cX6_readNumber 0 = .ok (.aload_n 0, 1) := by decide +kernel
theorem dX6_readNumber_1 : decode cX6_readNumber 1 = .ok (.invokevirtual 82, 3) := by decide +kernel
theorem dX6_readNumber_4 : decode cX6_readNumber 4 = .ok (.aload_n 0, 1) := by decide +kernel
theorem dX6_readNumber_5 : decode cX6_readNumber 5 = .ok (.getfield 26, 3) := by decide +kernel
theorem dX6_readNumber_8 : decode cX6_readNumber 8 = .ok (.istore_n 2, 1) := by decide +kernel
theorem dX6_readNumber_9 : decode cX6_readNumber 9 = .ok (.aload_n 0, 1) := by decide +kernel
theorem dX6_readNumber_10 : decode cX6_readNumber 10 = .ok (.invokevirtual 92, 3) := by decide +kernel
theorem dX6_readNumber_13 : decode cX6_readNumber 13 = .ok (.ifCond .ge 5, 3) := by decide +kernel
theorem dX6_readNumber_16 : decode cX6_readNumber 16 = .ok (.iconst 0, 1) := by decide +kernel
theorem dX6_readNumber_17 : decode cX6_readNumber 17 = .ok (.ireturn, 1) := by decide +kernel
theorem dX6_readNumber_18 : decode cX6_readNumber 18 = .ok (.aload_n 0, 1) := by decide +kernel
theorem dX6_readNumber_19 : decode cX6_readNumber 19 = .ok (.aload_n 0, 1) := by decide +kernel
theorem dX6_readNumber_20 : decode cX6_readNumber 20 = .ok (.invokevirtual 92, 3) := by decide +kernel
theorem dX6_readNumber_23 : decode cX6_readNumber 23 = .ok (.putfield 29, 3) := by decide +kernel
theorem dX6_readNumber_26 : decode cX6_readNumber 26 = .ok (.aload_n 0, 1) := by decide +kernel
theorem dX6_readNumber_27 : decode cX6_readNumber 27 = .ok (.dup, 1) := by decide +kernel
theorem dX6_readNumber_28 : decode cX6_readNumber 28 = .ok (.getfield 26, 3) := by decide +kernel
theorem dX6_readNumber_31 : decode cX6_readNumber 31 = .ok (.iconst 1, 1) := by decide +kernel
theorem dX6_readNumber_32 : decode cX6_readNumber 32 = .ok (.iadd, 1) := by decide +kernel
theorem dX6_readNumber_33 : decode cX6_readNumber 33 = .ok (.putfield 26, 3) := by decide +kernel
theorem dX6_readNumber_36 : decode cX6_readNumber 36 = .ok (.aload_n 0, 1) := by decide +kernel
theorem dX6_readNumber_37 : decode cX6_readNumber 37 = .ok (.invokevirtual 92, 3) := by decide +kernel
theorem dX6_readNumber_40 : decode cX6_readNumber 40 = .ok (.ifCond .lt 29, 3) := by decide +kernel
theorem dX6_readNumber_43 : decode cX6_readNumber 43 = .ok (.aload_n 0, 1) := by decide +kernel
theorem dX6_readNumber_44 : decode cX6_readNumber 44 = .ok (.aload_n 0, 1) := by decide +kernel
theorem dX6_readNumber_45 : decode cX6_readNumber 45 = .ok (.getfield 29, 3) := by decide +kernel
theorem dX6_readNumber_48 : decode cX6_readNumber 48 = .ok (.bipush 10, 2) := by decide +kernel
theorem dX6_readNumber_50 : decode cX6_readNumber 50 = .ok (.imul, 1) := by decide +kernel
theorem dX6_readNumber_51 : decode cX6_readNumber 51 = .ok (.aload_n 0, 1) := by decide +kernel
theorem dX6_readNumber_52 : decode cX6_readNumber 52 = .ok (.invokevirtual 92, 3) := by decide +kernel
theorem dX6_readNumber_55 : decode cX6_readNumber 55 = .ok (.iadd, 1) := by decide +kernel
theorem dX6_readNumber_56 : decode cX6_readNumber 56 = .ok (.putfield 29, 3) := by decide +kernel
theorem dX6_readNumber_59 : decode cX6_readNumber 59 = .ok (.aload_n 0, 1) := by decide +kernel
theorem dX6_readNumber_60 : decode cX6_readNumber 60 = .ok (.dup, 1) := by decide +kernel
theorem dX6_readNumber_61 : decode cX6_readNumber 61 = .ok (.getfield 26, 3) := by decide +kernel
theorem dX6_readNumber_64 : decode cX6_readNumber 64 = .ok (.iconst 1, 1) := by decide +kernel
theorem dX6_readNumber_65 : decode cX6_readNumber 65 = .ok (.iadd, 1) := by decide +kernel
theorem dX6_readNumber_66 : decode cX6_readNumber 66 = .ok (.putfield 26, 3) := by decide +kernel
theorem dX6_readNumber_69 : decode cX6_readNumber 69 = .ok (.aload_n 0, 1) := by decide +kernel
theorem dX6_readNumber_70 : decode cX6_readNumber 70 = .ok (.getfield 29, 3) := by decide +kernel
theorem dX6_readNumber_73 : decode cX6_readNumber 73 = .ok (.iload_n 1, 1) := by decide +kernel
theorem dX6_readNumber_74 : decode cX6_readNumber 74 = .ok (.if_icmp .le 10, 3) := by decide +kernel
theorem dX6_readNumber_77 : decode cX6_readNumber 77 = .ok (.aload_n 0, 1) := by decide +kernel
theorem dX6_readNumber_78 : decode cX6_readNumber 78 = .ok (.iload_n 2, 1) := by decide +kernel
theorem dX6_readNumber_79 : decode cX6_readNumber 79 = .ok (.putfield 26, 3) := by decide +kernel
theorem dX6_readNumber_82 : decode cX6_readNumber 82 = .ok (.iconst 0, 1) := by decide +kernel
theorem dX6_readNumber_83 : decode cX6_readNumber 83 = .ok (.ireturn, 1) := by decide +kernel
theorem dX6_readNumber_84 : decode cX6_readNumber 84 = .ok (.iconst 1, 1) := by decide +kernel
theorem dX6_readNumber_85 : decode cX6_readNumber 85 = .ok (.ireturn, 1) := by decide +kernel
theorem dX6_readLetter_0 : decode cX6_readLetter 0 = .ok (.aload_n 0, 1) := by decide +kernel
theorem dX6_readLetter_1 : decode cX6_readLetter 1 = .ok (.invokevirtual 82, 3) := by decide +kernel
theorem dX6_readLetter_4 : decode cX6_readLetter 4 = .ok (.aload_n 0, 1) := by decide +kernel
theorem dX6_readLetter_5 : decode cX6_readLetter 5 = .ok (.getfield 26, 3) := by decide +kernel
theorem dX6_readLetter_8 : decode cX6_readLetter 8 = .ok (.aload_n 0, 1) := by decide +kernel
theorem dX6_readLetter_9 : decode cX6_readLetter 9 = .ok (.getfield 22, 3) := by decide +kernel
theorem dX6_readLetter_12 : decode cX6_readLetter 12 = .ok (.if_icmp .ge 16, 3) := by decide +kernel
theorem dX6_readLetter_15 : decode cX6_readLetter 15 = .ok (.aload_n 0, 1) := by decide +kernel
theorem dX6_readLetter_16 : decode cX6_readLetter 16 = .ok (.getfield 11, 3) := by decide +kernel
theorem dX6_readLetter_19 : decode cX6_readLetter 19 = .ok (.aload_n 0, 1) := by decide +kernel
theorem dX6_readLetter_20 : decode cX6_readLetter 20 = .ok (.getfield 26, 3) := by decide +kernel
theorem dX6_readLetter_23 : decode cX6_readLetter 23 = .ok (.caload, 1) := by decide +kernel
theorem dX6_readLetter_24 : decode cX6_readLetter 24 = .ok (.iload_n 1, 1) := by decide +kernel
theorem dX6_readLetter_25 : decode cX6_readLetter 25 = .ok (.if_icmp .eq 5, 3) := by decide +kernel
theorem dX6_readLetter_28 : decode cX6_readLetter 28 = .ok (.iconst 0, 1) := by decide +kernel
theorem dX6_readLetter_29 : decode cX6_readLetter 29 = .ok (.ireturn, 1) := by decide +kernel
theorem dX6_readLetter_30 : decode cX6_readLetter 30 = .ok (.aload_n 0, 1) := by decide +kernel
theorem dX6_readLetter_31 : decode cX6_readLetter 31 = .ok (.dup, 1) := by decide +kernel
theorem dX6_readLetter_32 : decode cX6_readLetter 32 = .ok (.getfield 26, 3) := by decide +kernel
theorem dX6_readLetter_35 : decode cX6_readLetter 35 = .ok (.iconst 1, 1) := by decide +kernel
theorem dX6_readLetter_36 : decode cX6_readLetter 36 = .ok (.iadd, 1) := by decide +kernel
theorem dX6_readLetter_37 : decode cX6_readLetter 37 = .ok (.putfield 26, 3) := by decide +kernel
theorem dX6_readLetter_40 : decode cX6_readLetter 40 = .ok (.iconst 1, 1) := by decide +kernel
theorem dX6_readLetter_41 : decode cX6_readLetter 41 = .ok (.ireturn, 1) := by decide +kernel
theorem dX6_skipBlanks_0 : decode cX6_skipBlanks 0 = .ok (.aload_n 0, 1) := by decide +kernel
theorem dX6_skipBlanks_1 : decode cX6_skipBlanks 1 = .ok (.getfield 26, 3) := by decide +kernel
theorem dX6_skipBlanks_4 : decode cX6_skipBlanks 4 = .ok (.aload_n 0, 1) := by decide +kernel
theorem dX6_skipBlanks_5 : decode cX6_skipBlanks 5 = .ok (.getfield 22, 3) := by decide +kernel
theorem dX6_skipBlanks_8 : decode cX6_skipBlanks 8 = .ok (.if_icmp .ge 30, 3) := by decide +kernel
theorem dX6_skipBlanks_11 : decode cX6_skipBlanks 11 = .ok (.aload_n 0, 1) := by decide +kernel
theorem dX6_skipBlanks_12 : decode cX6_skipBlanks 12 = .ok (.getfield 11, 3) := by decide +kernel
theorem dX6_skipBlanks_15 : decode cX6_skipBlanks 15 = .ok (.aload_n 0, 1) := by decide +kernel
theorem dX6_skipBlanks_16 : decode cX6_skipBlanks 16 = .ok (.getfield 26, 3) := by decide +kernel
theorem dX6_skipBlanks_19 : decode cX6_skipBlanks 19 = .ok (.caload, 1) := by decide +kernel
theorem dX6_skipBlanks_20 : decode cX6_skipBlanks 20 = .ok (.bipush 32, 2) := by decide +kernel
theorem dX6_skipBlanks_22 : decode cX6_skipBlanks 22 = .ok (.if_icmp .ne 16, 3) := by decide +kernel
theorem dX6_skipBlanks_25 : decode cX6_skipBlanks 25 = .ok (.aload_n 0, 1) := by decide +kernel
theorem dX6_skipBlanks_26 : decode cX6_skipBlanks 26 = .ok (.dup, 1) := by decide +kernel
theorem dX6_skipBlanks_27 : decode cX6_skipBlanks 27 = .ok (.getfield 26, 3) := by decide +kernel
theorem dX6_skipBlanks_30 : decode cX6_skipBlanks 30 = .ok (.iconst 1, 1) := by decide +kernel
theorem dX6_skipBlanks_31 : decode cX6_skipBlanks 31 = .ok (.iadd, 1) := by decide +kernel
theorem dX6_skipBlanks_32 : decode cX6_skipBlanks 32 = .ok (.putfield 26, 3) := by decide +kernel
theorem dX6_skipBlanks_35 : decode cX6_skipBlanks 35 = .ok (.goto (-35), 3) := by decide +kernel
theorem dX6_skipBlanks_38 : decode cX6_skipBlanks 38 = .ok (.return_, 1) := by decide +kernel
theorem dX6_digitHere_0 : decode cX6_digitHere 0 = .ok (.aload_n 0, 1) := by decide +kernel
theorem dX6_digitHere_1 : decode cX6_digitHere 1 = .ok (.getfield 26, 3) := by decide +kernel
theorem dX6_digitHere_4 : decode cX6_digitHere 4 = .ok (.aload_n 0, 1) := by decide +kernel
theorem dX6_digitHere_5 : decode cX6_digitHere 5 = .ok (.getfield 22, 3) := by decide +kernel
theorem dX6_digitHere_8 : decode cX6_digitHere 8 = .ok (.if_icmp .ge 31, 3) := by decide +kernel
theorem dX6_digitHere_11 : decode cX6_digitHere 11 = .ok (.aload_n 0, 1) := by decide +kernel
theorem dX6_digitHere_12 : decode cX6_digitHere 12 = .ok (.getfield 11, 3) := by decide +kernel
theorem dX6_digitHere_15 : decode cX6_digitHere 15 = .ok (.aload_n 0, 1) := by decide +kernel
theorem dX6_digitHere_16 : decode cX6_digitHere 16 = .ok (.getfield 26, 3) := by decide +kernel
theorem dX6_digitHere_19 : decode cX6_digitHere 19 = .ok (.caload, 1) := by decide +kernel
theorem dX6_digitHere_20 : decode cX6_digitHere 20 = .ok (.bipush 48, 2) := by decide +kernel
theorem dX6_digitHere_22 : decode cX6_digitHere 22 = .ok (.if_icmp .lt 17, 3) := by decide +kernel
theorem dX6_digitHere_25 : decode cX6_digitHere 25 = .ok (.aload_n 0, 1) := by decide +kernel
theorem dX6_digitHere_26 : decode cX6_digitHere 26 = .ok (.getfield 11, 3) := by decide +kernel
theorem dX6_digitHere_29 : decode cX6_digitHere 29 = .ok (.aload_n 0, 1) := by decide +kernel
theorem dX6_digitHere_30 : decode cX6_digitHere 30 = .ok (.getfield 26, 3) := by decide +kernel
theorem dX6_digitHere_33 : decode cX6_digitHere 33 = .ok (.caload, 1) := by decide +kernel
theorem dX6_digitHere_34 : decode cX6_digitHere 34 = .ok (.bipush 57, 2) := by decide +kernel
theorem dX6_digitHere_36 : decode cX6_digitHere 36 = .ok (.if_icmp .le 5, 3) := by decide +kernel
theorem dX6_digitHere_39 : decode cX6_digitHere 39 = .ok (.iconst (-1), 1) := by decide +kernel
theorem dX6_digitHere_40 : decode cX6_digitHere 40 = .ok (.ireturn, 1) := by decide +kernel
theorem dX6_digitHere_41 : decode cX6_digitHere 41 = .ok (.aload_n 0, 1) := by decide +kernel
theorem dX6_digitHere_42 : decode cX6_digitHere 42 = .ok (.getfield 11, 3) := by decide +kernel
theorem dX6_digitHere_45 : decode cX6_digitHere 45 = .ok (.aload_n 0, 1) := by decide +kernel
theorem dX6_digitHere_46 : decode cX6_digitHere 46 = .ok (.getfield 26, 3) := by decide +kernel
theorem dX6_digitHere_49 : decode cX6_digitHere 49 = .ok (.caload, 1) := by decide +kernel
theorem dX6_digitHere_50 : decode cX6_digitHere 50 = .ok (.bipush 48, 2) := by decide +kernel
theorem dX6_digitHere_52 : decode cX6_digitHere 52 = .ok (.isub, 1) := by decide +kernel
theorem dX6_digitHere_53 : decode cX6_digitHere 53 = .ok (.ireturn, 1) := by decide +kernel
