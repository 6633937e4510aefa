theorem dJ7_fill_d0a16_0 : decode cJ7_fill_d0a16 0 = .ok (.iconst 0, 1) := by decide +kernel
theorem dJ7_fill_d0a16_1 : decode cJ7_fill_d0a16 1 = .ok (.istore_n 3, 1) := by decide +kernel
theorem dJ7_fill_d0a16_2 : decode cJ7_fill_d0a16 2 = .ok (.aload_n 0, 1) := by decide +kernel
theorem dJ7_fill_d0a16_3 : decode cJ7_fill_d0a16 3 = .ok (.arraylength, 1) := by decide +kernel
theorem dJ7_fill_d0a16_4 : decode cJ7_fill_d0a16 4 = .ok (.istore 4, 2) := by decide +kernel
theorem dJ7_fill_d0a16_6 : decode cJ7_fill_d0a16 6 = .ok (.iload_n 3, 1) := by decide +kernel
theorem dJ7_fill_d0a16_7 : decode cJ7_fill_d0a16 7 = .ok (.iload 4, 2) := by decide +kernel
theorem dJ7_fill_d0a16_9 : decode cJ7_fill_d0a16 9 = .ok (.if_icmp .ge 13, 3) := by decide +kernel
theorem dJ7_fill_d0a16_12 : decode cJ7_fill_d0a16 12 = .ok (.aload_n 0, 1) := by decide +kernel
theorem dJ7_fill_d0a16_13 : decode cJ7_fill_d0a16 13 = .ok (.iload_n 3, 1) := by decide +kernel
theorem dJ7_fill_d0a16_14 : decode cJ7_fill_d0a16 14 = .ok (.lload_n 1, 1) := by decide +kernel
theorem dJ7_fill_d0a16_15 : decode cJ7_fill_d0a16 15 = .ok (.lastore, 1) := by decide +kernel
theorem dJ7_fill_d0a16_16 : decode cJ7_fill_d0a16 16 = .ok (.iinc 3 1, 3) := by decide +kernel
theorem dJ7_fill_d0a16_19 : decode cJ7_fill_d0a16 19 = .ok (.goto (-13), 3) := by decide +kernel
theorem dJ7_fill_d0a16_22 : decode cJ7_fill_d0a16 22 = .ok (.return_, 1) := by decide +kernel
theorem dJ7_fill_53178_0 : decode cJ7_fill_53178 0 = .ok (.iconst 0, 1) := by decide +kernel
theorem dJ7_fill_53178_1 : decode cJ7_fill_53178 1 = .ok (.istore_n 2, 1) := by decide +kernel
theorem dJ7_fill_53178_2 : decode cJ7_fill_53178 2 = .ok (.aload_n 0, 1) := by decide +kernel
theorem dJ7_fill_53178_3 : decode cJ7_fill_53178 3 = .ok (.arraylength, 1) := by decide +kernel
theorem dJ7_fill_53178_4 : decode cJ7_fill_53178 4 = .ok (.istore_n 3, 1) := by decide +kernel
theorem dJ7_fill_53178_5 : decode cJ7_fill_53178 5 = .ok (.iload_n 2, 1) := by decide +kernel
theorem dJ7_fill_53178_6 : decode cJ7_fill_53178 6 = .ok (.iload_n 3, 1) := by decide +kernel
theorem dJ7_fill_53178_7 : decode cJ7_fill_53178 7 = .ok (.if_icmp .ge 13, 3) := by decide +kernel
theorem dJ7_fill_53178_10 : decode cJ7_fill_53178 10 = .ok (.aload_n 0, 1) := by decide +kernel
theorem dJ7_fill_53178_11 : decode cJ7_fill_53178 11 = .ok (.iload_n 2, 1) := by decide +kernel
theorem dJ7_fill_53178_12 : decode cJ7_fill_53178 12 = .ok (.iload_n 1, 1) := by decide +kernel
theorem dJ7_fill_53178_13 : decode cJ7_fill_53178 13 = .ok (.iastore, 1) := by decide +kernel
theorem dJ7_fill_53178_14 : decode cJ7_fill_53178 14 = .ok (.iinc 2 1, 3) := by decide +kernel
theorem dJ7_fill_53178_17 : decode cJ7_fill_53178 17 = .ok (.goto (-12), 3) := by decide +kernel
theorem dJ7_fill_53178_20 : decode cJ7_fill_53178 20 = .ok (.return_, 1) := by decide +kernel
theorem dJ9_max_7cf53_0 : decode cJ9_max_7cf53 0 = .ok (.iload_n 0, 1) := by decide +kernel
theorem dJ9_max_7cf53_1 : decode cJ9_max_7cf53 1 = .ok (.iload_n 1, 1) := by decide +kernel
theorem dJ9_max_7cf53_2 : decode cJ9_max_7cf53 2 = .ok (.if_icmp .lt 7, 3) := by decide +kernel
theorem dJ9_max_7cf53_5 : decode cJ9_max_7cf53 5 = .ok (.iload_n 0, 1) := by decide +kernel
theorem dJ9_max_7cf53_6 : decode cJ9_max_7cf53 6 = .ok (.goto 4, 3) := by decide +kernel
theorem dJ9_max_7cf53_9 : decode cJ9_max_7cf53 9 = .ok (.iload_n 1, 1) := by decide +kernel
theorem dJ9_max_7cf53_10 : decode cJ9_max_7cf53 10 = .ok (.ireturn, 1) := by decide +kernel
theorem dJ9_min_7cf53_0 : decode cJ9_min_7cf53 0 = .ok (.iload_n 0, 1) := by decide +kernel
theorem dJ9_min_7cf53_1 : decode cJ9_min_7cf53 1 = .ok (.iload_n 1, 1) := by decide +kernel
theorem dJ9_min_7cf53_2 : decode cJ9_min_7cf53 2 = .ok (.if_icmp .gt 7, 3) := by decide +kernel
theorem dJ9_min_7cf53_5 : decode cJ9_min_7cf53 5 = .ok (.iload_n 0, 1) := by decide +kernel
theorem dJ9_min_7cf53_6 : decode cJ9_min_7cf53 6 = .ok (.goto 4, 3) := by decide +kernel
theorem dJ9_min_7cf53_9 : decode cJ9_min_7cf53 9 = .ok (.iload_n 1, 1) := by decide +kernel
theorem dJ9_min_7cf53_10 : decode cJ9_min_7cf53 10 = .ok (.ireturn, 1) := by decide +kernel
theorem dJ13_bitCount_95d88_0 : decode cJ13_bitCount_95d88 0 = .ok (.lload_n 0, 1) := by decide +kernel
theorem dJ13_bitCount_95d88_1 : decode cJ13_bitCount_95d88 1 = .ok (.lload_n 0, 1) := by decide +kernel
theorem dJ13_bitCount_95d88_2 : decode cJ13_bitCount_95d88 2 = .ok (.iconst 1, 1) := by decide +kernel
theorem dJ13_bitCount_95d88_3 : decode cJ13_bitCount_95d88 3 = .ok (.lushr, 1) := by decide +kernel
theorem dJ13_bitCount_95d88_4 : decode cJ13_bitCount_95d88 4 = .ok (.ldc2_w 314, 3) := by decide +kernel
theorem dJ13_bitCount_95d88_7 : decode cJ13_bitCount_95d88 7 = .ok (.land, 1) := by decide +kernel
theorem dJ13_bitCount_95d88_8 : decode cJ13_bitCount_95d88 8 = .ok (.lsub, 1) := by decide +kernel
theorem dJ13_bitCount_95d88_9 : decode cJ13_bitCount_95d88 9 = .ok (.lstore_n 0, 1) := by decide +kernel
theorem dJ13_bitCount_95d88_10 : decode cJ13_bitCount_95d88 10 = .ok (.lload_n 0, 1) := by decide +kernel
theorem dJ13_bitCount_95d88_11 : decode cJ13_bitCount_95d88 11 = .ok (.ldc2_w 316, 3) := by decide +kernel
theorem dJ13_bitCount_95d88_14 : decode cJ13_bitCount_95d88 14 = .ok (.land, 1) := by decide +kernel
theorem dJ13_bitCount_95d88_15 : decode cJ13_bitCount_95d88 15 = .ok (.lload_n 0, 1) := by decide +kernel
theorem dJ13_bitCount_95d88_16 : decode cJ13_bitCount_95d88 16 = .ok (.iconst 2, 1) := by decide +kernel
theorem dJ13_bitCount_95d88_17 : decode cJ13_bitCount_95d88 17 = .ok (.lushr, 1) := by decide +kernel
theorem dJ13_bitCount_95d88_18 : decode cJ13_bitCount_95d88 18 = .ok (.ldc2_w 316, 3) := by decide +kernel
theorem dJ13_bitCount_95d88_21 : decode cJ13_bitCount_95d88 21 = .ok (.land, 1) := by decide +kernel
theorem dJ13_bitCount_95d88_22 : decode cJ13_bitCount_95d88 22 = .ok (.ladd, 1) := by decide +kernel
theorem dJ13_bitCount_95d88_23 : decode cJ13_bitCount_95d88 23 = .ok (.lstore_n 0, 1) := by decide +kernel
theorem dJ13_bitCount_95d88_24 : decode cJ13_bitCount_95d88 24 = .ok (.lload_n 0, 1) := by decide +kernel
theorem dJ13_bitCount_95d88_25 : decode cJ13_bitCount_95d88 25 = .ok (.lload_n 0, 1) := by decide +kernel
theorem dJ13_bitCount_95d88_26 : decode cJ13_bitCount_95d88 26 = .ok (.iconst 4, 1) := by decide +kernel
theorem dJ13_bitCount_95d88_27 : decode cJ13_bitCount_95d88 27 = .ok (.lushr, 1) := by decide +kernel
theorem dJ13_bitCount_95d88_28 : decode cJ13_bitCount_95d88 28 = .ok (.ladd, 1) := by decide +kernel
theorem dJ13_bitCount_95d88_29 : decode cJ13_bitCount_95d88 29 = .ok (.ldc2_w 318, 3) := by decide +kernel
theorem dJ13_bitCount_95d88_32 : decode cJ13_bitCount_95d88 32 = .ok (.land, 1) := by decide +kernel
theorem dJ13_bitCount_95d88_33 : decode cJ13_bitCount_95d88 33 = .ok (.lstore_n 0, 1) := by decide +kernel
theorem dJ13_bitCount_95d88_34 : decode cJ13_bitCount_95d88 34 = .ok (.lload_n 0, 1) := by decide +kernel
theorem dJ13_bitCount_95d88_35 : decode cJ13_bitCount_95d88 35 = .ok (.lload_n 0, 1) := by decide +kernel
theorem dJ13_bitCount_95d88_36 : decode cJ13_bitCount_95d88 36 = .ok (.bipush 8, 2) := by decide +kernel
theorem dJ13_bitCount_95d88_38 : decode cJ13_bitCount_95d88 38 = .ok (.lushr, 1) := by decide +kernel
theorem dJ13_bitCount_95d88_39 : decode cJ13_bitCount_95d88 39 = .ok (.ladd, 1) := by decide +kernel
theorem dJ13_bitCount_95d88_40 : decode cJ13_bitCount_95d88 40 = .ok (.lstore_n 0, 1) := by decide +kernel
theorem dJ13_bitCount_95d88_41 : decode cJ13_bitCount_95d88 41 = .ok (.lload_n 0, 1) := by decide +kernel
theorem dJ13_bitCount_95d88_42 : decode cJ13_bitCount_95d88 42 = .ok (.lload_n 0, 1) := by decide +kernel
theorem dJ13_bitCount_95d88_43 : decode cJ13_bitCount_95d88 43 = .ok (.bipush 16, 2) := by decide +kernel
theorem dJ13_bitCount_95d88_45 : decode cJ13_bitCount_95d88 45 = .ok (.lushr, 1) := by decide +kernel
theorem dJ13_bitCount_95d88_46 : decode cJ13_bitCount_95d88 46 = .ok (.ladd, 1) := by decide +kernel
theorem dJ13_bitCount_95d88_47 : decode cJ13_bitCount_95d88 47 = .ok (.lstore_n 0, 1) := by decide +kernel
theorem dJ13_bitCount_95d88_48 : decode cJ13_bitCount_95d88 48 = .ok (.lload_n 0, 1) := by decide +kernel
theorem dJ13_bitCount_95d88_49 : decode cJ13_bitCount_95d88 49 = .ok (.lload_n 0, 1) := by decide +kernel
theorem dJ13_bitCount_95d88_50 : decode cJ13_bitCount_95d88 50 = .ok (.bipush 32, 2) := by decide +kernel
theorem dJ13_bitCount_95d88_52 : decode cJ13_bitCount_95d88 52 = .ok (.lushr, 1) := by decide +kernel
theorem dJ13_bitCount_95d88_53 : decode cJ13_bitCount_95d88 53 = .ok (.ladd, 1) := by decide +kernel
theorem dJ13_bitCount_95d88_54 : decode cJ13_bitCount_95d88 54 = .ok (.lstore_n 0, 1) := by decide +kernel
theorem dJ13_bitCount_95d88_55 : decode cJ13_bitCount_95d88 55 = .ok (.lload_n 0, 1) := by decide +kernel
theorem dJ13_bitCount_95d88_56 : decode cJ13_bitCount_95d88 56 = .ok (.l2i, 1) := by decide +kernel
theorem dJ13_bitCount_95d88_57 : decode cJ13_bitCount_95d88 57 = .ok (.bipush 127, 2) := by decide +kernel
theorem dJ13_bitCount_95d88_59 : decode cJ13_bitCount_95d88 59 = .ok (.iand, 1) := by decide +kernel
theorem dJ13_bitCount_95d88_60 : decode cJ13_bitCount_95d88 60 = .ok (.ireturn, 1) := by decide +kernel
theorem dX0_span_0 : decode cX0_span 0 = .ok (.iload_n 1, 1) := by decide +kernel
theorem dX0_span_1 : decode cX0_span 1 = .ok (.bipush 64, 2) := by decide +kernel
theorem dX0_span_3 : decode cX0_span 3 = .ok (.if_icmp .lt 9, 3) := by decide +kernel
theorem dX0_span_6 : decode cX0_span 6 = .ok (.ldc2_w 9, 3) := by decide +kernel
theorem dX0_span_9 : decode cX0_span 9 = .ok (.goto 10, 3) := by decide +kernel
theorem dX0_span_12 : decode cX0_span 12 = .ok (.lconst 1, 1) := by decide +kernel
theorem dX0_span_13 : decode cX0_span 13 = .ok (.iload_n 1, 1) := by decide +kernel
theorem dX0_span_14 : decode cX0_span 14 = .ok (.lshl, 1) := by decide +kernel
theorem dX0_span_15 : decode cX0_span 15 = .ok (.lconst 1, 1) := by decide +kernel
theorem dX0_span_16 : decode cX0_span 16 = .ok (.lsub, 1) := by decide +kernel
theorem dX0_span_17 : decode cX0_span 17 = .ok (.iload_n 0, 1) := by decide +kernel
theorem dX0_span_18 : decode cX0_span 18 = .ok (.lshl, 1) := by decide +kernel
theorem dX0_span_19 : decode cX0_span 19 = .ok (.lreturn, 1) := by decide +kernel
theorem dX0_heads_0 : decode cX0_heads 0 = .ok (.lload_n 0, 1) := by decide +kernel
theorem dX0_heads_1 : decode cX0_heads 1 = .ok (.lload_n 0, 1) := by decide +kernel
theorem dX0_heads_2 : decode cX0_heads 2 = .ok (.iconst 1, 1) := by decide +kernel
theorem dX0_heads_3 : decode cX0_heads 3 = .ok (.lshl, 1) := by decide +kernel
theorem dX0_heads_4 : decode cX0_heads 4 = .ok (.ldc2_w 9, 3) := by decide +kernel
theorem dX0_heads_7 : decode cX0_heads 7 = .ok (.lxor, 1) := by decide +kernel
theorem dX0_heads_8 : decode cX0_heads 8 = .ok (.land, 1) := by decide +kernel
theorem dX0_heads_9 : decode cX0_heads 9 = .ok (.lreturn, 1) := by decide +kernel
theorem dX0_lowest_0 : decode cX0_lowest 0 = .ok (.lload_n 0, 1) := by decide +kernel
theorem dX0_lowest_1 : decode cX0_lowest 1 = .ok (.lload_n 0, 1) := by decide +kernel
theorem dX0_lowest_2 : decode cX0_lowest 2 = .ok (.lneg, 1) := by decide +kernel
theorem dX0_lowest_3 : decode cX0_lowest 3 = .ok (.land, 1) := by decide +kernel
theorem dX0_lowest_4 : decode cX0_lowest 4 = .ok (.lconst 1, 1) := by decide +kernel
theorem dX0_lowest_5 : decode cX0_lowest 5 = .ok (.lsub, 1) := by decide +kernel
theorem dX0_lowest_6 : decode cX0_lowest 6 = .ok (.invokestatic 11, 3) := by decide +kernel
theorem dX0_lowest_9 : decode cX0_lowest 9 = .ok (.ireturn, 1) := by decide +kernel
theorem dX0_stretch_0 : decode cX0_stretch 0 = .ok (.lload_n 0, 1) := by decide +kernel
theorem dX0_stretch_1 : decode cX0_stretch 1 = .ok (.iload_n 2, 1) := by decide +kernel
theorem dX0_stretch_2 : decode cX0_stretch 2 = .ok (.lushr, 1) := by decide +kernel
theorem dX0_stretch_3 : decode cX0_stretch 3 = .ok (.ldc2_w 9, 3) := by decide +kernel
theorem dX0_stretch_6 : decode cX0_stretch 6 = .ok (.lxor, 1) := by decide +kernel
theorem dX0_stretch_7 : decode cX0_stretch 7 = .ok (.invokestatic 17, 3) := by decide +kernel
theorem dX0_stretch_10 : decode cX0_stretch 10 = .ok (.ireturn, 1) := by decide +kernel
theorem dX0_moved_0 : decode cX0_moved 0 = .ok (.iload_n 2, 1) := by decide +kernel
theorem dX0_moved_1 : decode cX0_moved 1 = .ok (.bipush (-64), 2) := by decide +kernel
theorem dX0_moved_3 : decode cX0_moved 3 = .ok (.if_icmp .le 9, 3) := by decide +kernel
theorem dX0_moved_6 : decode cX0_moved 6 = .ok (.iload_n 2, 1) := by decide +kernel
theorem dX0_moved_7 : decode cX0_moved 7 = .ok (.bipush 64, 2) := by decide +kernel
theorem dX0_moved_9 : decode cX0_moved 9 = .ok (.if_icmp .lt 5, 3) := by decide +kernel
theorem dX0_moved_12 : decode cX0_moved 12 = .ok (.lconst 0, 1) := by decide +kernel
theorem dX0_moved_13 : decode cX0_moved 13 = .ok (.lreturn, 1) := by decide +kernel
theorem dX0_moved_14 : decode cX0_moved 14 = .ok (.iload_n 2, 1) := by decide +kernel
theorem dX0_moved_15 : decode cX0_moved 15 = .ok (.ifCond .lt 9, 3) := by decide +kernel
theorem dX0_moved_18 : decode cX0_moved 18 = .ok (.lload_n 0, 1) := by decide +kernel
theorem dX0_moved_19 : decode cX0_moved 19 = .ok (.iload_n 2, 1) := by decide +kernel
theorem dX0_moved_20 : decode cX0_moved 20 = .ok (.lshl, 1) := by decide +kernel
theorem dX0_moved_21 : decode cX0_moved 21 = .ok (.goto 7, 3) := by decide +kernel
theorem dX0_moved_24 : decode cX0_moved 24 = .ok (.lload_n 0, 1) := by decide +kernel
theorem dX0_moved_25 : decode cX0_moved 25 = .ok (.iload_n 2, 1) := by decide +kernel
theorem dX0_moved_26 : decode cX0_moved 26 = .ok (.ineg, 1) := by decide +kernel
theorem dX0_moved_27 : decode cX0_moved 27 = .ok (.lushr, 1) := by decide +kernel
theorem dX0_moved_28 : decode cX0_moved 28 = .ok (.lreturn, 1) := by decide +kernel
theorem dX0_gaps_0 : decode cX0_gaps 0 = .ok (.lload_n 0, 1) := by decide +kernel
theorem dX0_gaps_1 : decode cX0_gaps 1 = .ok (.lload_n 0, 1) := by decide +kernel
theorem dX0_gaps_2 : decode cX0_gaps 2 = .ok (.lneg, 1) := by decide +kernel
theorem dX0_gaps_3 : decode cX0_gaps 3 = .ok (.land, 1) := by decide +kernel
theorem dX0_gaps_4 : decode cX0_gaps 4 = .ok (.lneg, 1) := by decide +kernel
theorem dX0_gaps_5 : decode cX0_gaps 5 = .ok (.lstore_n 2, 1) := by decide +kernel
theorem dX0_gaps_6 : decode cX0_gaps 6 = .ok (.lload_n 0, 1) := by decide +kernel
theorem dX0_gaps_7 : decode cX0_gaps 7 = .ok (.lstore 4, 2) := by decide +kernel
theorem dX0_gaps_9 : decode cX0_gaps 9 = .ok (.iconst 1, 1) := by decide +kernel
theorem dX0_gaps_10 : decode cX0_gaps 10 = .ok (.istore 6, 2) := by decide +kernel
theorem dX0_gaps_12 : decode cX0_gaps 12 = .ok (.iload 6, 2) := by decide +kernel
theorem dX0_gaps_14 : decode cX0_gaps 14 = .ok (.bipush 64, 2) := by decide +kernel
theorem dX0_gaps_16 : decode cX0_gaps 16 = .ok (.if_icmp .ge 22, 3) := by decide +kernel
theorem dX0_gaps_19 : decode cX0_gaps 19 = .ok (.lload 4, 2) := by decide +kernel
theorem dX0_gaps_21 : decode cX0_gaps 21 = .ok (.lload 4, 2) := by decide +kernel
theorem dX0_gaps_23 : decode cX0_gaps 23 = .ok (.iload 6, 2) := by decide +kernel
theorem dX0_gaps_25 : decode cX0_gaps 25 = .ok (.lushr, 1) := by decide +kernel
theorem dX0_gaps_26 : decode cX0_gaps 26 = .ok (.lor, 1) := by decide +kernel
theorem dX0_gaps_27 : decode cX0_gaps 27 = .ok (.lstore 4, 2) := by decide +kernel
theorem dX0_gaps_29 : decode cX0_gaps 29 = .ok (.iload 6, 2) := by decide +kernel
theorem dX0_gaps_31 : decode cX0_gaps 31 = .ok (.iconst 2, 1) := by decide +kernel
theorem dX0_gaps_32 : decode cX0_gaps 32 = .ok (.imul, 1) := by decide +kernel
theorem dX0_gaps_33 : decode cX0_gaps 33 = .ok (.istore 6, 2) := by decide +kernel
theorem dX0_gaps_35 : decode cX0_gaps 35 = .ok (.goto (-23), 3) := by decide +kernel
theorem dX0_gaps_38 : decode cX0_gaps 38 = .ok (.lload_n 0, 1) := by decide +kernel
theorem dX0_gaps_39 : decode cX0_gaps 39 = .ok (.ldc2_w 9, 3) := by decide +kernel
theorem dX0_gaps_42 : decode cX0_gaps 42 = .ok (.lxor, 1) := by decide +kernel
theorem dX0_gaps_43 : decode cX0_gaps 43 = .ok (.lload_n 2, 1) := by decide +kernel
theorem dX0_gaps_44 : decode cX0_gaps 44 = .ok (.land, 1) := by decide +kernel
theorem dX0_gaps_45 : decode cX0_gaps 45 = .ok (.lload 4, 2) := by decide +kernel
theorem dX0_gaps_47 : decode cX0_gaps 47 = .ok (.land, 1) := by decide +kernel
theorem dX0_gaps_48 : decode cX0_gaps 48 = .ok (.lreturn, 1) := by decide +kernel
theorem dX0_reversed_0 : decode cX0_reversed 0 = .ok (.lload_n 0, 1) := by decide +kernel
theorem dX0_reversed_1 : decode cX0_reversed 1 = .ok (.lstore_n 2, 1) := by decide +kernel
theorem dX0_reversed_2 : decode cX0_reversed 2 = .ok (.lload_n 2, 1) := by decide +kernel
theorem dX0_reversed_3 : decode cX0_reversed 3 = .ok (.ldc2_w 22, 3) := by decide +kernel
theorem dX0_reversed_6 : decode cX0_reversed 6 = .ok (.land, 1) := by decide +kernel
theorem dX0_reversed_7 : decode cX0_reversed 7 = .ok (.iconst 1, 1) := by decide +kernel
theorem dX0_reversed_8 : decode cX0_reversed 8 = .ok (.lshl, 1) := by decide +kernel
theorem dX0_reversed_9 : decode cX0_reversed 9 = .ok (.lload_n 2, 1) := by decide +kernel
theorem dX0_reversed_10 : decode cX0_reversed 10 = .ok (.iconst 1, 1) := by decide +kernel
theorem dX0_reversed_11 : decode cX0_reversed 11 = .ok (.lushr, 1) := by decide +kernel
theorem dX0_reversed_12 : decode cX0_reversed 12 = .ok (.ldc2_w 22, 3) := by decide +kernel
theorem dX0_reversed_15 : decode cX0_reversed 15 = .ok (.land, 1) := by decide +kernel
theorem dX0_reversed_16 : decode cX0_reversed 16 = .ok (.lor, 1) := by decide +kernel
theorem dX0_reversed_17 : decode cX0_reversed 17 = .ok (.lstore_n 2, 1) := by decide +kernel
theorem dX0_reversed_18 : decode cX0_reversed 18 = .ok (.lload_n 2, 1) := by decide +kernel
theorem dX0_reversed_19 : decode cX0_reversed 19 = .ok (.ldc2_w 24, 3) := by decide +kernel
theorem dX0_reversed_22 : decode cX0_reversed 22 = .ok (.land, 1) := by decide +kernel
theorem dX0_reversed_23 : decode cX0_reversed 23 = .ok (.iconst 2, 1) := by decide +kernel
theorem dX0_reversed_24 : decode cX0_reversed 24 = .ok (.lshl, 1) := by decide +kernel
theorem dX0_reversed_25 : decode cX0_reversed 25 = .ok (.lload_n 2, 1) := by decide +kernel
theorem dX0_reversed_26 : decode cX0_reversed 26 = .ok (.iconst 2, 1) := by decide +kernel
theorem dX0_reversed_27 : decode cX0_reversed 27 = .ok (.lushr, 1) := by decide +kernel
theorem dX0_reversed_28 : decode cX0_reversed 28 = .ok (.ldc2_w 24, 3) := by decide +kernel
theorem dX0_reversed_31 : decode cX0_reversed 31 = .ok (.land, 1) := by decide +kernel
theorem dX0_reversed_32 : decode cX0_reversed 32 = .ok (.lor, 1) := by decide +kernel
theorem dX0_reversed_33 : decode cX0_reversed 33 = .ok (.lstore_n 2, 1) := by decide +kernel
theorem dX0_reversed_34 : decode cX0_reversed 34 = .ok (.lload_n 2, 1) := by decide +kernel
theorem dX0_reversed_35 : decode cX0_reversed 35 = .ok (.ldc2_w 26, 3) := by decide +kernel
theorem dX0_reversed_38 : decode cX0_reversed 38 = .ok (.land, 1) := by decide +kernel
theorem dX0_reversed_39 : decode cX0_reversed 39 = .ok (.iconst 4, 1) := by decide +kernel
theorem dX0_reversed_40 : decode cX0_reversed 40 = .ok (.lshl, 1) := by decide +kernel
theorem dX0_reversed_41 : decode cX0_reversed 41 = .ok (.lload_n 2, 1) := by decide +kernel
theorem dX0_reversed_42 : decode cX0_reversed 42 = .ok (.iconst 4, 1) := by decide +kernel
theorem dX0_reversed_43 : decode cX0_reversed 43 = .ok (.lushr, 1) := by decide +kernel
theorem dX0_reversed_44 : decode cX0_reversed 44 = .ok (.ldc2_w 26, 3) := by decide +kernel
theorem dX0_reversed_47 : decode cX0_reversed 47 = .ok (.land, 1) := by decide +kernel
theorem dX0_reversed_48 : decode cX0_reversed 48 = .ok (.lor, 1) := by decide +kernel
theorem dX0_reversed_49 : decode cX0_reversed 49 = .ok (.lstore_n 2, 1) := by decide +kernel
theorem dX0_reversed_50 : decode cX0_reversed 50 = .ok (.lload_n 2, 1) := by decide +kernel
theorem dX0_reversed_51 : decode cX0_reversed 51 = .ok (.ldc2_w 28, 3) := by decide +kernel
theorem dX0_reversed_54 : decode cX0_reversed 54 = .ok (.land, 1) := by decide +kernel
theorem dX0_reversed_55 : decode cX0_reversed 55 = .ok (.bipush 8, 2) := by decide +kernel
theorem dX0_reversed_57 : decode cX0_reversed 57 = .ok (.lshl, 1) := by decide +kernel
theorem dX0_reversed_58 : decode cX0_reversed 58 = .ok (.lload_n 2, 1) := by decide +kernel
theorem dX0_reversed_59 : decode cX0_reversed 59 = .ok (.bipush 8, 2) := by decide +kernel
theorem dX0_reversed_61 : decode cX0_reversed 61 = .ok (.lushr, 1) := by decide +kernel
theorem dX0_reversed_62 : decode cX0_reversed 62 = .ok (.ldc2_w 28, 3) := by decide +kernel
theorem dX0_reversed_65 : decode cX0_reversed 65 = .ok (.land, 1) := by decide +kernel
theorem dX0_reversed_66 : decode cX0_reversed 66 = .ok (.lor, 1) := by decide +kernel
theorem dX0_reversed_67 : decode cX0_reversed 67 = .ok (.lstore_n 2, 1) := by decide +kernel
theorem dX0_reversed_68 : decode cX0_reversed 68 = .ok (.lload_n 2, 1) := by decide +kernel
theorem dX0_reversed_69 : decode cX0_reversed 69 = .ok (.ldc2_w 30, 3) := by decide +kernel
theorem dX0_reversed_72 : decode cX0_reversed 72 = .ok (.land, 1) := by decide +kernel
theorem dX0_reversed_73 : decode cX0_reversed 73 = .ok (.bipush 16, 2) := by decide +kernel
theorem dX0_reversed_75 : decode cX0_reversed 75 = .ok (.lshl, 1) := by decide +kernel
theorem dX0_reversed_76 : decode cX0_reversed 76 = .ok (.lload_n 2, 1) := by decide +kernel
theorem dX0_reversed_77 : decode cX0_reversed 77 = .ok (.bipush 16, 2) := by decide +kernel
theorem dX0_reversed_79 : decode cX0_reversed 79 = .ok (.lushr, 1) := by decide +kernel
theorem dX0_reversed_80 : decode cX0_reversed 80 = .ok (.ldc2_w 30, 3) := by decide +kernel
theorem dX0_reversed_83 : decode cX0_reversed 83 = .ok (.land, 1) := by decide +kernel
theorem dX0_reversed_84 : decode cX0_reversed 84 = .ok (.lor, 1) := by decide +kernel
theorem dX0_reversed_85 : decode cX0_reversed 85 = .ok (.lstore_n 2, 1) := by decide +kernel
theorem dX0_reversed_86 : decode cX0_reversed 86 = .ok (.lload_n 2, 1) := by decide +kernel
theorem dX0_reversed_87 : decode cX0_reversed 87 = .ok (.bipush 32, 2) := by decide +kernel
theorem dX0_reversed_89 : decode cX0_reversed 89 = .ok (.lshl, 1) := by decide +kernel
theorem dX0_reversed_90 : decode cX0_reversed 90 = .ok (.lload_n 2, 1) := by decide +kernel
theorem dX0_reversed_91 : decode cX0_reversed 91 = .ok (.bipush 32, 2) := by decide +kernel
theorem dX0_reversed_93 : decode cX0_reversed 93 = .ok (.lushr, 1) := by decide +kernel
theorem dX0_reversed_94 : decode cX0_reversed 94 = .ok (.lor, 1) := by decide +kernel
theorem dX0_reversed_95 : decode cX0_reversed 95 = .ok (.lreturn, 1) := by decide +kernel
theorem dX0_transpose_0 : decode cX0_transpose 0 = .ok (.ldc2_w 32, 3) := by decide +kernel
theorem dX0_transpose_3 : decode cX0_transpose 3 = .ok (.lstore_n 1, 1) := by decide +kernel
theorem dX0_transpose_4 : decode cX0_transpose 4 = .ok (.bipush 32, 2) := by decide +kernel
theorem dX0_transpose_6 : decode cX0_transpose 6 = .ok (.istore_n 3, 1) := by decide +kernel
theorem dX0_transpose_7 : decode cX0_transpose 7 = .ok (.iload_n 3, 1) := by decide +kernel
theorem dX0_transpose_8 : decode cX0_transpose 8 = .ok (.ifCond .le 82, 3) := by decide +kernel
theorem dX0_transpose_11 : decode cX0_transpose 11 = .ok (.iconst 0, 1) := by decide +kernel
theorem dX0_transpose_12 : decode cX0_transpose 12 = .ok (.istore 4, 2) := by decide +kernel
theorem dX0_transpose_14 : decode cX0_transpose 14 = .ok (.iload 4, 2) := by decide +kernel
theorem dX0_transpose_16 : decode cX0_transpose 16 = .ok (.iload_n 3, 1) := by decide +kernel
theorem dX0_transpose_17 : decode cX0_transpose 17 = .ok (.iadd, 1) := by decide +kernel
theorem dX0_transpose_18 : decode cX0_transpose 18 = .ok (.bipush 64, 2) := by decide +kernel
theorem dX0_transpose_20 : decode cX0_transpose 20 = .ok (.if_icmp .ge 55, 3) := by decide +kernel
theorem dX0_transpose_23 : decode cX0_transpose 23 = .ok (.iload 4, 2) := by decide +kernel
theorem dX0_transpose_25 : decode cX0_transpose 25 = .ok (.iload_n 3, 1) := by decide +kernel
theorem dX0_transpose_26 : decode cX0_transpose 26 = .ok (.iand, 1) := by decide +kernel
theorem dX0_transpose_27 : decode cX0_transpose 27 = .ok (.ifCond .ne 42, 3) := by decide +kernel
theorem dX0_transpose_30 : decode cX0_transpose 30 = .ok (.aload_n 0, 1) := by decide +kernel
theorem dX0_transpose_31 : decode cX0_transpose 31 = .ok (.iload 4, 2) := by decide +kernel
theorem dX0_transpose_33 : decode cX0_transpose 33 = .ok (.laload, 1) := by decide +kernel
theorem dX0_transpose_34 : decode cX0_transpose 34 = .ok (.iload_n 3, 1) := by decide +kernel
theorem dX0_transpose_35 : decode cX0_transpose 35 = .ok (.lushr, 1) := by decide +kernel
theorem dX0_transpose_36 : decode cX0_transpose 36 = .ok (.aload_n 0, 1) := by decide +kernel
theorem dX0_transpose_37 : decode cX0_transpose 37 = .ok (.iload 4, 2) := by decide +kernel
theorem dX0_transpose_39 : decode cX0_transpose 39 = .ok (.iload_n 3, 1) := by decide +kernel
theorem dX0_transpose_40 : decode cX0_transpose 40 = .ok (.iadd, 1) := by decide +kernel
theorem dX0_transpose_41 : decode cX0_transpose 41 = .ok (.laload, 1) := by decide +kernel
theorem dX0_transpose_42 : decode cX0_transpose 42 = .ok (.lxor, 1) := by decide +kernel
theorem dX0_transpose_43 : decode cX0_transpose 43 = .ok (.lload_n 1, 1) := by decide +kernel
theorem dX0_transpose_44 : decode cX0_transpose 44 = .ok (.land, 1) := by decide +kernel
theorem dX0_transpose_45 : decode cX0_transpose 45 = .ok (.lstore 5, 2) := by decide +kernel
theorem dX0_transpose_47 : decode cX0_transpose 47 = .ok (.aload_n 0, 1) := by decide +kernel
theorem dX0_transpose_48 : decode cX0_transpose 48 = .ok (.iload 4, 2) := by decide +kernel
theorem dX0_transpose_50 : decode cX0_transpose 50 = .ok (.dup2, 1) := by decide +kernel
theorem dX0_transpose_51 : decode cX0_transpose 51 = .ok (.laload, 1) := by decide +kernel
theorem dX0_transpose_52 : decode cX0_transpose 52 = .ok (.lload 5, 2) := by decide +kernel
theorem dX0_transpose_54 : decode cX0_transpose 54 = .ok (.iload_n 3, 1) := by decide +kernel
theorem dX0_transpose_55 : decode cX0_transpose 55 = .ok (.lshl, 1) := by decide +kernel
theorem dX0_transpose_56 : decode cX0_transpose 56 = .ok (.lxor, 1) := by decide +kernel
theorem dX0_transpose_57 : decode cX0_transpose 57 = .ok (.lastore, 1) := by decide +kernel
theorem dX0_transpose_58 : decode cX0_transpose 58 = .ok (.aload_n 0, 1) := by decide +kernel
theorem dX0_transpose_59 : decode cX0_transpose 59 = .ok (.iload 4, 2) := by decide +kernel
theorem dX0_transpose_61 : decode cX0_transpose 61 = .ok (.iload_n 3, 1) := by decide +kernel
theorem dX0_transpose_62 : decode cX0_transpose 62 = .ok (.iadd, 1) := by decide +kernel
theorem dX0_transpose_63 : decode cX0_transpose 63 = .ok (.dup2, 1) := by decide +kernel
theorem dX0_transpose_64 : decode cX0_transpose 64 = .ok (.laload, 1) := by decide +kernel
theorem dX0_transpose_65 : decode cX0_transpose 65 = .ok (.lload 5, 2) := by decide +kernel
theorem dX0_transpose_67 : decode cX0_transpose 67 = .ok (.lxor, 1) := by decide +kernel
theorem dX0_transpose_68 : decode cX0_transpose 68 = .ok (.lastore, 1) := by decide +kernel
theorem dX0_transpose_69 : decode cX0_transpose 69 = .ok (.iinc 4 1, 3) := by decide +kernel
theorem dX0_transpose_72 : decode cX0_transpose 72 = .ok (.goto (-58), 3) := by decide +kernel
theorem dX0_transpose_75 : decode cX0_transpose 75 = .ok (.lload_n 1, 1) := by decide +kernel
theorem dX0_transpose_76 : decode cX0_transpose 76 = .ok (.lload_n 1, 1) := by decide +kernel
theorem dX0_transpose_77 : decode cX0_transpose 77 = .ok (.iload_n 3, 1) := by decide +kernel
theorem dX0_transpose_78 : decode cX0_transpose 78 = .ok (.iconst 2, 1) := by decide +kernel
theorem dX0_transpose_79 : decode cX0_transpose 79 = .ok (.idiv, 1) := by decide +kernel
theorem dX0_transpose_80 : decode cX0_transpose 80 = .ok (.lshl, 1) := by decide +kernel
theorem dX0_transpose_81 : decode cX0_transpose 81 = .ok (.lxor, 1) := by decide +kernel
theorem dX0_transpose_82 : decode cX0_transpose 82 = .ok (.lstore_n 1, 1) := by decide +kernel
theorem dX0_transpose_83 : decode cX0_transpose 83 = .ok (.iload_n 3, 1) := by decide +kernel
theorem dX0_transpose_84 : decode cX0_transpose 84 = .ok (.iconst 2, 1) := by decide +kernel
theorem dX0_transpose_85 : decode cX0_transpose 85 = .ok (.idiv, 1) := by decide +kernel
theorem dX0_transpose_86 : decode cX0_transpose 86 = .ok (.istore_n 3, 1) := by decide +kernel
theorem dX0_transpose_87 : decode cX0_transpose 87 = .ok (.goto (-80), 3) := by decide +kernel
theorem dX0_transpose_90 : decode cX0_transpose 90 = .ok (.return_, 1) := by decide +kernel
theorem dX0_spread_0 : decode cX0_spread 0 = .ok (.iconst 0, 1) := by decide +kernel
theorem dX0_spread_1 : decode cX0_spread 1 = .ok (.istore 6, 2) := by decide +kernel
theorem dX0_spread_3 : decode cX0_spread 3 = .ok (.iload 6, 2) := by decide +kernel
theorem dX0_spread_5 : decode cX0_spread 5 = .ok (.bipush 64, 2) := by decide +kernel
theorem dX0_spread_7 : decode cX0_spread 7 = .ok (.if_icmp .ge 165, 3) := by decide +kernel
theorem dX0_spread_10 : decode cX0_spread 10 = .ok (.aload_n 0, 1) := by decide +kernel
theorem dX0_spread_11 : decode cX0_spread 11 = .ok (.iload_n 1, 1) := by decide +kernel
theorem dX0_spread_12 : decode cX0_spread 12 = .ok (.iload 6, 2) := by decide +kernel
theorem dX0_spread_14 : decode cX0_spread 14 = .ok (.iadd, 1) := by decide +kernel
theorem dX0_spread_15 : decode cX0_spread 15 = .ok (.laload, 1) := by decide +kernel
theorem dX0_spread_16 : decode cX0_spread 16 = .ok (.lstore 7, 2) := by decide +kernel
theorem dX0_spread_18 : decode cX0_spread 18 = .ok (.iconst 1, 1) := by decide +kernel
theorem dX0_spread_19 : decode cX0_spread 19 = .ok (.istore 9, 2) := by decide +kernel
theorem dX0_spread_21 : decode cX0_spread 21 = .ok (.iload 9, 2) := by decide +kernel
theorem dX0_spread_23 : decode cX0_spread 23 = .ok (.iload 4, 2) := by decide +kernel
theorem dX0_spread_25 : decode cX0_spread 25 = .ok (.if_icmp .gt 83, 3) := by decide +kernel
theorem dX0_spread_28 : decode cX0_spread 28 = .ok (.iload 6, 2) := by decide +kernel
theorem dX0_spread_30 : decode cX0_spread 30 = .ok (.iload 9, 2) := by decide +kernel
theorem dX0_spread_32 : decode cX0_spread 32 = .ok (.isub, 1) := by decide +kernel
theorem dX0_spread_33 : decode cX0_spread 33 = .ok (.ifCond .ge 7, 3) := by decide +kernel
theorem dX0_spread_36 : decode cX0_spread 36 = .ok (.lconst 0, 1) := by decide +kernel
theorem dX0_spread_37 : decode cX0_spread 37 = .ok (.goto 12, 3) := by decide +kernel
theorem dX0_spread_40 : decode cX0_spread 40 = .ok (.aload_n 0, 1) := by decide +kernel
theorem dX0_spread_41 : decode cX0_spread 41 = .ok (.iload_n 1, 1) := by decide +kernel
theorem dX0_spread_42 : decode cX0_spread 42 = .ok (.iload 6, 2) := by decide +kernel
theorem dX0_spread_44 : decode cX0_spread 44 = .ok (.iadd, 1) := by decide +kernel
theorem dX0_spread_45 : decode cX0_spread 45 = .ok (.iload 9, 2) := by decide +kernel
theorem dX0_spread_47 : decode cX0_spread 47 = .ok (.isub, 1) := by decide +kernel
theorem dX0_spread_48 : decode cX0_spread 48 = .ok (.laload, 1) := by decide +kernel
theorem dX0_spread_49 : decode cX0_spread 49 = .ok (.lstore 10, 2) := by decide +kernel
theorem dX0_spread_51 : decode cX0_spread 51 = .ok (.iload 6, 2) := by decide +kernel
theorem dX0_spread_53 : decode cX0_spread 53 = .ok (.iload 9, 2) := by decide +kernel
theorem dX0_spread_55 : decode cX0_spread 55 = .ok (.iadd, 1) := by decide +kernel
theorem dX0_spread_56 : decode cX0_spread 56 = .ok (.bipush 64, 2) := by decide +kernel
theorem dX0_spread_58 : decode cX0_spread 58 = .ok (.if_icmp .lt 7, 3) := by decide +kernel
theorem dX0_spread_61 : decode cX0_spread 61 = .ok (.lconst 0, 1) := by decide +kernel
theorem dX0_spread_62 : decode cX0_spread 62 = .ok (.goto 12, 3) := by decide +kernel
theorem dX0_spread_65 : decode cX0_spread 65 = .ok (.aload_n 0, 1) := by decide +kernel
theorem dX0_spread_66 : decode cX0_spread 66 = .ok (.iload_n 1, 1) := by decide +kernel
theorem dX0_spread_67 : decode cX0_spread 67 = .ok (.iload 6, 2) := by decide +kernel
theorem dX0_spread_69 : decode cX0_spread 69 = .ok (.iadd, 1) := by decide +kernel
theorem dX0_spread_70 : decode cX0_spread 70 = .ok (.iload 9, 2) := by decide +kernel
theorem dX0_spread_72 : decode cX0_spread 72 = .ok (.iadd, 1) := by decide +kernel
theorem dX0_spread_73 : decode cX0_spread 73 = .ok (.laload, 1) := by decide +kernel
theorem dX0_spread_74 : decode cX0_spread 74 = .ok (.lstore 12, 2) := by decide +kernel
theorem dX0_spread_76 : decode cX0_spread 76 = .ok (.iload 5, 2) := by decide +kernel
theorem dX0_spread_78 : decode cX0_spread 78 = .ok (.ifCond .eq 14, 3) := by decide +kernel
theorem dX0_spread_81 : decode cX0_spread 81 = .ok (.lload 7, 2) := by decide +kernel
theorem dX0_spread_83 : decode cX0_spread 83 = .ok (.lload 10, 2) := by decide +kernel
theorem dX0_spread_85 : decode cX0_spread 85 = .ok (.lor, 1) := by decide +kernel
theorem dX0_spread_86 : decode cX0_spread 86 = .ok (.lload 12, 2) := by decide +kernel
theorem dX0_spread_88 : decode cX0_spread 88 = .ok (.lor, 1) := by decide +kernel
theorem dX0_spread_89 : decode cX0_spread 89 = .ok (.goto 11, 3) := by decide +kernel
theorem dX0_spread_92 : decode cX0_spread 92 = .ok (.lload 7, 2) := by decide +kernel
theorem dX0_spread_94 : decode cX0_spread 94 = .ok (.lload 10, 2) := by decide +kernel
theorem dX0_spread_96 : decode cX0_spread 96 = .ok (.land, 1) := by decide +kernel
theorem dX0_spread_97 : decode cX0_spread 97 = .ok (.lload 12, 2) := by decide +kernel
theorem dX0_spread_99 : decode cX0_spread 99 = .ok (.land, 1) := by decide +kernel
theorem dX0_spread_100 : decode cX0_spread 100 = .ok (.lstore 7, 2) := by decide +kernel
theorem dX0_spread_102 : decode cX0_spread 102 = .ok (.iinc 9 1, 3) := by decide +kernel
theorem dX0_spread_105 : decode cX0_spread 105 = .ok (.goto (-84), 3) := by decide +kernel
theorem dX0_spread_108 : decode cX0_spread 108 = .ok (.iconst 1, 1) := by decide +kernel
theorem dX0_spread_109 : decode cX0_spread 109 = .ok (.istore 9, 2) := by decide +kernel
theorem dX0_spread_111 : decode cX0_spread 111 = .ok (.iload 9, 2) := by decide +kernel
theorem dX0_spread_113 : decode cX0_spread 113 = .ok (.iload 4, 2) := by decide +kernel
theorem dX0_spread_115 : decode cX0_spread 115 = .ok (.if_icmp .gt 43, 3) := by decide +kernel
theorem dX0_spread_118 : decode cX0_spread 118 = .ok (.iload 5, 2) := by decide +kernel
theorem dX0_spread_120 : decode cX0_spread 120 = .ok (.ifCond .eq 18, 3) := by decide +kernel
theorem dX0_spread_123 : decode cX0_spread 123 = .ok (.lload 7, 2) := by decide +kernel
theorem dX0_spread_125 : decode cX0_spread 125 = .ok (.lload 7, 2) := by decide +kernel
theorem dX0_spread_127 : decode cX0_spread 127 = .ok (.iconst 1, 1) := by decide +kernel
theorem dX0_spread_128 : decode cX0_spread 128 = .ok (.lshl, 1) := by decide +kernel
theorem dX0_spread_129 : decode cX0_spread 129 = .ok (.lor, 1) := by decide +kernel
theorem dX0_spread_130 : decode cX0_spread 130 = .ok (.lload 7, 2) := by decide +kernel
theorem dX0_spread_132 : decode cX0_spread 132 = .ok (.iconst 1, 1) := by decide +kernel
theorem dX0_spread_133 : decode cX0_spread 133 = .ok (.lushr, 1) := by decide +kernel
theorem dX0_spread_134 : decode cX0_spread 134 = .ok (.lor, 1) := by decide +kernel
theorem dX0_spread_135 : decode cX0_spread 135 = .ok (.goto 15, 3) := by decide +kernel
theorem dX0_spread_138 : decode cX0_spread 138 = .ok (.lload 7, 2) := by decide +kernel
theorem dX0_spread_140 : decode cX0_spread 140 = .ok (.lload 7, 2) := by decide +kernel
theorem dX0_spread_142 : decode cX0_spread 142 = .ok (.iconst 1, 1) := by decide +kernel
theorem dX0_spread_143 : decode cX0_spread 143 = .ok (.lshl, 1) := by decide +kernel
theorem dX0_spread_144 : decode cX0_spread 144 = .ok (.land, 1) := by decide +kernel
theorem dX0_spread_145 : decode cX0_spread 145 = .ok (.lload 7, 2) := by decide +kernel
theorem dX0_spread_147 : decode cX0_spread 147 = .ok (.iconst 1, 1) := by decide +kernel
theorem dX0_spread_148 : decode cX0_spread 148 = .ok (.lushr, 1) := by decide +kernel
theorem dX0_spread_149 : decode cX0_spread 149 = .ok (.land, 1) := by decide +kernel
theorem dX0_spread_150 : decode cX0_spread 150 = .ok (.lstore 7, 2) := by decide +kernel
theorem dX0_spread_152 : decode cX0_spread 152 = .ok (.iinc 9 1, 3) := by decide +kernel
theorem dX0_spread_155 : decode cX0_spread 155 = .ok (.goto (-44), 3) := by decide +kernel
theorem dX0_spread_158 : decode cX0_spread 158 = .ok (.aload_n 2, 1) := by decide +kernel
theorem dX0_spread_159 : decode cX0_spread 159 = .ok (.iload_n 3, 1) := by decide +kernel
theorem dX0_spread_160 : decode cX0_spread 160 = .ok (.iload 6, 2) := by decide +kernel
theorem dX0_spread_162 : decode cX0_spread 162 = .ok (.iadd, 1) := by decide +kernel
theorem dX0_spread_163 : decode cX0_spread 163 = .ok (.lload 7, 2) := by decide +kernel
theorem dX0_spread_165 : decode cX0_spread 165 = .ok (.lastore, 1) := by decide +kernel
theorem dX0_spread_166 : decode cX0_spread 166 = .ok (.iinc 6 1, 3) := by decide +kernel
theorem dX0_spread_169 : decode cX0_spread 169 = .ok (.goto (-166), 3) := by decide +kernel
theorem dX0_spread_172 : decode cX0_spread 172 = .ok (.return_, 1) := by decide +kernel
theorem dX0_grown_0 : decode cX0_grown 0 = .ok (.aload_n 0, 1) := by decide +kernel
theorem dX0_grown_1 : decode cX0_grown 1 = .ok (.arraylength, 1) := by decide +kernel
theorem dX0_grown_2 : decode cX0_grown 2 = .ok (.iload_n 1, 1) := by decide +kernel
theorem dX0_grown_3 : decode cX0_grown 3 = .ok (.if_icmp .lt 7, 3) := by decide +kernel
theorem dX0_grown_6 : decode cX0_grown 6 = .ok (.aload_n 0, 1) := by decide +kernel
theorem dX0_grown_7 : decode cX0_grown 7 = .ok (.goto 13, 3) := by decide +kernel
theorem dX0_grown_10 : decode cX0_grown 10 = .ok (.iload_n 1, 1) := by decide +kernel
theorem dX0_grown_11 : decode cX0_grown 11 = .ok (.iconst 2, 1) := by decide +kernel
theorem dX0_grown_12 : decode cX0_grown 12 = .ok (.aload_n 0, 1) := by decide +kernel
theorem dX0_grown_13 : decode cX0_grown 13 = .ok (.arraylength, 1) := by decide +kernel
theorem dX0_grown_14 : decode cX0_grown 14 = .ok (.imul, 1) := by decide +kernel
theorem dX0_grown_15 : decode cX0_grown 15 = .ok (.invokestatic 34, 3) := by decide +kernel
theorem dX0_grown_18 : decode cX0_grown 18 = .ok (.newarray .int, 2) := by decide +kernel
theorem dX0_grown_20 : decode cX0_grown 20 = .ok (.areturn, 1) := by decide +kernel
theorem dX1_init_0 : decode cX1_init 0 = .ok (.aload_n 0, 1) := by decide +kernel
theorem dX1_init_1 : decode cX1_init 1 = .ok (.invokespecial 3, 3) := by decide +kernel
theorem dX1_init_4 : decode cX1_init 4 = .ok (.aload_n 0, 1) := by decide +kernel
theorem dX1_init_5 : decode cX1_init 5 = .ok (.bipush 16, 2) := by decide +kernel
theorem dX1_init_7 : decode cX1_init 7 = .ok (.anewarray 9, 3) := by decide +kernel
theorem dX1_init_10 : decode cX1_init 10 = .ok (.putfield 11, 3) := by decide +kernel
theorem dX1_init_13 : decode cX1_init 13 = .ok (.aload_n 0, 1) := by decide +kernel
theorem dX1_init_14 : decode cX1_init 14 = .ok (.iconst 0, 1) := by decide +kernel
theorem dX1_init_15 : decode cX1_init 15 = .ok (.putfield 17, 3) := by decide +kernel
theorem dX1_init_18 : decode cX1_init 18 = .ok (.aload_n 0, 1) := by decide +kernel
theorem dX1_init_19 : decode cX1_init 19 = .ok (.iconst 0, 1) := by decide +kernel
theorem dX1_init_20 : decode cX1_init 20 = .ok (.putfield 21, 3) := by decide +kernel
theorem dX1_init_23 : decode cX1_init 23 = .ok (.aload_n 0, 1) := by decide +kernel
theorem dX1_init_24 : decode cX1_init 24 = .ok (.iconst 0, 1) := by decide +kernel
theorem dX1_init_25 : decode cX1_init 25 = .ok (.newarray .long, 2) := by decide +kernel
theorem dX1_init_27 : decode cX1_init 27 = .ok (.putfield 25, 3) := by decide +kernel
theorem dX1_init_30 : decode cX1_init 30 = .ok (.aload_n 0, 1) := by decide +kernel
theorem dX1_init_31 : decode cX1_init 31 = .ok (.iconst 0, 1) := by decide +kernel
theorem dX1_init_32 : decode cX1_init 32 = .ok (.newarray .int, 2) := by decide +kernel
theorem dX1_init_34 : decode cX1_init 34 = .ok (.putfield 29, 3) := by decide +kernel
theorem dX1_init_37 : decode cX1_init 37 = .ok (.aload_n 0, 1) := by decide +kernel
theorem dX1_init_38 : decode cX1_init 38 = .ok (.iconst 0, 1) := by decide +kernel
theorem dX1_init_39 : decode cX1_init 39 = .ok (.putfield 33, 3) := by decide +kernel
theorem dX1_init_42 : decode cX1_init 42 = .ok (.return_, 1) := by decide +kernel
theorem dX1_add_0 : decode cX1_add 0 = .ok (.aload_n 0, 1) := by decide +kernel
theorem dX1_add_1 : decode cX1_add 1 = .ok (.getfield 11, 3) := by decide +kernel
theorem dX1_add_4 : decode cX1_add 4 = .ok (.aload_n 0, 1) := by decide +kernel
theorem dX1_add_5 : decode cX1_add 5 = .ok (.getfield 17, 3) := by decide +kernel
theorem dX1_add_8 : decode cX1_add 8 = .ok (.aload_n 1, 1) := by decide +kernel
theorem dX1_add_9 : decode cX1_add 9 = .ok (.aastore, 1) := by decide +kernel
theorem dX1_add_10 : decode cX1_add 10 = .ok (.aload_n 0, 1) := by decide +kernel
theorem dX1_add_11 : decode cX1_add 11 = .ok (.dup, 1) := by decide +kernel
theorem dX1_add_12 : decode cX1_add 12 = .ok (.getfield 17, 3) := by decide +kernel
theorem dX1_add_15 : decode cX1_add 15 = .ok (.iconst 1, 1) := by decide +kernel
theorem dX1_add_16 : decode cX1_add 16 = .ok (.iadd, 1) := by decide +kernel
theorem dX1_add_17 : decode cX1_add 17 = .ok (.putfield 17, 3) := by decide +kernel
theorem dX1_add_20 : decode cX1_add 20 = .ok (.aload_n 0, 1) := by decide +kernel
theorem dX1_add_21 : decode cX1_add 21 = .ok (.getfield 17, 3) := by decide +kernel
theorem dX1_add_24 : decode cX1_add 24 = .ok (.iconst 1, 1) := by decide +kernel
theorem dX1_add_25 : decode cX1_add 25 = .ok (.isub, 1) := by decide +kernel
theorem dX1_add_26 : decode cX1_add 26 = .ok (.ireturn, 1) := by decide +kernel
theorem dX1_placedCells_0 : decode cX1_placedCells 0 = .ok (.iconst 0, 1) := by decide +kernel
theorem dX1_placedCells_1 : decode cX1_placedCells 1 = .ok (.istore_n 1, 1) := by decide +kernel
theorem dX1_placedCells_2 : decode cX1_placedCells 2 = .ok (.iconst 0, 1) := by decide +kernel
theorem dX1_placedCells_3 : decode cX1_placedCells 3 = .ok (.istore_n 2, 1) := by decide +kernel
theorem dX1_placedCells_4 : decode cX1_placedCells 4 = .ok (.iload_n 2, 1) := by decide +kernel
theorem dX1_placedCells_5 : decode cX1_placedCells 5 = .ok (.aload_n 0, 1) := by decide +kernel
theorem dX1_placedCells_6 : decode cX1_placedCells 6 = .ok (.getfield 17, 3) := by decide +kernel
theorem dX1_placedCells_9 : decode cX1_placedCells 9 = .ok (.if_icmp .ge 40, 3) := by decide +kernel
theorem dX1_placedCells_12 : decode cX1_placedCells 12 = .ok (.aload_n 0, 1) := by decide +kernel
theorem dX1_placedCells_13 : decode cX1_placedCells 13 = .ok (.getfield 11, 3) := by decide +kernel
theorem dX1_placedCells_16 : decode cX1_placedCells 16 = .ok (.iload_n 2, 1) := by decide +kernel
theorem dX1_placedCells_17 : decode cX1_placedCells 17 = .ok (.aaload, 1) := by decide +kernel
theorem dX1_placedCells_18 : decode cX1_placedCells 18 = .ok (.astore 4, 2) := by decide +kernel
theorem dX1_placedCells_20 : decode cX1_placedCells 20 = .ok (.aload 4, 2) := by decide +kernel
theorem dX1_placedCells_22 : decode cX1_placedCells 22 = .ok (.instanceof 36, 3) := by decide +kernel
theorem dX1_placedCells_25 : decode cX1_placedCells 25 = .ok (.ifCond .eq 18, 3) := by decide +kernel
theorem dX1_placedCells_28 : decode cX1_placedCells 28 = .ok (.aload 4, 2) := by decide +kernel
theorem dX1_placedCells_30 : decode cX1_placedCells 30 = .ok (.checkcast 36, 3) := by decide +kernel
theorem dX1_placedCells_33 : decode cX1_placedCells 33 = .ok (.astore_n 3, 1) := by decide +kernel
theorem dX1_placedCells_34 : decode cX1_placedCells 34 = .ok (.iload_n 1, 1) := by decide +kernel
theorem dX1_placedCells_35 : decode cX1_placedCells 35 = .ok (.iconst 1, 1) := by decide +kernel
theorem dX1_placedCells_36 : decode cX1_placedCells 36 = .ok (.aload_n 3, 1) := by decide +kernel
theorem dX1_placedCells_37 : decode cX1_placedCells 37 = .ok (.getfield 38, 3) := by decide +kernel
theorem dX1_placedCells_40 : decode cX1_placedCells 40 = .ok (.ishl, 1) := by decide +kernel
theorem dX1_placedCells_41 : decode cX1_placedCells 41 = .ok (.ior, 1) := by decide +kernel
theorem dX1_placedCells_42 : decode cX1_placedCells 42 = .ok (.istore_n 1, 1) := by decide +kernel
theorem dX1_placedCells_43 : decode cX1_placedCells 43 = .ok (.iinc 2 1, 3) := by decide +kernel
theorem dX1_placedCells_46 : decode cX1_placedCells 46 = .ok (.goto (-42), 3) := by decide +kernel
theorem dX1_placedCells_49 : decode cX1_placedCells 49 = .ok (.iload_n 1, 1) := by decide +kernel
theorem dX1_placedCells_50 : decode cX1_placedCells 50 = .ok (.ireturn, 1) := by decide +kernel
theorem dX1_settle_0 : decode cX1_settle 0 = .ok (.aload_n 0, 1) := by decide +kernel
theorem dX1_settle_1 : decode cX1_settle 1 = .ok (.getfield 21, 3) := by decide +kernel
theorem dX1_settle_4 : decode cX1_settle 4 = .ok (.ifCond .eq 4, 3) := by decide +kernel
theorem dX1_settle_7 : decode cX1_settle 7 = .ok (.return_, 1) := by decide +kernel
theorem dX1_settle_8 : decode cX1_settle 8 = .ok (.aload_n 0, 1) := by decide +kernel
theorem dX1_settle_9 : decode cX1_settle 9 = .ok (.getfield 25, 3) := by decide +kernel
theorem dX1_settle_12 : decode cX1_settle 12 = .ok (.arraylength, 1) := by decide +kernel
theorem dX1_settle_13 : decode cX1_settle 13 = .ok (.ifCond .ne 21, 3) := by decide +kernel
theorem dX1_settle_16 : decode cX1_settle 16 = .ok (.aload_n 0, 1) := by decide +kernel
theorem dX1_settle_17 : decode cX1_settle 17 = .ok (.sipush 512, 3) := by decide +kernel
theorem dX1_settle_20 : decode cX1_settle 20 = .ok (.newarray .long, 2) := by decide +kernel
theorem dX1_settle_22 : decode cX1_settle 22 = .ok (.putfield 25, 3) := by decide +kernel
theorem dX1_settle_25 : decode cX1_settle 25 = .ok (.aload_n 0, 1) := by decide +kernel
theorem dX1_settle_26 : decode cX1_settle 26 = .ok (.sipush 200, 3) := by decide +kernel
theorem dX1_settle_29 : decode cX1_settle 29 = .ok (.newarray .int, 2) := by decide +kernel
theorem dX1_settle_31 : decode cX1_settle 31 = .ok (.putfield 29, 3) := by decide +kernel
theorem dX1_settle_34 : decode cX1_settle 34 = .ok (.aload_n 0, 1) := by decide +kernel
theorem dX1_settle_35 : decode cX1_settle 35 = .ok (.getfield 25, 3) := by decide +kernel
theorem dX1_settle_38 : decode cX1_settle 38 = .ok (.lconst 0, 1) := by decide +kernel
theorem dX1_settle_39 : decode cX1_settle 39 = .ok (.invokestatic 41, 3) := by decide +kernel
theorem dX1_settle_42 : decode cX1_settle 42 = .ok (.aload_n 0, 1) := by decide +kernel
theorem dX1_settle_43 : decode cX1_settle 43 = .ok (.iconst 0, 1) := by decide +kernel
theorem dX1_settle_44 : decode cX1_settle 44 = .ok (.putfield 33, 3) := by decide +kernel
theorem dX1_settle_47 : decode cX1_settle 47 = .ok (.aload_n 0, 1) := by decide +kernel
theorem dX1_settle_48 : decode cX1_settle 48 = .ok (.iconst 0, 1) := by decide +kernel
theorem dX1_settle_49 : decode cX1_settle 49 = .ok (.invokevirtual 47, 3) := by decide +kernel
theorem dX1_settle_52 : decode cX1_settle 52 = .ok (.aload_n 0, 1) := by decide +kernel
theorem dX1_settle_53 : decode cX1_settle 53 = .ok (.iconst 1, 1) := by decide +kernel
theorem dX1_settle_54 : decode cX1_settle 54 = .ok (.invokevirtual 47, 3) := by decide +kernel
theorem dX1_settle_57 : decode cX1_settle 57 = .ok (.iconst 0, 1) := by decide +kernel
theorem dX1_settle_58 : decode cX1_settle 58 = .ok (.istore_n 3, 1) := by decide +kernel
theorem dX1_settle_59 : decode cX1_settle 59 = .ok (.iload_n 3, 1) := by decide +kernel
theorem dX1_settle_60 : decode cX1_settle 60 = .ok (.aload_n 0, 1) := by decide +kernel
theorem dX1_settle_61 : decode cX1_settle 61 = .ok (.getfield 17, 3) := by decide +kernel
theorem dX1_settle_64 : decode cX1_settle 64 = .ok (.if_icmp .ge 41, 3) := by decide +kernel
theorem dX1_settle_67 : decode cX1_settle 67 = .ok (.aload_n 0, 1) := by decide +kernel
theorem dX1_settle_68 : decode cX1_settle 68 = .ok (.getfield 11, 3) := by decide +kernel
theorem dX1_settle_71 : decode cX1_settle 71 = .ok (.iload_n 3, 1) := by decide +kernel
theorem dX1_settle_72 : decode cX1_settle 72 = .ok (.aaload, 1) := by decide +kernel
theorem dX1_settle_73 : decode cX1_settle 73 = .ok (.astore 5, 2) := by decide +kernel
theorem dX1_settle_75 : decode cX1_settle 75 = .ok (.aload 5, 2) := by decide +kernel
theorem dX1_settle_77 : decode cX1_settle 77 = .ok (.instanceof 51, 3) := by decide +kernel
theorem dX1_settle_80 : decode cX1_settle 80 = .ok (.ifCond .eq 19, 3) := by decide +kernel
theorem dX1_settle_83 : decode cX1_settle 83 = .ok (.aload 5, 2) := by decide +kernel
theorem dX1_settle_85 : decode cX1_settle 85 = .ok (.checkcast 51, 3) := by decide +kernel
theorem dX1_settle_88 : decode cX1_settle 88 = .ok (.astore 4, 2) := by decide +kernel
theorem dX1_settle_90 : decode cX1_settle 90 = .ok (.aload_n 0, 1) := by decide +kernel
theorem dX1_settle_91 : decode cX1_settle 91 = .ok (.aload 4, 2) := by decide +kernel
theorem dX1_settle_93 : decode cX1_settle 93 = .ok (.getfield 53, 3) := by decide +kernel
theorem dX1_settle_96 : decode cX1_settle 96 = .ok (.invokevirtual 56, 3) := by decide +kernel
theorem dX1_settle_99 : decode cX1_settle 99 = .ok (.iinc 3 1, 3) := by decide +kernel
theorem dX1_settle_102 : decode cX1_settle 102 = .ok (.goto (-43), 3) := by decide +kernel
theorem dX1_settle_105 : decode cX1_settle 105 = .ok (.iconst 0, 1) := by decide +kernel
theorem dX1_settle_106 : decode cX1_settle 106 = .ok (.istore_n 3, 1) := by decide +kernel
theorem dX1_settle_107 : decode cX1_settle 107 = .ok (.iload_n 3, 1) := by decide +kernel
theorem dX1_settle_108 : decode cX1_settle 108 = .ok (.aload_n 0, 1) := by decide +kernel
theorem dX1_settle_109 : decode cX1_settle 109 = .ok (.getfield 17, 3) := by decide +kernel
theorem dX1_settle_112 : decode cX1_settle 112 = .ok (.if_icmp .ge 46, 3) := by decide +kernel
theorem dX1_settle_115 : decode cX1_settle 115 = .ok (.aload_n 0, 1) := by decide +kernel
theorem dX1_settle_116 : decode cX1_settle 116 = .ok (.getfield 11, 3) := by decide +kernel
theorem dX1_settle_119 : decode cX1_settle 119 = .ok (.iload_n 3, 1) := by decide +kernel
theorem dX1_settle_120 : decode cX1_settle 120 = .ok (.aaload, 1) := by decide +kernel
theorem dX1_settle_121 : decode cX1_settle 121 = .ok (.astore 5, 2) := by decide +kernel
theorem dX1_settle_123 : decode cX1_settle 123 = .ok (.aload 5, 2) := by decide +kernel
theorem dX1_settle_125 : decode cX1_settle 125 = .ok (.instanceof 36, 3) := by decide +kernel
theorem dX1_settle_128 : decode cX1_settle 128 = .ok (.ifCond .eq 24, 3) := by decide +kernel
theorem dX1_settle_131 : decode cX1_settle 131 = .ok (.aload 5, 2) := by decide +kernel
theorem dX1_settle_133 : decode cX1_settle 133 = .ok (.checkcast 36, 3) := by decide +kernel
theorem dX1_settle_136 : decode cX1_settle 136 = .ok (.astore 4, 2) := by decide +kernel
theorem dX1_settle_138 : decode cX1_settle 138 = .ok (.aload_n 0, 1) := by decide +kernel
theorem dX1_settle_139 : decode cX1_settle 139 = .ok (.aload_n 1, 1) := by decide +kernel
theorem dX1_settle_140 : decode cX1_settle 140 = .ok (.aload 4, 2) := by decide +kernel
theorem dX1_settle_142 : decode cX1_settle 142 = .ok (.getfield 38, 3) := by decide +kernel
theorem dX1_settle_145 : decode cX1_settle 145 = .ok (.aaload, 1) := by decide +kernel
theorem dX1_settle_146 : decode cX1_settle 146 = .ok (.aload 4, 2) := by decide +kernel
theorem dX1_settle_148 : decode cX1_settle 148 = .ok (.aload_n 2, 1) := by decide +kernel
theorem dX1_settle_149 : decode cX1_settle 149 = .ok (.invokevirtual 60, 3) := by decide +kernel
theorem dX1_settle_152 : decode cX1_settle 152 = .ok (.iinc 3 1, 3) := by decide +kernel
theorem dX1_settle_155 : decode cX1_settle 155 = .ok (.goto (-48), 3) := by decide +kernel
theorem dX1_settle_158 : decode cX1_settle 158 = .ok (.aload_n 0, 1) := by decide +kernel
theorem dX1_settle_159 : decode cX1_settle 159 = .ok (.iconst 1, 1) := by decide +kernel
theorem dX1_settle_160 : decode cX1_settle 160 = .ok (.putfield 21, 3) := by decide +kernel
theorem dX1_settle_163 : decode cX1_settle 163 = .ok (.return_, 1) := by decide +kernel
theorem dX1_markPatches_0 : decode cX1_markPatches 0 = .ok (.iconst 0, 1) := by decide +kernel
theorem dX1_markPatches_1 : decode cX1_markPatches 1 = .ok (.istore_n 2, 1) := by decide +kernel
theorem dX1_markPatches_2 : decode cX1_markPatches 2 = .ok (.iload_n 2, 1) := by decide +kernel
theorem dX1_markPatches_3 : decode cX1_markPatches 3 = .ok (.aload_n 0, 1) := by decide +kernel
theorem dX1_markPatches_4 : decode cX1_markPatches 4 = .ok (.getfield 17, 3) := by decide +kernel
theorem dX1_markPatches_7 : decode cX1_markPatches 7 = .ok (.if_icmp .ge 56, 3) := by decide +kernel
theorem dX1_markPatches_10 : decode cX1_markPatches 10 = .ok (.aload_n 0, 1) := by decide +kernel
theorem dX1_markPatches_11 : decode cX1_markPatches 11 = .ok (.getfield 11, 3) := by decide +kernel
theorem dX1_markPatches_14 : decode cX1_markPatches 14 = .ok (.iload_n 2, 1) := by decide +kernel
theorem dX1_markPatches_15 : decode cX1_markPatches 15 = .ok (.aaload, 1) := by decide +kernel
theorem dX1_markPatches_16 : decode cX1_markPatches 16 = .ok (.astore 4, 2) := by decide +kernel
theorem dX1_markPatches_18 : decode cX1_markPatches 18 = .ok (.aload 4, 2) := by decide +kernel
theorem dX1_markPatches_20 : decode cX1_markPatches 20 = .ok (.instanceof 64, 3) := by decide +kernel
theorem dX1_markPatches_23 : decode cX1_markPatches 23 = .ok (.ifCond .eq 34, 3) := by decide +kernel
theorem dX1_markPatches_26 : decode cX1_markPatches 26 = .ok (.aload 4, 2) := by decide +kernel
theorem dX1_markPatches_28 : decode cX1_markPatches 28 = .ok (.checkcast 64, 3) := by decide +kernel
theorem dX1_markPatches_31 : decode cX1_markPatches 31 = .ok (.astore_n 3, 1) := by decide +kernel
theorem dX1_markPatches_32 : decode cX1_markPatches 32 = .ok (.iload_n 1, 1) := by decide +kernel
theorem dX1_markPatches_33 : decode cX1_markPatches 33 = .ok (.aload_n 3, 1) := by decide +kernel
theorem dX1_markPatches_34 : decode cX1_markPatches 34 = .ok (.getfield 66, 3) := by decide +kernel
theorem dX1_markPatches_37 : decode cX1_markPatches 37 = .ok (.iconst 1, 1) := by decide +kernel
theorem dX1_markPatches_38 : decode cX1_markPatches 38 = .ok (.if_icmp .ne 7, 3) := by decide +kernel
theorem dX1_markPatches_41 : decode cX1_markPatches 41 = .ok (.iconst 1, 1) := by decide +kernel
theorem dX1_markPatches_42 : decode cX1_markPatches 42 = .ok (.goto 4, 3) := by decide +kernel
theorem dX1_markPatches_45 : decode cX1_markPatches 45 = .ok (.iconst 0, 1) := by decide +kernel
theorem dX1_markPatches_46 : decode cX1_markPatches 46 = .ok (.if_icmp .ne 11, 3) := by decide +kernel
theorem dX1_markPatches_49 : decode cX1_markPatches 49 = .ok (.aload_n 3, 1) := by decide +kernel
theorem dX1_markPatches_50 : decode cX1_markPatches 50 = .ok (.aload_n 0, 1) := by decide +kernel
theorem dX1_markPatches_51 : decode cX1_markPatches 51 = .ok (.getfield 25, 3) := by decide +kernel
theorem dX1_markPatches_54 : decode cX1_markPatches 54 = .ok (.invokevirtual 69, 3) := by decide +kernel
theorem dX1_markPatches_57 : decode cX1_markPatches 57 = .ok (.iinc 2 1, 3) := by decide +kernel
theorem dX1_markPatches_60 : decode cX1_markPatches 60 = .ok (.goto (-58), 3) := by decide +kernel
theorem dX1_markPatches_63 : decode cX1_markPatches 63 = .ok (.return_, 1) := by decide +kernel
theorem dX1_addText_0 : decode cX1_addText 0 = .ok (.aload_n 0, 1) := by decide +kernel
theorem dX1_addText_1 : decode cX1_addText 1 = .ok (.getfield 33, 3) := by decide +kernel
theorem dX1_addText_4 : decode cX1_addText 4 = .ok (.sipush 200, 3) := by decide +kernel
theorem dX1_addText_7 : decode cX1_addText 7 = .ok (.if_icmp .ge 23, 3) := by decide +kernel
theorem dX1_addText_10 : decode cX1_addText 10 = .ok (.aload_n 0, 1) := by decide +kernel
theorem dX1_addText_11 : decode cX1_addText 11 = .ok (.getfield 29, 3) := by decide +kernel
theorem dX1_addText_14 : decode cX1_addText 14 = .ok (.aload_n 0, 1) := by decide +kernel
theorem dX1_addText_15 : decode cX1_addText 15 = .ok (.getfield 33, 3) := by decide +kernel
theorem dX1_addText_18 : decode cX1_addText 18 = .ok (.iload_n 1, 1) := by decide +kernel
theorem dX1_addText_19 : decode cX1_addText 19 = .ok (.iastore, 1) := by decide +kernel
theorem dX1_addText_20 : decode cX1_addText 20 = .ok (.aload_n 0, 1) := by decide +kernel
theorem dX1_addText_21 : decode cX1_addText 21 = .ok (.dup, 1) := by decide +kernel
theorem dX1_addText_22 : decode cX1_addText 22 = .ok (.getfield 33, 3) := by decide +kernel
theorem dX1_addText_25 : decode cX1_addText 25 = .ok (.iconst 1, 1) := by decide +kernel
theorem dX1_addText_26 : decode cX1_addText 26 = .ok (.iadd, 1) := by decide +kernel
theorem dX1_addText_27 : decode cX1_addText 27 = .ok (.putfield 33, 3) := by decide +kernel
theorem dX1_addText_30 : decode cX1_addText 30 = .ok (.return_, 1) := by decide +kernel
theorem dX1_hasLayer_0 : decode cX1_hasLayer 0 = .ok (.iconst 0, 1) := by decide +kernel
theorem dX1_hasLayer_1 : decode cX1_hasLayer 1 = .ok (.istore_n 2, 1) := by decide +kernel
theorem dX1_hasLayer_2 : decode cX1_hasLayer 2 = .ok (.iload_n 2, 1) := by decide +kernel
theorem dX1_hasLayer_3 : decode cX1_hasLayer 3 = .ok (.bipush 64, 2) := by decide +kernel
theorem dX1_hasLayer_5 : decode cX1_hasLayer 5 = .ok (.if_icmp .ge 27, 3) := by decide +kernel
theorem dX1_hasLayer_8 : decode cX1_hasLayer 8 = .ok (.aload_n 0, 1) := by decide +kernel
theorem dX1_hasLayer_9 : decode cX1_hasLayer 9 = .ok (.getfield 25, 3) := by decide +kernel
theorem dX1_hasLayer_12 : decode cX1_hasLayer 12 = .ok (.bipush 64, 2) := by decide +kernel
theorem dX1_hasLayer_14 : decode cX1_hasLayer 14 = .ok (.iload_n 1, 1) := by decide +kernel
theorem dX1_hasLayer_15 : decode cX1_hasLayer 15 = .ok (.imul, 1) := by decide +kernel
theorem dX1_hasLayer_16 : decode cX1_hasLayer 16 = .ok (.iload_n 2, 1) := by decide +kernel
theorem dX1_hasLayer_17 : decode cX1_hasLayer 17 = .ok (.iadd, 1) := by decide +kernel
theorem dX1_hasLayer_18 : decode cX1_hasLayer 18 = .ok (.laload, 1) := by decide +kernel
theorem dX1_hasLayer_19 : decode cX1_hasLayer 19 = .ok (.lconst 0, 1) := by decide +kernel
theorem dX1_hasLayer_20 : decode cX1_hasLayer 20 = .ok (.lcmp, 1) := by decide +kernel
theorem dX1_hasLayer_21 : decode cX1_hasLayer 21 = .ok (.ifCond .eq 5, 3) := by decide +kernel
theorem dX1_hasLayer_24 : decode cX1_hasLayer 24 = .ok (.iconst 1, 1) := by decide +kernel
theorem dX1_hasLayer_25 : decode cX1_hasLayer 25 = .ok (.ireturn, 1) := by decide +kernel
theorem dX1_hasLayer_26 : decode cX1_hasLayer 26 = .ok (.iinc 2 1, 3) := by decide +kernel
theorem dX1_hasLayer_29 : decode cX1_hasLayer 29 = .ok (.goto (-27), 3) := by decide +kernel
theorem dX1_hasLayer_32 : decode cX1_hasLayer 32 = .ok (.iconst 0, 1) := by decide +kernel
theorem dX1_hasLayer_33 : decode cX1_hasLayer 33 = .ok (.ireturn, 1) := by decide +kernel
theorem dX1_bring_0 : decode cX1_bring 0 = .ok (.iconst 0, 1) := by decide +kernel
theorem dX1_bring_1 : decode cX1_bring 1 = .ok (.istore 4, 2) := by decide +kernel
theorem dX1_bring_3 : decode cX1_bring 3 = .ok (.iload 4, 2) := by decide +kernel
theorem dX1_bring_5 : decode cX1_bring 5 = .ok (.bipush 8, 2) := by decide +kernel
theorem dX1_bring_7 : decode cX1_bring 7 = .ok (.if_icmp .ge 47, 3) := by decide +kernel
theorem dX1_bring_10 : decode cX1_bring 10 = .ok (.aload_n 1, 1) := by decide +kernel
theorem dX1_bring_11 : decode cX1_bring 11 = .ok (.iload 4, 2) := by decide +kernel
theorem dX1_bring_13 : decode cX1_bring 13 = .ok (.invokevirtual 73, 3) := by decide +kernel
theorem dX1_bring_16 : decode cX1_bring 16 = .ok (.ifCond .eq 32, 3) := by decide +kernel
theorem dX1_bring_19 : decode cX1_bring 19 = .ok (.aload_n 1, 1) := by decide +kernel
theorem dX1_bring_20 : decode cX1_bring 20 = .ok (.getfield 25, 3) := by decide +kernel
theorem dX1_bring_23 : decode cX1_bring 23 = .ok (.bipush 64, 2) := by decide +kernel
theorem dX1_bring_25 : decode cX1_bring 25 = .ok (.iload 4, 2) := by decide +kernel
theorem dX1_bring_27 : decode cX1_bring 27 = .ok (.imul, 1) := by decide +kernel
theorem dX1_bring_28 : decode cX1_bring 28 = .ok (.aload_n 3, 1) := by decide +kernel
theorem dX1_bring_29 : decode cX1_bring 29 = .ok (.iconst 0, 1) := by decide +kernel
theorem dX1_bring_30 : decode cX1_bring 30 = .ok (.bipush 64, 2) := by decide +kernel
theorem dX1_bring_32 : decode cX1_bring 32 = .ok (.invokestatic 77, 3) := by decide +kernel
theorem dX1_bring_35 : decode cX1_bring 35 = .ok (.aload_n 2, 1) := by decide +kernel
theorem dX1_bring_36 : decode cX1_bring 36 = .ok (.aload_n 3, 1) := by decide +kernel
theorem dX1_bring_37 : decode cX1_bring 37 = .ok (.invokevirtual 83, 3) := by decide +kernel
theorem dX1_bring_40 : decode cX1_bring 40 = .ok (.aload_n 0, 1) := by decide +kernel
theorem dX1_bring_41 : decode cX1_bring 41 = .ok (.aload_n 3, 1) := by decide +kernel
theorem dX1_bring_42 : decode cX1_bring 42 = .ok (.iload 4, 2) := by decide +kernel
theorem dX1_bring_44 : decode cX1_bring 44 = .ok (.aload_n 2, 1) := by decide +kernel
theorem dX1_bring_45 : decode cX1_bring 45 = .ok (.invokevirtual 86, 3) := by decide +kernel
theorem dX1_bring_48 : decode cX1_bring 48 = .ok (.iinc 4 1, 3) := by decide +kernel
theorem dX1_bring_51 : decode cX1_bring 51 = .ok (.goto (-48), 3) := by decide +kernel
theorem dX1_bring_54 : decode cX1_bring 54 = .ok (.iconst 0, 1) := by decide +kernel
theorem dX1_bring_55 : decode cX1_bring 55 = .ok (.istore 4, 2) := by decide +kernel
theorem dX1_bring_57 : decode cX1_bring 57 = .ok (.iload 4, 2) := by decide +kernel
theorem dX1_bring_59 : decode cX1_bring 59 = .ok (.aload_n 2, 1) := by decide +kernel
theorem dX1_bring_60 : decode cX1_bring 60 = .ok (.getfield 90, 3) := by decide +kernel
theorem dX1_bring_63 : decode cX1_bring 63 = .ok (.if_icmp .ge 37, 3) := by decide +kernel
theorem dX1_bring_66 : decode cX1_bring 66 = .ok (.iconst 0, 1) := by decide +kernel
theorem dX1_bring_67 : decode cX1_bring 67 = .ok (.istore 5, 2) := by decide +kernel
theorem dX1_bring_69 : decode cX1_bring 69 = .ok (.iload 5, 2) := by decide +kernel
theorem dX1_bring_71 : decode cX1_bring 71 = .ok (.aload_n 2, 1) := by decide +kernel
theorem dX1_bring_72 : decode cX1_bring 72 = .ok (.getfield 93, 3) := by decide +kernel
theorem dX1_bring_75 : decode cX1_bring 75 = .ok (.if_icmp .ge 19, 3) := by decide +kernel
theorem dX1_bring_78 : decode cX1_bring 78 = .ok (.aload_n 0, 1) := by decide +kernel
theorem dX1_bring_79 : decode cX1_bring 79 = .ok (.aload_n 1, 1) := by decide +kernel
theorem dX1_bring_80 : decode cX1_bring 80 = .ok (.aload_n 2, 1) := by decide +kernel
theorem dX1_bring_81 : decode cX1_bring 81 = .ok (.iload 5, 2) := by decide +kernel
theorem dX1_bring_83 : decode cX1_bring 83 = .ok (.iload 4, 2) := by decide +kernel
theorem dX1_bring_85 : decode cX1_bring 85 = .ok (.invokevirtual 96, 3) := by decide +kernel
theorem dX1_bring_88 : decode cX1_bring 88 = .ok (.iinc 5 1, 3) := by decide +kernel
theorem dX1_bring_91 : decode cX1_bring 91 = .ok (.goto (-22), 3) := by decide +kernel
theorem dX1_bring_94 : decode cX1_bring 94 = .ok (.iinc 4 1, 3) := by decide +kernel
theorem dX1_bring_97 : decode cX1_bring 97 = .ok (.goto (-40), 3) := by decide +kernel
theorem dX1_bring_100 : decode cX1_bring 100 = .ok (.return_, 1) := by decide +kernel
theorem dX1_bringMap_0 : decode cX1_bringMap 0 = .ok (.aload_n 3, 1) := by decide +kernel
theorem dX1_bringMap_1 : decode cX1_bringMap 1 = .ok (.iconst 0, 1) := by decide +kernel
theorem dX1_bringMap_2 : decode cX1_bringMap 2 = .ok (.iconst 0, 1) := by decide +kernel
theorem dX1_bringMap_3 : decode cX1_bringMap 3 = .ok (.invokevirtual 100, 3) := by decide +kernel
theorem dX1_bringMap_6 : decode cX1_bringMap 6 = .ok (.aload_n 3, 1) := by decide +kernel
theorem dX1_bringMap_7 : decode cX1_bringMap 7 = .ok (.bipush 63, 2) := by decide +kernel
theorem dX1_bringMap_9 : decode cX1_bringMap 9 = .ok (.bipush 63, 2) := by decide +kernel
theorem dX1_bringMap_11 : decode cX1_bringMap 11 = .ok (.invokevirtual 100, 3) := by decide +kernel
theorem dX1_bringMap_14 : decode cX1_bringMap 14 = .ok (.invokestatic 104, 3) := by decide +kernel
theorem dX1_bringMap_17 : decode cX1_bringMap 17 = .ok (.istore 4, 2) := by decide +kernel
theorem dX1_bringMap_19 : decode cX1_bringMap 19 = .ok (.aload_n 3, 1) := by decide +kernel
theorem dX1_bringMap_20 : decode cX1_bringMap 20 = .ok (.iconst 0, 1) := by decide +kernel
theorem dX1_bringMap_21 : decode cX1_bringMap 21 = .ok (.iconst 0, 1) := by decide +kernel
theorem dX1_bringMap_22 : decode cX1_bringMap 22 = .ok (.invokevirtual 109, 3) := by decide +kernel
theorem dX1_bringMap_25 : decode cX1_bringMap 25 = .ok (.aload_n 3, 1) := by decide +kernel
theorem dX1_bringMap_26 : decode cX1_bringMap 26 = .ok (.bipush 63, 2) := by decide +kernel
theorem dX1_bringMap_28 : decode cX1_bringMap 28 = .ok (.bipush 63, 2) := by decide +kernel
theorem dX1_bringMap_30 : decode cX1_bringMap 30 = .ok (.invokevirtual 109, 3) := by decide +kernel
theorem dX1_bringMap_33 : decode cX1_bringMap 33 = .ok (.invokestatic 104, 3) := by decide +kernel
theorem dX1_bringMap_36 : decode cX1_bringMap 36 = .ok (.istore 5, 2) := by decide +kernel
theorem dX1_bringMap_38 : decode cX1_bringMap 38 = .ok (.iconst 0, 1) := by decide +kernel
theorem dX1_bringMap_39 : decode cX1_bringMap 39 = .ok (.istore 6, 2) := by decide +kernel
theorem dX1_bringMap_41 : decode cX1_bringMap 41 = .ok (.iload 6, 2) := by decide +kernel
theorem dX1_bringMap_43 : decode cX1_bringMap 43 = .ok (.aload_n 3, 1) := by decide +kernel
theorem dX1_bringMap_44 : decode cX1_bringMap 44 = .ok (.getfield 90, 3) := by decide +kernel
theorem dX1_bringMap_47 : decode cX1_bringMap 47 = .ok (.if_icmp .ge 51, 3) := by decide +kernel
theorem dX1_bringMap_50 : decode cX1_bringMap 50 = .ok (.iconst 0, 1) := by decide +kernel
theorem dX1_bringMap_51 : decode cX1_bringMap 51 = .ok (.istore 7, 2) := by decide +kernel
theorem dX1_bringMap_53 : decode cX1_bringMap 53 = .ok (.iload 7, 2) := by decide +kernel
theorem dX1_bringMap_55 : decode cX1_bringMap 55 = .ok (.aload_n 3, 1) := by decide +kernel
theorem dX1_bringMap_56 : decode cX1_bringMap 56 = .ok (.getfield 93, 3) := by decide +kernel
theorem dX1_bringMap_59 : decode cX1_bringMap 59 = .ok (.if_icmp .ge 33, 3) := by decide +kernel
theorem dX1_bringMap_62 : decode cX1_bringMap 62 = .ok (.aload_n 0, 1) := by decide +kernel
theorem dX1_bringMap_63 : decode cX1_bringMap 63 = .ok (.aload_n 1, 1) := by decide +kernel
theorem dX1_bringMap_64 : decode cX1_bringMap 64 = .ok (.iload_n 2, 1) := by decide +kernel
theorem dX1_bringMap_65 : decode cX1_bringMap 65 = .ok (.iload 4, 2) := by decide +kernel
theorem dX1_bringMap_67 : decode cX1_bringMap 67 = .ok (.aload_n 3, 1) := by decide +kernel
theorem dX1_bringMap_68 : decode cX1_bringMap 68 = .ok (.iload 7, 2) := by decide +kernel
theorem dX1_bringMap_70 : decode cX1_bringMap 70 = .ok (.invokevirtual 112, 3) := by decide +kernel
theorem dX1_bringMap_73 : decode cX1_bringMap 73 = .ok (.iadd, 1) := by decide +kernel
theorem dX1_bringMap_74 : decode cX1_bringMap 74 = .ok (.iload 5, 2) := by decide +kernel
theorem dX1_bringMap_76 : decode cX1_bringMap 76 = .ok (.aload_n 3, 1) := by decide +kernel
theorem dX1_bringMap_77 : decode cX1_bringMap 77 = .ok (.iload 6, 2) := by decide +kernel
theorem dX1_bringMap_79 : decode cX1_bringMap 79 = .ok (.invokevirtual 116, 3) := by decide +kernel
theorem dX1_bringMap_82 : decode cX1_bringMap 82 = .ok (.iadd, 1) := by decide +kernel
theorem dX1_bringMap_83 : decode cX1_bringMap 83 = .ok (.invokevirtual 119, 3) := by decide +kernel
theorem dX1_bringMap_86 : decode cX1_bringMap 86 = .ok (.iinc 7 1, 3) := by decide +kernel
theorem dX1_bringMap_89 : decode cX1_bringMap 89 = .ok (.goto (-36), 3) := by decide +kernel
theorem dX1_bringMap_92 : decode cX1_bringMap 92 = .ok (.iinc 6 1, 3) := by decide +kernel
theorem dX1_bringMap_95 : decode cX1_bringMap 95 = .ok (.goto (-54), 3) := by decide +kernel
theorem dX1_bringMap_98 : decode cX1_bringMap 98 = .ok (.return_, 1) := by decide +kernel
theorem dX1_addMap_0 : decode cX1_addMap 0 = .ok (.iconst 0, 1) := by decide +kernel
theorem dX1_addMap_1 : decode cX1_addMap 1 = .ok (.iload 4, 2) := by decide +kernel
theorem dX1_addMap_3 : decode cX1_addMap 3 = .ok (.ineg, 1) := by decide +kernel
theorem dX1_addMap_4 : decode cX1_addMap 4 = .ok (.invokestatic 123, 3) := by decide +kernel
theorem dX1_addMap_7 : decode cX1_addMap 7 = .ok (.istore 5, 2) := by decide +kernel
theorem dX1_addMap_9 : decode cX1_addMap 9 = .ok (.iload 5, 2) := by decide +kernel
theorem dX1_addMap_11 : decode cX1_addMap 11 = .ok (.bipush 64, 2) := by decide +kernel
theorem dX1_addMap_13 : decode cX1_addMap 13 = .ok (.bipush 64, 2) := by decide +kernel
theorem dX1_addMap_15 : decode cX1_addMap 15 = .ok (.iload 4, 2) := by decide +kernel
theorem dX1_addMap_17 : decode cX1_addMap 17 = .ok (.isub, 1) := by decide +kernel
theorem dX1_addMap_18 : decode cX1_addMap 18 = .ok (.invokestatic 104, 3) := by decide +kernel
theorem dX1_addMap_21 : decode cX1_addMap 21 = .ok (.if_icmp .ge 35, 3) := by decide +kernel
theorem dX1_addMap_24 : decode cX1_addMap 24 = .ok (.aload_n 0, 1) := by decide +kernel
theorem dX1_addMap_25 : decode cX1_addMap 25 = .ok (.getfield 25, 3) := by decide +kernel
theorem dX1_addMap_28 : decode cX1_addMap 28 = .ok (.bipush 64, 2) := by decide +kernel
theorem dX1_addMap_30 : decode cX1_addMap 30 = .ok (.iload_n 2, 1) := by decide +kernel
theorem dX1_addMap_31 : decode cX1_addMap 31 = .ok (.imul, 1) := by decide +kernel
theorem dX1_addMap_32 : decode cX1_addMap 32 = .ok (.iload 4, 2) := by decide +kernel
theorem dX1_addMap_34 : decode cX1_addMap 34 = .ok (.iadd, 1) := by decide +kernel
theorem dX1_addMap_35 : decode cX1_addMap 35 = .ok (.iload 5, 2) := by decide +kernel
theorem dX1_addMap_37 : decode cX1_addMap 37 = .ok (.iadd, 1) := by decide +kernel
theorem dX1_addMap_38 : decode cX1_addMap 38 = .ok (.dup2, 1) := by decide +kernel
theorem dX1_addMap_39 : decode cX1_addMap 39 = .ok (.laload, 1) := by decide +kernel
theorem dX1_addMap_40 : decode cX1_addMap 40 = .ok (.aload_n 1, 1) := by decide +kernel
theorem dX1_addMap_41 : decode cX1_addMap 41 = .ok (.iload 5, 2) := by decide +kernel
theorem dX1_addMap_43 : decode cX1_addMap 43 = .ok (.laload, 1) := by decide +kernel
theorem dX1_addMap_44 : decode cX1_addMap 44 = .ok (.iload_n 3, 1) := by decide +kernel
theorem dX1_addMap_45 : decode cX1_addMap 45 = .ok (.invokestatic 126, 3) := by decide +kernel
theorem dX1_addMap_48 : decode cX1_addMap 48 = .ok (.lor, 1) := by decide +kernel
theorem dX1_addMap_49 : decode cX1_addMap 49 = .ok (.lastore, 1) := by decide +kernel
theorem dX1_addMap_50 : decode cX1_addMap 50 = .ok (.iinc 5 1, 3) := by decide +kernel
theorem dX1_addMap_53 : decode cX1_addMap 53 = .ok (.goto (-44), 3) := by decide +kernel
theorem dX1_addMap_56 : decode cX1_addMap 56 = .ok (.return_, 1) := by decide +kernel
theorem dX1_bringTexts_0 : decode cX1_bringTexts 0 = .ok (.iconst 0, 1) := by decide +kernel
theorem dX1_bringTexts_1 : decode cX1_bringTexts 1 = .ok (.istore 5, 2) := by decide +kernel
theorem dX1_bringTexts_3 : decode cX1_bringTexts 3 = .ok (.iload 5, 2) := by decide +kernel
theorem dX1_bringTexts_5 : decode cX1_bringTexts 5 = .ok (.aload_n 1, 1) := by decide +kernel
theorem dX1_bringTexts_6 : decode cX1_bringTexts 6 = .ok (.getfield 33, 3) := by decide +kernel
theorem dX1_bringTexts_9 : decode cX1_bringTexts 9 = .ok (.if_icmp .ge 115, 3) := by decide +kernel
theorem dX1_bringTexts_12 : decode cX1_bringTexts 12 = .ok (.aload_n 1, 1) := by decide +kernel
theorem dX1_bringTexts_13 : decode cX1_bringTexts 13 = .ok (.getfield 29, 3) := by decide +kernel
theorem dX1_bringTexts_16 : decode cX1_bringTexts 16 = .ok (.iload 5, 2) := by decide +kernel
theorem dX1_bringTexts_18 : decode cX1_bringTexts 18 = .ok (.iaload, 1) := by decide +kernel
theorem dX1_bringTexts_19 : decode cX1_bringTexts 19 = .ok (.istore 6, 2) := by decide +kernel
theorem dX1_bringTexts_21 : decode cX1_bringTexts 21 = .ok (.iload 6, 2) := by decide +kernel
theorem dX1_bringTexts_23 : decode cX1_bringTexts 23 = .ok (.invokestatic 132, 3) := by decide +kernel
theorem dX1_bringTexts_26 : decode cX1_bringTexts 26 = .ok (.istore 7, 2) := by decide +kernel
theorem dX1_bringTexts_28 : decode cX1_bringTexts 28 = .ok (.aload_n 2, 1) := by decide +kernel
theorem dX1_bringTexts_29 : decode cX1_bringTexts 29 = .ok (.iload 7, 2) := by decide +kernel
theorem dX1_bringTexts_31 : decode cX1_bringTexts 31 = .ok (.bipush 64, 2) := by decide +kernel
theorem dX1_bringTexts_33 : decode cX1_bringTexts 33 = .ok (.irem, 1) := by decide +kernel
theorem dX1_bringTexts_34 : decode cX1_bringTexts 34 = .ok (.iload 7, 2) := by decide +kernel
theorem dX1_bringTexts_36 : decode cX1_bringTexts 36 = .ok (.bipush 64, 2) := by decide +kernel
theorem dX1_bringTexts_38 : decode cX1_bringTexts 38 = .ok (.idiv, 1) := by decide +kernel
theorem dX1_bringTexts_39 : decode cX1_bringTexts 39 = .ok (.invokevirtual 100, 3) := by decide +kernel
theorem dX1_bringTexts_42 : decode cX1_bringTexts 42 = .ok (.aload_n 2, 1) := by decide +kernel
theorem dX1_bringTexts_43 : decode cX1_bringTexts 43 = .ok (.iload_n 3, 1) := by decide +kernel
theorem dX1_bringTexts_44 : decode cX1_bringTexts 44 = .ok (.invokevirtual 112, 3) := by decide +kernel
theorem dX1_bringTexts_47 : decode cX1_bringTexts 47 = .ok (.iadd, 1) := by decide +kernel
theorem dX1_bringTexts_48 : decode cX1_bringTexts 48 = .ok (.istore 8, 2) := by decide +kernel
theorem dX1_bringTexts_50 : decode cX1_bringTexts 50 = .ok (.aload_n 2, 1) := by decide +kernel
theorem dX1_bringTexts_51 : decode cX1_bringTexts 51 = .ok (.iload 7, 2) := by decide +kernel
theorem dX1_bringTexts_53 : decode cX1_bringTexts 53 = .ok (.bipush 64, 2) := by decide +kernel
theorem dX1_bringTexts_55 : decode cX1_bringTexts 55 = .ok (.irem, 1) := by decide +kernel
theorem dX1_bringTexts_56 : decode cX1_bringTexts 56 = .ok (.iload 7, 2) := by decide +kernel
theorem dX1_bringTexts_58 : decode cX1_bringTexts 58 = .ok (.bipush 64, 2) := by decide +kernel
theorem dX1_bringTexts_60 : decode cX1_bringTexts 60 = .ok (.idiv, 1) := by decide +kernel
theorem dX1_bringTexts_61 : decode cX1_bringTexts 61 = .ok (.invokevirtual 109, 3) := by decide +kernel
theorem dX1_bringTexts_64 : decode cX1_bringTexts 64 = .ok (.aload_n 2, 1) := by decide +kernel
theorem dX1_bringTexts_65 : decode cX1_bringTexts 65 = .ok (.iload 4, 2) := by decide +kernel
theorem dX1_bringTexts_67 : decode cX1_bringTexts 67 = .ok (.invokevirtual 116, 3) := by decide +kernel
theorem dX1_bringTexts_70 : decode cX1_bringTexts 70 = .ok (.iadd, 1) := by decide +kernel
theorem dX1_bringTexts_71 : decode cX1_bringTexts 71 = .ok (.istore 9, 2) := by decide +kernel
theorem dX1_bringTexts_73 : decode cX1_bringTexts 73 = .ok (.iload 8, 2) := by decide +kernel
theorem dX1_bringTexts_75 : decode cX1_bringTexts 75 = .ok (.bipush 64, 2) := by decide +kernel
theorem dX1_bringTexts_77 : decode cX1_bringTexts 77 = .ok (.invokestatic 135, 3) := by decide +kernel
theorem dX1_bringTexts_80 : decode cX1_bringTexts 80 = .ok (.ifCond .ne 38, 3) := by decide +kernel
theorem dX1_bringTexts_83 : decode cX1_bringTexts 83 = .ok (.iload 9, 2) := by decide +kernel
theorem dX1_bringTexts_85 : decode cX1_bringTexts 85 = .ok (.bipush 64, 2) := by decide +kernel
theorem dX1_bringTexts_87 : decode cX1_bringTexts 87 = .ok (.invokestatic 135, 3) := by decide +kernel
theorem dX1_bringTexts_90 : decode cX1_bringTexts 90 = .ok (.ifCond .ne 28, 3) := by decide +kernel
theorem dX1_bringTexts_93 : decode cX1_bringTexts 93 = .ok (.aload_n 0, 1) := by decide +kernel
theorem dX1_bringTexts_94 : decode cX1_bringTexts 94 = .ok (.iload 6, 2) := by decide +kernel
theorem dX1_bringTexts_96 : decode cX1_bringTexts 96 = .ok (.invokestatic 139, 3) := by decide +kernel
theorem dX1_bringTexts_99 : decode cX1_bringTexts 99 = .ok (.bipush 64, 2) := by decide +kernel
theorem dX1_bringTexts_101 : decode cX1_bringTexts 101 = .ok (.iload 9, 2) := by decide +kernel
theorem dX1_bringTexts_103 : decode cX1_bringTexts 103 = .ok (.imul, 1) := by decide +kernel
theorem dX1_bringTexts_104 : decode cX1_bringTexts 104 = .ok (.iload 8, 2) := by decide +kernel
theorem dX1_bringTexts_106 : decode cX1_bringTexts 106 = .ok (.iadd, 1) := by decide +kernel
theorem dX1_bringTexts_107 : decode cX1_bringTexts 107 = .ok (.iload 6, 2) := by decide +kernel
theorem dX1_bringTexts_109 : decode cX1_bringTexts 109 = .ok (.invokestatic 142, 3) := by decide +kernel
theorem dX1_bringTexts_112 : decode cX1_bringTexts 112 = .ok (.invokestatic 145, 3) := by decide +kernel
theorem dX1_bringTexts_115 : decode cX1_bringTexts 115 = .ok (.invokevirtual 56, 3) := by decide +kernel
theorem dX1_bringTexts_118 : decode cX1_bringTexts 118 = .ok (.iinc 5 1, 3) := by decide +kernel
theorem dX1_bringTexts_121 : decode cX1_bringTexts 121 = .ok (.goto (-118), 3) := by decide +kernel
theorem dX1_bringTexts_124 : decode cX1_bringTexts 124 = .ok (.return_, 1) := by decide +kernel
theorem dX2_init_0 : decode cX2_init 0 = .ok (.aload_n 0, 1) := by decide +kernel
theorem dX2_init_1 : decode cX2_init 1 = .ok (.invokespecial 3, 3) := by decide +kernel
theorem dX2_init_4 : decode cX2_init 4 = .ok (.aload_n 0, 1) := by decide +kernel
theorem dX2_init_5 : decode cX2_init 5 = .ok (.iconst 0, 1) := by decide +kernel
theorem dX2_init_6 : decode cX2_init 6 = .ok (.putfield 9, 3) := by decide +kernel
theorem dX2_init_9 : decode cX2_init 9 = .ok (.aload_n 0, 1) := by decide +kernel
theorem dX2_init_10 : decode cX2_init 10 = .ok (.iconst 0, 1) := by decide +kernel
theorem dX2_init_11 : decode cX2_init 11 = .ok (.putfield 15, 3) := by decide +kernel
theorem dX2_init_14 : decode cX2_init 14 = .ok (.aload_n 0, 1) := by decide +kernel
theorem dX2_init_15 : decode cX2_init 15 = .ok (.iconst 0, 1) := by decide +kernel
theorem dX2_init_16 : decode cX2_init 16 = .ok (.putfield 18, 3) := by decide +kernel
theorem dX2_init_19 : decode cX2_init 19 = .ok (.aload_n 0, 1) := by decide +kernel
theorem dX2_init_20 : decode cX2_init 20 = .ok (.iconst 0, 1) := by decide +kernel
theorem dX2_init_21 : decode cX2_init 21 = .ok (.putfield 22, 3) := by decide +kernel
theorem dX2_init_24 : decode cX2_init 24 = .ok (.aload_n 0, 1) := by decide +kernel
theorem dX2_init_25 : decode cX2_init 25 = .ok (.new 25, 3) := by decide +kernel
theorem dX2_init_28 : decode cX2_init 28 = .ok (.dup, 1) := by decide +kernel
theorem dX2_init_29 : decode cX2_init 29 = .ok (.bipush 16, 2) := by decide +kernel
theorem dX2_init_31 : decode cX2_init 31 = .ok (.invokespecial 27, 3) := by decide +kernel
theorem dX2_init_34 : decode cX2_init 34 = .ok (.putfield 30, 3) := by decide +kernel
theorem dX2_init_37 : decode cX2_init 37 = .ok (.aload_n 0, 1) := by decide +kernel
theorem dX2_init_38 : decode cX2_init 38 = .ok (.bipush 24, 2) := by decide +kernel
theorem dX2_init_40 : decode cX2_init 40 = .ok (.newarray .int, 2) := by decide +kernel
theorem dX2_init_42 : decode cX2_init 42 = .ok (.putfield 34, 3) := by decide +kernel
theorem dX2_init_45 : decode cX2_init 45 = .ok (.aload_n 0, 1) := by decide +kernel
theorem dX2_init_46 : decode cX2_init 46 = .ok (.iconst (-1), 1) := by decide +kernel
theorem dX2_init_47 : decode cX2_init 47 = .ok (.putfield 38, 3) := by decide +kernel
theorem dX2_init_50 : decode cX2_init 50 = .ok (.aload_n 0, 1) := by decide +kernel
theorem dX2_init_51 : decode cX2_init 51 = .ok (.iconst (-1), 1) := by decide +kernel
theorem dX2_init_52 : decode cX2_init 52 = .ok (.putfield 41, 3) := by decide +kernel
theorem dX2_init_55 : decode cX2_init 55 = .ok (.aload_n 0, 1) := by decide +kernel
theorem dX2_init_56 : decode cX2_init 56 = .ok (.iconst (-1), 1) := by decide +kernel
theorem dX2_init_57 : decode cX2_init 57 = .ok (.putfield 44, 3) := by decide +kernel
theorem dX2_init_60 : decode cX2_init 60 = .ok (.aload_n 0, 1) := by decide +kernel
theorem dX2_init_61 : decode cX2_init 61 = .ok (.iconst 0, 1) := by decide +kernel
theorem dX2_init_62 : decode cX2_init 62 = .ok (.putfield 47, 3) := by decide +kernel
theorem dX2_init_65 : decode cX2_init 65 = .ok (.aload_n 0, 1) := by decide +kernel
theorem dX2_init_66 : decode cX2_init 66 = .ok (.new 25, 3) := by decide +kernel
theorem dX2_init_69 : decode cX2_init 69 = .ok (.dup, 1) := by decide +kernel
theorem dX2_init_70 : decode cX2_init 70 = .ok (.iconst 1, 1) := by decide +kernel
theorem dX2_init_71 : decode cX2_init 71 = .ok (.invokespecial 27, 3) := by decide +kernel
theorem dX2_init_74 : decode cX2_init 74 = .ok (.putfield 50, 3) := by decide +kernel
theorem dX2_init_77 : decode cX2_init 77 = .ok (.aload_n 0, 1) := by decide +kernel
theorem dX2_init_78 : decode cX2_init 78 = .ok (.iconst 0, 1) := by decide +kernel
theorem dX2_init_79 : decode cX2_init 79 = .ok (.newarray .int, 2) := by decide +kernel
theorem dX2_init_81 : decode cX2_init 81 = .ok (.putfield 53, 3) := by decide +kernel
theorem dX2_init_84 : decode cX2_init 84 = .ok (.aload_n 0, 1) := by decide +kernel
theorem dX2_init_85 : decode cX2_init 85 = .ok (.iconst 0, 1) := by decide +kernel
theorem dX2_init_86 : decode cX2_init 86 = .ok (.newarray .int, 2) := by decide +kernel
theorem dX2_init_88 : decode cX2_init 88 = .ok (.putfield 56, 3) := by decide +kernel
theorem dX2_init_91 : decode cX2_init 91 = .ok (.aload_n 0, 1) := by decide +kernel
theorem dX2_init_92 : decode cX2_init 92 = .ok (.iconst 0, 1) := by decide +kernel
theorem dX2_init_93 : decode cX2_init 93 = .ok (.newarray .int, 2) := by decide +kernel
theorem dX2_init_95 : decode cX2_init 95 = .ok (.putfield 59, 3) := by decide +kernel
theorem dX2_init_98 : decode cX2_init 98 = .ok (.return_, 1) := by decide +kernel
theorem dX2_addJoint_0 : decode cX2_addJoint 0 = .ok (.aload_n 0, 1) := by decide +kernel
theorem dX2_addJoint_1 : decode cX2_addJoint 1 = .ok (.getfield 34, 3) := by decide +kernel
theorem dX2_addJoint_4 : decode cX2_addJoint 4 = .ok (.iconst 3, 1) := by decide +kernel
theorem dX2_addJoint_5 : decode cX2_addJoint 5 = .ok (.aload_n 0, 1) := by decide +kernel
theorem dX2_addJoint_6 : decode cX2_addJoint 6 = .ok (.getfield 15, 3) := by decide +kernel
theorem dX2_addJoint_9 : decode cX2_addJoint 9 = .ok (.imul, 1) := by decide +kernel
theorem dX2_addJoint_10 : decode cX2_addJoint 10 = .ok (.iload_n 1, 1) := by decide +kernel
theorem dX2_addJoint_11 : decode cX2_addJoint 11 = .ok (.iastore, 1) := by decide +kernel
theorem dX2_addJoint_12 : decode cX2_addJoint 12 = .ok (.aload_n 0, 1) := by decide +kernel
theorem dX2_addJoint_13 : decode cX2_addJoint 13 = .ok (.getfield 34, 3) := by decide +kernel
theorem dX2_addJoint_16 : decode cX2_addJoint 16 = .ok (.iconst 3, 1) := by decide +kernel
theorem dX2_addJoint_17 : decode cX2_addJoint 17 = .ok (.aload_n 0, 1) := by decide +kernel
theorem dX2_addJoint_18 : decode cX2_addJoint 18 = .ok (.getfield 15, 3) := by decide +kernel
theorem dX2_addJoint_21 : decode cX2_addJoint 21 = .ok (.imul, 1) := by decide +kernel
theorem dX2_addJoint_22 : decode cX2_addJoint 22 = .ok (.iconst 1, 1) := by decide +kernel
theorem dX2_addJoint_23 : decode cX2_addJoint 23 = .ok (.iadd, 1) := by decide +kernel
theorem dX2_addJoint_24 : decode cX2_addJoint 24 = .ok (.iload_n 2, 1) := by decide +kernel
theorem dX2_addJoint_25 : decode cX2_addJoint 25 = .ok (.iastore, 1) := by decide +kernel
theorem dX2_addJoint_26 : decode cX2_addJoint 26 = .ok (.aload_n 0, 1) := by decide +kernel
theorem dX2_addJoint_27 : decode cX2_addJoint 27 = .ok (.getfield 34, 3) := by decide +kernel
theorem dX2_addJoint_30 : decode cX2_addJoint 30 = .ok (.iconst 3, 1) := by decide +kernel
theorem dX2_addJoint_31 : decode cX2_addJoint 31 = .ok (.aload_n 0, 1) := by decide +kernel
theorem dX2_addJoint_32 : decode cX2_addJoint 32 = .ok (.getfield 15, 3) := by decide +kernel
theorem dX2_addJoint_35 : decode cX2_addJoint 35 = .ok (.imul, 1) := by decide +kernel
theorem dX2_addJoint_36 : decode cX2_addJoint 36 = .ok (.iconst 2, 1) := by decide +kernel
theorem dX2_addJoint_37 : decode cX2_addJoint 37 = .ok (.iadd, 1) := by decide +kernel
theorem dX2_addJoint_38 : decode cX2_addJoint 38 = .ok (.iload_n 3, 1) := by decide +kernel
theorem dX2_addJoint_39 : decode cX2_addJoint 39 = .ok (.iastore, 1) := by decide +kernel
theorem dX2_addJoint_40 : decode cX2_addJoint 40 = .ok (.aload_n 0, 1) := by decide +kernel
theorem dX2_addJoint_41 : decode cX2_addJoint 41 = .ok (.dup, 1) := by decide +kernel
theorem dX2_addJoint_42 : decode cX2_addJoint 42 = .ok (.getfield 15, 3) := by decide +kernel
theorem dX2_addJoint_45 : decode cX2_addJoint 45 = .ok (.iconst 1, 1) := by decide +kernel
theorem dX2_addJoint_46 : decode cX2_addJoint 46 = .ok (.iadd, 1) := by decide +kernel
theorem dX2_addJoint_47 : decode cX2_addJoint 47 = .ok (.putfield 15, 3) := by decide +kernel
theorem dX2_addJoint_50 : decode cX2_addJoint 50 = .ok (.aload_n 0, 1) := by decide +kernel
theorem dX2_addJoint_51 : decode cX2_addJoint 51 = .ok (.getfield 15, 3) := by decide +kernel
theorem dX2_addJoint_54 : decode cX2_addJoint 54 = .ok (.ireturn, 1) := by decide +kernel
theorem dX2_tellGates_0 : decode cX2_tellGates 0 = .ok (.aload_n 0, 1) := by decide +kernel
theorem dX2_tellGates_1 : decode cX2_tellGates 1 = .ok (.iload_n 1, 1) := by decide +kernel
theorem dX2_tellGates_2 : decode cX2_tellGates 2 = .ok (.putfield 38, 3) := by decide +kernel
theorem dX2_tellGates_5 : decode cX2_tellGates 5 = .ok (.aload_n 0, 1) := by decide +kernel
theorem dX2_tellGates_6 : decode cX2_tellGates 6 = .ok (.iload_n 2, 1) := by decide +kernel
theorem dX2_tellGates_7 : decode cX2_tellGates 7 = .ok (.putfield 41, 3) := by decide +kernel
theorem dX2_tellGates_10 : decode cX2_tellGates 10 = .ok (.aload_n 0, 1) := by decide +kernel
theorem dX2_tellGates_11 : decode cX2_tellGates 11 = .ok (.iload_n 3, 1) := by decide +kernel
theorem dX2_tellGates_12 : decode cX2_tellGates 12 = .ok (.putfield 44, 3) := by decide +kernel
theorem dX2_tellGates_15 : decode cX2_tellGates 15 = .ok (.return_, 1) := by decide +kernel
theorem dX2_lacksConductor_0 : decode cX2_lacksConductor 0 = .ok (.aload_n 0, 1) := by decide +kernel
theorem dX2_lacksConductor_1 : decode cX2_lacksConductor 1 = .ok (.getfield 44, 3) := by decide +kernel
theorem dX2_lacksConductor_4 : decode cX2_lacksConductor 4 = .ok (.iconst (-1), 1) := by decide +kernel
theorem dX2_lacksConductor_5 : decode cX2_lacksConductor 5 = .ok (.if_icmp .eq 21, 3) := by decide +kernel
theorem dX2_lacksConductor_8 : decode cX2_lacksConductor 8 = .ok (.aload_n 0, 1) := by decide +kernel
theorem dX2_lacksConductor_9 : decode cX2_lacksConductor 9 = .ok (.getfield 9, 3) := by decide +kernel
theorem dX2_lacksConductor_12 : decode cX2_lacksConductor 12 = .ok (.iconst 1, 1) := by decide +kernel
theorem dX2_lacksConductor_13 : decode cX2_lacksConductor 13 = .ok (.aload_n 0, 1) := by decide +kernel
theorem dX2_lacksConductor_14 : decode cX2_lacksConductor 14 = .ok (.getfield 44, 3) := by decide +kernel
theorem dX2_lacksConductor_17 : decode cX2_lacksConductor 17 = .ok (.ishl, 1) := by decide +kernel
theorem dX2_lacksConductor_18 : decode cX2_lacksConductor 18 = .ok (.iand, 1) := by decide +kernel
theorem dX2_lacksConductor_19 : decode cX2_lacksConductor 19 = .ok (.ifCond .ne 7, 3) := by decide +kernel
theorem dX2_lacksConductor_22 : decode cX2_lacksConductor 22 = .ok (.iconst 1, 1) := by decide +kernel
theorem dX2_lacksConductor_23 : decode cX2_lacksConductor 23 = .ok (.goto 4, 3) := by decide +kernel
theorem dX2_lacksConductor_26 : decode cX2_lacksConductor 26 = .ok (.iconst 0, 1) := by decide +kernel
theorem dX2_lacksConductor_27 : decode cX2_lacksConductor 27 = .ok (.ireturn, 1) := by decide +kernel
theorem dX2_findNets_0 : decode cX2_findNets 0 = .ok (.aload_n 0, 1) := by decide +kernel
theorem dX2_findNets_1 : decode cX2_findNets 1 = .ok (.getfield 30, 3) := by decide +kernel
theorem dX2_findNets_4 : decode cX2_findNets 4 = .ok (.getfield 62, 3) := by decide +kernel
theorem dX2_findNets_7 : decode cX2_findNets 7 = .ok (.lconst 0, 1) := by decide +kernel
theorem dX2_findNets_8 : decode cX2_findNets 8 = .ok (.invokestatic 66, 3) := by decide +kernel
theorem dX2_findNets_11 : decode cX2_findNets 11 = .ok (.iconst 0, 1) := by decide +kernel
theorem dX2_findNets_12 : decode cX2_findNets 12 = .ok (.istore_n 2, 1) := by decide +kernel
theorem dX2_findNets_13 : decode cX2_findNets 13 = .ok (.iload_n 2, 1) := by decide +kernel
theorem dX2_findNets_14 : decode cX2_findNets 14 = .ok (.bipush 16, 2) := by decide +kernel
theorem dX2_findNets_16 : decode cX2_findNets 16 = .ok (.if_icmp .ge 44, 3) := by decide +kernel
theorem dX2_findNets_19 : decode cX2_findNets 19 = .ok (.aload_n 0, 1) := by decide +kernel
theorem dX2_findNets_20 : decode cX2_findNets 20 = .ok (.getfield 9, 3) := by decide +kernel
theorem dX2_findNets_23 : decode cX2_findNets 23 = .ok (.iconst 1, 1) := by decide +kernel
theorem dX2_findNets_24 : decode cX2_findNets 24 = .ok (.iload_n 2, 1) := by decide +kernel
theorem dX2_findNets_25 : decode cX2_findNets 25 = .ok (.ishl, 1) := by decide +kernel
theorem dX2_findNets_26 : decode cX2_findNets 26 = .ok (.iand, 1) := by decide +kernel
theorem dX2_findNets_27 : decode cX2_findNets 27 = .ok (.ifCond .eq 27, 3) := by decide +kernel
theorem dX2_findNets_30 : decode cX2_findNets 30 = .ok (.aload_n 1, 1) := by decide +kernel
theorem dX2_findNets_31 : decode cX2_findNets 31 = .ok (.getfield 72, 3) := by decide +kernel
theorem dX2_findNets_34 : decode cX2_findNets 34 = .ok (.bipush 64, 2) := by decide +kernel
theorem dX2_findNets_36 : decode cX2_findNets 36 = .ok (.iload_n 2, 1) := by decide +kernel
theorem dX2_findNets_37 : decode cX2_findNets 37 = .ok (.imul, 1) := by decide +kernel
theorem dX2_findNets_38 : decode cX2_findNets 38 = .ok (.aload_n 0, 1) := by decide +kernel
theorem dX2_findNets_39 : decode cX2_findNets 39 = .ok (.getfield 30, 3) := by decide +kernel
theorem dX2_findNets_42 : decode cX2_findNets 42 = .ok (.getfield 62, 3) := by decide +kernel
theorem dX2_findNets_45 : decode cX2_findNets 45 = .ok (.bipush 64, 2) := by decide +kernel
theorem dX2_findNets_47 : decode cX2_findNets 47 = .ok (.iload_n 2, 1) := by decide +kernel
theorem dX2_findNets_48 : decode cX2_findNets 48 = .ok (.imul, 1) := by decide +kernel
theorem dX2_findNets_49 : decode cX2_findNets 49 = .ok (.bipush 64, 2) := by decide +kernel
theorem dX2_findNets_51 : decode cX2_findNets 51 = .ok (.invokestatic 75, 3) := by decide +kernel
theorem dX2_findNets_54 : decode cX2_findNets 54 = .ok (.iinc 2 1, 3) := by decide +kernel
theorem dX2_findNets_57 : decode cX2_findNets 57 = .ok (.goto (-44), 3) := by decide +kernel
theorem dX2_findNets_60 : decode cX2_findNets 60 = .ok (.aload_n 0, 1) := by decide +kernel
theorem dX2_findNets_61 : decode cX2_findNets 61 = .ok (.aload_n 0, 1) := by decide +kernel
theorem dX2_findNets_62 : decode cX2_findNets 62 = .ok (.getfield 9, 3) := by decide +kernel
theorem dX2_findNets_65 : decode cX2_findNets 65 = .ok (.putfield 47, 3) := by decide +kernel
theorem dX2_findNets_68 : decode cX2_findNets 68 = .ok (.aload_n 0, 1) := by decide +kernel
theorem dX2_findNets_69 : decode cX2_findNets 69 = .ok (.getfield 30, 3) := by decide +kernel
theorem dX2_findNets_72 : decode cX2_findNets 72 = .ok (.invokevirtual 81, 3) := by decide +kernel
theorem dX2_findNets_75 : decode cX2_findNets 75 = .ok (.iconst 0, 1) := by decide +kernel
theorem dX2_findNets_76 : decode cX2_findNets 76 = .ok (.istore_n 2, 1) := by decide +kernel
theorem dX2_findNets_77 : decode cX2_findNets 77 = .ok (.iload_n 2, 1) := by decide +kernel
theorem dX2_findNets_78 : decode cX2_findNets 78 = .ok (.aload_n 0, 1) := by decide +kernel
theorem dX2_findNets_79 : decode cX2_findNets 79 = .ok (.getfield 15, 3) := by decide +kernel
theorem dX2_findNets_82 : decode cX2_findNets 82 = .ok (.if_icmp .ge 51, 3) := by decide +kernel
theorem dX2_findNets_85 : decode cX2_findNets 85 = .ok (.aload_n 0, 1) := by decide +kernel
theorem dX2_findNets_86 : decode cX2_findNets 86 = .ok (.aload_n 1, 1) := by decide +kernel
theorem dX2_findNets_87 : decode cX2_findNets 87 = .ok (.bipush 64, 2) := by decide +kernel
theorem dX2_findNets_89 : decode cX2_findNets 89 = .ok (.aload_n 0, 1) := by decide +kernel
theorem dX2_findNets_90 : decode cX2_findNets 90 = .ok (.getfield 34, 3) := by decide +kernel
theorem dX2_findNets_93 : decode cX2_findNets 93 = .ok (.iconst 3, 1) := by decide +kernel
theorem dX2_findNets_94 : decode cX2_findNets 94 = .ok (.iload_n 2, 1) := by decide +kernel
theorem dX2_findNets_95 : decode cX2_findNets 95 = .ok (.imul, 1) := by decide +kernel
theorem dX2_findNets_96 : decode cX2_findNets 96 = .ok (.iaload, 1) := by decide +kernel
theorem dX2_findNets_97 : decode cX2_findNets 97 = .ok (.imul, 1) := by decide +kernel
theorem dX2_findNets_98 : decode cX2_findNets 98 = .ok (.bipush 64, 2) := by decide +kernel
theorem dX2_findNets_100 : decode cX2_findNets 100 = .ok (.aload_n 0, 1) := by decide +kernel
theorem dX2_findNets_101 : decode cX2_findNets 101 = .ok (.getfield 34, 3) := by decide +kernel
theorem dX2_findNets_104 : decode cX2_findNets 104 = .ok (.iconst 3, 1) := by decide +kernel
theorem dX2_findNets_105 : decode cX2_findNets 105 = .ok (.iload_n 2, 1) := by decide +kernel
theorem dX2_findNets_106 : decode cX2_findNets 106 = .ok (.imul, 1) := by decide +kernel
theorem dX2_findNets_107 : decode cX2_findNets 107 = .ok (.iconst 1, 1) := by decide +kernel
theorem dX2_findNets_108 : decode cX2_findNets 108 = .ok (.iadd, 1) := by decide +kernel
theorem dX2_findNets_109 : decode cX2_findNets 109 = .ok (.iaload, 1) := by decide +kernel
theorem dX2_findNets_110 : decode cX2_findNets 110 = .ok (.imul, 1) := by decide +kernel
theorem dX2_findNets_111 : decode cX2_findNets 111 = .ok (.bipush 64, 2) := by decide +kernel
theorem dX2_findNets_113 : decode cX2_findNets 113 = .ok (.aload_n 0, 1) := by decide +kernel
theorem dX2_findNets_114 : decode cX2_findNets 114 = .ok (.getfield 34, 3) := by decide +kernel
theorem dX2_findNets_117 : decode cX2_findNets 117 = .ok (.iconst 3, 1) := by decide +kernel
theorem dX2_findNets_118 : decode cX2_findNets 118 = .ok (.iload_n 2, 1) := by decide +kernel
theorem dX2_findNets_119 : decode cX2_findNets 119 = .ok (.imul, 1) := by decide +kernel
theorem dX2_findNets_120 : decode cX2_findNets 120 = .ok (.iconst 2, 1) := by decide +kernel
theorem dX2_findNets_121 : decode cX2_findNets 121 = .ok (.iadd, 1) := by decide +kernel
theorem dX2_findNets_122 : decode cX2_findNets 122 = .ok (.iaload, 1) := by decide +kernel
theorem dX2_findNets_123 : decode cX2_findNets 123 = .ok (.imul, 1) := by decide +kernel
theorem dX2_findNets_124 : decode cX2_findNets 124 = .ok (.invokevirtual 84, 3) := by decide +kernel
theorem dX2_findNets_127 : decode cX2_findNets 127 = .ok (.iinc 2 1, 3) := by decide +kernel
theorem dX2_findNets_130 : decode cX2_findNets 130 = .ok (.goto (-53), 3) := by decide +kernel
theorem dX2_findNets_133 : decode cX2_findNets 133 = .ok (.aload_n 0, 1) := by decide +kernel
theorem dX2_findNets_134 : decode cX2_findNets 134 = .ok (.getfield 30, 3) := by decide +kernel
theorem dX2_findNets_137 : decode cX2_findNets 137 = .ok (.invokevirtual 88, 3) := by decide +kernel
theorem dX2_findNets_140 : decode cX2_findNets 140 = .ok (.return_, 1) := by decide +kernel
theorem dX2_join_0 : decode cX2_join 0 = .ok (.iconst 0, 1) := by decide +kernel
theorem dX2_join_1 : decode cX2_join 1 = .ok (.istore 5, 2) := by decide +kernel
theorem dX2_join_3 : decode cX2_join 3 = .ok (.iload 5, 2) := by decide +kernel
theorem dX2_join_5 : decode cX2_join 5 = .ok (.bipush 64, 2) := by decide +kernel
theorem dX2_join_7 : decode cX2_join 7 = .ok (.if_icmp .ge 65, 3) := by decide +kernel
theorem dX2_join_10 : decode cX2_join 10 = .ok (.aload_n 0, 1) := by decide +kernel
theorem dX2_join_11 : decode cX2_join 11 = .ok (.getfield 30, 3) := by decide +kernel
theorem dX2_join_14 : decode cX2_join 14 = .ok (.getfield 62, 3) := by decide +kernel
theorem dX2_join_17 : decode cX2_join 17 = .ok (.iload_n 2, 1) := by decide +kernel
theorem dX2_join_18 : decode cX2_join 18 = .ok (.iload 5, 2) := by decide +kernel
theorem dX2_join_20 : decode cX2_join 20 = .ok (.iadd, 1) := by decide +kernel
theorem dX2_join_21 : decode cX2_join 21 = .ok (.laload, 1) := by decide +kernel
theorem dX2_join_22 : decode cX2_join 22 = .ok (.aload_n 0, 1) := by decide +kernel
theorem dX2_join_23 : decode cX2_join 23 = .ok (.getfield 30, 3) := by decide +kernel
theorem dX2_join_26 : decode cX2_join 26 = .ok (.getfield 62, 3) := by decide +kernel
theorem dX2_join_29 : decode cX2_join 29 = .ok (.iload 4, 2) := by decide +kernel
theorem dX2_join_31 : decode cX2_join 31 = .ok (.iload 5, 2) := by decide +kernel
theorem dX2_join_33 : decode cX2_join 33 = .ok (.iadd, 1) := by decide +kernel
theorem dX2_join_34 : decode cX2_join 34 = .ok (.laload, 1) := by decide +kernel
theorem dX2_join_35 : decode cX2_join 35 = .ok (.land, 1) := by decide +kernel
theorem dX2_join_36 : decode cX2_join 36 = .ok (.lstore 6, 2) := by decide +kernel
theorem dX2_join_38 : decode cX2_join 38 = .ok (.aload_n 0, 1) := by decide +kernel
theorem dX2_join_39 : decode cX2_join 39 = .ok (.getfield 30, 3) := by decide +kernel
theorem dX2_join_42 : decode cX2_join 42 = .ok (.iload_n 2, 1) := by decide +kernel
theorem dX2_join_43 : decode cX2_join 43 = .ok (.iload 5, 2) := by decide +kernel
theorem dX2_join_45 : decode cX2_join 45 = .ok (.iadd, 1) := by decide +kernel
theorem dX2_join_46 : decode cX2_join 46 = .ok (.iload 4, 2) := by decide +kernel
theorem dX2_join_48 : decode cX2_join 48 = .ok (.iload 5, 2) := by decide +kernel
theorem dX2_join_50 : decode cX2_join 50 = .ok (.iadd, 1) := by decide +kernel
theorem dX2_join_51 : decode cX2_join 51 = .ok (.lload 6, 2) := by decide +kernel
theorem dX2_join_53 : decode cX2_join 53 = .ok (.aload_n 1, 1) := by decide +kernel
theorem dX2_join_54 : decode cX2_join 54 = .ok (.getfield 72, 3) := by decide +kernel
theorem dX2_join_57 : decode cX2_join 57 = .ok (.iload_n 3, 1) := by decide +kernel
theorem dX2_join_58 : decode cX2_join 58 = .ok (.iload 5, 2) := by decide +kernel
theorem dX2_join_60 : decode cX2_join 60 = .ok (.iadd, 1) := by decide +kernel
theorem dX2_join_61 : decode cX2_join 61 = .ok (.laload, 1) := by decide +kernel
theorem dX2_join_62 : decode cX2_join 62 = .ok (.land, 1) := by decide +kernel
theorem dX2_join_63 : decode cX2_join 63 = .ok (.invokevirtual 91, 3) := by decide +kernel
theorem dX2_join_66 : decode cX2_join 66 = .ok (.iinc 5 1, 3) := by decide +kernel
theorem dX2_join_69 : decode cX2_join 69 = .ok (.goto (-66), 3) := by decide +kernel
theorem dX2_join_72 : decode cX2_join 72 = .ok (.return_, 1) := by decide +kernel
theorem dX2_findDevices_0 : decode cX2_findDevices 0 = .ok (.aload_n 0, 1) := by decide +kernel
theorem dX2_findDevices_1 : decode cX2_findDevices 1 = .ok (.iconst 0, 1) := by decide +kernel
theorem dX2_findDevices_2 : decode cX2_findDevices 2 = .ok (.putfield 22, 3) := by decide +kernel
theorem dX2_findDevices_5 : decode cX2_findDevices 5 = .ok (.aload_n 0, 1) := by decide +kernel
theorem dX2_findDevices_6 : decode cX2_findDevices 6 = .ok (.getfield 38, 3) := by decide +kernel
theorem dX2_findDevices_9 : decode cX2_findDevices 9 = .ok (.iconst (-1), 1) := by decide +kernel
theorem dX2_findDevices_10 : decode cX2_findDevices 10 = .ok (.if_icmp .ne 4, 3) := by decide +kernel
theorem dX2_findDevices_13 : decode cX2_findDevices 13 = .ok (.return_, 1) := by decide +kernel
theorem dX2_findDevices_14 : decode cX2_findDevices 14 = .ok (.aload_n 0, 1) := by decide +kernel
theorem dX2_findDevices_15 : decode cX2_findDevices 15 = .ok (.getfield 50, 3) := by decide +kernel
theorem dX2_findDevices_18 : decode cX2_findDevices 18 = .ok (.aload_n 1, 1) := by decide +kernel
theorem dX2_findDevices_19 : decode cX2_findDevices 19 = .ok (.getfield 72, 3) := by decide +kernel
theorem dX2_findDevices_22 : decode cX2_findDevices 22 = .ok (.bipush 64, 2) := by decide +kernel
theorem dX2_findDevices_24 : decode cX2_findDevices 24 = .ok (.aload_n 0, 1) := by decide +kernel
theorem dX2_findDevices_25 : decode cX2_findDevices 25 = .ok (.getfield 38, 3) := by decide +kernel
theorem dX2_findDevices_28 : decode cX2_findDevices 28 = .ok (.imul, 1) := by decide +kernel
theorem dX2_findDevices_29 : decode cX2_findDevices 29 = .ok (.bipush 64, 2) := by decide +kernel
theorem dX2_findDevices_31 : decode cX2_findDevices 31 = .ok (.aload_n 0, 1) := by decide +kernel
theorem dX2_findDevices_32 : decode cX2_findDevices 32 = .ok (.getfield 41, 3) := by decide +kernel
theorem dX2_findDevices_35 : decode cX2_findDevices 35 = .ok (.imul, 1) := by decide +kernel
theorem dX2_findDevices_36 : decode cX2_findDevices 36 = .ok (.invokevirtual 95, 3) := by decide +kernel
theorem dX2_findDevices_39 : decode cX2_findDevices 39 = .ok (.aload_n 0, 1) := by decide +kernel
theorem dX2_findDevices_40 : decode cX2_findDevices 40 = .ok (.aload_n 0, 1) := by decide +kernel
theorem dX2_findDevices_41 : decode cX2_findDevices 41 = .ok (.getfield 50, 3) := by decide +kernel
theorem dX2_findDevices_44 : decode cX2_findDevices 44 = .ok (.getfield 99, 3) := by decide +kernel
theorem dX2_findDevices_47 : decode cX2_findDevices 47 = .ok (.putfield 22, 3) := by decide +kernel
theorem dX2_findDevices_50 : decode cX2_findDevices 50 = .ok (.aload_n 0, 1) := by decide +kernel
theorem dX2_findDevices_51 : decode cX2_findDevices 51 = .ok (.aload_n 0, 1) := by decide +kernel
theorem dX2_findDevices_52 : decode cX2_findDevices 52 = .ok (.getfield 53, 3) := by decide +kernel
theorem dX2_findDevices_55 : decode cX2_findDevices 55 = .ok (.aload_n 0, 1) := by decide +kernel
theorem dX2_findDevices_56 : decode cX2_findDevices 56 = .ok (.getfield 22, 3) := by decide +kernel
theorem dX2_findDevices_59 : decode cX2_findDevices 59 = .ok (.invokestatic 102, 3) := by decide +kernel
theorem dX2_findDevices_62 : decode cX2_findDevices 62 = .ok (.putfield 53, 3) := by decide +kernel
theorem dX2_findDevices_65 : decode cX2_findDevices 65 = .ok (.aload_n 0, 1) := by decide +kernel
theorem dX2_findDevices_66 : decode cX2_findDevices 66 = .ok (.aload_n 0, 1) := by decide +kernel
theorem dX2_findDevices_67 : decode cX2_findDevices 67 = .ok (.getfield 56, 3) := by decide +kernel
theorem dX2_findDevices_70 : decode cX2_findDevices 70 = .ok (.aload_n 0, 1) := by decide +kernel
theorem dX2_findDevices_71 : decode cX2_findDevices 71 = .ok (.getfield 22, 3) := by decide +kernel
theorem dX2_findDevices_74 : decode cX2_findDevices 74 = .ok (.invokestatic 102, 3) := by decide +kernel
theorem dX2_findDevices_77 : decode cX2_findDevices 77 = .ok (.putfield 56, 3) := by decide +kernel
theorem dX2_findDevices_80 : decode cX2_findDevices 80 = .ok (.aload_n 0, 1) := by decide +kernel
theorem dX2_findDevices_81 : decode cX2_findDevices 81 = .ok (.aload_n 0, 1) := by decide +kernel
theorem dX2_findDevices_82 : decode cX2_findDevices 82 = .ok (.getfield 59, 3) := by decide +kernel
theorem dX2_findDevices_85 : decode cX2_findDevices 85 = .ok (.aload_n 0, 1) := by decide +kernel
theorem dX2_findDevices_86 : decode cX2_findDevices 86 = .ok (.getfield 22, 3) := by decide +kernel
theorem dX2_findDevices_89 : decode cX2_findDevices 89 = .ok (.invokestatic 102, 3) := by decide +kernel
theorem dX2_findDevices_92 : decode cX2_findDevices 92 = .ok (.putfield 59, 3) := by decide +kernel
theorem dX2_findDevices_95 : decode cX2_findDevices 95 = .ok (.iconst 0, 1) := by decide +kernel
theorem dX2_findDevices_96 : decode cX2_findDevices 96 = .ok (.istore_n 2, 1) := by decide +kernel
theorem dX2_findDevices_97 : decode cX2_findDevices 97 = .ok (.iload_n 2, 1) := by decide +kernel
theorem dX2_findDevices_98 : decode cX2_findDevices 98 = .ok (.aload_n 0, 1) := by decide +kernel
theorem dX2_findDevices_99 : decode cX2_findDevices 99 = .ok (.getfield 22, 3) := by decide +kernel
theorem dX2_findDevices_102 : decode cX2_findDevices 102 = .ok (.if_icmp .ge 46, 3) := by decide +kernel
theorem dX2_findDevices_105 : decode cX2_findDevices 105 = .ok (.aload_n 0, 1) := by decide +kernel
theorem dX2_findDevices_106 : decode cX2_findDevices 106 = .ok (.getfield 53, 3) := by decide +kernel
theorem dX2_findDevices_109 : decode cX2_findDevices 109 = .ok (.iload_n 2, 1) := by decide +kernel
theorem dX2_findDevices_110 : decode cX2_findDevices 110 = .ok (.aload_n 0, 1) := by decide +kernel
theorem dX2_findDevices_111 : decode cX2_findDevices 111 = .ok (.aload_n 0, 1) := by decide +kernel
theorem dX2_findDevices_112 : decode cX2_findDevices 112 = .ok (.getfield 38, 3) := by decide +kernel
theorem dX2_findDevices_115 : decode cX2_findDevices 115 = .ok (.aload_n 0, 1) := by decide +kernel
theorem dX2_findDevices_116 : decode cX2_findDevices 116 = .ok (.getfield 50, 3) := by decide +kernel
theorem dX2_findDevices_119 : decode cX2_findDevices 119 = .ok (.getfield 108, 3) := by decide +kernel
theorem dX2_findDevices_122 : decode cX2_findDevices 122 = .ok (.iload_n 2, 1) := by decide +kernel
theorem dX2_findDevices_123 : decode cX2_findDevices 123 = .ok (.iaload, 1) := by decide +kernel
theorem dX2_findDevices_124 : decode cX2_findDevices 124 = .ok (.invokevirtual 111, 3) := by decide +kernel
theorem dX2_findDevices_127 : decode cX2_findDevices 127 = .ok (.iastore, 1) := by decide +kernel
theorem dX2_findDevices_128 : decode cX2_findDevices 128 = .ok (.aload_n 0, 1) := by decide +kernel
theorem dX2_findDevices_129 : decode cX2_findDevices 129 = .ok (.getfield 56, 3) := by decide +kernel
theorem dX2_findDevices_132 : decode cX2_findDevices 132 = .ok (.iload_n 2, 1) := by decide +kernel
theorem dX2_findDevices_133 : decode cX2_findDevices 133 = .ok (.iconst (-1), 1) := by decide +kernel
theorem dX2_findDevices_134 : decode cX2_findDevices 134 = .ok (.iastore, 1) := by decide +kernel
theorem dX2_findDevices_135 : decode cX2_findDevices 135 = .ok (.aload_n 0, 1) := by decide +kernel
theorem dX2_findDevices_136 : decode cX2_findDevices 136 = .ok (.getfield 59, 3) := by decide +kernel
theorem dX2_findDevices_139 : decode cX2_findDevices 139 = .ok (.iload_n 2, 1) := by decide +kernel
theorem dX2_findDevices_140 : decode cX2_findDevices 140 = .ok (.iconst (-1), 1) := by decide +kernel
theorem dX2_findDevices_141 : decode cX2_findDevices 141 = .ok (.iastore, 1) := by decide +kernel
theorem dX2_findDevices_142 : decode cX2_findDevices 142 = .ok (.iinc 2 1, 3) := by decide +kernel
theorem dX2_findDevices_145 : decode cX2_findDevices 145 = .ok (.goto (-48), 3) := by decide +kernel
theorem dX2_findDevices_148 : decode cX2_findDevices 148 = .ok (.iconst 0, 1) := by decide +kernel
theorem dX2_findDevices_149 : decode cX2_findDevices 149 = .ok (.istore_n 2, 1) := by decide +kernel
theorem dX2_findDevices_150 : decode cX2_findDevices 150 = .ok (.iload_n 2, 1) := by decide +kernel
theorem dX2_findDevices_151 : decode cX2_findDevices 151 = .ok (.bipush 64, 2) := by decide +kernel
theorem dX2_findDevices_153 : decode cX2_findDevices 153 = .ok (.if_icmp .ge 14, 3) := by decide +kernel
theorem dX2_findDevices_156 : decode cX2_findDevices 156 = .ok (.aload_n 0, 1) := by decide +kernel
theorem dX2_findDevices_157 : decode cX2_findDevices 157 = .ok (.iload_n 2, 1) := by decide +kernel
theorem dX2_findDevices_158 : decode cX2_findDevices 158 = .ok (.invokevirtual 115, 3) := by decide +kernel
theorem dX2_findDevices_161 : decode cX2_findDevices 161 = .ok (.iinc 2 1, 3) := by decide +kernel
theorem dX2_findDevices_164 : decode cX2_findDevices 164 = .ok (.goto (-14), 3) := by decide +kernel
theorem dX2_findDevices_167 : decode cX2_findDevices 167 = .ok (.return_, 1) := by decide +kernel
theorem dX2_findEnds_0 : decode cX2_findEnds 0 = .ok (.aload_n 0, 1) := by decide +kernel
theorem dX2_findEnds_1 : decode cX2_findEnds 1 = .ok (.getfield 50, 3) := by decide +kernel
theorem dX2_findEnds_4 : decode cX2_findEnds 4 = .ok (.getfield 62, 3) := by decide +kernel
theorem dX2_findEnds_7 : decode cX2_findEnds 7 = .ok (.iload_n 1, 1) := by decide +kernel
theorem dX2_findEnds_8 : decode cX2_findEnds 8 = .ok (.laload, 1) := by decide +kernel
theorem dX2_findEnds_9 : decode cX2_findEnds 9 = .ok (.lstore_n 2, 1) := by decide +kernel
theorem dX2_findEnds_10 : decode cX2_findEnds 10 = .ok (.lload_n 2, 1) := by decide +kernel
theorem dX2_findEnds_11 : decode cX2_findEnds 11 = .ok (.invokestatic 118, 3) := by decide +kernel
theorem dX2_findEnds_14 : decode cX2_findEnds 14 = .ok (.lstore 4, 2) := by decide +kernel
theorem dX2_findEnds_16 : decode cX2_findEnds 16 = .ok (.lload 4, 2) := by decide +kernel
theorem dX2_findEnds_18 : decode cX2_findEnds 18 = .ok (.invokestatic 122, 3) := by decide +kernel
theorem dX2_findEnds_21 : decode cX2_findEnds 21 = .ok (.istore 6, 2) := by decide +kernel
theorem dX2_findEnds_23 : decode cX2_findEnds 23 = .ok (.iconst 0, 1) := by decide +kernel
theorem dX2_findEnds_24 : decode cX2_findEnds 24 = .ok (.istore 7, 2) := by decide +kernel
theorem dX2_findEnds_26 : decode cX2_findEnds 26 = .ok (.iload 7, 2) := by decide +kernel
theorem dX2_findEnds_28 : decode cX2_findEnds 28 = .ok (.iload 6, 2) := by decide +kernel
theorem dX2_findEnds_30 : decode cX2_findEnds 30 = .ok (.if_icmp .ge 91, 3) := by decide +kernel
theorem dX2_findEnds_33 : decode cX2_findEnds 33 = .ok (.lload 4, 2) := by decide +kernel
theorem dX2_findEnds_35 : decode cX2_findEnds 35 = .ok (.invokestatic 128, 3) := by decide +kernel
theorem dX2_findEnds_38 : decode cX2_findEnds 38 = .ok (.istore 8, 2) := by decide +kernel
theorem dX2_findEnds_40 : decode cX2_findEnds 40 = .ok (.aload_n 0, 1) := by decide +kernel
theorem dX2_findEnds_41 : decode cX2_findEnds 41 = .ok (.getfield 50, 3) := by decide +kernel
theorem dX2_findEnds_44 : decode cX2_findEnds 44 = .ok (.iload_n 1, 1) := by decide +kernel
theorem dX2_findEnds_45 : decode cX2_findEnds 45 = .ok (.iload 8, 2) := by decide +kernel
theorem dX2_findEnds_47 : decode cX2_findEnds 47 = .ok (.invokevirtual 131, 3) := by decide +kernel
theorem dX2_findEnds_50 : decode cX2_findEnds 50 = .ok (.istore 9, 2) := by decide +kernel
theorem dX2_findEnds_52 : decode cX2_findEnds 52 = .ok (.iload 8, 2) := by decide +kernel
theorem dX2_findEnds_54 : decode cX2_findEnds 54 = .ok (.lload_n 2, 1) := by decide +kernel
theorem dX2_findEnds_55 : decode cX2_findEnds 55 = .ok (.iload 8, 2) := by decide +kernel
theorem dX2_findEnds_57 : decode cX2_findEnds 57 = .ok (.invokestatic 134, 3) := by decide +kernel
theorem dX2_findEnds_60 : decode cX2_findEnds 60 = .ok (.invokestatic 138, 3) := by decide +kernel
theorem dX2_findEnds_63 : decode cX2_findEnds 63 = .ok (.lstore 10, 2) := by decide +kernel
theorem dX2_findEnds_65 : decode cX2_findEnds 65 = .ok (.aload_n 0, 1) := by decide +kernel
theorem dX2_findEnds_66 : decode cX2_findEnds 66 = .ok (.iload 9, 2) := by decide +kernel
theorem dX2_findEnds_68 : decode cX2_findEnds 68 = .ok (.iload_n 1, 1) := by decide +kernel
theorem dX2_findEnds_69 : decode cX2_findEnds 69 = .ok (.iconst 1, 1) := by decide +kernel
theorem dX2_findEnds_70 : decode cX2_findEnds 70 = .ok (.isub, 1) := by decide +kernel
theorem dX2_findEnds_71 : decode cX2_findEnds 71 = .ok (.lload 10, 2) := by decide +kernel
theorem dX2_findEnds_73 : decode cX2_findEnds 73 = .ok (.invokevirtual 142, 3) := by decide +kernel
theorem dX2_findEnds_76 : decode cX2_findEnds 76 = .ok (.aload_n 0, 1) := by decide +kernel
theorem dX2_findEnds_77 : decode cX2_findEnds 77 = .ok (.iload 9, 2) := by decide +kernel
theorem dX2_findEnds_79 : decode cX2_findEnds 79 = .ok (.iload_n 1, 1) := by decide +kernel
theorem dX2_findEnds_80 : decode cX2_findEnds 80 = .ok (.lload 10, 2) := by decide +kernel
theorem dX2_findEnds_82 : decode cX2_findEnds 82 = .ok (.lload 10, 2) := by decide +kernel
theorem dX2_findEnds_84 : decode cX2_findEnds 84 = .ok (.iconst 1, 1) := by decide +kernel
theorem dX2_findEnds_85 : decode cX2_findEnds 85 = .ok (.lshl, 1) := by decide +kernel
theorem dX2_findEnds_86 : decode cX2_findEnds 86 = .ok (.lor, 1) := by decide +kernel
theorem dX2_findEnds_87 : decode cX2_findEnds 87 = .ok (.lload 10, 2) := by decide +kernel
theorem dX2_findEnds_89 : decode cX2_findEnds 89 = .ok (.iconst 1, 1) := by decide +kernel
theorem dX2_findEnds_90 : decode cX2_findEnds 90 = .ok (.lushr, 1) := by decide +kernel
theorem dX2_findEnds_91 : decode cX2_findEnds 91 = .ok (.lor, 1) := by decide +kernel
theorem dX2_findEnds_92 : decode cX2_findEnds 92 = .ok (.invokevirtual 142, 3) := by decide +kernel
theorem dX2_findEnds_95 : decode cX2_findEnds 95 = .ok (.aload_n 0, 1) := by decide +kernel
theorem dX2_findEnds_96 : decode cX2_findEnds 96 = .ok (.iload 9, 2) := by decide +kernel
theorem dX2_findEnds_98 : decode cX2_findEnds 98 = .ok (.iload_n 1, 1) := by decide +kernel
theorem dX2_findEnds_99 : decode cX2_findEnds 99 = .ok (.iconst 1, 1) := by decide +kernel
theorem dX2_findEnds_100 : decode cX2_findEnds 100 = .ok (.iadd, 1) := by decide +kernel
theorem dX2_findEnds_101 : decode cX2_findEnds 101 = .ok (.lload 10, 2) := by decide +kernel
theorem dX2_findEnds_103 : decode cX2_findEnds 103 = .ok (.invokevirtual 142, 3) := by decide +kernel
theorem dX2_findEnds_106 : decode cX2_findEnds 106 = .ok (.lload 4, 2) := by decide +kernel
theorem dX2_findEnds_108 : decode cX2_findEnds 108 = .ok (.lload 4, 2) := by decide +kernel
theorem dX2_findEnds_110 : decode cX2_findEnds 110 = .ok (.lconst 1, 1) := by decide +kernel
theorem dX2_findEnds_111 : decode cX2_findEnds 111 = .ok (.lsub, 1) := by decide +kernel
theorem dX2_findEnds_112 : decode cX2_findEnds 112 = .ok (.land, 1) := by decide +kernel
theorem dX2_findEnds_113 : decode cX2_findEnds 113 = .ok (.lstore 4, 2) := by decide +kernel
theorem dX2_findEnds_115 : decode cX2_findEnds 115 = .ok (.iinc 7 1, 3) := by decide +kernel
theorem dX2_findEnds_118 : decode cX2_findEnds 118 = .ok (.goto (-92), 3) := by decide +kernel
theorem dX2_findEnds_121 : decode cX2_findEnds 121 = .ok (.return_, 1) := by decide +kernel
theorem dX2_meet_0 : decode cX2_meet 0 = .ok (.iload_n 2, 1) := by decide +kernel
theorem dX2_meet_1 : decode cX2_meet 1 = .ok (.bipush 64, 2) := by decide +kernel
theorem dX2_meet_3 : decode cX2_meet 3 = .ok (.invokestatic 145, 3) := by decide +kernel
theorem dX2_meet_6 : decode cX2_meet 6 = .ok (.ifCond .eq 4, 3) := by decide +kernel
theorem dX2_meet_9 : decode cX2_meet 9 = .ok (.return_, 1) := by decide +kernel
theorem dX2_meet_10 : decode cX2_meet 10 = .ok (.bipush 64, 2) := by decide +kernel
theorem dX2_meet_12 : decode cX2_meet 12 = .ok (.aload_n 0, 1) := by decide +kernel
theorem dX2_meet_13 : decode cX2_meet 13 = .ok (.getfield 44, 3) := by decide +kernel
theorem dX2_meet_16 : decode cX2_meet 16 = .ok (.imul, 1) := by decide +kernel
theorem dX2_meet_17 : decode cX2_meet 17 = .ok (.iload_n 2, 1) := by decide +kernel
theorem dX2_meet_18 : decode cX2_meet 18 = .ok (.iadd, 1) := by decide +kernel
theorem dX2_meet_19 : decode cX2_meet 19 = .ok (.istore 5, 2) := by decide +kernel
theorem dX2_meet_21 : decode cX2_meet 21 = .ok (.aload_n 0, 1) := by decide +kernel
theorem dX2_meet_22 : decode cX2_meet 22 = .ok (.getfield 30, 3) := by decide +kernel
theorem dX2_meet_25 : decode cX2_meet 25 = .ok (.getfield 62, 3) := by decide +kernel
theorem dX2_meet_28 : decode cX2_meet 28 = .ok (.iload 5, 2) := by decide +kernel
theorem dX2_meet_30 : decode cX2_meet 30 = .ok (.laload, 1) := by decide +kernel
theorem dX2_meet_31 : decode cX2_meet 31 = .ok (.lload_n 3, 1) := by decide +kernel
theorem dX2_meet_32 : decode cX2_meet 32 = .ok (.land, 1) := by decide +kernel
theorem dX2_meet_33 : decode cX2_meet 33 = .ok (.invokestatic 118, 3) := by decide +kernel
theorem dX2_meet_36 : decode cX2_meet 36 = .ok (.lstore 6, 2) := by decide +kernel
theorem dX2_meet_38 : decode cX2_meet 38 = .ok (.lload 6, 2) := by decide +kernel
theorem dX2_meet_40 : decode cX2_meet 40 = .ok (.invokestatic 122, 3) := by decide +kernel
theorem dX2_meet_43 : decode cX2_meet 43 = .ok (.istore 8, 2) := by decide +kernel
theorem dX2_meet_45 : decode cX2_meet 45 = .ok (.iconst 0, 1) := by decide +kernel
theorem dX2_meet_46 : decode cX2_meet 46 = .ok (.istore 9, 2) := by decide +kernel
theorem dX2_meet_48 : decode cX2_meet 48 = .ok (.iload 9, 2) := by decide +kernel
theorem dX2_meet_50 : decode cX2_meet 50 = .ok (.iload 8, 2) := by decide +kernel
theorem dX2_meet_52 : decode cX2_meet 52 = .ok (.if_icmp .ge 37, 3) := by decide +kernel
theorem dX2_meet_55 : decode cX2_meet 55 = .ok (.aload_n 0, 1) := by decide +kernel
theorem dX2_meet_56 : decode cX2_meet 56 = .ok (.iload_n 1, 1) := by decide +kernel
theorem dX2_meet_57 : decode cX2_meet 57 = .ok (.aload_n 0, 1) := by decide +kernel
theorem dX2_meet_58 : decode cX2_meet 58 = .ok (.getfield 30, 3) := by decide +kernel
theorem dX2_meet_61 : decode cX2_meet 61 = .ok (.iload 5, 2) := by decide +kernel
theorem dX2_meet_63 : decode cX2_meet 63 = .ok (.lload 6, 2) := by decide +kernel
theorem dX2_meet_65 : decode cX2_meet 65 = .ok (.invokestatic 128, 3) := by decide +kernel
theorem dX2_meet_68 : decode cX2_meet 68 = .ok (.invokevirtual 131, 3) := by decide +kernel
theorem dX2_meet_71 : decode cX2_meet 71 = .ok (.invokevirtual 149, 3) := by decide +kernel
theorem dX2_meet_74 : decode cX2_meet 74 = .ok (.lload 6, 2) := by decide +kernel
theorem dX2_meet_76 : decode cX2_meet 76 = .ok (.lload 6, 2) := by decide +kernel
theorem dX2_meet_78 : decode cX2_meet 78 = .ok (.lconst 1, 1) := by decide +kernel
theorem dX2_meet_79 : decode cX2_meet 79 = .ok (.lsub, 1) := by decide +kernel
theorem dX2_meet_80 : decode cX2_meet 80 = .ok (.land, 1) := by decide +kernel
theorem dX2_meet_81 : decode cX2_meet 81 = .ok (.lstore 6, 2) := by decide +kernel
theorem dX2_meet_83 : decode cX2_meet 83 = .ok (.iinc 9 1, 3) := by decide +kernel
theorem dX2_meet_86 : decode cX2_meet 86 = .ok (.goto (-38), 3) := by decide +kernel
theorem dX2_meet_89 : decode cX2_meet 89 = .ok (.return_, 1) := by decide +kernel
theorem dX2_addEnd_0 : decode cX2_addEnd 0 = .ok (.aload_n 0, 1) := by decide +kernel
theorem dX2_addEnd_1 : decode cX2_addEnd 1 = .ok (.getfield 56, 3) := by decide +kernel
theorem dX2_addEnd_4 : decode cX2_addEnd 4 = .ok (.iload_n 1, 1) := by decide +kernel
