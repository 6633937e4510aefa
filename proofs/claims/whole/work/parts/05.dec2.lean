theorem dX8_init_43 : decode cX8_init 43 = .ok (.bipush 16, 2) := by decide +kernel
theorem dX8_init_45 : decode cX8_init 45 = .ok (.newarray .int, 2) := by decide +kernel
theorem dX8_init_47 : decode cX8_init 47 = .ok (.putfield 32, 3) := by decide +kernel
theorem dX8_init_50 : decode cX8_init 50 = .ok (.aload_n 0, 1) := by decide +kernel
theorem dX8_init_51 : decode cX8_init 51 = .ok (.bipush 16, 2) := by decide +kernel
theorem dX8_init_53 : decode cX8_init 53 = .ok (.newarray .int, 2) := by decide +kernel
theorem dX8_init_55 : decode cX8_init 55 = .ok (.putfield 35, 3) := by decide +kernel
theorem dX8_init_58 : decode cX8_init 58 = .ok (.aload_n 0, 1) := by decide +kernel
theorem dX8_init_59 : decode cX8_init 59 = .ok (.bipush 16, 2) := by decide +kernel
theorem dX8_init_61 : decode cX8_init 61 = .ok (.newarray .int, 2) := by decide +kernel
theorem dX8_init_63 : decode cX8_init 63 = .ok (.putfield 38, 3) := by decide +kernel
theorem dX8_init_66 : decode cX8_init 66 = .ok (.aload_n 0, 1) := by decide +kernel
theorem dX8_init_67 : decode cX8_init 67 = .ok (.bipush 16, 2) := by decide +kernel
theorem dX8_init_69 : decode cX8_init 69 = .ok (.newarray .int, 2) := by decide +kernel
theorem dX8_init_71 : decode cX8_init 71 = .ok (.putfield 41, 3) := by decide +kernel
theorem dX8_init_74 : decode cX8_init 74 = .ok (.aload_n 0, 1) := by decide +kernel
theorem dX8_init_75 : decode cX8_init 75 = .ok (.bipush 64, 2) := by decide +kernel
theorem dX8_init_77 : decode cX8_init 77 = .ok (.newarray .long, 2) := by decide +kernel
theorem dX8_init_79 : decode cX8_init 79 = .ok (.putfield 44, 3) := by decide +kernel
theorem dX8_init_82 : decode cX8_init 82 = .ok (.return_, 1) := by decide +kernel
theorem dX8_greatest_0 : decode cX8_greatest 0 = .ok (.iload_n 0, 1) := by decide +kernel
theorem dX8_greatest_1 : decode cX8_greatest 1 = .ok (.ifCond .eq 8, 3) := by decide +kernel
theorem dX8_greatest_4 : decode cX8_greatest 4 = .ok (.iload_n 0, 1) := by decide +kernel
theorem dX8_greatest_5 : decode cX8_greatest 5 = .ok (.iconst 1, 1) := by decide +kernel
theorem dX8_greatest_6 : decode cX8_greatest 6 = .ok (.if_icmp .ne 6, 3) := by decide +kernel
theorem dX8_greatest_9 : decode cX8_greatest 9 = .ok (.bipush 64, 2) := by decide +kernel
theorem dX8_greatest_11 : decode cX8_greatest 11 = .ok (.ireturn, 1) := by decide +kernel
theorem dX8_greatest_12 : decode cX8_greatest 12 = .ok (.iload_n 0, 1) := by decide +kernel
theorem dX8_greatest_13 : decode cX8_greatest 13 = .ok (.iconst 2, 1) := by decide +kernel
theorem dX8_greatest_14 : decode cX8_greatest 14 = .ok (.if_icmp .ne 8, 3) := by decide +kernel
theorem dX8_greatest_17 : decode cX8_greatest 17 = .ok (.bipush 9, 2) := by decide +kernel
theorem dX8_greatest_19 : decode cX8_greatest 19 = .ok (.goto 6, 3) := by decide +kernel
theorem dX8_greatest_22 : decode cX8_greatest 22 = .ok (.sipush 4096, 3) := by decide +kernel
theorem dX8_greatest_25 : decode cX8_greatest 25 = .ok (.ireturn, 1) := by decide +kernel
theorem dX8_add_0 : decode cX8_add 0 = .ok (.aload_n 0, 1) := by decide +kernel
theorem dX8_add_1 : decode cX8_add 1 = .ok (.getfield 32, 3) := by decide +kernel
theorem dX8_add_4 : decode cX8_add 4 = .ok (.aload_n 0, 1) := by decide +kernel
theorem dX8_add_5 : decode cX8_add 5 = .ok (.getfield 9, 3) := by decide +kernel
theorem dX8_add_8 : decode cX8_add 8 = .ok (.iload_n 1, 1) := by decide +kernel
theorem dX8_add_9 : decode cX8_add 9 = .ok (.iastore, 1) := by decide +kernel
theorem dX8_add_10 : decode cX8_add 10 = .ok (.aload_n 0, 1) := by decide +kernel
theorem dX8_add_11 : decode cX8_add 11 = .ok (.getfield 35, 3) := by decide +kernel
theorem dX8_add_14 : decode cX8_add 14 = .ok (.aload_n 0, 1) := by decide +kernel
theorem dX8_add_15 : decode cX8_add 15 = .ok (.getfield 9, 3) := by decide +kernel
theorem dX8_add_18 : decode cX8_add 18 = .ok (.iload_n 2, 1) := by decide +kernel
theorem dX8_add_19 : decode cX8_add 19 = .ok (.iastore, 1) := by decide +kernel
theorem dX8_add_20 : decode cX8_add 20 = .ok (.aload_n 0, 1) := by decide +kernel
theorem dX8_add_21 : decode cX8_add 21 = .ok (.getfield 38, 3) := by decide +kernel
theorem dX8_add_24 : decode cX8_add 24 = .ok (.aload_n 0, 1) := by decide +kernel
theorem dX8_add_25 : decode cX8_add 25 = .ok (.getfield 9, 3) := by decide +kernel
theorem dX8_add_28 : decode cX8_add 28 = .ok (.iload_n 3, 1) := by decide +kernel
theorem dX8_add_29 : decode cX8_add 29 = .ok (.iastore, 1) := by decide +kernel
theorem dX8_add_30 : decode cX8_add 30 = .ok (.aload_n 0, 1) := by decide +kernel
theorem dX8_add_31 : decode cX8_add 31 = .ok (.getfield 41, 3) := by decide +kernel
theorem dX8_add_34 : decode cX8_add 34 = .ok (.aload_n 0, 1) := by decide +kernel
theorem dX8_add_35 : decode cX8_add 35 = .ok (.getfield 9, 3) := by decide +kernel
theorem dX8_add_38 : decode cX8_add 38 = .ok (.iload 4, 2) := by decide +kernel
theorem dX8_add_40 : decode cX8_add 40 = .ok (.iastore, 1) := by decide +kernel
theorem dX8_add_41 : decode cX8_add 41 = .ok (.aload_n 0, 1) := by decide +kernel
theorem dX8_add_42 : decode cX8_add 42 = .ok (.dup, 1) := by decide +kernel
theorem dX8_add_43 : decode cX8_add 43 = .ok (.getfield 9, 3) := by decide +kernel
theorem dX8_add_46 : decode cX8_add 46 = .ok (.iconst 1, 1) := by decide +kernel
theorem dX8_add_47 : decode cX8_add 47 = .ok (.iadd, 1) := by decide +kernel
theorem dX8_add_48 : decode cX8_add 48 = .ok (.putfield 9, 3) := by decide +kernel
theorem dX8_add_51 : decode cX8_add 51 = .ok (.aload_n 0, 1) := by decide +kernel
theorem dX8_add_52 : decode cX8_add 52 = .ok (.getfield 9, 3) := by decide +kernel
theorem dX8_add_55 : decode cX8_add 55 = .ok (.iconst 1, 1) := by decide +kernel
theorem dX8_add_56 : decode cX8_add 56 = .ok (.isub, 1) := by decide +kernel
theorem dX8_add_57 : decode cX8_add 57 = .ok (.ireturn, 1) := by decide +kernel
theorem dX8_hold_0 : decode cX8_hold 0 = .ok (.aload_n 0, 1) := by decide +kernel
theorem dX8_hold_1 : decode cX8_hold 1 = .ok (.aload_n 0, 1) := by decide +kernel
theorem dX8_hold_2 : decode cX8_hold 2 = .ok (.getfield 22, 3) := by decide +kernel
theorem dX8_hold_5 : decode cX8_hold 5 = .ok (.sipush 2400, 3) := by decide +kernel
theorem dX8_hold_8 : decode cX8_hold 8 = .ok (.invokestatic 48, 3) := by decide +kernel
theorem dX8_hold_11 : decode cX8_hold 11 = .ok (.putfield 22, 3) := by decide +kernel
theorem dX8_hold_14 : decode cX8_hold 14 = .ok (.aload_n 0, 1) := by decide +kernel
theorem dX8_hold_15 : decode cX8_hold 15 = .ok (.iconst 0, 1) := by decide +kernel
theorem dX8_hold_16 : decode cX8_hold 16 = .ok (.putfield 19, 3) := by decide +kernel
theorem dX8_hold_19 : decode cX8_hold 19 = .ok (.aload_n 0, 1) := by decide +kernel
theorem dX8_hold_20 : decode cX8_hold 20 = .ok (.getfield 26, 3) := by decide +kernel
theorem dX8_hold_23 : decode cX8_hold 23 = .ok (.iconst 0, 1) := by decide +kernel
theorem dX8_hold_24 : decode cX8_hold 24 = .ok (.invokestatic 54, 3) := by decide +kernel
theorem dX8_hold_27 : decode cX8_hold 27 = .ok (.aload_n 0, 1) := by decide +kernel
theorem dX8_hold_28 : decode cX8_hold 28 = .ok (.getfield 29, 3) := by decide +kernel
theorem dX8_hold_31 : decode cX8_hold 31 = .ok (.iconst (-1), 1) := by decide +kernel
theorem dX8_hold_32 : decode cX8_hold 32 = .ok (.invokestatic 54, 3) := by decide +kernel
theorem dX8_hold_35 : decode cX8_hold 35 = .ok (.iconst 0, 1) := by decide +kernel
theorem dX8_hold_36 : decode cX8_hold 36 = .ok (.istore_n 2, 1) := by decide +kernel
theorem dX8_hold_37 : decode cX8_hold 37 = .ok (.iload_n 2, 1) := by decide +kernel
theorem dX8_hold_38 : decode cX8_hold 38 = .ok (.aload_n 0, 1) := by decide +kernel
theorem dX8_hold_39 : decode cX8_hold 39 = .ok (.getfield 9, 3) := by decide +kernel
theorem dX8_hold_42 : decode cX8_hold 42 = .ok (.if_icmp .ge 82, 3) := by decide +kernel
theorem dX8_hold_45 : decode cX8_hold 45 = .ok (.aload_n 0, 1) := by decide +kernel
theorem dX8_hold_46 : decode cX8_hold 46 = .ok (.getfield 32, 3) := by decide +kernel
theorem dX8_hold_49 : decode cX8_hold 49 = .ok (.iload_n 2, 1) := by decide +kernel
theorem dX8_hold_50 : decode cX8_hold 50 = .ok (.iaload, 1) := by decide +kernel
theorem dX8_hold_51 : decode cX8_hold 51 = .ok (.tableswitch 61 2 4 #[25, 34, 52], 25) := by decide +kernel
theorem dX8_hold_76 : decode cX8_hold 76 = .ok (.aload_n 0, 1) := by decide +kernel
theorem dX8_hold_77 : decode cX8_hold 77 = .ok (.iload_n 2, 1) := by decide +kernel
theorem dX8_hold_78 : decode cX8_hold 78 = .ok (.aload_n 1, 1) := by decide +kernel
theorem dX8_hold_79 : decode cX8_hold 79 = .ok (.invokevirtual 60, 3) := by decide +kernel
theorem dX8_hold_82 : decode cX8_hold 82 = .ok (.goto 36, 3) := by decide +kernel
theorem dX8_hold_85 : decode cX8_hold 85 = .ok (.aload_n 0, 1) := by decide +kernel
theorem dX8_hold_86 : decode cX8_hold 86 = .ok (.iload_n 2, 1) := by decide +kernel
theorem dX8_hold_87 : decode cX8_hold 87 = .ok (.aload_n 1, 1) := by decide +kernel
theorem dX8_hold_88 : decode cX8_hold 88 = .ok (.aload_n 0, 1) := by decide +kernel
theorem dX8_hold_89 : decode cX8_hold 89 = .ok (.getfield 35, 3) := by decide +kernel
theorem dX8_hold_92 : decode cX8_hold 92 = .ok (.iload_n 2, 1) := by decide +kernel
theorem dX8_hold_93 : decode cX8_hold 93 = .ok (.iaload, 1) := by decide +kernel
theorem dX8_hold_94 : decode cX8_hold 94 = .ok (.invokevirtual 64, 3) := by decide +kernel
theorem dX8_hold_97 : decode cX8_hold 97 = .ok (.invokevirtual 70, 3) := by decide +kernel
theorem dX8_hold_100 : decode cX8_hold 100 = .ok (.goto 18, 3) := by decide +kernel
theorem dX8_hold_103 : decode cX8_hold 103 = .ok (.aload_n 0, 1) := by decide +kernel
theorem dX8_hold_104 : decode cX8_hold 104 = .ok (.iload_n 2, 1) := by decide +kernel
theorem dX8_hold_105 : decode cX8_hold 105 = .ok (.aload_n 1, 1) := by decide +kernel
theorem dX8_hold_106 : decode cX8_hold 106 = .ok (.invokevirtual 74, 3) := by decide +kernel
theorem dX8_hold_109 : decode cX8_hold 109 = .ok (.goto 9, 3) := by decide +kernel
theorem dX8_hold_112 : decode cX8_hold 112 = .ok (.aload_n 0, 1) := by decide +kernel
theorem dX8_hold_113 : decode cX8_hold 113 = .ok (.iload_n 2, 1) := by decide +kernel
theorem dX8_hold_114 : decode cX8_hold 114 = .ok (.aload_n 1, 1) := by decide +kernel
theorem dX8_hold_115 : decode cX8_hold 115 = .ok (.invokevirtual 77, 3) := by decide +kernel
theorem dX8_hold_118 : decode cX8_hold 118 = .ok (.iinc 2 1, 3) := by decide +kernel
theorem dX8_hold_121 : decode cX8_hold 121 = .ok (.goto (-84), 3) := by decide +kernel
theorem dX8_hold_124 : decode cX8_hold 124 = .ok (.aload_n 0, 1) := by decide +kernel
theorem dX8_hold_125 : decode cX8_hold 125 = .ok (.iconst 1, 1) := by decide +kernel
theorem dX8_hold_126 : decode cX8_hold 126 = .ok (.putfield 15, 3) := by decide +kernel
theorem dX8_hold_129 : decode cX8_hold 129 = .ok (.aload_n 0, 1) := by decide +kernel
theorem dX8_hold_130 : decode cX8_hold 130 = .ok (.getfield 19, 3) := by decide +kernel
theorem dX8_hold_133 : decode cX8_hold 133 = .ok (.ireturn, 1) := by decide +kernel
theorem dX8_note_0 : decode cX8_note 0 = .ok (.aload_n 0, 1) := by decide +kernel
theorem dX8_note_1 : decode cX8_note 1 = .ok (.getfield 19, 3) := by decide +kernel
theorem dX8_note_4 : decode cX8_note 4 = .ok (.sipush 600, 3) := by decide +kernel
theorem dX8_note_7 : decode cX8_note 7 = .ok (.if_icmp .ge 58, 3) := by decide +kernel
theorem dX8_note_10 : decode cX8_note 10 = .ok (.aload_n 0, 1) := by decide +kernel
theorem dX8_note_11 : decode cX8_note 11 = .ok (.getfield 22, 3) := by decide +kernel
theorem dX8_note_14 : decode cX8_note 14 = .ok (.iconst 4, 1) := by decide +kernel
theorem dX8_note_15 : decode cX8_note 15 = .ok (.aload_n 0, 1) := by decide +kernel
theorem dX8_note_16 : decode cX8_note 16 = .ok (.getfield 19, 3) := by decide +kernel
theorem dX8_note_19 : decode cX8_note 19 = .ok (.imul, 1) := by decide +kernel
theorem dX8_note_20 : decode cX8_note 20 = .ok (.iload_n 1, 1) := by decide +kernel
theorem dX8_note_21 : decode cX8_note 21 = .ok (.iastore, 1) := by decide +kernel
theorem dX8_note_22 : decode cX8_note 22 = .ok (.aload_n 0, 1) := by decide +kernel
theorem dX8_note_23 : decode cX8_note 23 = .ok (.getfield 22, 3) := by decide +kernel
theorem dX8_note_26 : decode cX8_note 26 = .ok (.iconst 4, 1) := by decide +kernel
theorem dX8_note_27 : decode cX8_note 27 = .ok (.aload_n 0, 1) := by decide +kernel
theorem dX8_note_28 : decode cX8_note 28 = .ok (.getfield 19, 3) := by decide +kernel
theorem dX8_note_31 : decode cX8_note 31 = .ok (.imul, 1) := by decide +kernel
theorem dX8_note_32 : decode cX8_note 32 = .ok (.iconst 1, 1) := by decide +kernel
theorem dX8_note_33 : decode cX8_note 33 = .ok (.iadd, 1) := by decide +kernel
theorem dX8_note_34 : decode cX8_note 34 = .ok (.iload_n 2, 1) := by decide +kernel
theorem dX8_note_35 : decode cX8_note 35 = .ok (.iastore, 1) := by decide +kernel
theorem dX8_note_36 : decode cX8_note 36 = .ok (.aload_n 0, 1) := by decide +kernel
theorem dX8_note_37 : decode cX8_note 37 = .ok (.getfield 22, 3) := by decide +kernel
theorem dX8_note_40 : decode cX8_note 40 = .ok (.iconst 4, 1) := by decide +kernel
theorem dX8_note_41 : decode cX8_note 41 = .ok (.aload_n 0, 1) := by decide +kernel
theorem dX8_note_42 : decode cX8_note 42 = .ok (.getfield 19, 3) := by decide +kernel
theorem dX8_note_45 : decode cX8_note 45 = .ok (.imul, 1) := by decide +kernel
theorem dX8_note_46 : decode cX8_note 46 = .ok (.iconst 2, 1) := by decide +kernel
theorem dX8_note_47 : decode cX8_note 47 = .ok (.iadd, 1) := by decide +kernel
theorem dX8_note_48 : decode cX8_note 48 = .ok (.iload_n 3, 1) := by decide +kernel
theorem dX8_note_49 : decode cX8_note 49 = .ok (.iastore, 1) := by decide +kernel
theorem dX8_note_50 : decode cX8_note 50 = .ok (.aload_n 0, 1) := by decide +kernel
theorem dX8_note_51 : decode cX8_note 51 = .ok (.getfield 22, 3) := by decide +kernel
theorem dX8_note_54 : decode cX8_note 54 = .ok (.iconst 4, 1) := by decide +kernel
theorem dX8_note_55 : decode cX8_note 55 = .ok (.aload_n 0, 1) := by decide +kernel
theorem dX8_note_56 : decode cX8_note 56 = .ok (.getfield 19, 3) := by decide +kernel
theorem dX8_note_59 : decode cX8_note 59 = .ok (.imul, 1) := by decide +kernel
theorem dX8_note_60 : decode cX8_note 60 = .ok (.iconst 3, 1) := by decide +kernel
theorem dX8_note_61 : decode cX8_note 61 = .ok (.iadd, 1) := by decide +kernel
theorem dX8_note_62 : decode cX8_note 62 = .ok (.iload 4, 2) := by decide +kernel
theorem dX8_note_64 : decode cX8_note 64 = .ok (.iastore, 1) := by decide +kernel
theorem dX8_note_65 : decode cX8_note 65 = .ok (.aload_n 0, 1) := by decide +kernel
theorem dX8_note_66 : decode cX8_note 66 = .ok (.dup, 1) := by decide +kernel
theorem dX8_note_67 : decode cX8_note 67 = .ok (.getfield 19, 3) := by decide +kernel
theorem dX8_note_70 : decode cX8_note 70 = .ok (.iconst 1, 1) := by decide +kernel
theorem dX8_note_71 : decode cX8_note 71 = .ok (.iadd, 1) := by decide +kernel
theorem dX8_note_72 : decode cX8_note 72 = .ok (.putfield 19, 3) := by decide +kernel
theorem dX8_note_75 : decode cX8_note 75 = .ok (.aload_n 0, 1) := by decide +kernel
theorem dX8_note_76 : decode cX8_note 76 = .ok (.getfield 26, 3) := by decide +kernel
theorem dX8_note_79 : decode cX8_note 79 = .ok (.iload_n 1, 1) := by decide +kernel
theorem dX8_note_80 : decode cX8_note 80 = .ok (.iaload, 1) := by decide +kernel
theorem dX8_note_81 : decode cX8_note 81 = .ok (.ifCond .eq 14, 3) := by decide +kernel
theorem dX8_note_84 : decode cX8_note 84 = .ok (.iload 4, 2) := by decide +kernel
theorem dX8_note_86 : decode cX8_note 86 = .ok (.aload_n 0, 1) := by decide +kernel
theorem dX8_note_87 : decode cX8_note 87 = .ok (.getfield 29, 3) := by decide +kernel
theorem dX8_note_90 : decode cX8_note 90 = .ok (.iload_n 1, 1) := by decide +kernel
theorem dX8_note_91 : decode cX8_note 91 = .ok (.iaload, 1) := by decide +kernel
theorem dX8_note_92 : decode cX8_note 92 = .ok (.if_icmp .ge 11, 3) := by decide +kernel
theorem dX8_note_95 : decode cX8_note 95 = .ok (.aload_n 0, 1) := by decide +kernel
theorem dX8_note_96 : decode cX8_note 96 = .ok (.getfield 29, 3) := by decide +kernel
theorem dX8_note_99 : decode cX8_note 99 = .ok (.iload_n 1, 1) := by decide +kernel
theorem dX8_note_100 : decode cX8_note 100 = .ok (.iload 4, 2) := by decide +kernel
theorem dX8_note_102 : decode cX8_note 102 = .ok (.iastore, 1) := by decide +kernel
theorem dX8_note_103 : decode cX8_note 103 = .ok (.aload_n 0, 1) := by decide +kernel
theorem dX8_note_104 : decode cX8_note 104 = .ok (.getfield 26, 3) := by decide +kernel
theorem dX8_note_107 : decode cX8_note 107 = .ok (.iload_n 1, 1) := by decide +kernel
theorem dX8_note_108 : decode cX8_note 108 = .ok (.dup2, 1) := by decide +kernel
theorem dX8_note_109 : decode cX8_note 109 = .ok (.iaload, 1) := by decide +kernel
theorem dX8_note_110 : decode cX8_note 110 = .ok (.iconst 1, 1) := by decide +kernel
theorem dX8_note_111 : decode cX8_note 111 = .ok (.iadd, 1) := by decide +kernel
theorem dX8_note_112 : decode cX8_note 112 = .ok (.iastore, 1) := by decide +kernel
theorem dX8_note_113 : decode cX8_note 113 = .ok (.return_, 1) := by decide +kernel
theorem dX8_holdLines_0 : decode cX8_holdLines 0 = .ok (.aload_n 2, 1) := by decide +kernel
theorem dX8_holdLines_1 : decode cX8_holdLines 1 = .ok (.getfield 80, 3) := by decide +kernel
theorem dX8_holdLines_4 : decode cX8_holdLines 4 = .ok (.bipush 64, 2) := by decide +kernel
theorem dX8_holdLines_6 : decode cX8_holdLines 6 = .ok (.aload_n 0, 1) := by decide +kernel
theorem dX8_holdLines_7 : decode cX8_holdLines 7 = .ok (.getfield 35, 3) := by decide +kernel
theorem dX8_holdLines_10 : decode cX8_holdLines 10 = .ok (.iload_n 1, 1) := by decide +kernel
theorem dX8_holdLines_11 : decode cX8_holdLines 11 = .ok (.iaload, 1) := by decide +kernel
theorem dX8_holdLines_12 : decode cX8_holdLines 12 = .ok (.imul, 1) := by decide +kernel
theorem dX8_holdLines_13 : decode cX8_holdLines 13 = .ok (.aload_n 0, 1) := by decide +kernel
theorem dX8_holdLines_14 : decode cX8_holdLines 14 = .ok (.getfield 44, 3) := by decide +kernel
theorem dX8_holdLines_17 : decode cX8_holdLines 17 = .ok (.iconst 0, 1) := by decide +kernel
theorem dX8_holdLines_18 : decode cX8_holdLines 18 = .ok (.bipush 64, 2) := by decide +kernel
theorem dX8_holdLines_20 : decode cX8_holdLines 20 = .ok (.invokestatic 83, 3) := by decide +kernel
theorem dX8_holdLines_23 : decode cX8_holdLines 23 = .ok (.aload_n 0, 1) := by decide +kernel
theorem dX8_holdLines_24 : decode cX8_holdLines 24 = .ok (.iload_n 1, 1) := by decide +kernel
theorem dX8_holdLines_25 : decode cX8_holdLines 25 = .ok (.bipush 64, 2) := by decide +kernel
theorem dX8_holdLines_27 : decode cX8_holdLines 27 = .ok (.iconst 1, 1) := by decide +kernel
theorem dX8_holdLines_28 : decode cX8_holdLines 28 = .ok (.invokevirtual 89, 3) := by decide +kernel
theorem dX8_holdLines_31 : decode cX8_holdLines 31 = .ok (.aload_n 0, 1) := by decide +kernel
theorem dX8_holdLines_32 : decode cX8_holdLines 32 = .ok (.getfield 44, 3) := by decide +kernel
theorem dX8_holdLines_35 : decode cX8_holdLines 35 = .ok (.invokestatic 93, 3) := by decide +kernel
theorem dX8_holdLines_38 : decode cX8_holdLines 38 = .ok (.aload_n 0, 1) := by decide +kernel
theorem dX8_holdLines_39 : decode cX8_holdLines 39 = .ok (.iload_n 1, 1) := by decide +kernel
theorem dX8_holdLines_40 : decode cX8_holdLines 40 = .ok (.iconst 1, 1) := by decide +kernel
theorem dX8_holdLines_41 : decode cX8_holdLines 41 = .ok (.bipush 64, 2) := by decide +kernel
theorem dX8_holdLines_43 : decode cX8_holdLines 43 = .ok (.invokevirtual 89, 3) := by decide +kernel
theorem dX8_holdLines_46 : decode cX8_holdLines 46 = .ok (.return_, 1) := by decide +kernel
theorem dX8_holdMap_0 : decode cX8_holdMap 0 = .ok (.iconst 0, 1) := by decide +kernel
theorem dX8_holdMap_1 : decode cX8_holdMap 1 = .ok (.istore 4, 2) := by decide +kernel
theorem dX8_holdMap_3 : decode cX8_holdMap 3 = .ok (.iload 4, 2) := by decide +kernel
theorem dX8_holdMap_5 : decode cX8_holdMap 5 = .ok (.bipush 64, 2) := by decide +kernel
theorem dX8_holdMap_7 : decode cX8_holdMap 7 = .ok (.if_icmp .ge 135, 3) := by decide +kernel
theorem dX8_holdMap_10 : decode cX8_holdMap 10 = .ok (.aload_n 0, 1) := by decide +kernel
theorem dX8_holdMap_11 : decode cX8_holdMap 11 = .ok (.getfield 32, 3) := by decide +kernel
theorem dX8_holdMap_14 : decode cX8_holdMap 14 = .ok (.iload_n 1, 1) := by decide +kernel
theorem dX8_holdMap_15 : decode cX8_holdMap 15 = .ok (.iaload, 1) := by decide +kernel
theorem dX8_holdMap_16 : decode cX8_holdMap 16 = .ok (.ifCond .ne 13, 3) := by decide +kernel
theorem dX8_holdMap_19 : decode cX8_holdMap 19 = .ok (.aload_n 0, 1) := by decide +kernel
theorem dX8_holdMap_20 : decode cX8_holdMap 20 = .ok (.getfield 44, 3) := by decide +kernel
theorem dX8_holdMap_23 : decode cX8_holdMap 23 = .ok (.iload 4, 2) := by decide +kernel
theorem dX8_holdMap_25 : decode cX8_holdMap 25 = .ok (.laload, 1) := by decide +kernel
theorem dX8_holdMap_26 : decode cX8_holdMap 26 = .ok (.goto 13, 3) := by decide +kernel
theorem dX8_holdMap_29 : decode cX8_holdMap 29 = .ok (.aload_n 0, 1) := by decide +kernel
theorem dX8_holdMap_30 : decode cX8_holdMap 30 = .ok (.getfield 44, 3) := by decide +kernel
theorem dX8_holdMap_33 : decode cX8_holdMap 33 = .ok (.iload 4, 2) := by decide +kernel
theorem dX8_holdMap_35 : decode cX8_holdMap 35 = .ok (.laload, 1) := by decide +kernel
theorem dX8_holdMap_36 : decode cX8_holdMap 36 = .ok (.invokestatic 97, 3) := by decide +kernel
theorem dX8_holdMap_39 : decode cX8_holdMap 39 = .ok (.lstore 5, 2) := by decide +kernel
theorem dX8_holdMap_41 : decode cX8_holdMap 41 = .ok (.lload 5, 2) := by decide +kernel
theorem dX8_holdMap_43 : decode cX8_holdMap 43 = .ok (.invokestatic 101, 3) := by decide +kernel
theorem dX8_holdMap_46 : decode cX8_holdMap 46 = .ok (.lstore 7, 2) := by decide +kernel
theorem dX8_holdMap_48 : decode cX8_holdMap 48 = .ok (.lload 7, 2) := by decide +kernel
theorem dX8_holdMap_50 : decode cX8_holdMap 50 = .ok (.invokestatic 104, 3) := by decide +kernel
theorem dX8_holdMap_53 : decode cX8_holdMap 53 = .ok (.istore 9, 2) := by decide +kernel
theorem dX8_holdMap_55 : decode cX8_holdMap 55 = .ok (.iconst 0, 1) := by decide +kernel
theorem dX8_holdMap_56 : decode cX8_holdMap 56 = .ok (.istore 10, 2) := by decide +kernel
theorem dX8_holdMap_58 : decode cX8_holdMap 58 = .ok (.iload 10, 2) := by decide +kernel
theorem dX8_holdMap_60 : decode cX8_holdMap 60 = .ok (.iload 9, 2) := by decide +kernel
theorem dX8_holdMap_62 : decode cX8_holdMap 62 = .ok (.if_icmp .ge 74, 3) := by decide +kernel
theorem dX8_holdMap_65 : decode cX8_holdMap 65 = .ok (.lload 7, 2) := by decide +kernel
theorem dX8_holdMap_67 : decode cX8_holdMap 67 = .ok (.invokestatic 110, 3) := by decide +kernel
theorem dX8_holdMap_70 : decode cX8_holdMap 70 = .ok (.istore 11, 2) := by decide +kernel
theorem dX8_holdMap_72 : decode cX8_holdMap 72 = .ok (.lload 5, 2) := by decide +kernel
theorem dX8_holdMap_74 : decode cX8_holdMap 74 = .ok (.iload 11, 2) := by decide +kernel
theorem dX8_holdMap_76 : decode cX8_holdMap 76 = .ok (.invokestatic 113, 3) := by decide +kernel
theorem dX8_holdMap_79 : decode cX8_holdMap 79 = .ok (.istore 12, 2) := by decide +kernel
theorem dX8_holdMap_81 : decode cX8_holdMap 81 = .ok (.iload 12, 2) := by decide +kernel
theorem dX8_holdMap_83 : decode cX8_holdMap 83 = .ok (.aload_n 0, 1) := by decide +kernel
theorem dX8_holdMap_84 : decode cX8_holdMap 84 = .ok (.getfield 41, 3) := by decide +kernel
theorem dX8_holdMap_87 : decode cX8_holdMap 87 = .ok (.iload_n 1, 1) := by decide +kernel
theorem dX8_holdMap_88 : decode cX8_holdMap 88 = .ok (.iaload, 1) := by decide +kernel
theorem dX8_holdMap_89 : decode cX8_holdMap 89 = .ok (.if_icmp .ge 32, 3) := by decide +kernel
theorem dX8_holdMap_92 : decode cX8_holdMap 92 = .ok (.iload_n 2, 1) := by decide +kernel
theorem dX8_holdMap_93 : decode cX8_holdMap 93 = .ok (.iload 4, 2) := by decide +kernel
theorem dX8_holdMap_95 : decode cX8_holdMap 95 = .ok (.imul, 1) := by decide +kernel
theorem dX8_holdMap_96 : decode cX8_holdMap 96 = .ok (.iload_n 3, 1) := by decide +kernel
theorem dX8_holdMap_97 : decode cX8_holdMap 97 = .ok (.iload 11, 2) := by decide +kernel
theorem dX8_holdMap_99 : decode cX8_holdMap 99 = .ok (.imul, 1) := by decide +kernel
theorem dX8_holdMap_100 : decode cX8_holdMap 100 = .ok (.iadd, 1) := by decide +kernel
theorem dX8_holdMap_101 : decode cX8_holdMap 101 = .ok (.istore 13, 2) := by decide +kernel
theorem dX8_holdMap_103 : decode cX8_holdMap 103 = .ok (.aload_n 0, 1) := by decide +kernel
theorem dX8_holdMap_104 : decode cX8_holdMap 104 = .ok (.iload_n 1, 1) := by decide +kernel
theorem dX8_holdMap_105 : decode cX8_holdMap 105 = .ok (.iload 13, 2) := by decide +kernel
theorem dX8_holdMap_107 : decode cX8_holdMap 107 = .ok (.iload 13, 2) := by decide +kernel
theorem dX8_holdMap_109 : decode cX8_holdMap 109 = .ok (.iload_n 3, 1) := by decide +kernel
theorem dX8_holdMap_110 : decode cX8_holdMap 110 = .ok (.iload 12, 2) := by decide +kernel
theorem dX8_holdMap_112 : decode cX8_holdMap 112 = .ok (.iconst 1, 1) := by decide +kernel
theorem dX8_holdMap_113 : decode cX8_holdMap 113 = .ok (.isub, 1) := by decide +kernel
theorem dX8_holdMap_114 : decode cX8_holdMap 114 = .ok (.imul, 1) := by decide +kernel
theorem dX8_holdMap_115 : decode cX8_holdMap 115 = .ok (.iadd, 1) := by decide +kernel
theorem dX8_holdMap_116 : decode cX8_holdMap 116 = .ok (.iload 12, 2) := by decide +kernel
theorem dX8_holdMap_118 : decode cX8_holdMap 118 = .ok (.invokevirtual 117, 3) := by decide +kernel
theorem dX8_holdMap_121 : decode cX8_holdMap 121 = .ok (.lload 7, 2) := by decide +kernel
theorem dX8_holdMap_123 : decode cX8_holdMap 123 = .ok (.lload 7, 2) := by decide +kernel
theorem dX8_holdMap_125 : decode cX8_holdMap 125 = .ok (.lconst 1, 1) := by decide +kernel
theorem dX8_holdMap_126 : decode cX8_holdMap 126 = .ok (.lsub, 1) := by decide +kernel
theorem dX8_holdMap_127 : decode cX8_holdMap 127 = .ok (.land, 1) := by decide +kernel
theorem dX8_holdMap_128 : decode cX8_holdMap 128 = .ok (.lstore 7, 2) := by decide +kernel
theorem dX8_holdMap_130 : decode cX8_holdMap 130 = .ok (.iinc 10 1, 3) := by decide +kernel
theorem dX8_holdMap_133 : decode cX8_holdMap 133 = .ok (.goto (-75), 3) := by decide +kernel
theorem dX8_holdMap_136 : decode cX8_holdMap 136 = .ok (.iinc 4 1, 3) := by decide +kernel
theorem dX8_holdMap_139 : decode cX8_holdMap 139 = .ok (.goto (-136), 3) := by decide +kernel
theorem dX8_holdMap_142 : decode cX8_holdMap 142 = .ok (.return_, 1) := by decide +kernel
theorem dX8_holdInside_0 : decode cX8_holdInside 0 = .ok (.aload_n 0, 1) := by decide +kernel
theorem dX8_holdInside_1 : decode cX8_holdInside 1 = .ok (.getfield 41, 3) := by decide +kernel
theorem dX8_holdInside_4 : decode cX8_holdInside 4 = .ok (.iload_n 1, 1) := by decide +kernel
theorem dX8_holdInside_5 : decode cX8_holdInside 5 = .ok (.iaload, 1) := by decide +kernel
theorem dX8_holdInside_6 : decode cX8_holdInside 6 = .ok (.istore_n 3, 1) := by decide +kernel
theorem dX8_holdInside_7 : decode cX8_holdInside 7 = .ok (.bipush 64, 2) := by decide +kernel
theorem dX8_holdInside_9 : decode cX8_holdInside 9 = .ok (.aload_n 0, 1) := by decide +kernel
theorem dX8_holdInside_10 : decode cX8_holdInside 10 = .ok (.getfield 38, 3) := by decide +kernel
theorem dX8_holdInside_13 : decode cX8_holdInside 13 = .ok (.iload_n 1, 1) := by decide +kernel
theorem dX8_holdInside_14 : decode cX8_holdInside 14 = .ok (.iaload, 1) := by decide +kernel
theorem dX8_holdInside_15 : decode cX8_holdInside 15 = .ok (.imul, 1) := by decide +kernel
theorem dX8_holdInside_16 : decode cX8_holdInside 16 = .ok (.istore 4, 2) := by decide +kernel
theorem dX8_holdInside_18 : decode cX8_holdInside 18 = .ok (.aload_n 2, 1) := by decide +kernel
theorem dX8_holdInside_19 : decode cX8_holdInside 19 = .ok (.getfield 80, 3) := by decide +kernel
theorem dX8_holdInside_22 : decode cX8_holdInside 22 = .ok (.iload 4, 2) := by decide +kernel
theorem dX8_holdInside_24 : decode cX8_holdInside 24 = .ok (.aload_n 0, 1) := by decide +kernel
theorem dX8_holdInside_25 : decode cX8_holdInside 25 = .ok (.getfield 44, 3) := by decide +kernel
theorem dX8_holdInside_28 : decode cX8_holdInside 28 = .ok (.iconst 0, 1) := by decide +kernel
theorem dX8_holdInside_29 : decode cX8_holdInside 29 = .ok (.iload_n 3, 1) := by decide +kernel
theorem dX8_holdInside_30 : decode cX8_holdInside 30 = .ok (.iconst 0, 1) := by decide +kernel
theorem dX8_holdInside_31 : decode cX8_holdInside 31 = .ok (.invokestatic 121, 3) := by decide +kernel
theorem dX8_holdInside_34 : decode cX8_holdInside 34 = .ok (.iconst 0, 1) := by decide +kernel
theorem dX8_holdInside_35 : decode cX8_holdInside 35 = .ok (.istore 5, 2) := by decide +kernel
theorem dX8_holdInside_37 : decode cX8_holdInside 37 = .ok (.iload 5, 2) := by decide +kernel
theorem dX8_holdInside_39 : decode cX8_holdInside 39 = .ok (.bipush 64, 2) := by decide +kernel
theorem dX8_holdInside_41 : decode cX8_holdInside 41 = .ok (.if_icmp .ge 105, 3) := by decide +kernel
theorem dX8_holdInside_44 : decode cX8_holdInside 44 = .ok (.aload_n 2, 1) := by decide +kernel
theorem dX8_holdInside_45 : decode cX8_holdInside 45 = .ok (.getfield 80, 3) := by decide +kernel
theorem dX8_holdInside_48 : decode cX8_holdInside 48 = .ok (.bipush 64, 2) := by decide +kernel
theorem dX8_holdInside_50 : decode cX8_holdInside 50 = .ok (.aload_n 0, 1) := by decide +kernel
theorem dX8_holdInside_51 : decode cX8_holdInside 51 = .ok (.getfield 35, 3) := by decide +kernel
theorem dX8_holdInside_54 : decode cX8_holdInside 54 = .ok (.iload_n 1, 1) := by decide +kernel
theorem dX8_holdInside_55 : decode cX8_holdInside 55 = .ok (.iaload, 1) := by decide +kernel
theorem dX8_holdInside_56 : decode cX8_holdInside 56 = .ok (.imul, 1) := by decide +kernel
theorem dX8_holdInside_57 : decode cX8_holdInside 57 = .ok (.iload 5, 2) := by decide +kernel
theorem dX8_holdInside_59 : decode cX8_holdInside 59 = .ok (.iadd, 1) := by decide +kernel
theorem dX8_holdInside_60 : decode cX8_holdInside 60 = .ok (.laload, 1) := by decide +kernel
theorem dX8_holdInside_61 : decode cX8_holdInside 61 = .ok (.aload_n 0, 1) := by decide +kernel
theorem dX8_holdInside_62 : decode cX8_holdInside 62 = .ok (.getfield 44, 3) := by decide +kernel
theorem dX8_holdInside_65 : decode cX8_holdInside 65 = .ok (.iload 5, 2) := by decide +kernel
theorem dX8_holdInside_67 : decode cX8_holdInside 67 = .ok (.laload, 1) := by decide +kernel
theorem dX8_holdInside_68 : decode cX8_holdInside 68 = .ok (.ldc2_w 125, 3) := by decide +kernel
theorem dX8_holdInside_71 : decode cX8_holdInside 71 = .ok (.lxor, 1) := by decide +kernel
theorem dX8_holdInside_72 : decode cX8_holdInside 72 = .ok (.land, 1) := by decide +kernel
theorem dX8_holdInside_73 : decode cX8_holdInside 73 = .ok (.lstore 6, 2) := by decide +kernel
theorem dX8_holdInside_75 : decode cX8_holdInside 75 = .ok (.lload 6, 2) := by decide +kernel
theorem dX8_holdInside_77 : decode cX8_holdInside 77 = .ok (.invokestatic 104, 3) := by decide +kernel
theorem dX8_holdInside_80 : decode cX8_holdInside 80 = .ok (.istore 8, 2) := by decide +kernel
theorem dX8_holdInside_82 : decode cX8_holdInside 82 = .ok (.iconst 0, 1) := by decide +kernel
theorem dX8_holdInside_83 : decode cX8_holdInside 83 = .ok (.istore 9, 2) := by decide +kernel
theorem dX8_holdInside_85 : decode cX8_holdInside 85 = .ok (.iload 9, 2) := by decide +kernel
theorem dX8_holdInside_87 : decode cX8_holdInside 87 = .ok (.iload 8, 2) := by decide +kernel
theorem dX8_holdInside_89 : decode cX8_holdInside 89 = .ok (.if_icmp .ge 51, 3) := by decide +kernel
theorem dX8_holdInside_92 : decode cX8_holdInside 92 = .ok (.bipush 64, 2) := by decide +kernel
theorem dX8_holdInside_94 : decode cX8_holdInside 94 = .ok (.iload 5, 2) := by decide +kernel
theorem dX8_holdInside_96 : decode cX8_holdInside 96 = .ok (.imul, 1) := by decide +kernel
theorem dX8_holdInside_97 : decode cX8_holdInside 97 = .ok (.lload 6, 2) := by decide +kernel
theorem dX8_holdInside_99 : decode cX8_holdInside 99 = .ok (.invokestatic 110, 3) := by decide +kernel
theorem dX8_holdInside_102 : decode cX8_holdInside 102 = .ok (.iadd, 1) := by decide +kernel
theorem dX8_holdInside_103 : decode cX8_holdInside 103 = .ok (.istore 10, 2) := by decide +kernel
theorem dX8_holdInside_105 : decode cX8_holdInside 105 = .ok (.aload_n 0, 1) := by decide +kernel
theorem dX8_holdInside_106 : decode cX8_holdInside 106 = .ok (.iload_n 1, 1) := by decide +kernel
theorem dX8_holdInside_107 : decode cX8_holdInside 107 = .ok (.iload 10, 2) := by decide +kernel
theorem dX8_holdInside_109 : decode cX8_holdInside 109 = .ok (.aload_n 2, 1) := by decide +kernel
theorem dX8_holdInside_110 : decode cX8_holdInside 110 = .ok (.getfield 80, 3) := by decide +kernel
theorem dX8_holdInside_113 : decode cX8_holdInside 113 = .ok (.iload 4, 2) := by decide +kernel
theorem dX8_holdInside_115 : decode cX8_holdInside 115 = .ok (.iload 10, 2) := by decide +kernel
theorem dX8_holdInside_117 : decode cX8_holdInside 117 = .ok (.iload_n 3, 1) := by decide +kernel
theorem dX8_holdInside_118 : decode cX8_holdInside 118 = .ok (.invokestatic 127, 3) := by decide +kernel
theorem dX8_holdInside_121 : decode cX8_holdInside 121 = .ok (.iload_n 3, 1) := by decide +kernel
theorem dX8_holdInside_122 : decode cX8_holdInside 122 = .ok (.invokevirtual 117, 3) := by decide +kernel
theorem dX8_holdInside_125 : decode cX8_holdInside 125 = .ok (.lload 6, 2) := by decide +kernel
theorem dX8_holdInside_127 : decode cX8_holdInside 127 = .ok (.lload 6, 2) := by decide +kernel
theorem dX8_holdInside_129 : decode cX8_holdInside 129 = .ok (.lconst 1, 1) := by decide +kernel
theorem dX8_holdInside_130 : decode cX8_holdInside 130 = .ok (.lsub, 1) := by decide +kernel
theorem dX8_holdInside_131 : decode cX8_holdInside 131 = .ok (.land, 1) := by decide +kernel
theorem dX8_holdInside_132 : decode cX8_holdInside 132 = .ok (.lstore 6, 2) := by decide +kernel
theorem dX8_holdInside_134 : decode cX8_holdInside 134 = .ok (.iinc 9 1, 3) := by decide +kernel
theorem dX8_holdInside_137 : decode cX8_holdInside 137 = .ok (.goto (-52), 3) := by decide +kernel
theorem dX8_holdInside_140 : decode cX8_holdInside 140 = .ok (.iinc 5 1, 3) := by decide +kernel
theorem dX8_holdInside_143 : decode cX8_holdInside 143 = .ok (.goto (-106), 3) := by decide +kernel
theorem dX8_holdInside_146 : decode cX8_holdInside 146 = .ok (.return_, 1) := by decide +kernel
theorem dX8_leastLacking_0 : decode cX8_leastLacking 0 = .ok (.iload_n 2, 1) := by decide +kernel
theorem dX8_leastLacking_1 : decode cX8_leastLacking 1 = .ok (.bipush 64, 2) := by decide +kernel
theorem dX8_leastLacking_3 : decode cX8_leastLacking 3 = .ok (.irem, 1) := by decide +kernel
theorem dX8_leastLacking_4 : decode cX8_leastLacking 4 = .ok (.iload_n 3, 1) := by decide +kernel
theorem dX8_leastLacking_5 : decode cX8_leastLacking 5 = .ok (.isub, 1) := by decide +kernel
theorem dX8_leastLacking_6 : decode cX8_leastLacking 6 = .ok (.iconst 0, 1) := by decide +kernel
theorem dX8_leastLacking_7 : decode cX8_leastLacking 7 = .ok (.invokestatic 131, 3) := by decide +kernel
theorem dX8_leastLacking_10 : decode cX8_leastLacking 10 = .ok (.istore 4, 2) := by decide +kernel
theorem dX8_leastLacking_12 : decode cX8_leastLacking 12 = .ok (.iload_n 2, 1) := by decide +kernel
theorem dX8_leastLacking_13 : decode cX8_leastLacking 13 = .ok (.bipush 64, 2) := by decide +kernel
theorem dX8_leastLacking_15 : decode cX8_leastLacking 15 = .ok (.irem, 1) := by decide +kernel
theorem dX8_leastLacking_16 : decode cX8_leastLacking 16 = .ok (.iload_n 3, 1) := by decide +kernel
theorem dX8_leastLacking_17 : decode cX8_leastLacking 17 = .ok (.iadd, 1) := by decide +kernel
theorem dX8_leastLacking_18 : decode cX8_leastLacking 18 = .ok (.bipush 63, 2) := by decide +kernel
theorem dX8_leastLacking_20 : decode cX8_leastLacking 20 = .ok (.invokestatic 137, 3) := by decide +kernel
theorem dX8_leastLacking_23 : decode cX8_leastLacking 23 = .ok (.istore 5, 2) := by decide +kernel
theorem dX8_leastLacking_25 : decode cX8_leastLacking 25 = .ok (.iload_n 2, 1) := by decide +kernel
theorem dX8_leastLacking_26 : decode cX8_leastLacking 26 = .ok (.bipush 64, 2) := by decide +kernel
theorem dX8_leastLacking_28 : decode cX8_leastLacking 28 = .ok (.idiv, 1) := by decide +kernel
theorem dX8_leastLacking_29 : decode cX8_leastLacking 29 = .ok (.iload_n 3, 1) := by decide +kernel
theorem dX8_leastLacking_30 : decode cX8_leastLacking 30 = .ok (.iadd, 1) := by decide +kernel
theorem dX8_leastLacking_31 : decode cX8_leastLacking 31 = .ok (.bipush 63, 2) := by decide +kernel
theorem dX8_leastLacking_33 : decode cX8_leastLacking 33 = .ok (.invokestatic 137, 3) := by decide +kernel
theorem dX8_leastLacking_36 : decode cX8_leastLacking 36 = .ok (.istore 6, 2) := by decide +kernel
theorem dX8_leastLacking_38 : decode cX8_leastLacking 38 = .ok (.iload 4, 2) := by decide +kernel
theorem dX8_leastLacking_40 : decode cX8_leastLacking 40 = .ok (.iload 5, 2) := by decide +kernel
theorem dX8_leastLacking_42 : decode cX8_leastLacking 42 = .ok (.iload 4, 2) := by decide +kernel
theorem dX8_leastLacking_44 : decode cX8_leastLacking 44 = .ok (.isub, 1) := by decide +kernel
theorem dX8_leastLacking_45 : decode cX8_leastLacking 45 = .ok (.iconst 1, 1) := by decide +kernel
theorem dX8_leastLacking_46 : decode cX8_leastLacking 46 = .ok (.iadd, 1) := by decide +kernel
theorem dX8_leastLacking_47 : decode cX8_leastLacking 47 = .ok (.invokestatic 140, 3) := by decide +kernel
theorem dX8_leastLacking_50 : decode cX8_leastLacking 50 = .ok (.lstore 7, 2) := by decide +kernel
theorem dX8_leastLacking_52 : decode cX8_leastLacking 52 = .ok (.iload_n 2, 1) := by decide +kernel
theorem dX8_leastLacking_53 : decode cX8_leastLacking 53 = .ok (.bipush 64, 2) := by decide +kernel
theorem dX8_leastLacking_55 : decode cX8_leastLacking 55 = .ok (.idiv, 1) := by decide +kernel
theorem dX8_leastLacking_56 : decode cX8_leastLacking 56 = .ok (.iload_n 3, 1) := by decide +kernel
theorem dX8_leastLacking_57 : decode cX8_leastLacking 57 = .ok (.isub, 1) := by decide +kernel
theorem dX8_leastLacking_58 : decode cX8_leastLacking 58 = .ok (.iconst 0, 1) := by decide +kernel
theorem dX8_leastLacking_59 : decode cX8_leastLacking 59 = .ok (.invokestatic 131, 3) := by decide +kernel
theorem dX8_leastLacking_62 : decode cX8_leastLacking 62 = .ok (.istore 9, 2) := by decide +kernel
theorem dX8_leastLacking_64 : decode cX8_leastLacking 64 = .ok (.iload 9, 2) := by decide +kernel
theorem dX8_leastLacking_66 : decode cX8_leastLacking 66 = .ok (.iload 6, 2) := by decide +kernel
theorem dX8_leastLacking_68 : decode cX8_leastLacking 68 = .ok (.if_icmp .gt 43, 3) := by decide +kernel
theorem dX8_leastLacking_71 : decode cX8_leastLacking 71 = .ok (.lload 7, 2) := by decide +kernel
theorem dX8_leastLacking_73 : decode cX8_leastLacking 73 = .ok (.aload_n 0, 1) := by decide +kernel
theorem dX8_leastLacking_74 : decode cX8_leastLacking 74 = .ok (.iload_n 1, 1) := by decide +kernel
theorem dX8_leastLacking_75 : decode cX8_leastLacking 75 = .ok (.iload 9, 2) := by decide +kernel
theorem dX8_leastLacking_77 : decode cX8_leastLacking 77 = .ok (.iadd, 1) := by decide +kernel
theorem dX8_leastLacking_78 : decode cX8_leastLacking 78 = .ok (.laload, 1) := by decide +kernel
theorem dX8_leastLacking_79 : decode cX8_leastLacking 79 = .ok (.ldc2_w 125, 3) := by decide +kernel
theorem dX8_leastLacking_82 : decode cX8_leastLacking 82 = .ok (.lxor, 1) := by decide +kernel
theorem dX8_leastLacking_83 : decode cX8_leastLacking 83 = .ok (.land, 1) := by decide +kernel
theorem dX8_leastLacking_84 : decode cX8_leastLacking 84 = .ok (.lstore 10, 2) := by decide +kernel
theorem dX8_leastLacking_86 : decode cX8_leastLacking 86 = .ok (.lload 10, 2) := by decide +kernel
theorem dX8_leastLacking_88 : decode cX8_leastLacking 88 = .ok (.lconst 0, 1) := by decide +kernel
theorem dX8_leastLacking_89 : decode cX8_leastLacking 89 = .ok (.lcmp, 1) := by decide +kernel
theorem dX8_leastLacking_90 : decode cX8_leastLacking 90 = .ok (.ifCond .eq 15, 3) := by decide +kernel
theorem dX8_leastLacking_93 : decode cX8_leastLacking 93 = .ok (.bipush 64, 2) := by decide +kernel
theorem dX8_leastLacking_95 : decode cX8_leastLacking 95 = .ok (.iload 9, 2) := by decide +kernel
theorem dX8_leastLacking_97 : decode cX8_leastLacking 97 = .ok (.imul, 1) := by decide +kernel
theorem dX8_leastLacking_98 : decode cX8_leastLacking 98 = .ok (.lload 10, 2) := by decide +kernel
theorem dX8_leastLacking_100 : decode cX8_leastLacking 100 = .ok (.invokestatic 110, 3) := by decide +kernel
theorem dX8_leastLacking_103 : decode cX8_leastLacking 103 = .ok (.iadd, 1) := by decide +kernel
theorem dX8_leastLacking_104 : decode cX8_leastLacking 104 = .ok (.ireturn, 1) := by decide +kernel
theorem dX8_leastLacking_105 : decode cX8_leastLacking 105 = .ok (.iinc 9 1, 3) := by decide +kernel
theorem dX8_leastLacking_108 : decode cX8_leastLacking 108 = .ok (.goto (-44), 3) := by decide +kernel
theorem dX8_leastLacking_111 : decode cX8_leastLacking 111 = .ok (.iload_n 2, 1) := by decide +kernel
theorem dX8_leastLacking_112 : decode cX8_leastLacking 112 = .ok (.ireturn, 1) := by decide +kernel
theorem dX8_holdArea_0 : decode cX8_holdArea 0 = .ok (.iconst 0, 1) := by decide +kernel
theorem dX8_holdArea_1 : decode cX8_holdArea 1 = .ok (.istore_n 3, 1) := by decide +kernel
theorem dX8_holdArea_2 : decode cX8_holdArea 2 = .ok (.iload_n 3, 1) := by decide +kernel
theorem dX8_holdArea_3 : decode cX8_holdArea 3 = .ok (.aload_n 2, 1) := by decide +kernel
theorem dX8_holdArea_4 : decode cX8_holdArea 4 = .ok (.getfield 144, 3) := by decide +kernel
theorem dX8_holdArea_7 : decode cX8_holdArea 7 = .ok (.if_icmp .ge 47, 3) := by decide +kernel
theorem dX8_holdArea_10 : decode cX8_holdArea 10 = .ok (.aload_n 2, 1) := by decide +kernel
theorem dX8_holdArea_11 : decode cX8_holdArea 11 = .ok (.getfield 147, 3) := by decide +kernel
theorem dX8_holdArea_14 : decode cX8_holdArea 14 = .ok (.iload_n 3, 1) := by decide +kernel
theorem dX8_holdArea_15 : decode cX8_holdArea 15 = .ok (.iaload, 1) := by decide +kernel
theorem dX8_holdArea_16 : decode cX8_holdArea 16 = .ok (.aload_n 0, 1) := by decide +kernel
theorem dX8_holdArea_17 : decode cX8_holdArea 17 = .ok (.getfield 41, 3) := by decide +kernel
theorem dX8_holdArea_20 : decode cX8_holdArea 20 = .ok (.iload_n 1, 1) := by decide +kernel
theorem dX8_holdArea_21 : decode cX8_holdArea 21 = .ok (.iaload, 1) := by decide +kernel
theorem dX8_holdArea_22 : decode cX8_holdArea 22 = .ok (.if_icmp .ge 26, 3) := by decide +kernel
theorem dX8_holdArea_25 : decode cX8_holdArea 25 = .ok (.aload_n 0, 1) := by decide +kernel
theorem dX8_holdArea_26 : decode cX8_holdArea 26 = .ok (.iload_n 1, 1) := by decide +kernel
theorem dX8_holdArea_27 : decode cX8_holdArea 27 = .ok (.aload_n 2, 1) := by decide +kernel
theorem dX8_holdArea_28 : decode cX8_holdArea 28 = .ok (.getfield 150, 3) := by decide +kernel
theorem dX8_holdArea_31 : decode cX8_holdArea 31 = .ok (.iload_n 3, 1) := by decide +kernel
theorem dX8_holdArea_32 : decode cX8_holdArea 32 = .ok (.iaload, 1) := by decide +kernel
theorem dX8_holdArea_33 : decode cX8_holdArea 33 = .ok (.aload_n 2, 1) := by decide +kernel
theorem dX8_holdArea_34 : decode cX8_holdArea 34 = .ok (.getfield 151, 3) := by decide +kernel
theorem dX8_holdArea_37 : decode cX8_holdArea 37 = .ok (.iload_n 3, 1) := by decide +kernel
theorem dX8_holdArea_38 : decode cX8_holdArea 38 = .ok (.iaload, 1) := by decide +kernel
theorem dX8_holdArea_39 : decode cX8_holdArea 39 = .ok (.aload_n 2, 1) := by decide +kernel
theorem dX8_holdArea_40 : decode cX8_holdArea 40 = .ok (.getfield 147, 3) := by decide +kernel
theorem dX8_holdArea_43 : decode cX8_holdArea 43 = .ok (.iload_n 3, 1) := by decide +kernel
theorem dX8_holdArea_44 : decode cX8_holdArea 44 = .ok (.iaload, 1) := by decide +kernel
theorem dX8_holdArea_45 : decode cX8_holdArea 45 = .ok (.invokevirtual 117, 3) := by decide +kernel
theorem dX8_holdArea_48 : decode cX8_holdArea 48 = .ok (.iinc 3 1, 3) := by decide +kernel
theorem dX8_holdArea_51 : decode cX8_holdArea 51 = .ok (.goto (-49), 3) := by decide +kernel
theorem dX8_holdArea_54 : decode cX8_holdArea 54 = .ok (.return_, 1) := by decide +kernel
theorem dX8_holdShare_0 : decode cX8_holdShare 0 = .ok (.iconst 0, 1) := by decide +kernel
theorem dX8_holdShare_1 : decode cX8_holdShare 1 = .ok (.istore_n 3, 1) := by decide +kernel
theorem dX8_holdShare_2 : decode cX8_holdShare 2 = .ok (.iload_n 3, 1) := by decide +kernel
theorem dX8_holdShare_3 : decode cX8_holdShare 3 = .ok (.bipush 64, 2) := by decide +kernel
theorem dX8_holdShare_5 : decode cX8_holdShare 5 = .ok (.if_icmp .ge 118, 3) := by decide +kernel
theorem dX8_holdShare_8 : decode cX8_holdShare 8 = .ok (.iconst 0, 1) := by decide +kernel
theorem dX8_holdShare_9 : decode cX8_holdShare 9 = .ok (.istore 4, 2) := by decide +kernel
theorem dX8_holdShare_11 : decode cX8_holdShare 11 = .ok (.iload 4, 2) := by decide +kernel
theorem dX8_holdShare_13 : decode cX8_holdShare 13 = .ok (.bipush 64, 2) := by decide +kernel
theorem dX8_holdShare_15 : decode cX8_holdShare 15 = .ok (.if_icmp .ge 102, 3) := by decide +kernel
theorem dX8_holdShare_18 : decode cX8_holdShare 18 = .ok (.iconst 0, 1) := by decide +kernel
theorem dX8_holdShare_19 : decode cX8_holdShare 19 = .ok (.istore 5, 2) := by decide +kernel
theorem dX8_holdShare_21 : decode cX8_holdShare 21 = .ok (.iload_n 3, 1) := by decide +kernel
theorem dX8_holdShare_22 : decode cX8_holdShare 22 = .ok (.istore 6, 2) := by decide +kernel
theorem dX8_holdShare_24 : decode cX8_holdShare 24 = .ok (.iload 6, 2) := by decide +kernel
theorem dX8_holdShare_26 : decode cX8_holdShare 26 = .ok (.iload_n 3, 1) := by decide +kernel
theorem dX8_holdShare_27 : decode cX8_holdShare 27 = .ok (.bipush 16, 2) := by decide +kernel
theorem dX8_holdShare_29 : decode cX8_holdShare 29 = .ok (.iadd, 1) := by decide +kernel
theorem dX8_holdShare_30 : decode cX8_holdShare 30 = .ok (.if_icmp .ge 46, 3) := by decide +kernel
theorem dX8_holdShare_33 : decode cX8_holdShare 33 = .ok (.aload_n 2, 1) := by decide +kernel
theorem dX8_holdShare_34 : decode cX8_holdShare 34 = .ok (.getfield 80, 3) := by decide +kernel
theorem dX8_holdShare_37 : decode cX8_holdShare 37 = .ok (.bipush 64, 2) := by decide +kernel
theorem dX8_holdShare_39 : decode cX8_holdShare 39 = .ok (.aload_n 0, 1) := by decide +kernel
theorem dX8_holdShare_40 : decode cX8_holdShare 40 = .ok (.getfield 35, 3) := by decide +kernel
theorem dX8_holdShare_43 : decode cX8_holdShare 43 = .ok (.iload_n 1, 1) := by decide +kernel
theorem dX8_holdShare_44 : decode cX8_holdShare 44 = .ok (.iaload, 1) := by decide +kernel
theorem dX8_holdShare_45 : decode cX8_holdShare 45 = .ok (.imul, 1) := by decide +kernel
theorem dX8_holdShare_46 : decode cX8_holdShare 46 = .ok (.iload 6, 2) := by decide +kernel
theorem dX8_holdShare_48 : decode cX8_holdShare 48 = .ok (.iadd, 1) := by decide +kernel
theorem dX8_holdShare_49 : decode cX8_holdShare 49 = .ok (.laload, 1) := by decide +kernel
theorem dX8_holdShare_50 : decode cX8_holdShare 50 = .ok (.lstore 7, 2) := by decide +kernel
theorem dX8_holdShare_52 : decode cX8_holdShare 52 = .ok (.iload 5, 2) := by decide +kernel
theorem dX8_holdShare_54 : decode cX8_holdShare 54 = .ok (.lload 7, 2) := by decide +kernel
theorem dX8_holdShare_56 : decode cX8_holdShare 56 = .ok (.iload 4, 2) := by decide +kernel
theorem dX8_holdShare_58 : decode cX8_holdShare 58 = .ok (.bipush 16, 2) := by decide +kernel
theorem dX8_holdShare_60 : decode cX8_holdShare 60 = .ok (.invokestatic 140, 3) := by decide +kernel
theorem dX8_holdShare_63 : decode cX8_holdShare 63 = .ok (.land, 1) := by decide +kernel
theorem dX8_holdShare_64 : decode cX8_holdShare 64 = .ok (.invokestatic 104, 3) := by decide +kernel
theorem dX8_holdShare_67 : decode cX8_holdShare 67 = .ok (.iadd, 1) := by decide +kernel
theorem dX8_holdShare_68 : decode cX8_holdShare 68 = .ok (.istore 5, 2) := by decide +kernel
theorem dX8_holdShare_70 : decode cX8_holdShare 70 = .ok (.iinc 6 1, 3) := by decide +kernel
theorem dX8_holdShare_73 : decode cX8_holdShare 73 = .ok (.goto (-49), 3) := by decide +kernel
theorem dX8_holdShare_76 : decode cX8_holdShare 76 = .ok (.iload 5, 2) := by decide +kernel
theorem dX8_holdShare_78 : decode cX8_holdShare 78 = .ok (.aload_n 0, 1) := by decide +kernel
theorem dX8_holdShare_79 : decode cX8_holdShare 79 = .ok (.getfield 41, 3) := by decide +kernel
theorem dX8_holdShare_82 : decode cX8_holdShare 82 = .ok (.iload_n 1, 1) := by decide +kernel
theorem dX8_holdShare_83 : decode cX8_holdShare 83 = .ok (.iaload, 1) := by decide +kernel
theorem dX8_holdShare_84 : decode cX8_holdShare 84 = .ok (.if_icmp .ge 27, 3) := by decide +kernel
theorem dX8_holdShare_87 : decode cX8_holdShare 87 = .ok (.bipush 64, 2) := by decide +kernel
theorem dX8_holdShare_89 : decode cX8_holdShare 89 = .ok (.iload_n 3, 1) := by decide +kernel
theorem dX8_holdShare_90 : decode cX8_holdShare 90 = .ok (.imul, 1) := by decide +kernel
theorem dX8_holdShare_91 : decode cX8_holdShare 91 = .ok (.iload 4, 2) := by decide +kernel
theorem dX8_holdShare_93 : decode cX8_holdShare 93 = .ok (.iadd, 1) := by decide +kernel
theorem dX8_holdShare_94 : decode cX8_holdShare 94 = .ok (.istore 6, 2) := by decide +kernel
theorem dX8_holdShare_96 : decode cX8_holdShare 96 = .ok (.aload_n 0, 1) := by decide +kernel
theorem dX8_holdShare_97 : decode cX8_holdShare 97 = .ok (.iload_n 1, 1) := by decide +kernel
theorem dX8_holdShare_98 : decode cX8_holdShare 98 = .ok (.iload 6, 2) := by decide +kernel
theorem dX8_holdShare_100 : decode cX8_holdShare 100 = .ok (.iload 6, 2) := by decide +kernel
theorem dX8_holdShare_102 : decode cX8_holdShare 102 = .ok (.sipush 975, 3) := by decide +kernel
theorem dX8_holdShare_105 : decode cX8_holdShare 105 = .ok (.iadd, 1) := by decide +kernel
theorem dX8_holdShare_106 : decode cX8_holdShare 106 = .ok (.iload 5, 2) := by decide +kernel
theorem dX8_holdShare_108 : decode cX8_holdShare 108 = .ok (.invokevirtual 117, 3) := by decide +kernel
theorem dX8_holdShare_111 : decode cX8_holdShare 111 = .ok (.iinc 4 16, 3) := by decide +kernel
theorem dX8_holdShare_114 : decode cX8_holdShare 114 = .ok (.goto (-103), 3) := by decide +kernel
theorem dX8_holdShare_117 : decode cX8_holdShare 117 = .ok (.iinc 3 16, 3) := by decide +kernel
theorem dX8_holdShare_120 : decode cX8_holdShare 120 = .ok (.goto (-118), 3) := by decide +kernel
theorem dX8_holdShare_123 : decode cX8_holdShare 123 = .ok (.return_, 1) := by decide +kernel
theorem dX9_init_0 : decode cX9_init 0 = .ok (.aload_n 0, 1) := by decide +kernel
theorem dX9_init_1 : decode cX9_init 1 = .ok (.invokespecial 1, 3) := by decide +kernel
theorem dX9_init_4 : decode cX9_init 4 = .ok (.aload_n 0, 1) := by decide +kernel
theorem dX9_init_5 : decode cX9_init 5 = .ok (.iload_n 1, 1) := by decide +kernel
theorem dX9_init_6 : decode cX9_init 6 = .ok (.putfield 7, 3) := by decide +kernel
theorem dX9_init_9 : decode cX9_init 9 = .ok (.aload_n 0, 1) := by decide +kernel
theorem dX9_init_10 : decode cX9_init 10 = .ok (.iload_n 2, 1) := by decide +kernel
theorem dX9_init_11 : decode cX9_init 11 = .ok (.putfield 13, 3) := by decide +kernel
theorem dX9_init_14 : decode cX9_init 14 = .ok (.aload_n 0, 1) := by decide +kernel
theorem dX9_init_15 : decode cX9_init 15 = .ok (.iload_n 3, 1) := by decide +kernel
theorem dX9_init_16 : decode cX9_init 16 = .ok (.putfield 16, 3) := by decide +kernel
theorem dX9_init_19 : decode cX9_init 19 = .ok (.return_, 1) := by decide +kernel
theorem dX10_init_0 : decode cX10_init 0 = .ok (.aload_n 0, 1) := by decide +kernel
theorem dX10_init_1 : decode cX10_init 1 = .ok (.invokespecial 3, 3) := by decide +kernel
theorem dX10_init_4 : decode cX10_init 4 = .ok (.aload_n 0, 1) := by decide +kernel
theorem dX10_init_5 : decode cX10_init 5 = .ok (.iconst 0, 1) := by decide +kernel
theorem dX10_init_6 : decode cX10_init 6 = .ok (.putfield 9, 3) := by decide +kernel
theorem dX10_init_9 : decode cX10_init 9 = .ok (.aload_n 0, 1) := by decide +kernel
theorem dX10_init_10 : decode cX10_init 10 = .ok (.iconst 0, 1) := by decide +kernel
theorem dX10_init_11 : decode cX10_init 11 = .ok (.putfield 15, 3) := by decide +kernel
theorem dX10_init_14 : decode cX10_init 14 = .ok (.aload_n 0, 1) := by decide +kernel
theorem dX10_init_15 : decode cX10_init 15 = .ok (.iconst 0, 1) := by decide +kernel
theorem dX10_init_16 : decode cX10_init 16 = .ok (.putfield 18, 3) := by decide +kernel
theorem dX10_init_19 : decode cX10_init 19 = .ok (.aload_n 0, 1) := by decide +kernel
theorem dX10_init_20 : decode cX10_init 20 = .ok (.iconst 0, 1) := by decide +kernel
theorem dX10_init_21 : decode cX10_init 21 = .ok (.putfield 22, 3) := by decide +kernel
theorem dX10_init_24 : decode cX10_init 24 = .ok (.aload_n 0, 1) := by decide +kernel
theorem dX10_init_25 : decode cX10_init 25 = .ok (.bipush 12, 2) := by decide +kernel
theorem dX10_init_27 : decode cX10_init 27 = .ok (.newarray .int, 2) := by decide +kernel
theorem dX10_init_29 : decode cX10_init 29 = .ok (.putfield 25, 3) := by decide +kernel
theorem dX10_init_32 : decode cX10_init 32 = .ok (.aload_n 0, 1) := by decide +kernel
theorem dX10_init_33 : decode cX10_init 33 = .ok (.bipush 12, 2) := by decide +kernel
theorem dX10_init_35 : decode cX10_init 35 = .ok (.newarray .int, 2) := by decide +kernel
theorem dX10_init_37 : decode cX10_init 37 = .ok (.putfield 29, 3) := by decide +kernel
theorem dX10_init_40 : decode cX10_init 40 = .ok (.aload_n 0, 1) := by decide +kernel
theorem dX10_init_41 : decode cX10_init 41 = .ok (.bipush 12, 2) := by decide +kernel
theorem dX10_init_43 : decode cX10_init 43 = .ok (.newarray .int, 2) := by decide +kernel
theorem dX10_init_45 : decode cX10_init 45 = .ok (.putfield 32, 3) := by decide +kernel
theorem dX10_init_48 : decode cX10_init 48 = .ok (.aload_n 0, 1) := by decide +kernel
theorem dX10_init_49 : decode cX10_init 49 = .ok (.bipush 24, 2) := by decide +kernel
theorem dX10_init_51 : decode cX10_init 51 = .ok (.newarray .int, 2) := by decide +kernel
theorem dX10_init_53 : decode cX10_init 53 = .ok (.putfield 35, 3) := by decide +kernel
theorem dX10_init_56 : decode cX10_init 56 = .ok (.aload_n 0, 1) := by decide +kernel
theorem dX10_init_57 : decode cX10_init 57 = .ok (.iconst 0, 1) := by decide +kernel
theorem dX10_init_58 : decode cX10_init 58 = .ok (.putfield 38, 3) := by decide +kernel
theorem dX10_init_61 : decode cX10_init 61 = .ok (.return_, 1) := by decide +kernel
theorem dX10_add_0 : decode cX10_add 0 = .ok (.aload_n 0, 1) := by decide +kernel
theorem dX10_add_1 : decode cX10_add 1 = .ok (.getfield 25, 3) := by decide +kernel
theorem dX10_add_4 : decode cX10_add 4 = .ok (.aload_n 0, 1) := by decide +kernel
theorem dX10_add_5 : decode cX10_add 5 = .ok (.getfield 9, 3) := by decide +kernel
theorem dX10_add_8 : decode cX10_add 8 = .ok (.iload_n 1, 1) := by decide +kernel
theorem dX10_add_9 : decode cX10_add 9 = .ok (.iastore, 1) := by decide +kernel
theorem dX10_add_10 : decode cX10_add 10 = .ok (.aload_n 0, 1) := by decide +kernel
theorem dX10_add_11 : decode cX10_add 11 = .ok (.getfield 29, 3) := by decide +kernel
theorem dX10_add_14 : decode cX10_add 14 = .ok (.aload_n 0, 1) := by decide +kernel
theorem dX10_add_15 : decode cX10_add 15 = .ok (.getfield 9, 3) := by decide +kernel
theorem dX10_add_18 : decode cX10_add 18 = .ok (.iload_n 2, 1) := by decide +kernel
theorem dX10_add_19 : decode cX10_add 19 = .ok (.iastore, 1) := by decide +kernel
theorem dX10_add_20 : decode cX10_add 20 = .ok (.aload_n 0, 1) := by decide +kernel
theorem dX10_add_21 : decode cX10_add 21 = .ok (.dup, 1) := by decide +kernel
theorem dX10_add_22 : decode cX10_add 22 = .ok (.getfield 9, 3) := by decide +kernel
theorem dX10_add_25 : decode cX10_add 25 = .ok (.iconst 1, 1) := by decide +kernel
theorem dX10_add_26 : decode cX10_add 26 = .ok (.iadd, 1) := by decide +kernel
theorem dX10_add_27 : decode cX10_add 27 = .ok (.putfield 9, 3) := by decide +kernel
theorem dX10_add_30 : decode cX10_add 30 = .ok (.aload_n 0, 1) := by decide +kernel
theorem dX10_add_31 : decode cX10_add 31 = .ok (.iconst 0, 1) := by decide +kernel
theorem dX10_add_32 : decode cX10_add 32 = .ok (.putfield 22, 3) := by decide +kernel
theorem dX10_add_35 : decode cX10_add 35 = .ok (.aload_n 0, 1) := by decide +kernel
theorem dX10_add_36 : decode cX10_add 36 = .ok (.getfield 9, 3) := by decide +kernel
theorem dX10_add_39 : decode cX10_add 39 = .ok (.iconst 1, 1) := by decide +kernel
theorem dX10_add_40 : decode cX10_add 40 = .ok (.isub, 1) := by decide +kernel
theorem dX10_add_41 : decode cX10_add 41 = .ok (.ireturn, 1) := by decide +kernel
theorem dX10_match_0 : decode cX10_match 0 = .ok (.aload_n 0, 1) := by decide +kernel
theorem dX10_match_1 : decode cX10_match 1 = .ok (.iconst 0, 1) := by decide +kernel
theorem dX10_match_2 : decode cX10_match 2 = .ok (.putfield 15, 3) := by decide +kernel
theorem dX10_match_5 : decode cX10_match 5 = .ok (.aload_n 0, 1) := by decide +kernel
theorem dX10_match_6 : decode cX10_match 6 = .ok (.iconst 0, 1) := by decide +kernel
theorem dX10_match_7 : decode cX10_match 7 = .ok (.putfield 18, 3) := by decide +kernel
theorem dX10_match_10 : decode cX10_match 10 = .ok (.aload_n 0, 1) := by decide +kernel
theorem dX10_match_11 : decode cX10_match 11 = .ok (.iconst 0, 1) := by decide +kernel
theorem dX10_match_12 : decode cX10_match 12 = .ok (.putfield 22, 3) := by decide +kernel
theorem dX10_match_15 : decode cX10_match 15 = .ok (.aload_n 0, 1) := by decide +kernel
theorem dX10_match_16 : decode cX10_match 16 = .ok (.iconst 0, 1) := by decide +kernel
theorem dX10_match_17 : decode cX10_match 17 = .ok (.putfield 38, 3) := by decide +kernel
theorem dX10_match_20 : decode cX10_match 20 = .ok (.aload_n 0, 1) := by decide +kernel
theorem dX10_match_21 : decode cX10_match 21 = .ok (.getfield 35, 3) := by decide +kernel
theorem dX10_match_24 : decode cX10_match 24 = .ok (.iconst (-1), 1) := by decide +kernel
theorem dX10_match_25 : decode cX10_match 25 = .ok (.invokestatic 41, 3) := by decide +kernel
theorem dX10_match_28 : decode cX10_match 28 = .ok (.aload_n 1, 1) := by decide +kernel
theorem dX10_match_29 : decode cX10_match 29 = .ok (.getfield 47, 3) := by decide +kernel
theorem dX10_match_32 : decode cX10_match 32 = .ok (.aload_n 0, 1) := by decide +kernel
theorem dX10_match_33 : decode cX10_match 33 = .ok (.getfield 9, 3) := by decide +kernel
theorem dX10_match_36 : decode cX10_match 36 = .ok (.if_icmp .eq 4, 3) := by decide +kernel
theorem dX10_match_39 : decode cX10_match 39 = .ok (.return_, 1) := by decide +kernel
theorem dX10_match_40 : decode cX10_match 40 = .ok (.iconst 0, 1) := by decide +kernel
theorem dX10_match_41 : decode cX10_match 41 = .ok (.istore_n 2, 1) := by decide +kernel
theorem dX10_match_42 : decode cX10_match 42 = .ok (.iload_n 2, 1) := by decide +kernel
theorem dX10_match_43 : decode cX10_match 43 = .ok (.aload_n 0, 1) := by decide +kernel
theorem dX10_match_44 : decode cX10_match 44 = .ok (.getfield 9, 3) := by decide +kernel
theorem dX10_match_47 : decode cX10_match 47 = .ok (.if_icmp .ge 18, 3) := by decide +kernel
theorem dX10_match_50 : decode cX10_match 50 = .ok (.aload_n 1, 1) := by decide +kernel
theorem dX10_match_51 : decode cX10_match 51 = .ok (.iload_n 2, 1) := by decide +kernel
theorem dX10_match_52 : decode cX10_match 52 = .ok (.invokevirtual 52, 3) := by decide +kernel
theorem dX10_match_55 : decode cX10_match 55 = .ok (.ifCond .ne 4, 3) := by decide +kernel
theorem dX10_match_58 : decode cX10_match 58 = .ok (.return_, 1) := by decide +kernel
theorem dX10_match_59 : decode cX10_match 59 = .ok (.iinc 2 1, 3) := by decide +kernel
theorem dX10_match_62 : decode cX10_match 62 = .ok (.goto (-20), 3) := by decide +kernel
theorem dX10_match_65 : decode cX10_match 65 = .ok (.aload_n 0, 1) := by decide +kernel
theorem dX10_match_66 : decode cX10_match 66 = .ok (.aload_n 0, 1) := by decide +kernel
theorem dX10_match_67 : decode cX10_match 67 = .ok (.aload_n 1, 1) := by decide +kernel
theorem dX10_match_68 : decode cX10_match 68 = .ok (.iconst 0, 1) := by decide +kernel
theorem dX10_match_69 : decode cX10_match 69 = .ok (.invokevirtual 56, 3) := by decide +kernel
theorem dX10_match_72 : decode cX10_match 72 = .ok (.putfield 22, 3) := by decide +kernel
theorem dX10_match_75 : decode cX10_match 75 = .ok (.return_, 1) := by decide +kernel
theorem dX10_search_0 : decode cX10_search 0 = .ok (.iload_n 2, 1) := by decide +kernel
theorem dX10_search_1 : decode cX10_search 1 = .ok (.aload_n 0, 1) := by decide +kernel
theorem dX10_search_2 : decode cX10_search 2 = .ok (.getfield 9, 3) := by decide +kernel
theorem dX10_search_5 : decode cX10_search 5 = .ok (.if_icmp .lt 5, 3) := by decide +kernel
theorem dX10_search_8 : decode cX10_search 8 = .ok (.iconst 1, 1) := by decide +kernel
theorem dX10_search_9 : decode cX10_search 9 = .ok (.ireturn, 1) := by decide +kernel
theorem dX10_search_10 : decode cX10_search 10 = .ok (.iconst 0, 1) := by decide +kernel
theorem dX10_search_11 : decode cX10_search 11 = .ok (.istore_n 3, 1) := by decide +kernel
theorem dX10_search_12 : decode cX10_search 12 = .ok (.iload_n 3, 1) := by decide +kernel
theorem dX10_search_13 : decode cX10_search 13 = .ok (.iconst 2, 1) := by decide +kernel
theorem dX10_search_14 : decode cX10_search 14 = .ok (.aload_n 0, 1) := by decide +kernel
theorem dX10_search_15 : decode cX10_search 15 = .ok (.getfield 9, 3) := by decide +kernel
theorem dX10_search_18 : decode cX10_search 18 = .ok (.imul, 1) := by decide +kernel
theorem dX10_search_19 : decode cX10_search 19 = .ok (.if_icmp .ge 151, 3) := by decide +kernel
theorem dX10_search_22 : decode cX10_search 22 = .ok (.iload_n 3, 1) := by decide +kernel
theorem dX10_search_23 : decode cX10_search 23 = .ok (.iconst 2, 1) := by decide +kernel
theorem dX10_search_24 : decode cX10_search 24 = .ok (.idiv, 1) := by decide +kernel
theorem dX10_search_25 : decode cX10_search 25 = .ok (.istore 4, 2) := by decide +kernel
theorem dX10_search_27 : decode cX10_search 27 = .ok (.aload_n 0, 1) := by decide +kernel
theorem dX10_search_28 : decode cX10_search 28 = .ok (.getfield 38, 3) := by decide +kernel
theorem dX10_search_31 : decode cX10_search 31 = .ok (.iconst 1, 1) := by decide +kernel
theorem dX10_search_32 : decode cX10_search 32 = .ok (.iload 4, 2) := by decide +kernel
theorem dX10_search_34 : decode cX10_search 34 = .ok (.ishl, 1) := by decide +kernel
theorem dX10_search_35 : decode cX10_search 35 = .ok (.iand, 1) := by decide +kernel
theorem dX10_search_36 : decode cX10_search 36 = .ok (.ifCond .eq 6, 3) := by decide +kernel
theorem dX10_search_39 : decode cX10_search 39 = .ok (.goto 125, 3) := by decide +kernel
theorem dX10_search_42 : decode cX10_search 42 = .ok (.aload_n 0, 1) := by decide +kernel
theorem dX10_search_43 : decode cX10_search 43 = .ok (.getfield 15, 3) := by decide +kernel
theorem dX10_search_46 : decode cX10_search 46 = .ok (.sipush 5000, 3) := by decide +kernel
theorem dX10_search_49 : decode cX10_search 49 = .ok (.if_icmp .lt 10, 3) := by decide +kernel
theorem dX10_search_52 : decode cX10_search 52 = .ok (.aload_n 0, 1) := by decide +kernel
theorem dX10_search_53 : decode cX10_search 53 = .ok (.iconst 1, 1) := by decide +kernel
theorem dX10_search_54 : decode cX10_search 54 = .ok (.putfield 18, 3) := by decide +kernel
theorem dX10_search_57 : decode cX10_search 57 = .ok (.iconst 0, 1) := by decide +kernel
theorem dX10_search_58 : decode cX10_search 58 = .ok (.ireturn, 1) := by decide +kernel
theorem dX10_search_59 : decode cX10_search 59 = .ok (.aload_n 0, 1) := by decide +kernel
theorem dX10_search_60 : decode cX10_search 60 = .ok (.dup, 1) := by decide +kernel
theorem dX10_search_61 : decode cX10_search 61 = .ok (.getfield 15, 3) := by decide +kernel
theorem dX10_search_64 : decode cX10_search 64 = .ok (.iconst 1, 1) := by decide +kernel
theorem dX10_search_65 : decode cX10_search 65 = .ok (.iadd, 1) := by decide +kernel
theorem dX10_search_66 : decode cX10_search 66 = .ok (.putfield 15, 3) := by decide +kernel
theorem dX10_search_69 : decode cX10_search 69 = .ok (.aload_n 0, 1) := by decide +kernel
theorem dX10_search_70 : decode cX10_search 70 = .ok (.aload_n 1, 1) := by decide +kernel
theorem dX10_search_71 : decode cX10_search 71 = .ok (.iload_n 2, 1) := by decide +kernel
theorem dX10_search_72 : decode cX10_search 72 = .ok (.iload 4, 2) := by decide +kernel
theorem dX10_search_74 : decode cX10_search 74 = .ok (.iload_n 3, 1) := by decide +kernel
theorem dX10_search_75 : decode cX10_search 75 = .ok (.iconst 2, 1) := by decide +kernel
theorem dX10_search_76 : decode cX10_search 76 = .ok (.irem, 1) := by decide +kernel
theorem dX10_search_77 : decode cX10_search 77 = .ok (.iconst 1, 1) := by decide +kernel
theorem dX10_search_78 : decode cX10_search 78 = .ok (.if_icmp .ne 7, 3) := by decide +kernel
theorem dX10_search_81 : decode cX10_search 81 = .ok (.iconst 1, 1) := by decide +kernel
theorem dX10_search_82 : decode cX10_search 82 = .ok (.goto 4, 3) := by decide +kernel
theorem dX10_search_85 : decode cX10_search 85 = .ok (.iconst 0, 1) := by decide +kernel
theorem dX10_search_86 : decode cX10_search 86 = .ok (.invokevirtual 60, 3) := by decide +kernel
theorem dX10_search_89 : decode cX10_search 89 = .ok (.istore 5, 2) := by decide +kernel
theorem dX10_search_91 : decode cX10_search 91 = .ok (.iload 5, 2) := by decide +kernel
theorem dX10_search_93 : decode cX10_search 93 = .ok (.iconst (-1), 1) := by decide +kernel
theorem dX10_search_94 : decode cX10_search 94 = .ok (.if_icmp .ne 6, 3) := by decide +kernel
theorem dX10_search_97 : decode cX10_search 97 = .ok (.goto 67, 3) := by decide +kernel
theorem dX10_search_100 : decode cX10_search 100 = .ok (.aload_n 0, 1) := by decide +kernel
theorem dX10_search_101 : decode cX10_search 101 = .ok (.dup, 1) := by decide +kernel
theorem dX10_search_102 : decode cX10_search 102 = .ok (.getfield 38, 3) := by decide +kernel
theorem dX10_search_105 : decode cX10_search 105 = .ok (.iconst 1, 1) := by decide +kernel
theorem dX10_search_106 : decode cX10_search 106 = .ok (.iload 4, 2) := by decide +kernel
theorem dX10_search_108 : decode cX10_search 108 = .ok (.ishl, 1) := by decide +kernel
theorem dX10_search_109 : decode cX10_search 109 = .ok (.ior, 1) := by decide +kernel
theorem dX10_search_110 : decode cX10_search 110 = .ok (.putfield 38, 3) := by decide +kernel
theorem dX10_search_113 : decode cX10_search 113 = .ok (.aload_n 0, 1) := by decide +kernel
theorem dX10_search_114 : decode cX10_search 114 = .ok (.getfield 32, 3) := by decide +kernel
theorem dX10_search_117 : decode cX10_search 117 = .ok (.iload_n 2, 1) := by decide +kernel
theorem dX10_search_118 : decode cX10_search 118 = .ok (.iload 4, 2) := by decide +kernel
theorem dX10_search_120 : decode cX10_search 120 = .ok (.iastore, 1) := by decide +kernel
theorem dX10_search_121 : decode cX10_search 121 = .ok (.aload_n 0, 1) := by decide +kernel
theorem dX10_search_122 : decode cX10_search 122 = .ok (.aload_n 1, 1) := by decide +kernel
theorem dX10_search_123 : decode cX10_search 123 = .ok (.iload_n 2, 1) := by decide +kernel
theorem dX10_search_124 : decode cX10_search 124 = .ok (.iconst 1, 1) := by decide +kernel
theorem dX10_search_125 : decode cX10_search 125 = .ok (.iadd, 1) := by decide +kernel
theorem dX10_search_126 : decode cX10_search 126 = .ok (.invokevirtual 56, 3) := by decide +kernel
theorem dX10_search_129 : decode cX10_search 129 = .ok (.ifCond .eq 5, 3) := by decide +kernel
theorem dX10_search_132 : decode cX10_search 132 = .ok (.iconst 1, 1) := by decide +kernel
theorem dX10_search_133 : decode cX10_search 133 = .ok (.ireturn, 1) := by decide +kernel
theorem dX10_search_134 : decode cX10_search 134 = .ok (.aload_n 0, 1) := by decide +kernel
theorem dX10_search_135 : decode cX10_search 135 = .ok (.dup, 1) := by decide +kernel
theorem dX10_search_136 : decode cX10_search 136 = .ok (.getfield 38, 3) := by decide +kernel
theorem dX10_search_139 : decode cX10_search 139 = .ok (.iconst 1, 1) := by decide +kernel
theorem dX10_search_140 : decode cX10_search 140 = .ok (.iload 4, 2) := by decide +kernel
theorem dX10_search_142 : decode cX10_search 142 = .ok (.ishl, 1) := by decide +kernel
theorem dX10_search_143 : decode cX10_search 143 = .ok (.iconst (-1), 1) := by decide +kernel
theorem dX10_search_144 : decode cX10_search 144 = .ok (.ixor, 1) := by decide +kernel
theorem dX10_search_145 : decode cX10_search 145 = .ok (.iand, 1) := by decide +kernel
theorem dX10_search_146 : decode cX10_search 146 = .ok (.putfield 38, 3) := by decide +kernel
theorem dX10_search_149 : decode cX10_search 149 = .ok (.aload_n 0, 1) := by decide +kernel
theorem dX10_search_150 : decode cX10_search 150 = .ok (.iload 5, 2) := by decide +kernel
theorem dX10_search_152 : decode cX10_search 152 = .ok (.invokevirtual 64, 3) := by decide +kernel
theorem dX10_search_155 : decode cX10_search 155 = .ok (.aload_n 0, 1) := by decide +kernel
theorem dX10_search_156 : decode cX10_search 156 = .ok (.getfield 18, 3) := by decide +kernel
theorem dX10_search_159 : decode cX10_search 159 = .ok (.ifCond .eq 5, 3) := by decide +kernel
theorem dX10_search_162 : decode cX10_search 162 = .ok (.iconst 0, 1) := by decide +kernel
theorem dX10_search_163 : decode cX10_search 163 = .ok (.ireturn, 1) := by decide +kernel
theorem dX10_search_164 : decode cX10_search 164 = .ok (.iinc 3 1, 3) := by decide +kernel
theorem dX10_search_167 : decode cX10_search 167 = .ok (.goto (-155), 3) := by decide +kernel
theorem dX10_search_170 : decode cX10_search 170 = .ok (.iconst 0, 1) := by decide +kernel
theorem dX10_search_171 : decode cX10_search 171 = .ok (.ireturn, 1) := by decide +kernel
theorem dX10_fit_0 : decode cX10_fit 0 = .ok (.aload_n 0, 1) := by decide +kernel
theorem dX10_fit_1 : decode cX10_fit 1 = .ok (.getfield 29, 3) := by decide +kernel
theorem dX10_fit_4 : decode cX10_fit 4 = .ok (.iload_n 3, 1) := by decide +kernel
theorem dX10_fit_5 : decode cX10_fit 5 = .ok (.iaload, 1) := by decide +kernel
theorem dX10_fit_6 : decode cX10_fit 6 = .ok (.ifCond .eq 20, 3) := by decide +kernel
theorem dX10_fit_9 : decode cX10_fit 9 = .ok (.aload_n 0, 1) := by decide +kernel
theorem dX10_fit_10 : decode cX10_fit 10 = .ok (.getfield 29, 3) := by decide +kernel
theorem dX10_fit_13 : decode cX10_fit 13 = .ok (.iload_n 3, 1) := by decide +kernel
theorem dX10_fit_14 : decode cX10_fit 14 = .ok (.iaload, 1) := by decide +kernel
theorem dX10_fit_15 : decode cX10_fit 15 = .ok (.aload_n 1, 1) := by decide +kernel
theorem dX10_fit_16 : decode cX10_fit 16 = .ok (.iload_n 2, 1) := by decide +kernel
theorem dX10_fit_17 : decode cX10_fit 17 = .ok (.iconst 0, 1) := by decide +kernel
theorem dX10_fit_18 : decode cX10_fit 18 = .ok (.invokevirtual 68, 3) := by decide +kernel
theorem dX10_fit_21 : decode cX10_fit 21 = .ok (.if_icmp .eq 5, 3) := by decide +kernel
theorem dX10_fit_24 : decode cX10_fit 24 = .ok (.iconst (-1), 1) := by decide +kernel
theorem dX10_fit_25 : decode cX10_fit 25 = .ok (.ireturn, 1) := by decide +kernel
theorem dX10_fit_26 : decode cX10_fit 26 = .ok (.aload_n 0, 1) := by decide +kernel
theorem dX10_fit_27 : decode cX10_fit 27 = .ok (.getfield 25, 3) := by decide +kernel
theorem dX10_fit_30 : decode cX10_fit 30 = .ok (.iload_n 3, 1) := by decide +kernel
theorem dX10_fit_31 : decode cX10_fit 31 = .ok (.iaload, 1) := by decide +kernel
theorem dX10_fit_32 : decode cX10_fit 32 = .ok (.bipush 24, 2) := by decide +kernel
theorem dX10_fit_34 : decode cX10_fit 34 = .ok (.idiv, 1) := by decide +kernel
theorem dX10_fit_35 : decode cX10_fit 35 = .ok (.bipush 24, 2) := by decide +kernel
theorem dX10_fit_37 : decode cX10_fit 37 = .ok (.irem, 1) := by decide +kernel
theorem dX10_fit_38 : decode cX10_fit 38 = .ok (.istore 5, 2) := by decide +kernel
theorem dX10_fit_40 : decode cX10_fit 40 = .ok (.aload_n 0, 1) := by decide +kernel
theorem dX10_fit_41 : decode cX10_fit 41 = .ok (.getfield 25, 3) := by decide +kernel
theorem dX10_fit_44 : decode cX10_fit 44 = .ok (.iload_n 3, 1) := by decide +kernel
theorem dX10_fit_45 : decode cX10_fit 45 = .ok (.iaload, 1) := by decide +kernel
theorem dX10_fit_46 : decode cX10_fit 46 = .ok (.bipush 24, 2) := by decide +kernel
theorem dX10_fit_48 : decode cX10_fit 48 = .ok (.irem, 1) := by decide +kernel
theorem dX10_fit_49 : decode cX10_fit 49 = .ok (.istore 6, 2) := by decide +kernel
theorem dX10_fit_51 : decode cX10_fit 51 = .ok (.aload_n 0, 1) := by decide +kernel
theorem dX10_fit_52 : decode cX10_fit 52 = .ok (.aload_n 0, 1) := by decide +kernel
theorem dX10_fit_53 : decode cX10_fit 53 = .ok (.getfield 25, 3) := by decide +kernel
theorem dX10_fit_56 : decode cX10_fit 56 = .ok (.iload_n 3, 1) := by decide +kernel
theorem dX10_fit_57 : decode cX10_fit 57 = .ok (.iaload, 1) := by decide +kernel
theorem dX10_fit_58 : decode cX10_fit 58 = .ok (.sipush 576, 3) := by decide +kernel
theorem dX10_fit_61 : decode cX10_fit 61 = .ok (.idiv, 1) := by decide +kernel
theorem dX10_fit_62 : decode cX10_fit 62 = .ok (.aload_n 1, 1) := by decide +kernel
theorem dX10_fit_63 : decode cX10_fit 63 = .ok (.iload_n 2, 1) := by decide +kernel
theorem dX10_fit_64 : decode cX10_fit 64 = .ok (.iconst 1, 1) := by decide +kernel
theorem dX10_fit_65 : decode cX10_fit 65 = .ok (.invokevirtual 68, 3) := by decide +kernel
theorem dX10_fit_68 : decode cX10_fit 68 = .ok (.iconst 0, 1) := by decide +kernel
theorem dX10_fit_69 : decode cX10_fit 69 = .ok (.invokevirtual 72, 3) := by decide +kernel
theorem dX10_fit_72 : decode cX10_fit 72 = .ok (.istore 7, 2) := by decide +kernel
theorem dX10_fit_74 : decode cX10_fit 74 = .ok (.aload_n 0, 1) := by decide +kernel
theorem dX10_fit_75 : decode cX10_fit 75 = .ok (.iload 4, 2) := by decide +kernel
theorem dX10_fit_77 : decode cX10_fit 77 = .ok (.ifCond .eq 8, 3) := by decide +kernel
theorem dX10_fit_80 : decode cX10_fit 80 = .ok (.iload 6, 2) := by decide +kernel
theorem dX10_fit_82 : decode cX10_fit 82 = .ok (.goto 5, 3) := by decide +kernel
theorem dX10_fit_85 : decode cX10_fit 85 = .ok (.iload 5, 2) := by decide +kernel
theorem dX10_fit_87 : decode cX10_fit 87 = .ok (.aload_n 1, 1) := by decide +kernel
theorem dX10_fit_88 : decode cX10_fit 88 = .ok (.iload_n 2, 1) := by decide +kernel
theorem dX10_fit_89 : decode cX10_fit 89 = .ok (.iconst 2, 1) := by decide +kernel
theorem dX10_fit_90 : decode cX10_fit 90 = .ok (.invokevirtual 68, 3) := by decide +kernel
theorem dX10_fit_93 : decode cX10_fit 93 = .ok (.iload 7, 2) := by decide +kernel
theorem dX10_fit_95 : decode cX10_fit 95 = .ok (.invokevirtual 72, 3) := by decide +kernel
theorem dX10_fit_98 : decode cX10_fit 98 = .ok (.istore 7, 2) := by decide +kernel
theorem dX10_fit_100 : decode cX10_fit 100 = .ok (.aload_n 0, 1) := by decide +kernel
theorem dX10_fit_101 : decode cX10_fit 101 = .ok (.iload 4, 2) := by decide +kernel
theorem dX10_fit_103 : decode cX10_fit 103 = .ok (.ifCond .eq 8, 3) := by decide +kernel
theorem dX10_fit_106 : decode cX10_fit 106 = .ok (.iload 5, 2) := by decide +kernel
theorem dX10_fit_108 : decode cX10_fit 108 = .ok (.goto 5, 3) := by decide +kernel
theorem dX10_fit_111 : decode cX10_fit 111 = .ok (.iload 6, 2) := by decide +kernel
theorem dX10_fit_113 : decode cX10_fit 113 = .ok (.aload_n 1, 1) := by decide +kernel
theorem dX10_fit_114 : decode cX10_fit 114 = .ok (.iload_n 2, 1) := by decide +kernel
theorem dX10_fit_115 : decode cX10_fit 115 = .ok (.iconst 3, 1) := by decide +kernel
theorem dX10_fit_116 : decode cX10_fit 116 = .ok (.invokevirtual 68, 3) := by decide +kernel
theorem dX10_fit_119 : decode cX10_fit 119 = .ok (.iload 7, 2) := by decide +kernel
theorem dX10_fit_121 : decode cX10_fit 121 = .ok (.invokevirtual 72, 3) := by decide +kernel
theorem dX10_fit_124 : decode cX10_fit 124 = .ok (.ireturn, 1) := by decide +kernel
theorem dX10_bind_0 : decode cX10_bind 0 = .ok (.iload_n 3, 1) := by decide +kernel
theorem dX10_bind_1 : decode cX10_bind 1 = .ok (.iconst (-1), 1) := by decide +kernel
theorem dX10_bind_2 : decode cX10_bind 2 = .ok (.if_icmp .eq 13, 3) := by decide +kernel
theorem dX10_bind_5 : decode cX10_bind 5 = .ok (.aload_n 0, 1) := by decide +kernel
theorem dX10_bind_6 : decode cX10_bind 6 = .ok (.getfield 35, 3) := by decide +kernel
theorem dX10_bind_9 : decode cX10_bind 9 = .ok (.iload_n 1, 1) := by decide +kernel
theorem dX10_bind_10 : decode cX10_bind 10 = .ok (.iaload, 1) := by decide +kernel
theorem dX10_bind_11 : decode cX10_bind 11 = .ok (.iload_n 2, 1) := by decide +kernel
theorem dX10_bind_12 : decode cX10_bind 12 = .ok (.if_icmp .ne 5, 3) := by decide +kernel
theorem dX10_bind_15 : decode cX10_bind 15 = .ok (.iload_n 3, 1) := by decide +kernel
theorem dX10_bind_16 : decode cX10_bind 16 = .ok (.ireturn, 1) := by decide +kernel
theorem dX10_bind_17 : decode cX10_bind 17 = .ok (.aload_n 0, 1) := by decide +kernel
theorem dX10_bind_18 : decode cX10_bind 18 = .ok (.getfield 35, 3) := by decide +kernel
theorem dX10_bind_21 : decode cX10_bind 21 = .ok (.iload_n 1, 1) := by decide +kernel
theorem dX10_bind_22 : decode cX10_bind 22 = .ok (.iaload, 1) := by decide +kernel
theorem dX10_bind_23 : decode cX10_bind 23 = .ok (.iconst (-1), 1) := by decide +kernel
theorem dX10_bind_24 : decode cX10_bind 24 = .ok (.if_icmp .ne 12, 3) := by decide +kernel
theorem dX10_bind_27 : decode cX10_bind 27 = .ok (.aload_n 0, 1) := by decide +kernel
theorem dX10_bind_28 : decode cX10_bind 28 = .ok (.iload_n 2, 1) := by decide +kernel
theorem dX10_bind_29 : decode cX10_bind 29 = .ok (.invokevirtual 76, 3) := by decide +kernel
theorem dX10_bind_32 : decode cX10_bind 32 = .ok (.iconst (-1), 1) := by decide +kernel
theorem dX10_bind_33 : decode cX10_bind 33 = .ok (.if_icmp .eq 10, 3) := by decide +kernel
theorem dX10_bind_36 : decode cX10_bind 36 = .ok (.aload_n 0, 1) := by decide +kernel
theorem dX10_bind_37 : decode cX10_bind 37 = .ok (.iload_n 3, 1) := by decide +kernel
theorem dX10_bind_38 : decode cX10_bind 38 = .ok (.invokevirtual 64, 3) := by decide +kernel
theorem dX10_bind_41 : decode cX10_bind 41 = .ok (.iconst (-1), 1) := by decide +kernel
theorem dX10_bind_42 : decode cX10_bind 42 = .ok (.ireturn, 1) := by decide +kernel
theorem dX10_bind_43 : decode cX10_bind 43 = .ok (.aload_n 0, 1) := by decide +kernel
theorem dX10_bind_44 : decode cX10_bind 44 = .ok (.getfield 35, 3) := by decide +kernel
theorem dX10_bind_47 : decode cX10_bind 47 = .ok (.iload_n 1, 1) := by decide +kernel
theorem dX10_bind_48 : decode cX10_bind 48 = .ok (.iload_n 2, 1) := by decide +kernel
theorem dX10_bind_49 : decode cX10_bind 49 = .ok (.iastore, 1) := by decide +kernel
theorem dX10_bind_50 : decode cX10_bind 50 = .ok (.iload_n 3, 1) := by decide +kernel
theorem dX10_bind_51 : decode cX10_bind 51 = .ok (.iconst 1, 1) := by decide +kernel
theorem dX10_bind_52 : decode cX10_bind 52 = .ok (.iload_n 1, 1) := by decide +kernel
theorem dX10_bind_53 : decode cX10_bind 53 = .ok (.ishl, 1) := by decide +kernel
theorem dX10_bind_54 : decode cX10_bind 54 = .ok (.ior, 1) := by decide +kernel
theorem dX10_bind_55 : decode cX10_bind 55 = .ok (.ireturn, 1) := by decide +kernel
theorem dX10_part_0 : decode cX10_part 0 = .ok (.iconst 0, 1) := by decide +kernel
theorem dX10_part_1 : decode cX10_part 1 = .ok (.istore_n 2, 1) := by decide +kernel
theorem dX10_part_2 : decode cX10_part 2 = .ok (.iload_n 2, 1) := by decide +kernel
theorem dX10_part_3 : decode cX10_part 3 = .ok (.bipush 24, 2) := by decide +kernel
theorem dX10_part_5 : decode cX10_part 5 = .ok (.if_icmp .ge 24, 3) := by decide +kernel
theorem dX10_part_8 : decode cX10_part 8 = .ok (.iload_n 1, 1) := by decide +kernel
theorem dX10_part_9 : decode cX10_part 9 = .ok (.iconst 1, 1) := by decide +kernel
theorem dX10_part_10 : decode cX10_part 10 = .ok (.iload_n 2, 1) := by decide +kernel
theorem dX10_part_11 : decode cX10_part 11 = .ok (.ishl, 1) := by decide +kernel
theorem dX10_part_12 : decode cX10_part 12 = .ok (.iand, 1) := by decide +kernel
theorem dX10_part_13 : decode cX10_part 13 = .ok (.ifCond .eq 10, 3) := by decide +kernel
theorem dX10_part_16 : decode cX10_part 16 = .ok (.aload_n 0, 1) := by decide +kernel
theorem dX10_part_17 : decode cX10_part 17 = .ok (.getfield 35, 3) := by decide +kernel
theorem dX10_part_20 : decode cX10_part 20 = .ok (.iload_n 2, 1) := by decide +kernel
theorem dX10_part_21 : decode cX10_part 21 = .ok (.iconst (-1), 1) := by decide +kernel
theorem dX10_part_22 : decode cX10_part 22 = .ok (.iastore, 1) := by decide +kernel
theorem dX10_part_23 : decode cX10_part 23 = .ok (.iinc 2 1, 3) := by decide +kernel
theorem dX10_part_26 : decode cX10_part 26 = .ok (.goto (-24), 3) := by decide +kernel
theorem dX10_part_29 : decode cX10_part 29 = .ok (.return_, 1) := by decide +kernel
theorem dX10_wishedOf_0 : decode cX10_wishedOf 0 = .ok (.iconst 0, 1) := by decide +kernel
theorem dX10_wishedOf_1 : decode cX10_wishedOf 1 = .ok (.istore_n 2, 1) := by decide +kernel
theorem dX10_wishedOf_2 : decode cX10_wishedOf 2 = .ok (.iload_n 2, 1) := by decide +kernel
theorem dX10_wishedOf_3 : decode cX10_wishedOf 3 = .ok (.bipush 24, 2) := by decide +kernel
theorem dX10_wishedOf_5 : decode cX10_wishedOf 5 = .ok (.if_icmp .ge 21, 3) := by decide +kernel
theorem dX10_wishedOf_8 : decode cX10_wishedOf 8 = .ok (.aload_n 0, 1) := by decide +kernel
theorem dX10_wishedOf_9 : decode cX10_wishedOf 9 = .ok (.getfield 35, 3) := by decide +kernel
theorem dX10_wishedOf_12 : decode cX10_wishedOf 12 = .ok (.iload_n 2, 1) := by decide +kernel
theorem dX10_wishedOf_13 : decode cX10_wishedOf 13 = .ok (.iaload, 1) := by decide +kernel
theorem dX10_wishedOf_14 : decode cX10_wishedOf 14 = .ok (.iload_n 1, 1) := by decide +kernel
theorem dX10_wishedOf_15 : decode cX10_wishedOf 15 = .ok (.if_icmp .ne 5, 3) := by decide +kernel
theorem dX10_wishedOf_18 : decode cX10_wishedOf 18 = .ok (.iload_n 2, 1) := by decide +kernel
theorem dX10_wishedOf_19 : decode cX10_wishedOf 19 = .ok (.ireturn, 1) := by decide +kernel
theorem dX10_wishedOf_20 : decode cX10_wishedOf 20 = .ok (.iinc 2 1, 3) := by decide +kernel
theorem dX10_wishedOf_23 : decode cX10_wishedOf 23 = .ok (.goto (-21), 3) := by decide +kernel
theorem dX10_wishedOf_26 : decode cX10_wishedOf 26 = .ok (.iconst (-1), 1) := by decide +kernel
theorem dX10_wishedOf_27 : decode cX10_wishedOf 27 = .ok (.ireturn, 1) := by decide +kernel
theorem dX10_thingOf_0 : decode cX10_thingOf 0 = .ok (.iload_n 1, 1) := by decide +kernel
theorem dX10_thingOf_1 : decode cX10_thingOf 1 = .ok (.bipush 12, 2) := by decide +kernel
theorem dX10_thingOf_3 : decode cX10_thingOf 3 = .ok (.invokestatic 80, 3) := by decide +kernel
theorem dX10_thingOf_6 : decode cX10_thingOf 6 = .ok (.ifCond .eq 7, 3) := by decide +kernel
theorem dX10_thingOf_9 : decode cX10_thingOf 9 = .ok (.iconst (-1), 1) := by decide +kernel
theorem dX10_thingOf_10 : decode cX10_thingOf 10 = .ok (.goto 9, 3) := by decide +kernel
theorem dX10_thingOf_13 : decode cX10_thingOf 13 = .ok (.aload_n 0, 1) := by decide +kernel
theorem dX10_thingOf_14 : decode cX10_thingOf 14 = .ok (.getfield 32, 3) := by decide +kernel
theorem dX10_thingOf_17 : decode cX10_thingOf 17 = .ok (.iload_n 1, 1) := by decide +kernel
theorem dX10_thingOf_18 : decode cX10_thingOf 18 = .ok (.iaload, 1) := by decide +kernel
theorem dX10_thingOf_19 : decode cX10_thingOf 19 = .ok (.ireturn, 1) := by decide +kernel
theorem dX11_init_0 : decode cX11_init 0 = .ok (.aload_n 0, 1) := by decide +kernel
theorem dX11_init_1 : decode cX11_init 1 = .ok (.invokespecial 3, 3) := by decide +kernel
theorem dX11_init_4 : decode cX11_init 4 = .ok (.aload_n 0, 1) := by decide +kernel
theorem dX11_init_5 : decode cX11_init 5 = .ok (.bipush 8, 2) := by decide +kernel
theorem dX11_init_7 : decode cX11_init 7 = .ok (.anewarray 9, 3) := by decide +kernel
theorem dX11_init_10 : decode cX11_init 10 = .ok (.putfield 11, 3) := by decide +kernel
theorem dX11_init_13 : decode cX11_init 13 = .ok (.aload_n 0, 1) := by decide +kernel
theorem dX11_init_14 : decode cX11_init 14 = .ok (.new 15, 3) := by decide +kernel
theorem dX11_init_17 : decode cX11_init 17 = .ok (.dup, 1) := by decide +kernel
theorem dX11_init_18 : decode cX11_init 18 = .ok (.invokespecial 17, 3) := by decide +kernel
theorem dX11_init_21 : decode cX11_init 21 = .ok (.putfield 18, 3) := by decide +kernel
theorem dX11_init_24 : decode cX11_init 24 = .ok (.aload_n 0, 1) := by decide +kernel
theorem dX11_init_25 : decode cX11_init 25 = .ok (.new 22, 3) := by decide +kernel
theorem dX11_init_28 : decode cX11_init 28 = .ok (.dup, 1) := by decide +kernel
theorem dX11_init_29 : decode cX11_init 29 = .ok (.invokespecial 24, 3) := by decide +kernel
theorem dX11_init_32 : decode cX11_init 32 = .ok (.putfield 25, 3) := by decide +kernel
theorem dX11_init_35 : decode cX11_init 35 = .ok (.aload_n 0, 1) := by decide +kernel
theorem dX11_init_36 : decode cX11_init 36 = .ok (.new 29, 3) := by decide +kernel
theorem dX11_init_39 : decode cX11_init 39 = .ok (.dup, 1) := by decide +kernel
theorem dX11_init_40 : decode cX11_init 40 = .ok (.invokespecial 31, 3) := by decide +kernel
theorem dX11_init_43 : decode cX11_init 43 = .ok (.putfield 32, 3) := by decide +kernel
theorem dX11_init_46 : decode cX11_init 46 = .ok (.aload_n 0, 1) := by decide +kernel
theorem dX11_init_47 : decode cX11_init 47 = .ok (.new 36, 3) := by decide +kernel
theorem dX11_init_50 : decode cX11_init 50 = .ok (.dup, 1) := by decide +kernel
theorem dX11_init_51 : decode cX11_init 51 = .ok (.invokespecial 38, 3) := by decide +kernel
theorem dX11_init_54 : decode cX11_init 54 = .ok (.putfield 39, 3) := by decide +kernel
theorem dX11_init_57 : decode cX11_init 57 = .ok (.aload_n 0, 1) := by decide +kernel
theorem dX11_init_58 : decode cX11_init 58 = .ok (.bipush 8, 2) := by decide +kernel
theorem dX11_init_60 : decode cX11_init 60 = .ok (.newarray .int, 2) := by decide +kernel
theorem dX11_init_62 : decode cX11_init 62 = .ok (.putfield 43, 3) := by decide +kernel
theorem dX11_init_65 : decode cX11_init 65 = .ok (.aload_n 0, 1) := by decide +kernel
theorem dX11_init_66 : decode cX11_init 66 = .ok (.bipush 64, 2) := by decide +kernel
theorem dX11_init_68 : decode cX11_init 68 = .ok (.newarray .long, 2) := by decide +kernel
theorem dX11_init_70 : decode cX11_init 70 = .ok (.putfield 47, 3) := by decide +kernel
theorem dX11_init_73 : decode cX11_init 73 = .ok (.aload_n 0, 1) := by decide +kernel
theorem dX11_init_74 : decode cX11_init 74 = .ok (.lconst 0, 1) := by decide +kernel
theorem dX11_init_75 : decode cX11_init 75 = .ok (.putfield 51, 3) := by decide +kernel
theorem dX11_init_78 : decode cX11_init 78 = .ok (.aload_n 0, 1) := by decide +kernel
theorem dX11_init_79 : decode cX11_init 79 = .ok (.iconst 0, 1) := by decide +kernel
theorem dX11_init_80 : decode cX11_init 80 = .ok (.putfield 55, 3) := by decide +kernel
theorem dX11_init_83 : decode cX11_init 83 = .ok (.iconst 0, 1) := by decide +kernel
theorem dX11_init_84 : decode cX11_init 84 = .ok (.istore_n 1, 1) := by decide +kernel
theorem dX11_init_85 : decode cX11_init 85 = .ok (.iload_n 1, 1) := by decide +kernel
theorem dX11_init_86 : decode cX11_init 86 = .ok (.bipush 8, 2) := by decide +kernel
theorem dX11_init_88 : decode cX11_init 88 = .ok (.if_icmp .ge 22, 3) := by decide +kernel
theorem dX11_init_91 : decode cX11_init 91 = .ok (.aload_n 0, 1) := by decide +kernel
theorem dX11_init_92 : decode cX11_init 92 = .ok (.getfield 11, 3) := by decide +kernel
theorem dX11_init_95 : decode cX11_init 95 = .ok (.iload_n 1, 1) := by decide +kernel
theorem dX11_init_96 : decode cX11_init 96 = .ok (.new 9, 3) := by decide +kernel
theorem dX11_init_99 : decode cX11_init 99 = .ok (.dup, 1) := by decide +kernel
theorem dX11_init_100 : decode cX11_init 100 = .ok (.invokespecial 59, 3) := by decide +kernel
theorem dX11_init_103 : decode cX11_init 103 = .ok (.aastore, 1) := by decide +kernel
theorem dX11_init_104 : decode cX11_init 104 = .ok (.iinc 1 1, 3) := by decide +kernel
theorem dX11_init_107 : decode cX11_init 107 = .ok (.goto (-22), 3) := by decide +kernel
theorem dX11_init_110 : decode cX11_init 110 = .ok (.return_, 1) := by decide +kernel
theorem dX11_box_0 : decode cX11_box 0 = .ok (.iload_n 1, 1) := by decide +kernel
theorem dX11_box_1 : decode cX11_box 1 = .ok (.bipush 8, 2) := by decide +kernel
theorem dX11_box_3 : decode cX11_box 3 = .ok (.invokestatic 60, 3) := by decide +kernel
theorem dX11_box_6 : decode cX11_box 6 = .ok (.ifCond .ne 22, 3) := by decide +kernel
theorem dX11_box_9 : decode cX11_box 9 = .ok (.iload_n 2, 1) := by decide +kernel
theorem dX11_box_10 : decode cX11_box 10 = .ok (.bipush 8, 2) := by decide +kernel
theorem dX11_box_12 : decode cX11_box 12 = .ok (.invokestatic 60, 3) := by decide +kernel
theorem dX11_box_15 : decode cX11_box 15 = .ok (.ifCond .ne 13, 3) := by decide +kernel
theorem dX11_box_18 : decode cX11_box 18 = .ok (.iload_n 3, 1) := by decide +kernel
theorem dX11_box_19 : decode cX11_box 19 = .ok (.sipush 4096, 3) := by decide +kernel
theorem dX11_box_22 : decode cX11_box 22 = .ok (.invokestatic 60, 3) := by decide +kernel
theorem dX11_box_25 : decode cX11_box 25 = .ok (.ifCond .eq 10, 3) := by decide +kernel
theorem dX11_box_28 : decode cX11_box 28 = .ok (.aload_n 0, 1) := by decide +kernel
theorem dX11_box_29 : decode cX11_box 29 = .ok (.bipush (-3), 2) := by decide +kernel
theorem dX11_box_31 : decode cX11_box 31 = .ok (.invokevirtual 64, 3) := by decide +kernel
theorem dX11_box_34 : decode cX11_box 34 = .ok (.ireturn, 1) := by decide +kernel
theorem dX11_box_35 : decode cX11_box 35 = .ok (.iload 4, 2) := by decide +kernel
theorem dX11_box_37 : decode cX11_box 37 = .ok (.bipush 100, 2) := by decide +kernel
theorem dX11_box_39 : decode cX11_box 39 = .ok (.idiv, 1) := by decide +kernel
theorem dX11_box_40 : decode cX11_box 40 = .ok (.istore 6, 2) := by decide +kernel
theorem dX11_box_42 : decode cX11_box 42 = .ok (.iload 4, 2) := by decide +kernel
theorem dX11_box_44 : decode cX11_box 44 = .ok (.bipush 100, 2) := by decide +kernel
theorem dX11_box_46 : decode cX11_box 46 = .ok (.irem, 1) := by decide +kernel
theorem dX11_box_47 : decode cX11_box 47 = .ok (.istore 7, 2) := by decide +kernel
theorem dX11_box_49 : decode cX11_box 49 = .ok (.iload 6, 2) := by decide +kernel
theorem dX11_box_51 : decode cX11_box 51 = .ok (.iconst 1, 1) := by decide +kernel
theorem dX11_box_52 : decode cX11_box 52 = .ok (.if_icmp .lt 23, 3) := by decide +kernel
theorem dX11_box_55 : decode cX11_box 55 = .ok (.iload 6, 2) := by decide +kernel
theorem dX11_box_57 : decode cX11_box 57 = .ok (.bipush 64, 2) := by decide +kernel
theorem dX11_box_59 : decode cX11_box 59 = .ok (.if_icmp .gt 16, 3) := by decide +kernel
theorem dX11_box_62 : decode cX11_box 62 = .ok (.iload 7, 2) := by decide +kernel
theorem dX11_box_64 : decode cX11_box 64 = .ok (.iconst 1, 1) := by decide +kernel
theorem dX11_box_65 : decode cX11_box 65 = .ok (.if_icmp .lt 10, 3) := by decide +kernel
theorem dX11_box_68 : decode cX11_box 68 = .ok (.iload 7, 2) := by decide +kernel
theorem dX11_box_70 : decode cX11_box 70 = .ok (.bipush 64, 2) := by decide +kernel
theorem dX11_box_72 : decode cX11_box 72 = .ok (.if_icmp .le 10, 3) := by decide +kernel
theorem dX11_box_75 : decode cX11_box 75 = .ok (.aload_n 0, 1) := by decide +kernel
theorem dX11_box_76 : decode cX11_box 76 = .ok (.bipush (-7), 2) := by decide +kernel
theorem dX11_box_78 : decode cX11_box 78 = .ok (.invokevirtual 64, 3) := by decide +kernel
theorem dX11_box_81 : decode cX11_box 81 = .ok (.ireturn, 1) := by decide +kernel
theorem dX11_box_82 : decode cX11_box 82 = .ok (.aload_n 0, 1) := by decide +kernel
theorem dX11_box_83 : decode cX11_box 83 = .ok (.getfield 11, 3) := by decide +kernel
theorem dX11_box_86 : decode cX11_box 86 = .ok (.iload_n 1, 1) := by decide +kernel
theorem dX11_box_87 : decode cX11_box 87 = .ok (.aaload, 1) := by decide +kernel
theorem dX11_box_88 : decode cX11_box 88 = .ok (.getfield 68, 3) := by decide +kernel
theorem dX11_box_91 : decode cX11_box 91 = .ok (.bipush 16, 2) := by decide +kernel
theorem dX11_box_93 : decode cX11_box 93 = .ok (.if_icmp .lt 10, 3) := by decide +kernel
theorem dX11_box_96 : decode cX11_box 96 = .ok (.aload_n 0, 1) := by decide +kernel
theorem dX11_box_97 : decode cX11_box 97 = .ok (.bipush (-8), 2) := by decide +kernel
theorem dX11_box_99 : decode cX11_box 99 = .ok (.invokevirtual 64, 3) := by decide +kernel
theorem dX11_box_102 : decode cX11_box 102 = .ok (.ireturn, 1) := by decide +kernel
theorem dX11_box_103 : decode cX11_box 103 = .ok (.new 72, 3) := by decide +kernel
theorem dX11_box_106 : decode cX11_box 106 = .ok (.dup, 1) := by decide +kernel
theorem dX11_box_107 : decode cX11_box 107 = .ok (.iload 5, 2) := by decide +kernel
theorem dX11_box_109 : decode cX11_box 109 = .ok (.ifCond .eq 7, 3) := by decide +kernel
theorem dX11_box_112 : decode cX11_box 112 = .ok (.iconst 1, 1) := by decide +kernel
theorem dX11_box_113 : decode cX11_box 113 = .ok (.goto 4, 3) := by decide +kernel
theorem dX11_box_116 : decode cX11_box 116 = .ok (.iconst 0, 1) := by decide +kernel
theorem dX11_box_117 : decode cX11_box 117 = .ok (.iload_n 2, 1) := by decide +kernel
theorem dX11_box_118 : decode cX11_box 118 = .ok (.iload_n 3, 1) := by decide +kernel
theorem dX11_box_119 : decode cX11_box 119 = .ok (.invokespecial 74, 3) := by decide +kernel
theorem dX11_box_122 : decode cX11_box 122 = .ok (.astore 8, 2) := by decide +kernel
theorem dX11_box_124 : decode cX11_box 124 = .ok (.iload_n 3, 1) := by decide +kernel
theorem dX11_box_125 : decode cX11_box 125 = .ok (.bipush 64, 2) := by decide +kernel
theorem dX11_box_127 : decode cX11_box 127 = .ok (.irem, 1) := by decide +kernel
theorem dX11_box_128 : decode cX11_box 128 = .ok (.istore 9, 2) := by decide +kernel
theorem dX11_box_130 : decode cX11_box 130 = .ok (.iload_n 3, 1) := by decide +kernel
theorem dX11_box_131 : decode cX11_box 131 = .ok (.bipush 64, 2) := by decide +kernel
theorem dX11_box_133 : decode cX11_box 133 = .ok (.idiv, 1) := by decide +kernel
theorem dX11_box_134 : decode cX11_box 134 = .ok (.istore 10, 2) := by decide +kernel
theorem dX11_box_136 : decode cX11_box 136 = .ok (.aload 8, 2) := by decide +kernel
theorem dX11_box_138 : decode cX11_box 138 = .ok (.iload 9, 2) := by decide +kernel
theorem dX11_box_140 : decode cX11_box 140 = .ok (.iload 10, 2) := by decide +kernel
theorem dX11_box_142 : decode cX11_box 142 = .ok (.iload 9, 2) := by decide +kernel
theorem dX11_box_144 : decode cX11_box 144 = .ok (.iload 6, 2) := by decide +kernel
theorem dX11_box_146 : decode cX11_box 146 = .ok (.iadd, 1) := by decide +kernel
theorem dX11_box_147 : decode cX11_box 147 = .ok (.iconst 1, 1) := by decide +kernel
theorem dX11_box_148 : decode cX11_box 148 = .ok (.isub, 1) := by decide +kernel
theorem dX11_box_149 : decode cX11_box 149 = .ok (.iload 10, 2) := by decide +kernel
theorem dX11_box_151 : decode cX11_box 151 = .ok (.iload 7, 2) := by decide +kernel
theorem dX11_box_153 : decode cX11_box 153 = .ok (.iadd, 1) := by decide +kernel
theorem dX11_box_154 : decode cX11_box 154 = .ok (.iconst 1, 1) := by decide +kernel
theorem dX11_box_155 : decode cX11_box 155 = .ok (.isub, 1) := by decide +kernel
theorem dX11_box_156 : decode cX11_box 156 = .ok (.invokevirtual 77, 3) := by decide +kernel
theorem dX11_box_159 : decode cX11_box 159 = .ok (.aload_n 0, 1) := by decide +kernel
theorem dX11_box_160 : decode cX11_box 160 = .ok (.iload_n 1, 1) := by decide +kernel
theorem dX11_box_161 : decode cX11_box 161 = .ok (.aload 8, 2) := by decide +kernel
theorem dX11_box_163 : decode cX11_box 163 = .ok (.invokevirtual 81, 3) := by decide +kernel
theorem dX11_box_166 : decode cX11_box 166 = .ok (.ireturn, 1) := by decide +kernel
theorem dX11_path_0 : decode cX11_path 0 = .ok (.iload_n 1, 1) := by decide +kernel
theorem dX11_path_1 : decode cX11_path 1 = .ok (.bipush 8, 2) := by decide +kernel
theorem dX11_path_3 : decode cX11_path 3 = .ok (.invokestatic 60, 3) := by decide +kernel
theorem dX11_path_6 : decode cX11_path 6 = .ok (.ifCond .ne 33, 3) := by decide +kernel
theorem dX11_path_9 : decode cX11_path 9 = .ok (.iload_n 2, 1) := by decide +kernel
theorem dX11_path_10 : decode cX11_path 10 = .ok (.bipush 8, 2) := by decide +kernel
theorem dX11_path_12 : decode cX11_path 12 = .ok (.invokestatic 60, 3) := by decide +kernel
theorem dX11_path_15 : decode cX11_path 15 = .ok (.ifCond .ne 24, 3) := by decide +kernel
theorem dX11_path_18 : decode cX11_path 18 = .ok (.iload_n 3, 1) := by decide +kernel
theorem dX11_path_19 : decode cX11_path 19 = .ok (.sipush 4096, 3) := by decide +kernel
theorem dX11_path_22 : decode cX11_path 22 = .ok (.invokestatic 60, 3) := by decide +kernel
theorem dX11_path_25 : decode cX11_path 25 = .ok (.ifCond .ne 14, 3) := by decide +kernel
theorem dX11_path_28 : decode cX11_path 28 = .ok (.iload 4, 2) := by decide +kernel
theorem dX11_path_30 : decode cX11_path 30 = .ok (.sipush 4096, 3) := by decide +kernel
theorem dX11_path_33 : decode cX11_path 33 = .ok (.invokestatic 60, 3) := by decide +kernel
theorem dX11_path_36 : decode cX11_path 36 = .ok (.ifCond .eq 10, 3) := by decide +kernel
theorem dX11_path_39 : decode cX11_path 39 = .ok (.aload_n 0, 1) := by decide +kernel
theorem dX11_path_40 : decode cX11_path 40 = .ok (.bipush (-3), 2) := by decide +kernel
theorem dX11_path_42 : decode cX11_path 42 = .ok (.invokevirtual 64, 3) := by decide +kernel
theorem dX11_path_45 : decode cX11_path 45 = .ok (.ireturn, 1) := by decide +kernel
theorem dX11_path_46 : decode cX11_path 46 = .ok (.iload_n 3, 1) := by decide +kernel
theorem dX11_path_47 : decode cX11_path 47 = .ok (.bipush 64, 2) := by decide +kernel
theorem dX11_path_49 : decode cX11_path 49 = .ok (.idiv, 1) := by decide +kernel
theorem dX11_path_50 : decode cX11_path 50 = .ok (.iload 4, 2) := by decide +kernel
theorem dX11_path_52 : decode cX11_path 52 = .ok (.bipush 64, 2) := by decide +kernel
theorem dX11_path_54 : decode cX11_path 54 = .ok (.idiv, 1) := by decide +kernel
theorem dX11_path_55 : decode cX11_path 55 = .ok (.if_icmp .ne 7, 3) := by decide +kernel
theorem dX11_path_58 : decode cX11_path 58 = .ok (.iconst 1, 1) := by decide +kernel
theorem dX11_path_59 : decode cX11_path 59 = .ok (.goto 4, 3) := by decide +kernel
theorem dX11_path_62 : decode cX11_path 62 = .ok (.iconst 0, 1) := by decide +kernel
theorem dX11_path_63 : decode cX11_path 63 = .ok (.istore 6, 2) := by decide +kernel
theorem dX11_path_65 : decode cX11_path 65 = .ok (.iload_n 3, 1) := by decide +kernel
theorem dX11_path_66 : decode cX11_path 66 = .ok (.bipush 64, 2) := by decide +kernel
theorem dX11_path_68 : decode cX11_path 68 = .ok (.irem, 1) := by decide +kernel
theorem dX11_path_69 : decode cX11_path 69 = .ok (.iload 4, 2) := by decide +kernel
theorem dX11_path_71 : decode cX11_path 71 = .ok (.bipush 64, 2) := by decide +kernel
theorem dX11_path_73 : decode cX11_path 73 = .ok (.irem, 1) := by decide +kernel
theorem dX11_path_74 : decode cX11_path 74 = .ok (.if_icmp .ne 7, 3) := by decide +kernel
theorem dX11_path_77 : decode cX11_path 77 = .ok (.iconst 1, 1) := by decide +kernel
theorem dX11_path_78 : decode cX11_path 78 = .ok (.goto 4, 3) := by decide +kernel
theorem dX11_path_81 : decode cX11_path 81 = .ok (.iconst 0, 1) := by decide +kernel
theorem dX11_path_82 : decode cX11_path 82 = .ok (.istore 7, 2) := by decide +kernel
theorem dX11_path_84 : decode cX11_path 84 = .ok (.iload 6, 2) := by decide +kernel
theorem dX11_path_86 : decode cX11_path 86 = .ok (.ifCond .ne 8, 3) := by decide +kernel
theorem dX11_path_89 : decode cX11_path 89 = .ok (.iload 7, 2) := by decide +kernel
theorem dX11_path_91 : decode cX11_path 91 = .ok (.ifCond .eq 16, 3) := by decide +kernel
theorem dX11_path_94 : decode cX11_path 94 = .ok (.iload 5, 2) := by decide +kernel
theorem dX11_path_96 : decode cX11_path 96 = .ok (.iconst 1, 1) := by decide +kernel
theorem dX11_path_97 : decode cX11_path 97 = .ok (.if_icmp .lt 10, 3) := by decide +kernel
theorem dX11_path_100 : decode cX11_path 100 = .ok (.iload 5, 2) := by decide +kernel
theorem dX11_path_102 : decode cX11_path 102 = .ok (.bipush 9, 2) := by decide +kernel
theorem dX11_path_104 : decode cX11_path 104 = .ok (.if_icmp .le 10, 3) := by decide +kernel
theorem dX11_path_107 : decode cX11_path 107 = .ok (.aload_n 0, 1) := by decide +kernel
theorem dX11_path_108 : decode cX11_path 108 = .ok (.bipush (-7), 2) := by decide +kernel
theorem dX11_path_110 : decode cX11_path 110 = .ok (.invokevirtual 64, 3) := by decide +kernel
theorem dX11_path_113 : decode cX11_path 113 = .ok (.ireturn, 1) := by decide +kernel
theorem dX11_path_114 : decode cX11_path 114 = .ok (.aload_n 0, 1) := by decide +kernel
theorem dX11_path_115 : decode cX11_path 115 = .ok (.getfield 11, 3) := by decide +kernel
theorem dX11_path_118 : decode cX11_path 118 = .ok (.iload_n 1, 1) := by decide +kernel
theorem dX11_path_119 : decode cX11_path 119 = .ok (.aaload, 1) := by decide +kernel
theorem dX11_path_120 : decode cX11_path 120 = .ok (.getfield 68, 3) := by decide +kernel
theorem dX11_path_123 : decode cX11_path 123 = .ok (.bipush 16, 2) := by decide +kernel
theorem dX11_path_125 : decode cX11_path 125 = .ok (.if_icmp .lt 10, 3) := by decide +kernel
theorem dX11_path_128 : decode cX11_path 128 = .ok (.aload_n 0, 1) := by decide +kernel
theorem dX11_path_129 : decode cX11_path 129 = .ok (.bipush (-8), 2) := by decide +kernel
theorem dX11_path_131 : decode cX11_path 131 = .ok (.invokevirtual 64, 3) := by decide +kernel
theorem dX11_path_134 : decode cX11_path 134 = .ok (.ireturn, 1) := by decide +kernel
theorem dX11_path_135 : decode cX11_path 135 = .ok (.iload 5, 2) := by decide +kernel
theorem dX11_path_137 : decode cX11_path 137 = .ok (.iconst 1, 1) := by decide +kernel
theorem dX11_path_138 : decode cX11_path 138 = .ok (.isub, 1) := by decide +kernel
theorem dX11_path_139 : decode cX11_path 139 = .ok (.iconst 2, 1) := by decide +kernel
theorem dX11_path_140 : decode cX11_path 140 = .ok (.idiv, 1) := by decide +kernel
theorem dX11_path_141 : decode cX11_path 141 = .ok (.istore 8, 2) := by decide +kernel
theorem dX11_path_143 : decode cX11_path 143 = .ok (.iload 5, 2) := by decide +kernel
theorem dX11_path_145 : decode cX11_path 145 = .ok (.iconst 2, 1) := by decide +kernel
theorem dX11_path_146 : decode cX11_path 146 = .ok (.idiv, 1) := by decide +kernel
theorem dX11_path_147 : decode cX11_path 147 = .ok (.istore 9, 2) := by decide +kernel
theorem dX11_path_149 : decode cX11_path 149 = .ok (.iload_n 3, 1) := by decide +kernel
theorem dX11_path_150 : decode cX11_path 150 = .ok (.iload 4, 2) := by decide +kernel
theorem dX11_path_152 : decode cX11_path 152 = .ok (.invokestatic 85, 3) := by decide +kernel
theorem dX11_path_155 : decode cX11_path 155 = .ok (.istore 10, 2) := by decide +kernel
theorem dX11_path_157 : decode cX11_path 157 = .ok (.iload_n 3, 1) := by decide +kernel
theorem dX11_path_158 : decode cX11_path 158 = .ok (.iload 4, 2) := by decide +kernel
theorem dX11_path_160 : decode cX11_path 160 = .ok (.invokestatic 91, 3) := by decide +kernel
theorem dX11_path_163 : decode cX11_path 163 = .ok (.istore 11, 2) := by decide +kernel
theorem dX11_path_165 : decode cX11_path 165 = .ok (.iload 10, 2) := by decide +kernel
theorem dX11_path_167 : decode cX11_path 167 = .ok (.bipush 64, 2) := by decide +kernel
theorem dX11_path_169 : decode cX11_path 169 = .ok (.irem, 1) := by decide +kernel
theorem dX11_path_170 : decode cX11_path 170 = .ok (.istore 12, 2) := by decide +kernel
theorem dX11_path_172 : decode cX11_path 172 = .ok (.iload 10, 2) := by decide +kernel
theorem dX11_path_174 : decode cX11_path 174 = .ok (.bipush 64, 2) := by decide +kernel
theorem dX11_path_176 : decode cX11_path 176 = .ok (.idiv, 1) := by decide +kernel
theorem dX11_path_177 : decode cX11_path 177 = .ok (.istore 13, 2) := by decide +kernel
theorem dX11_path_179 : decode cX11_path 179 = .ok (.new 72, 3) := by decide +kernel
theorem dX11_path_182 : decode cX11_path 182 = .ok (.dup, 1) := by decide +kernel
theorem dX11_path_183 : decode cX11_path 183 = .ok (.iconst 2, 1) := by decide +kernel
theorem dX11_path_184 : decode cX11_path 184 = .ok (.iload_n 2, 1) := by decide +kernel
theorem dX11_path_185 : decode cX11_path 185 = .ok (.iload_n 3, 1) := by decide +kernel
theorem dX11_path_186 : decode cX11_path 186 = .ok (.invokespecial 74, 3) := by decide +kernel
theorem dX11_path_189 : decode cX11_path 189 = .ok (.astore 14, 2) := by decide +kernel
theorem dX11_path_191 : decode cX11_path 191 = .ok (.iload 6, 2) := by decide +kernel
theorem dX11_path_193 : decode cX11_path 193 = .ok (.ifCond .eq 28, 3) := by decide +kernel
theorem dX11_path_196 : decode cX11_path 196 = .ok (.aload 14, 2) := by decide +kernel
theorem dX11_path_198 : decode cX11_path 198 = .ok (.iload 12, 2) := by decide +kernel
theorem dX11_path_200 : decode cX11_path 200 = .ok (.iload 13, 2) := by decide +kernel
theorem dX11_path_202 : decode cX11_path 202 = .ok (.iload 8, 2) := by decide +kernel
theorem dX11_path_204 : decode cX11_path 204 = .ok (.isub, 1) := by decide +kernel
theorem dX11_path_205 : decode cX11_path 205 = .ok (.iload 11, 2) := by decide +kernel
theorem dX11_path_207 : decode cX11_path 207 = .ok (.bipush 64, 2) := by decide +kernel
theorem dX11_path_209 : decode cX11_path 209 = .ok (.irem, 1) := by decide +kernel
theorem dX11_path_210 : decode cX11_path 210 = .ok (.iload 13, 2) := by decide +kernel
theorem dX11_path_212 : decode cX11_path 212 = .ok (.iload 9, 2) := by decide +kernel
theorem dX11_path_214 : decode cX11_path 214 = .ok (.iadd, 1) := by decide +kernel
theorem dX11_path_215 : decode cX11_path 215 = .ok (.invokevirtual 77, 3) := by decide +kernel
theorem dX11_path_218 : decode cX11_path 218 = .ok (.goto 25, 3) := by decide +kernel
theorem dX11_path_221 : decode cX11_path 221 = .ok (.aload 14, 2) := by decide +kernel
theorem dX11_path_223 : decode cX11_path 223 = .ok (.iload 12, 2) := by decide +kernel
theorem dX11_path_225 : decode cX11_path 225 = .ok (.iload 8, 2) := by decide +kernel
theorem dX11_path_227 : decode cX11_path 227 = .ok (.isub, 1) := by decide +kernel
theorem dX11_path_228 : decode cX11_path 228 = .ok (.iload 13, 2) := by decide +kernel
theorem dX11_path_230 : decode cX11_path 230 = .ok (.iload 12, 2) := by decide +kernel
theorem dX11_path_232 : decode cX11_path 232 = .ok (.iload 9, 2) := by decide +kernel
theorem dX11_path_234 : decode cX11_path 234 = .ok (.iadd, 1) := by decide +kernel
theorem dX11_path_235 : decode cX11_path 235 = .ok (.iload 11, 2) := by decide +kernel
theorem dX11_path_237 : decode cX11_path 237 = .ok (.bipush 64, 2) := by decide +kernel
theorem dX11_path_239 : decode cX11_path 239 = .ok (.idiv, 1) := by decide +kernel
theorem dX11_path_240 : decode cX11_path 240 = .ok (.invokevirtual 77, 3) := by decide +kernel
theorem dX11_path_243 : decode cX11_path 243 = .ok (.aload_n 0, 1) := by decide +kernel
theorem dX11_path_244 : decode cX11_path 244 = .ok (.iload_n 1, 1) := by decide +kernel
theorem dX11_path_245 : decode cX11_path 245 = .ok (.aload 14, 2) := by decide +kernel
theorem dX11_path_247 : decode cX11_path 247 = .ok (.invokevirtual 81, 3) := by decide +kernel
theorem dX11_path_250 : decode cX11_path 250 = .ok (.ireturn, 1) := by decide +kernel
theorem dX11_text_0 : decode cX11_text 0 = .ok (.iload_n 1, 1) := by decide +kernel
theorem dX11_text_1 : decode cX11_text 1 = .ok (.bipush 8, 2) := by decide +kernel
theorem dX11_text_3 : decode cX11_text 3 = .ok (.invokestatic 60, 3) := by decide +kernel
theorem dX11_text_6 : decode cX11_text 6 = .ok (.ifCond .ne 22, 3) := by decide +kernel
theorem dX11_text_9 : decode cX11_text 9 = .ok (.iload_n 2, 1) := by decide +kernel
theorem dX11_text_10 : decode cX11_text 10 = .ok (.bipush 16, 2) := by decide +kernel
theorem dX11_text_12 : decode cX11_text 12 = .ok (.invokestatic 60, 3) := by decide +kernel
theorem dX11_text_15 : decode cX11_text 15 = .ok (.ifCond .ne 13, 3) := by decide +kernel
theorem dX11_text_18 : decode cX11_text 18 = .ok (.iload_n 3, 1) := by decide +kernel
theorem dX11_text_19 : decode cX11_text 19 = .ok (.sipush 4096, 3) := by decide +kernel
theorem dX11_text_22 : decode cX11_text 22 = .ok (.invokestatic 60, 3) := by decide +kernel
theorem dX11_text_25 : decode cX11_text 25 = .ok (.ifCond .eq 10, 3) := by decide +kernel
theorem dX11_text_28 : decode cX11_text 28 = .ok (.aload_n 0, 1) := by decide +kernel
theorem dX11_text_29 : decode cX11_text 29 = .ok (.bipush (-3), 2) := by decide +kernel
theorem dX11_text_31 : decode cX11_text 31 = .ok (.invokevirtual 64, 3) := by decide +kernel
theorem dX11_text_34 : decode cX11_text 34 = .ok (.ireturn, 1) := by decide +kernel
theorem dX11_text_35 : decode cX11_text 35 = .ok (.iload 4, 2) := by decide +kernel
theorem dX11_text_37 : decode cX11_text 37 = .ok (.iconst 1, 1) := by decide +kernel
theorem dX11_text_38 : decode cX11_text 38 = .ok (.if_icmp .lt 11, 3) := by decide +kernel
theorem dX11_text_41 : decode cX11_text 41 = .ok (.iload 4, 2) := by decide +kernel
theorem dX11_text_43 : decode cX11_text 43 = .ok (.sipush 999, 3) := by decide +kernel
theorem dX11_text_46 : decode cX11_text 46 = .ok (.if_icmp .le 10, 3) := by decide +kernel
theorem dX11_text_49 : decode cX11_text 49 = .ok (.aload_n 0, 1) := by decide +kernel
theorem dX11_text_50 : decode cX11_text 50 = .ok (.bipush (-7), 2) := by decide +kernel
theorem dX11_text_52 : decode cX11_text 52 = .ok (.invokevirtual 64, 3) := by decide +kernel
theorem dX11_text_55 : decode cX11_text 55 = .ok (.ireturn, 1) := by decide +kernel
theorem dX11_text_56 : decode cX11_text 56 = .ok (.aload_n 0, 1) := by decide +kernel
theorem dX11_text_57 : decode cX11_text 57 = .ok (.getfield 11, 3) := by decide +kernel
theorem dX11_text_60 : decode cX11_text 60 = .ok (.iload_n 1, 1) := by decide +kernel
theorem dX11_text_61 : decode cX11_text 61 = .ok (.aaload, 1) := by decide +kernel
theorem dX11_text_62 : decode cX11_text 62 = .ok (.getfield 68, 3) := by decide +kernel
theorem dX11_text_65 : decode cX11_text 65 = .ok (.bipush 16, 2) := by decide +kernel
theorem dX11_text_67 : decode cX11_text 67 = .ok (.if_icmp .lt 10, 3) := by decide +kernel
theorem dX11_text_70 : decode cX11_text 70 = .ok (.aload_n 0, 1) := by decide +kernel
theorem dX11_text_71 : decode cX11_text 71 = .ok (.bipush (-8), 2) := by decide +kernel
theorem dX11_text_73 : decode cX11_text 73 = .ok (.invokevirtual 64, 3) := by decide +kernel
theorem dX11_text_76 : decode cX11_text 76 = .ok (.ireturn, 1) := by decide +kernel
theorem dX11_text_77 : decode cX11_text 77 = .ok (.aload_n 0, 1) := by decide +kernel
theorem dX11_text_78 : decode cX11_text 78 = .ok (.iload_n 1, 1) := by decide +kernel
theorem dX11_text_79 : decode cX11_text 79 = .ok (.new 94, 3) := by decide +kernel
theorem dX11_text_82 : decode cX11_text 82 = .ok (.dup, 1) := by decide +kernel
theorem dX11_text_83 : decode cX11_text 83 = .ok (.iload_n 2, 1) := by decide +kernel
theorem dX11_text_84 : decode cX11_text 84 = .ok (.iload_n 3, 1) := by decide +kernel
theorem dX11_text_85 : decode cX11_text 85 = .ok (.iload 4, 2) := by decide +kernel
theorem dX11_text_87 : decode cX11_text 87 = .ok (.invokespecial 96, 3) := by decide +kernel
theorem dX11_text_90 : decode cX11_text 90 = .ok (.invokevirtual 81, 3) := by decide +kernel
theorem dX11_text_93 : decode cX11_text 93 = .ok (.ireturn, 1) := by decide +kernel
theorem dX11_put_0 : decode cX11_put 0 = .ok (.iload_n 1, 1) := by decide +kernel
theorem dX11_put_1 : decode cX11_put 1 = .ok (.bipush 8, 2) := by decide +kernel
theorem dX11_put_3 : decode cX11_put 3 = .ok (.invokestatic 60, 3) := by decide +kernel
theorem dX11_put_6 : decode cX11_put 6 = .ok (.ifCond .ne 21, 3) := by decide +kernel
theorem dX11_put_9 : decode cX11_put 9 = .ok (.iload_n 2, 1) := by decide +kernel
theorem dX11_put_10 : decode cX11_put 10 = .ok (.iload_n 1, 1) := by decide +kernel
theorem dX11_put_11 : decode cX11_put 11 = .ok (.invokestatic 60, 3) := by decide +kernel
theorem dX11_put_14 : decode cX11_put 14 = .ok (.ifCond .ne 13, 3) := by decide +kernel
theorem dX11_put_17 : decode cX11_put 17 = .ok (.iload_n 3, 1) := by decide +kernel
theorem dX11_put_18 : decode cX11_put 18 = .ok (.sipush 4096, 3) := by decide +kernel
theorem dX11_put_21 : decode cX11_put 21 = .ok (.invokestatic 60, 3) := by decide +kernel
theorem dX11_put_24 : decode cX11_put 24 = .ok (.ifCond .eq 10, 3) := by decide +kernel
theorem dX11_put_27 : decode cX11_put 27 = .ok (.aload_n 0, 1) := by decide +kernel
theorem dX11_put_28 : decode cX11_put 28 = .ok (.bipush (-3), 2) := by decide +kernel
theorem dX11_put_30 : decode cX11_put 30 = .ok (.invokevirtual 64, 3) := by decide +kernel
theorem dX11_put_33 : decode cX11_put 33 = .ok (.ireturn, 1) := by decide +kernel
theorem dX11_put_34 : decode cX11_put 34 = .ok (.iload 4, 2) := by decide +kernel
theorem dX11_put_36 : decode cX11_put 36 = .ok (.ifCond .lt 9, 3) := by decide +kernel
theorem dX11_put_39 : decode cX11_put 39 = .ok (.iload 4, 2) := by decide +kernel
theorem dX11_put_41 : decode cX11_put 41 = .ok (.iconst 3, 1) := by decide +kernel
theorem dX11_put_42 : decode cX11_put 42 = .ok (.if_icmp .le 10, 3) := by decide +kernel
theorem dX11_put_45 : decode cX11_put 45 = .ok (.aload_n 0, 1) := by decide +kernel
theorem dX11_put_46 : decode cX11_put 46 = .ok (.bipush (-7), 2) := by decide +kernel
theorem dX11_put_48 : decode cX11_put 48 = .ok (.invokevirtual 64, 3) := by decide +kernel
theorem dX11_put_51 : decode cX11_put 51 = .ok (.ireturn, 1) := by decide +kernel
theorem dX11_put_52 : decode cX11_put 52 = .ok (.aload_n 0, 1) := by decide +kernel
theorem dX11_put_53 : decode cX11_put 53 = .ok (.getfield 11, 3) := by decide +kernel
theorem dX11_put_56 : decode cX11_put 56 = .ok (.iload_n 1, 1) := by decide +kernel
theorem dX11_put_57 : decode cX11_put 57 = .ok (.aaload, 1) := by decide +kernel
theorem dX11_put_58 : decode cX11_put 58 = .ok (.getfield 68, 3) := by decide +kernel
theorem dX11_put_61 : decode cX11_put 61 = .ok (.bipush 16, 2) := by decide +kernel
theorem dX11_put_63 : decode cX11_put 63 = .ok (.if_icmp .lt 10, 3) := by decide +kernel
theorem dX11_put_66 : decode cX11_put 66 = .ok (.aload_n 0, 1) := by decide +kernel
theorem dX11_put_67 : decode cX11_put 67 = .ok (.bipush (-8), 2) := by decide +kernel
theorem dX11_put_69 : decode cX11_put 69 = .ok (.invokevirtual 64, 3) := by decide +kernel
theorem dX11_put_72 : decode cX11_put 72 = .ok (.ireturn, 1) := by decide +kernel
theorem dX11_put_73 : decode cX11_put 73 = .ok (.aload_n 0, 1) := by decide +kernel
theorem dX11_put_74 : decode cX11_put 74 = .ok (.iload_n 1, 1) := by decide +kernel
theorem dX11_put_75 : decode cX11_put 75 = .ok (.new 97, 3) := by decide +kernel
theorem dX11_put_78 : decode cX11_put 78 = .ok (.dup, 1) := by decide +kernel
theorem dX11_put_79 : decode cX11_put 79 = .ok (.iload_n 2, 1) := by decide +kernel
theorem dX11_put_80 : decode cX11_put 80 = .ok (.iload_n 3, 1) := by decide +kernel
theorem dX11_put_81 : decode cX11_put 81 = .ok (.iload 4, 2) := by decide +kernel
theorem dX11_put_83 : decode cX11_put 83 = .ok (.iload 5, 2) := by decide +kernel
theorem dX11_put_85 : decode cX11_put 85 = .ok (.invokespecial 99, 3) := by decide +kernel
theorem dX11_put_88 : decode cX11_put 88 = .ok (.invokevirtual 81, 3) := by decide +kernel
theorem dX11_put_91 : decode cX11_put 91 = .ok (.ireturn, 1) := by decide +kernel
theorem dX11_times_0 : decode cX11_times 0 = .ok (.iload_n 1, 1) := by decide +kernel
