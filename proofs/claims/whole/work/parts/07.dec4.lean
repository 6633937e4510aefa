theorem dX12_init_468 : decode cX12_init 468 = .ok (.aload_n 0, 1) := by decide +kernel
theorem dX12_init_469 : decode cX12_init 469 = .ok (.bipush 24, 2) := by decide +kernel
theorem dX12_init_471 : decode cX12_init 471 = .ok (.newarray .int, 2) := by decide +kernel
theorem dX12_init_473 : decode cX12_init 473 = .ok (.putfield 179, 3) := by decide +kernel
theorem dX12_init_476 : decode cX12_init 476 = .ok (.aload_n 0, 1) := by decide +kernel
theorem dX12_init_477 : decode cX12_init 477 = .ok (.bipush 12, 2) := by decide +kernel
theorem dX12_init_479 : decode cX12_init 479 = .ok (.newarray .int, 2) := by decide +kernel
theorem dX12_init_481 : decode cX12_init 481 = .ok (.putfield 182, 3) := by decide +kernel
theorem dX12_init_484 : decode cX12_init 484 = .ok (.aload_n 0, 1) := by decide +kernel
theorem dX12_init_485 : decode cX12_init 485 = .ok (.bipush 64, 2) := by decide +kernel
theorem dX12_init_487 : decode cX12_init 487 = .ok (.newarray .int, 2) := by decide +kernel
theorem dX12_init_489 : decode cX12_init 489 = .ok (.putfield 185, 3) := by decide +kernel
theorem dX12_init_492 : decode cX12_init 492 = .ok (.aload_n 0, 1) := by decide +kernel
theorem dX12_init_493 : decode cX12_init 493 = .ok (.bipush 64, 2) := by decide +kernel
theorem dX12_init_495 : decode cX12_init 495 = .ok (.newarray .int, 2) := by decide +kernel
theorem dX12_init_497 : decode cX12_init 497 = .ok (.putfield 188, 3) := by decide +kernel
theorem dX12_init_500 : decode cX12_init 500 = .ok (.iconst 0, 1) := by decide +kernel
theorem dX12_init_501 : decode cX12_init 501 = .ok (.istore_n 1, 1) := by decide +kernel
theorem dX12_init_502 : decode cX12_init 502 = .ok (.iload_n 1, 1) := by decide +kernel
theorem dX12_init_503 : decode cX12_init 503 = .ok (.bipush 16, 2) := by decide +kernel
theorem dX12_init_505 : decode cX12_init 505 = .ok (.if_icmp .ge 16, 3) := by decide +kernel
theorem dX12_init_508 : decode cX12_init 508 = .ok (.aload_n 0, 1) := by decide +kernel
theorem dX12_init_509 : decode cX12_init 509 = .ok (.getfield 34, 3) := by decide +kernel
theorem dX12_init_512 : decode cX12_init 512 = .ok (.iload_n 1, 1) := by decide +kernel
theorem dX12_init_513 : decode cX12_init 513 = .ok (.iconst (-1), 1) := by decide +kernel
theorem dX12_init_514 : decode cX12_init 514 = .ok (.iastore, 1) := by decide +kernel
theorem dX12_init_515 : decode cX12_init 515 = .ok (.iinc 1 1, 3) := by decide +kernel
theorem dX12_init_518 : decode cX12_init 518 = .ok (.goto (-16), 3) := by decide +kernel
theorem dX12_init_521 : decode cX12_init 521 = .ok (.return_, 1) := by decide +kernel
theorem dX12_isIn_0 : decode cX12_isIn 0 = .ok (.lload_n 0, 1) := by decide +kernel
theorem dX12_isIn_1 : decode cX12_isIn 1 = .ok (.lload_n 2, 1) := by decide +kernel
theorem dX12_isIn_2 : decode cX12_isIn 2 = .ok (.lcmp, 1) := by decide +kernel
theorem dX12_isIn_3 : decode cX12_isIn 3 = .ok (.ifCond .lt 14, 3) := by decide +kernel
theorem dX12_isIn_6 : decode cX12_isIn 6 = .ok (.lload_n 0, 1) := by decide +kernel
theorem dX12_isIn_7 : decode cX12_isIn 7 = .ok (.lload 4, 2) := by decide +kernel
theorem dX12_isIn_9 : decode cX12_isIn 9 = .ok (.lcmp, 1) := by decide +kernel
theorem dX12_isIn_10 : decode cX12_isIn 10 = .ok (.ifCond .gt 7, 3) := by decide +kernel
theorem dX12_isIn_13 : decode cX12_isIn 13 = .ok (.iconst 1, 1) := by decide +kernel
theorem dX12_isIn_14 : decode cX12_isIn 14 = .ok (.goto 4, 3) := by decide +kernel
theorem dX12_isIn_17 : decode cX12_isIn 17 = .ok (.iconst 0, 1) := by decide +kernel
theorem dX12_isIn_18 : decode cX12_isIn 18 = .ok (.ireturn, 1) := by decide +kernel
theorem dX12_no_0 : decode cX12_no 0 = .ok (.aload_n 0, 1) := by decide +kernel
theorem dX12_no_1 : decode cX12_no 1 = .ok (.getfield 43, 3) := by decide +kernel
theorem dX12_no_4 : decode cX12_no 4 = .ok (.iload_n 1, 1) := by decide +kernel
theorem dX12_no_5 : decode cX12_no 5 = .ok (.ineg, 1) := by decide +kernel
theorem dX12_no_6 : decode cX12_no 6 = .ok (.dup2, 1) := by decide +kernel
theorem dX12_no_7 : decode cX12_no 7 = .ok (.iaload, 1) := by decide +kernel
theorem dX12_no_8 : decode cX12_no 8 = .ok (.iconst 1, 1) := by decide +kernel
theorem dX12_no_9 : decode cX12_no 9 = .ok (.iadd, 1) := by decide +kernel
theorem dX12_no_10 : decode cX12_no 10 = .ok (.iastore, 1) := by decide +kernel
theorem dX12_no_11 : decode cX12_no 11 = .ok (.iload_n 1, 1) := by decide +kernel
theorem dX12_no_12 : decode cX12_no 12 = .ok (.ireturn, 1) := by decide +kernel
theorem dX12_isCell_0 : decode cX12_isCell 0 = .ok (.iload_n 0, 1) := by decide +kernel
theorem dX12_isCell_1 : decode cX12_isCell 1 = .ok (.ifCond .lt 13, 3) := by decide +kernel
theorem dX12_isCell_4 : decode cX12_isCell 4 = .ok (.iload_n 0, 1) := by decide +kernel
theorem dX12_isCell_5 : decode cX12_isCell 5 = .ok (.bipush 8, 2) := by decide +kernel
theorem dX12_isCell_7 : decode cX12_isCell 7 = .ok (.if_icmp .ge 7, 3) := by decide +kernel
theorem dX12_isCell_10 : decode cX12_isCell 10 = .ok (.iconst 1, 1) := by decide +kernel
theorem dX12_isCell_11 : decode cX12_isCell 11 = .ok (.goto 4, 3) := by decide +kernel
theorem dX12_isCell_14 : decode cX12_isCell 14 = .ok (.iconst 0, 1) := by decide +kernel
theorem dX12_isCell_15 : decode cX12_isCell 15 = .ok (.ireturn, 1) := by decide +kernel
theorem dX12_isLayer_0 : decode cX12_isLayer 0 = .ok (.iload_n 0, 1) := by decide +kernel
theorem dX12_isLayer_1 : decode cX12_isLayer 1 = .ok (.ifCond .lt 13, 3) := by decide +kernel
theorem dX12_isLayer_4 : decode cX12_isLayer 4 = .ok (.iload_n 0, 1) := by decide +kernel
theorem dX12_isLayer_5 : decode cX12_isLayer 5 = .ok (.bipush 16, 2) := by decide +kernel
theorem dX12_isLayer_7 : decode cX12_isLayer 7 = .ok (.if_icmp .ge 7, 3) := by decide +kernel
theorem dX12_isLayer_10 : decode cX12_isLayer 10 = .ok (.iconst 1, 1) := by decide +kernel
theorem dX12_isLayer_11 : decode cX12_isLayer 11 = .ok (.goto 4, 3) := by decide +kernel
theorem dX12_isLayer_14 : decode cX12_isLayer 14 = .ok (.iconst 0, 1) := by decide +kernel
theorem dX12_isLayer_15 : decode cX12_isLayer 15 = .ok (.ireturn, 1) := by decide +kernel
theorem dX12_isSquare_0 : decode cX12_isSquare 0 = .ok (.iload_n 0, 1) := by decide +kernel
theorem dX12_isSquare_1 : decode cX12_isSquare 1 = .ok (.ifCond .lt 14, 3) := by decide +kernel
theorem dX12_isSquare_4 : decode cX12_isSquare 4 = .ok (.iload_n 0, 1) := by decide +kernel
theorem dX12_isSquare_5 : decode cX12_isSquare 5 = .ok (.sipush 4096, 3) := by decide +kernel
theorem dX12_isSquare_8 : decode cX12_isSquare 8 = .ok (.if_icmp .ge 7, 3) := by decide +kernel
theorem dX12_isSquare_11 : decode cX12_isSquare 11 = .ok (.iconst 1, 1) := by decide +kernel
theorem dX12_isSquare_12 : decode cX12_isSquare 12 = .ok (.goto 4, 3) := by decide +kernel
theorem dX12_isSquare_15 : decode cX12_isSquare 15 = .ok (.iconst 0, 1) := by decide +kernel
theorem dX12_isSquare_16 : decode cX12_isSquare 16 = .ok (.ireturn, 1) := by decide +kernel
theorem dX12_adds_0 : decode cX12_adds 0 = .ok (.aload_n 0, 1) := by decide +kernel
theorem dX12_adds_1 : decode cX12_adds 1 = .ok (.getfield 31, 3) := by decide +kernel
theorem dX12_adds_4 : decode cX12_adds 4 = .ok (.iload_n 1, 1) := by decide +kernel
theorem dX12_adds_5 : decode cX12_adds 5 = .ok (.iaload, 1) := by decide +kernel
theorem dX12_adds_6 : decode cX12_adds 6 = .ok (.bipush 16, 2) := by decide +kernel
theorem dX12_adds_8 : decode cX12_adds 8 = .ok (.if_icmp .ne 10, 3) := by decide +kernel
theorem dX12_adds_11 : decode cX12_adds 11 = .ok (.aload_n 0, 1) := by decide +kernel
theorem dX12_adds_12 : decode cX12_adds 12 = .ok (.bipush (-8), 2) := by decide +kernel
theorem dX12_adds_14 : decode cX12_adds 14 = .ok (.invokevirtual 191, 3) := by decide +kernel
theorem dX12_adds_17 : decode cX12_adds 17 = .ok (.ireturn, 1) := by decide +kernel
theorem dX12_adds_18 : decode cX12_adds 18 = .ok (.bipush 16, 2) := by decide +kernel
theorem dX12_adds_20 : decode cX12_adds 20 = .ok (.iload_n 1, 1) := by decide +kernel
theorem dX12_adds_21 : decode cX12_adds 21 = .ok (.imul, 1) := by decide +kernel
theorem dX12_adds_22 : decode cX12_adds 22 = .ok (.aload_n 0, 1) := by decide +kernel
theorem dX12_adds_23 : decode cX12_adds 23 = .ok (.getfield 31, 3) := by decide +kernel
theorem dX12_adds_26 : decode cX12_adds 26 = .ok (.iload_n 1, 1) := by decide +kernel
theorem dX12_adds_27 : decode cX12_adds 27 = .ok (.iaload, 1) := by decide +kernel
theorem dX12_adds_28 : decode cX12_adds 28 = .ok (.iadd, 1) := by decide +kernel
theorem dX12_adds_29 : decode cX12_adds 29 = .ok (.istore 7, 2) := by decide +kernel
theorem dX12_adds_31 : decode cX12_adds 31 = .ok (.aload_n 0, 1) := by decide +kernel
theorem dX12_adds_32 : decode cX12_adds 32 = .ok (.getfield 7, 3) := by decide +kernel
theorem dX12_adds_35 : decode cX12_adds 35 = .ok (.iload 7, 2) := by decide +kernel
theorem dX12_adds_37 : decode cX12_adds 37 = .ok (.iload_n 2, 1) := by decide +kernel
theorem dX12_adds_38 : decode cX12_adds 38 = .ok (.iastore, 1) := by decide +kernel
theorem dX12_adds_39 : decode cX12_adds 39 = .ok (.aload_n 0, 1) := by decide +kernel
theorem dX12_adds_40 : decode cX12_adds 40 = .ok (.getfield 13, 3) := by decide +kernel
theorem dX12_adds_43 : decode cX12_adds 43 = .ok (.iload 7, 2) := by decide +kernel
theorem dX12_adds_45 : decode cX12_adds 45 = .ok (.iload_n 3, 1) := by decide +kernel
theorem dX12_adds_46 : decode cX12_adds 46 = .ok (.iastore, 1) := by decide +kernel
theorem dX12_adds_47 : decode cX12_adds 47 = .ok (.aload_n 0, 1) := by decide +kernel
theorem dX12_adds_48 : decode cX12_adds 48 = .ok (.getfield 16, 3) := by decide +kernel
theorem dX12_adds_51 : decode cX12_adds 51 = .ok (.iload 7, 2) := by decide +kernel
theorem dX12_adds_53 : decode cX12_adds 53 = .ok (.iload 4, 2) := by decide +kernel
theorem dX12_adds_55 : decode cX12_adds 55 = .ok (.iastore, 1) := by decide +kernel
theorem dX12_adds_56 : decode cX12_adds 56 = .ok (.aload_n 0, 1) := by decide +kernel
theorem dX12_adds_57 : decode cX12_adds 57 = .ok (.getfield 19, 3) := by decide +kernel
theorem dX12_adds_60 : decode cX12_adds 60 = .ok (.iload 7, 2) := by decide +kernel
theorem dX12_adds_62 : decode cX12_adds 62 = .ok (.iload 5, 2) := by decide +kernel
theorem dX12_adds_64 : decode cX12_adds 64 = .ok (.iastore, 1) := by decide +kernel
theorem dX12_adds_65 : decode cX12_adds 65 = .ok (.aload_n 0, 1) := by decide +kernel
theorem dX12_adds_66 : decode cX12_adds 66 = .ok (.getfield 22, 3) := by decide +kernel
theorem dX12_adds_69 : decode cX12_adds 69 = .ok (.iload 7, 2) := by decide +kernel
theorem dX12_adds_71 : decode cX12_adds 71 = .ok (.iload 6, 2) := by decide +kernel
theorem dX12_adds_73 : decode cX12_adds 73 = .ok (.iastore, 1) := by decide +kernel
theorem dX12_adds_74 : decode cX12_adds 74 = .ok (.aload_n 0, 1) := by decide +kernel
theorem dX12_adds_75 : decode cX12_adds 75 = .ok (.getfield 25, 3) := by decide +kernel
theorem dX12_adds_78 : decode cX12_adds 78 = .ok (.iload 7, 2) := by decide +kernel
theorem dX12_adds_80 : decode cX12_adds 80 = .ok (.sipush 300, 3) := by decide +kernel
theorem dX12_adds_83 : decode cX12_adds 83 = .ok (.iastore, 1) := by decide +kernel
theorem dX12_adds_84 : decode cX12_adds 84 = .ok (.aload_n 0, 1) := by decide +kernel
theorem dX12_adds_85 : decode cX12_adds 85 = .ok (.getfield 28, 3) := by decide +kernel
theorem dX12_adds_88 : decode cX12_adds 88 = .ok (.iload 7, 2) := by decide +kernel
theorem dX12_adds_90 : decode cX12_adds 90 = .ok (.sipush 300, 3) := by decide +kernel
theorem dX12_adds_93 : decode cX12_adds 93 = .ok (.iastore, 1) := by decide +kernel
theorem dX12_adds_94 : decode cX12_adds 94 = .ok (.aload_n 0, 1) := by decide +kernel
theorem dX12_adds_95 : decode cX12_adds 95 = .ok (.getfield 31, 3) := by decide +kernel
theorem dX12_adds_98 : decode cX12_adds 98 = .ok (.iload_n 1, 1) := by decide +kernel
theorem dX12_adds_99 : decode cX12_adds 99 = .ok (.dup2, 1) := by decide +kernel
theorem dX12_adds_100 : decode cX12_adds 100 = .ok (.iaload, 1) := by decide +kernel
theorem dX12_adds_101 : decode cX12_adds 101 = .ok (.iconst 1, 1) := by decide +kernel
theorem dX12_adds_102 : decode cX12_adds 102 = .ok (.iadd, 1) := by decide +kernel
theorem dX12_adds_103 : decode cX12_adds 103 = .ok (.iastore, 1) := by decide +kernel
theorem dX12_adds_104 : decode cX12_adds 104 = .ok (.aload_n 0, 1) := by decide +kernel
theorem dX12_adds_105 : decode cX12_adds 105 = .ok (.getfield 31, 3) := by decide +kernel
theorem dX12_adds_108 : decode cX12_adds 108 = .ok (.iload_n 1, 1) := by decide +kernel
theorem dX12_adds_109 : decode cX12_adds 109 = .ok (.iaload, 1) := by decide +kernel
theorem dX12_adds_110 : decode cX12_adds 110 = .ok (.iconst 1, 1) := by decide +kernel
theorem dX12_adds_111 : decode cX12_adds 111 = .ok (.isub, 1) := by decide +kernel
theorem dX12_adds_112 : decode cX12_adds 112 = .ok (.ireturn, 1) := by decide +kernel
theorem dX12_box_0 : decode cX12_box 0 = .ok (.iload_n 1, 1) := by decide +kernel
theorem dX12_box_1 : decode cX12_box 1 = .ok (.invokestatic 195, 3) := by decide +kernel
theorem dX12_box_4 : decode cX12_box 4 = .ok (.ifCond .eq 22, 3) := by decide +kernel
theorem dX12_box_7 : decode cX12_box 7 = .ok (.iload_n 2, 1) := by decide +kernel
theorem dX12_box_8 : decode cX12_box 8 = .ok (.i2l, 1) := by decide +kernel
theorem dX12_box_9 : decode cX12_box 9 = .ok (.lconst 0, 1) := by decide +kernel
theorem dX12_box_10 : decode cX12_box 10 = .ok (.ldc2_w 199, 3) := by decide +kernel
theorem dX12_box_13 : decode cX12_box 13 = .ok (.invokestatic 201, 3) := by decide +kernel
theorem dX12_box_16 : decode cX12_box 16 = .ok (.ifCond .eq 10, 3) := by decide +kernel
theorem dX12_box_19 : decode cX12_box 19 = .ok (.iload_n 3, 1) := by decide +kernel
theorem dX12_box_20 : decode cX12_box 20 = .ok (.invokestatic 205, 3) := by decide +kernel
theorem dX12_box_23 : decode cX12_box 23 = .ok (.ifCond .ne 10, 3) := by decide +kernel
theorem dX12_box_26 : decode cX12_box 26 = .ok (.aload_n 0, 1) := by decide +kernel
theorem dX12_box_27 : decode cX12_box 27 = .ok (.bipush (-3), 2) := by decide +kernel
theorem dX12_box_29 : decode cX12_box 29 = .ok (.invokevirtual 191, 3) := by decide +kernel
theorem dX12_box_32 : decode cX12_box 32 = .ok (.ireturn, 1) := by decide +kernel
theorem dX12_box_33 : decode cX12_box 33 = .ok (.iload 4, 2) := by decide +kernel
theorem dX12_box_35 : decode cX12_box 35 = .ok (.ifCond .lt 35, 3) := by decide +kernel
theorem dX12_box_38 : decode cX12_box 38 = .ok (.iload 4, 2) := by decide +kernel
theorem dX12_box_40 : decode cX12_box 40 = .ok (.bipush 100, 2) := by decide +kernel
theorem dX12_box_42 : decode cX12_box 42 = .ok (.idiv, 1) := by decide +kernel
theorem dX12_box_43 : decode cX12_box 43 = .ok (.i2l, 1) := by decide +kernel
theorem dX12_box_44 : decode cX12_box 44 = .ok (.lconst 1, 1) := by decide +kernel
theorem dX12_box_45 : decode cX12_box 45 = .ok (.ldc2_w 208, 3) := by decide +kernel
theorem dX12_box_48 : decode cX12_box 48 = .ok (.invokestatic 201, 3) := by decide +kernel
theorem dX12_box_51 : decode cX12_box 51 = .ok (.ifCond .eq 19, 3) := by decide +kernel
theorem dX12_box_54 : decode cX12_box 54 = .ok (.iload 4, 2) := by decide +kernel
theorem dX12_box_56 : decode cX12_box 56 = .ok (.bipush 100, 2) := by decide +kernel
theorem dX12_box_58 : decode cX12_box 58 = .ok (.irem, 1) := by decide +kernel
theorem dX12_box_59 : decode cX12_box 59 = .ok (.i2l, 1) := by decide +kernel
theorem dX12_box_60 : decode cX12_box 60 = .ok (.lconst 1, 1) := by decide +kernel
theorem dX12_box_61 : decode cX12_box 61 = .ok (.ldc2_w 208, 3) := by decide +kernel
theorem dX12_box_64 : decode cX12_box 64 = .ok (.invokestatic 201, 3) := by decide +kernel
theorem dX12_box_67 : decode cX12_box 67 = .ok (.ifCond .ne 10, 3) := by decide +kernel
theorem dX12_box_70 : decode cX12_box 70 = .ok (.aload_n 0, 1) := by decide +kernel
theorem dX12_box_71 : decode cX12_box 71 = .ok (.bipush (-7), 2) := by decide +kernel
theorem dX12_box_73 : decode cX12_box 73 = .ok (.invokevirtual 191, 3) := by decide +kernel
theorem dX12_box_76 : decode cX12_box 76 = .ok (.ireturn, 1) := by decide +kernel
theorem dX12_box_77 : decode cX12_box 77 = .ok (.aload_n 0, 1) := by decide +kernel
theorem dX12_box_78 : decode cX12_box 78 = .ok (.iload_n 1, 1) := by decide +kernel
theorem dX12_box_79 : decode cX12_box 79 = .ok (.iload 5, 2) := by decide +kernel
theorem dX12_box_81 : decode cX12_box 81 = .ok (.ifCond .eq 7, 3) := by decide +kernel
theorem dX12_box_84 : decode cX12_box 84 = .ok (.iconst 1, 1) := by decide +kernel
theorem dX12_box_85 : decode cX12_box 85 = .ok (.goto 4, 3) := by decide +kernel
theorem dX12_box_88 : decode cX12_box 88 = .ok (.iconst 0, 1) := by decide +kernel
theorem dX12_box_89 : decode cX12_box 89 = .ok (.iload_n 2, 1) := by decide +kernel
theorem dX12_box_90 : decode cX12_box 90 = .ok (.iload_n 3, 1) := by decide +kernel
theorem dX12_box_91 : decode cX12_box 91 = .ok (.iload 4, 2) := by decide +kernel
theorem dX12_box_93 : decode cX12_box 93 = .ok (.iconst 0, 1) := by decide +kernel
theorem dX12_box_94 : decode cX12_box 94 = .ok (.invokevirtual 210, 3) := by decide +kernel
theorem dX12_box_97 : decode cX12_box 97 = .ok (.ireturn, 1) := by decide +kernel
theorem dX12_path_0 : decode cX12_path 0 = .ok (.iload_n 1, 1) := by decide +kernel
theorem dX12_path_1 : decode cX12_path 1 = .ok (.invokestatic 195, 3) := by decide +kernel
theorem dX12_path_4 : decode cX12_path 4 = .ok (.ifCond .eq 30, 3) := by decide +kernel
theorem dX12_path_7 : decode cX12_path 7 = .ok (.iload_n 2, 1) := by decide +kernel
theorem dX12_path_8 : decode cX12_path 8 = .ok (.i2l, 1) := by decide +kernel
theorem dX12_path_9 : decode cX12_path 9 = .ok (.lconst 0, 1) := by decide +kernel
theorem dX12_path_10 : decode cX12_path 10 = .ok (.ldc2_w 199, 3) := by decide +kernel
theorem dX12_path_13 : decode cX12_path 13 = .ok (.invokestatic 201, 3) := by decide +kernel
theorem dX12_path_16 : decode cX12_path 16 = .ok (.ifCond .eq 18, 3) := by decide +kernel
theorem dX12_path_19 : decode cX12_path 19 = .ok (.iload_n 3, 1) := by decide +kernel
theorem dX12_path_20 : decode cX12_path 20 = .ok (.invokestatic 205, 3) := by decide +kernel
theorem dX12_path_23 : decode cX12_path 23 = .ok (.ifCond .eq 11, 3) := by decide +kernel
theorem dX12_path_26 : decode cX12_path 26 = .ok (.iload 4, 2) := by decide +kernel
theorem dX12_path_28 : decode cX12_path 28 = .ok (.invokestatic 205, 3) := by decide +kernel
theorem dX12_path_31 : decode cX12_path 31 = .ok (.ifCond .ne 10, 3) := by decide +kernel
theorem dX12_path_34 : decode cX12_path 34 = .ok (.aload_n 0, 1) := by decide +kernel
theorem dX12_path_35 : decode cX12_path 35 = .ok (.bipush (-3), 2) := by decide +kernel
theorem dX12_path_37 : decode cX12_path 37 = .ok (.invokevirtual 191, 3) := by decide +kernel
theorem dX12_path_40 : decode cX12_path 40 = .ok (.ireturn, 1) := by decide +kernel
theorem dX12_path_41 : decode cX12_path 41 = .ok (.iload_n 3, 1) := by decide +kernel
theorem dX12_path_42 : decode cX12_path 42 = .ok (.bipush 64, 2) := by decide +kernel
theorem dX12_path_44 : decode cX12_path 44 = .ok (.idiv, 1) := by decide +kernel
theorem dX12_path_45 : decode cX12_path 45 = .ok (.iload 4, 2) := by decide +kernel
theorem dX12_path_47 : decode cX12_path 47 = .ok (.bipush 64, 2) := by decide +kernel
theorem dX12_path_49 : decode cX12_path 49 = .ok (.idiv, 1) := by decide +kernel
theorem dX12_path_50 : decode cX12_path 50 = .ok (.if_icmp .eq 15, 3) := by decide +kernel
theorem dX12_path_53 : decode cX12_path 53 = .ok (.iload_n 3, 1) := by decide +kernel
theorem dX12_path_54 : decode cX12_path 54 = .ok (.bipush 64, 2) := by decide +kernel
theorem dX12_path_56 : decode cX12_path 56 = .ok (.irem, 1) := by decide +kernel
theorem dX12_path_57 : decode cX12_path 57 = .ok (.iload 4, 2) := by decide +kernel
theorem dX12_path_59 : decode cX12_path 59 = .ok (.bipush 64, 2) := by decide +kernel
theorem dX12_path_61 : decode cX12_path 61 = .ok (.irem, 1) := by decide +kernel
theorem dX12_path_62 : decode cX12_path 62 = .ok (.if_icmp .ne 16, 3) := by decide +kernel
theorem dX12_path_65 : decode cX12_path 65 = .ok (.iload 5, 2) := by decide +kernel
theorem dX12_path_67 : decode cX12_path 67 = .ok (.i2l, 1) := by decide +kernel
theorem dX12_path_68 : decode cX12_path 68 = .ok (.lconst 1, 1) := by decide +kernel
theorem dX12_path_69 : decode cX12_path 69 = .ok (.ldc2_w 214, 3) := by decide +kernel
theorem dX12_path_72 : decode cX12_path 72 = .ok (.invokestatic 201, 3) := by decide +kernel
theorem dX12_path_75 : decode cX12_path 75 = .ok (.ifCond .ne 10, 3) := by decide +kernel
theorem dX12_path_78 : decode cX12_path 78 = .ok (.aload_n 0, 1) := by decide +kernel
theorem dX12_path_79 : decode cX12_path 79 = .ok (.bipush (-7), 2) := by decide +kernel
theorem dX12_path_81 : decode cX12_path 81 = .ok (.invokevirtual 191, 3) := by decide +kernel
theorem dX12_path_84 : decode cX12_path 84 = .ok (.ireturn, 1) := by decide +kernel
theorem dX12_path_85 : decode cX12_path 85 = .ok (.aload_n 0, 1) := by decide +kernel
theorem dX12_path_86 : decode cX12_path 86 = .ok (.iload_n 1, 1) := by decide +kernel
theorem dX12_path_87 : decode cX12_path 87 = .ok (.iconst 2, 1) := by decide +kernel
theorem dX12_path_88 : decode cX12_path 88 = .ok (.iload_n 2, 1) := by decide +kernel
theorem dX12_path_89 : decode cX12_path 89 = .ok (.iload_n 3, 1) := by decide +kernel
theorem dX12_path_90 : decode cX12_path 90 = .ok (.iload 4, 2) := by decide +kernel
theorem dX12_path_92 : decode cX12_path 92 = .ok (.iload 5, 2) := by decide +kernel
theorem dX12_path_94 : decode cX12_path 94 = .ok (.invokevirtual 210, 3) := by decide +kernel
theorem dX12_path_97 : decode cX12_path 97 = .ok (.ireturn, 1) := by decide +kernel
theorem dX12_text_0 : decode cX12_text 0 = .ok (.iload_n 1, 1) := by decide +kernel
theorem dX12_text_1 : decode cX12_text 1 = .ok (.invokestatic 195, 3) := by decide +kernel
theorem dX12_text_4 : decode cX12_text 4 = .ok (.ifCond .eq 17, 3) := by decide +kernel
theorem dX12_text_7 : decode cX12_text 7 = .ok (.iload_n 2, 1) := by decide +kernel
theorem dX12_text_8 : decode cX12_text 8 = .ok (.invokestatic 216, 3) := by decide +kernel
theorem dX12_text_11 : decode cX12_text 11 = .ok (.ifCond .eq 10, 3) := by decide +kernel
theorem dX12_text_14 : decode cX12_text 14 = .ok (.iload_n 3, 1) := by decide +kernel
theorem dX12_text_15 : decode cX12_text 15 = .ok (.invokestatic 205, 3) := by decide +kernel
theorem dX12_text_18 : decode cX12_text 18 = .ok (.ifCond .ne 10, 3) := by decide +kernel
theorem dX12_text_21 : decode cX12_text 21 = .ok (.aload_n 0, 1) := by decide +kernel
theorem dX12_text_22 : decode cX12_text 22 = .ok (.bipush (-3), 2) := by decide +kernel
theorem dX12_text_24 : decode cX12_text 24 = .ok (.invokevirtual 191, 3) := by decide +kernel
theorem dX12_text_27 : decode cX12_text 27 = .ok (.ireturn, 1) := by decide +kernel
theorem dX12_text_28 : decode cX12_text 28 = .ok (.iload 4, 2) := by decide +kernel
theorem dX12_text_30 : decode cX12_text 30 = .ok (.i2l, 1) := by decide +kernel
theorem dX12_text_31 : decode cX12_text 31 = .ok (.lconst 1, 1) := by decide +kernel
theorem dX12_text_32 : decode cX12_text 32 = .ok (.ldc2_w 219, 3) := by decide +kernel
theorem dX12_text_35 : decode cX12_text 35 = .ok (.invokestatic 201, 3) := by decide +kernel
theorem dX12_text_38 : decode cX12_text 38 = .ok (.ifCond .ne 10, 3) := by decide +kernel
theorem dX12_text_41 : decode cX12_text 41 = .ok (.aload_n 0, 1) := by decide +kernel
theorem dX12_text_42 : decode cX12_text 42 = .ok (.bipush (-7), 2) := by decide +kernel
theorem dX12_text_44 : decode cX12_text 44 = .ok (.invokevirtual 191, 3) := by decide +kernel
theorem dX12_text_47 : decode cX12_text 47 = .ok (.ireturn, 1) := by decide +kernel
theorem dX12_text_48 : decode cX12_text 48 = .ok (.aload_n 0, 1) := by decide +kernel
theorem dX12_text_49 : decode cX12_text 49 = .ok (.iload_n 1, 1) := by decide +kernel
theorem dX12_text_50 : decode cX12_text 50 = .ok (.iconst 3, 1) := by decide +kernel
theorem dX12_text_51 : decode cX12_text 51 = .ok (.iload_n 2, 1) := by decide +kernel
theorem dX12_text_52 : decode cX12_text 52 = .ok (.iload_n 3, 1) := by decide +kernel
theorem dX12_text_53 : decode cX12_text 53 = .ok (.iload 4, 2) := by decide +kernel
theorem dX12_text_55 : decode cX12_text 55 = .ok (.iconst 0, 1) := by decide +kernel
theorem dX12_text_56 : decode cX12_text 56 = .ok (.invokevirtual 210, 3) := by decide +kernel
theorem dX12_text_59 : decode cX12_text 59 = .ok (.ireturn, 1) := by decide +kernel
theorem dX12_put_0 : decode cX12_put 0 = .ok (.iload_n 1, 1) := by decide +kernel
theorem dX12_put_1 : decode cX12_put 1 = .ok (.invokestatic 195, 3) := by decide +kernel
theorem dX12_put_4 : decode cX12_put 4 = .ok (.ifCond .eq 23, 3) := by decide +kernel
theorem dX12_put_7 : decode cX12_put 7 = .ok (.iload_n 2, 1) := by decide +kernel
theorem dX12_put_8 : decode cX12_put 8 = .ok (.i2l, 1) := by decide +kernel
theorem dX12_put_9 : decode cX12_put 9 = .ok (.lconst 0, 1) := by decide +kernel
theorem dX12_put_10 : decode cX12_put 10 = .ok (.iload_n 1, 1) := by decide +kernel
theorem dX12_put_11 : decode cX12_put 11 = .ok (.iconst 1, 1) := by decide +kernel
theorem dX12_put_12 : decode cX12_put 12 = .ok (.isub, 1) := by decide +kernel
theorem dX12_put_13 : decode cX12_put 13 = .ok (.i2l, 1) := by decide +kernel
theorem dX12_put_14 : decode cX12_put 14 = .ok (.invokestatic 201, 3) := by decide +kernel
theorem dX12_put_17 : decode cX12_put 17 = .ok (.ifCond .eq 10, 3) := by decide +kernel
theorem dX12_put_20 : decode cX12_put 20 = .ok (.iload_n 3, 1) := by decide +kernel
theorem dX12_put_21 : decode cX12_put 21 = .ok (.invokestatic 205, 3) := by decide +kernel
theorem dX12_put_24 : decode cX12_put 24 = .ok (.ifCond .ne 10, 3) := by decide +kernel
theorem dX12_put_27 : decode cX12_put 27 = .ok (.aload_n 0, 1) := by decide +kernel
theorem dX12_put_28 : decode cX12_put 28 = .ok (.bipush (-3), 2) := by decide +kernel
theorem dX12_put_30 : decode cX12_put 30 = .ok (.invokevirtual 191, 3) := by decide +kernel
theorem dX12_put_33 : decode cX12_put 33 = .ok (.ireturn, 1) := by decide +kernel
theorem dX12_put_34 : decode cX12_put 34 = .ok (.iload 4, 2) := by decide +kernel
theorem dX12_put_36 : decode cX12_put 36 = .ok (.i2l, 1) := by decide +kernel
theorem dX12_put_37 : decode cX12_put 37 = .ok (.lconst 0, 1) := by decide +kernel
theorem dX12_put_38 : decode cX12_put 38 = .ok (.ldc2_w 221, 3) := by decide +kernel
theorem dX12_put_41 : decode cX12_put 41 = .ok (.invokestatic 201, 3) := by decide +kernel
theorem dX12_put_44 : decode cX12_put 44 = .ok (.ifCond .ne 10, 3) := by decide +kernel
theorem dX12_put_47 : decode cX12_put 47 = .ok (.aload_n 0, 1) := by decide +kernel
theorem dX12_put_48 : decode cX12_put 48 = .ok (.bipush (-7), 2) := by decide +kernel
theorem dX12_put_50 : decode cX12_put 50 = .ok (.invokevirtual 191, 3) := by decide +kernel
theorem dX12_put_53 : decode cX12_put 53 = .ok (.ireturn, 1) := by decide +kernel
theorem dX12_put_54 : decode cX12_put 54 = .ok (.aload_n 0, 1) := by decide +kernel
theorem dX12_put_55 : decode cX12_put 55 = .ok (.iload_n 1, 1) := by decide +kernel
theorem dX12_put_56 : decode cX12_put 56 = .ok (.iconst 4, 1) := by decide +kernel
theorem dX12_put_57 : decode cX12_put 57 = .ok (.iload_n 2, 1) := by decide +kernel
theorem dX12_put_58 : decode cX12_put 58 = .ok (.iload_n 3, 1) := by decide +kernel
theorem dX12_put_59 : decode cX12_put 59 = .ok (.iload 4, 2) := by decide +kernel
theorem dX12_put_61 : decode cX12_put 61 = .ok (.iload 5, 2) := by decide +kernel
theorem dX12_put_63 : decode cX12_put 63 = .ok (.ifCond .eq 7, 3) := by decide +kernel
theorem dX12_put_66 : decode cX12_put 66 = .ok (.iconst 1, 1) := by decide +kernel
theorem dX12_put_67 : decode cX12_put 67 = .ok (.goto 4, 3) := by decide +kernel
theorem dX12_put_70 : decode cX12_put 70 = .ok (.iconst 0, 1) := by decide +kernel
theorem dX12_put_71 : decode cX12_put 71 = .ok (.invokevirtual 210, 3) := by decide +kernel
theorem dX12_put_74 : decode cX12_put 74 = .ok (.ireturn, 1) := by decide +kernel
theorem dX12_isShape_0 : decode cX12_isShape 0 = .ok (.iload_n 1, 1) := by decide +kernel
theorem dX12_isShape_1 : decode cX12_isShape 1 = .ok (.invokestatic 195, 3) := by decide +kernel
theorem dX12_isShape_4 : decode cX12_isShape 4 = .ok (.ifCond .eq 21, 3) := by decide +kernel
theorem dX12_isShape_7 : decode cX12_isShape 7 = .ok (.iload_n 2, 1) := by decide +kernel
theorem dX12_isShape_8 : decode cX12_isShape 8 = .ok (.ifCond .lt 17, 3) := by decide +kernel
theorem dX12_isShape_11 : decode cX12_isShape 11 = .ok (.iload_n 2, 1) := by decide +kernel
theorem dX12_isShape_12 : decode cX12_isShape 12 = .ok (.aload_n 0, 1) := by decide +kernel
theorem dX12_isShape_13 : decode cX12_isShape 13 = .ok (.getfield 31, 3) := by decide +kernel
theorem dX12_isShape_16 : decode cX12_isShape 16 = .ok (.iload_n 1, 1) := by decide +kernel
theorem dX12_isShape_17 : decode cX12_isShape 17 = .ok (.iaload, 1) := by decide +kernel
theorem dX12_isShape_18 : decode cX12_isShape 18 = .ok (.if_icmp .ge 7, 3) := by decide +kernel
theorem dX12_isShape_21 : decode cX12_isShape 21 = .ok (.iconst 1, 1) := by decide +kernel
theorem dX12_isShape_22 : decode cX12_isShape 22 = .ok (.goto 4, 3) := by decide +kernel
theorem dX12_isShape_25 : decode cX12_isShape 25 = .ok (.iconst 0, 1) := by decide +kernel
theorem dX12_isShape_26 : decode cX12_isShape 26 = .ok (.ireturn, 1) := by decide +kernel
theorem dX12_isTimes_0 : decode cX12_isTimes 0 = .ok (.iload_n 0, 1) := by decide +kernel
theorem dX12_isTimes_1 : decode cX12_isTimes 1 = .ok (.ifCond .lt 44, 3) := by decide +kernel
theorem dX12_isTimes_4 : decode cX12_isTimes 4 = .ok (.iload_n 0, 1) := by decide +kernel
theorem dX12_isTimes_5 : decode cX12_isTimes 5 = .ok (.sipush 200, 3) := by decide +kernel
theorem dX12_isTimes_8 : decode cX12_isTimes 8 = .ok (.idiv, 1) := by decide +kernel
theorem dX12_isTimes_9 : decode cX12_isTimes 9 = .ok (.i2l, 1) := by decide +kernel
theorem dX12_isTimes_10 : decode cX12_isTimes 10 = .ok (.lconst 1, 1) := by decide +kernel
theorem dX12_isTimes_11 : decode cX12_isTimes 11 = .ok (.ldc2_w 223, 3) := by decide +kernel
theorem dX12_isTimes_14 : decode cX12_isTimes 14 = .ok (.invokestatic 201, 3) := by decide +kernel
theorem dX12_isTimes_17 : decode cX12_isTimes 17 = .ok (.ifCond .eq 28, 3) := by decide +kernel
theorem dX12_isTimes_20 : decode cX12_isTimes 20 = .ok (.iload_n 0, 1) := by decide +kernel
theorem dX12_isTimes_21 : decode cX12_isTimes 21 = .ok (.sipush 200, 3) := by decide +kernel
theorem dX12_isTimes_24 : decode cX12_isTimes 24 = .ok (.irem, 1) := by decide +kernel
theorem dX12_isTimes_25 : decode cX12_isTimes 25 = .ok (.bipush 100, 2) := by decide +kernel
theorem dX12_isTimes_27 : decode cX12_isTimes 27 = .ok (.isub, 1) := by decide +kernel
theorem dX12_isTimes_28 : decode cX12_isTimes 28 = .ok (.i2l, 1) := by decide +kernel
theorem dX12_isTimes_29 : decode cX12_isTimes 29 = .ok (.ldc2_w 225, 3) := by decide +kernel
theorem dX12_isTimes_32 : decode cX12_isTimes 32 = .ok (.ldc2_w 227, 3) := by decide +kernel
theorem dX12_isTimes_35 : decode cX12_isTimes 35 = .ok (.invokestatic 201, 3) := by decide +kernel
theorem dX12_isTimes_38 : decode cX12_isTimes 38 = .ok (.ifCond .eq 7, 3) := by decide +kernel
theorem dX12_isTimes_41 : decode cX12_isTimes 41 = .ok (.iconst 1, 1) := by decide +kernel
theorem dX12_isTimes_42 : decode cX12_isTimes 42 = .ok (.goto 4, 3) := by decide +kernel
theorem dX12_isTimes_45 : decode cX12_isTimes 45 = .ok (.iconst 0, 1) := by decide +kernel
theorem dX12_isTimes_46 : decode cX12_isTimes 46 = .ok (.ireturn, 1) := by decide +kernel
theorem dX12_times_0 : decode cX12_times 0 = .ok (.aload_n 0, 1) := by decide +kernel
theorem dX12_times_1 : decode cX12_times 1 = .ok (.iload_n 1, 1) := by decide +kernel
theorem dX12_times_2 : decode cX12_times 2 = .ok (.iload_n 2, 1) := by decide +kernel
theorem dX12_times_3 : decode cX12_times 3 = .ok (.invokevirtual 229, 3) := by decide +kernel
theorem dX12_times_6 : decode cX12_times 6 = .ok (.ifCond .ne 10, 3) := by decide +kernel
theorem dX12_times_9 : decode cX12_times 9 = .ok (.aload_n 0, 1) := by decide +kernel
theorem dX12_times_10 : decode cX12_times 10 = .ok (.bipush (-3), 2) := by decide +kernel
theorem dX12_times_12 : decode cX12_times 12 = .ok (.invokevirtual 191, 3) := by decide +kernel
theorem dX12_times_15 : decode cX12_times 15 = .ok (.ireturn, 1) := by decide +kernel
theorem dX12_times_16 : decode cX12_times 16 = .ok (.bipush 16, 2) := by decide +kernel
theorem dX12_times_18 : decode cX12_times 18 = .ok (.iload_n 1, 1) := by decide +kernel
theorem dX12_times_19 : decode cX12_times 19 = .ok (.imul, 1) := by decide +kernel
theorem dX12_times_20 : decode cX12_times 20 = .ok (.iload_n 2, 1) := by decide +kernel
theorem dX12_times_21 : decode cX12_times 21 = .ok (.iadd, 1) := by decide +kernel
theorem dX12_times_22 : decode cX12_times 22 = .ok (.istore 5, 2) := by decide +kernel
theorem dX12_times_24 : decode cX12_times 24 = .ok (.aload_n 0, 1) := by decide +kernel
theorem dX12_times_25 : decode cX12_times 25 = .ok (.getfield 7, 3) := by decide +kernel
theorem dX12_times_28 : decode cX12_times 28 = .ok (.iload 5, 2) := by decide +kernel
theorem dX12_times_30 : decode cX12_times 30 = .ok (.iaload, 1) := by decide +kernel
theorem dX12_times_31 : decode cX12_times 31 = .ok (.iconst 4, 1) := by decide +kernel
theorem dX12_times_32 : decode cX12_times 32 = .ok (.if_icmp .eq 10, 3) := by decide +kernel
theorem dX12_times_35 : decode cX12_times 35 = .ok (.aload_n 0, 1) := by decide +kernel
theorem dX12_times_36 : decode cX12_times 36 = .ok (.bipush (-5), 2) := by decide +kernel
theorem dX12_times_38 : decode cX12_times 38 = .ok (.invokevirtual 191, 3) := by decide +kernel
theorem dX12_times_41 : decode cX12_times 41 = .ok (.ireturn, 1) := by decide +kernel
theorem dX12_times_42 : decode cX12_times 42 = .ok (.iload_n 3, 1) := by decide +kernel
theorem dX12_times_43 : decode cX12_times 43 = .ok (.invokestatic 233, 3) := by decide +kernel
theorem dX12_times_46 : decode cX12_times 46 = .ok (.ifCond .eq 11, 3) := by decide +kernel
theorem dX12_times_49 : decode cX12_times 49 = .ok (.iload 4, 2) := by decide +kernel
theorem dX12_times_51 : decode cX12_times 51 = .ok (.invokestatic 233, 3) := by decide +kernel
theorem dX12_times_54 : decode cX12_times 54 = .ok (.ifCond .ne 10, 3) := by decide +kernel
theorem dX12_times_57 : decode cX12_times 57 = .ok (.aload_n 0, 1) := by decide +kernel
theorem dX12_times_58 : decode cX12_times 58 = .ok (.bipush (-7), 2) := by decide +kernel
theorem dX12_times_60 : decode cX12_times 60 = .ok (.invokevirtual 191, 3) := by decide +kernel
theorem dX12_times_63 : decode cX12_times 63 = .ok (.ireturn, 1) := by decide +kernel
theorem dX12_times_64 : decode cX12_times 64 = .ok (.aload_n 0, 1) := by decide +kernel
theorem dX12_times_65 : decode cX12_times 65 = .ok (.getfield 25, 3) := by decide +kernel
theorem dX12_times_68 : decode cX12_times 68 = .ok (.iload 5, 2) := by decide +kernel
theorem dX12_times_70 : decode cX12_times 70 = .ok (.iload_n 3, 1) := by decide +kernel
theorem dX12_times_71 : decode cX12_times 71 = .ok (.iastore, 1) := by decide +kernel
theorem dX12_times_72 : decode cX12_times 72 = .ok (.aload_n 0, 1) := by decide +kernel
theorem dX12_times_73 : decode cX12_times 73 = .ok (.getfield 28, 3) := by decide +kernel
theorem dX12_times_76 : decode cX12_times 76 = .ok (.iload 5, 2) := by decide +kernel
theorem dX12_times_78 : decode cX12_times 78 = .ok (.iload 4, 2) := by decide +kernel
theorem dX12_times_80 : decode cX12_times 80 = .ok (.iastore, 1) := by decide +kernel
theorem dX12_times_81 : decode cX12_times 81 = .ok (.iconst 1, 1) := by decide +kernel
theorem dX12_times_82 : decode cX12_times 82 = .ok (.ireturn, 1) := by decide +kernel
theorem dX12_undo_0 : decode cX12_undo 0 = .ok (.iload_n 1, 1) := by decide +kernel
theorem dX12_undo_1 : decode cX12_undo 1 = .ok (.invokestatic 195, 3) := by decide +kernel
theorem dX12_undo_4 : decode cX12_undo 4 = .ok (.ifCond .ne 10, 3) := by decide +kernel
theorem dX12_undo_7 : decode cX12_undo 7 = .ok (.aload_n 0, 1) := by decide +kernel
theorem dX12_undo_8 : decode cX12_undo 8 = .ok (.bipush (-3), 2) := by decide +kernel
theorem dX12_undo_10 : decode cX12_undo 10 = .ok (.invokevirtual 191, 3) := by decide +kernel
theorem dX12_undo_13 : decode cX12_undo 13 = .ok (.ireturn, 1) := by decide +kernel
theorem dX12_undo_14 : decode cX12_undo 14 = .ok (.aload_n 0, 1) := by decide +kernel
theorem dX12_undo_15 : decode cX12_undo 15 = .ok (.getfield 31, 3) := by decide +kernel
theorem dX12_undo_18 : decode cX12_undo 18 = .ok (.iload_n 1, 1) := by decide +kernel
theorem dX12_undo_19 : decode cX12_undo 19 = .ok (.iaload, 1) := by decide +kernel
theorem dX12_undo_20 : decode cX12_undo 20 = .ok (.ifCond .ne 10, 3) := by decide +kernel
theorem dX12_undo_23 : decode cX12_undo 23 = .ok (.aload_n 0, 1) := by decide +kernel
theorem dX12_undo_24 : decode cX12_undo 24 = .ok (.bipush (-2), 2) := by decide +kernel
theorem dX12_undo_26 : decode cX12_undo 26 = .ok (.invokevirtual 191, 3) := by decide +kernel
theorem dX12_undo_29 : decode cX12_undo 29 = .ok (.ireturn, 1) := by decide +kernel
theorem dX12_undo_30 : decode cX12_undo 30 = .ok (.aload_n 0, 1) := by decide +kernel
theorem dX12_undo_31 : decode cX12_undo 31 = .ok (.getfield 31, 3) := by decide +kernel
theorem dX12_undo_34 : decode cX12_undo 34 = .ok (.iload_n 1, 1) := by decide +kernel
theorem dX12_undo_35 : decode cX12_undo 35 = .ok (.dup2, 1) := by decide +kernel
theorem dX12_undo_36 : decode cX12_undo 36 = .ok (.iaload, 1) := by decide +kernel
theorem dX12_undo_37 : decode cX12_undo 37 = .ok (.iconst 1, 1) := by decide +kernel
theorem dX12_undo_38 : decode cX12_undo 38 = .ok (.isub, 1) := by decide +kernel
theorem dX12_undo_39 : decode cX12_undo 39 = .ok (.iastore, 1) := by decide +kernel
theorem dX12_undo_40 : decode cX12_undo 40 = .ok (.aload_n 0, 1) := by decide +kernel
theorem dX12_undo_41 : decode cX12_undo 41 = .ok (.getfield 31, 3) := by decide +kernel
theorem dX12_undo_44 : decode cX12_undo 44 = .ok (.iload_n 1, 1) := by decide +kernel
theorem dX12_undo_45 : decode cX12_undo 45 = .ok (.iaload, 1) := by decide +kernel
theorem dX12_undo_46 : decode cX12_undo 46 = .ok (.ireturn, 1) := by decide +kernel
theorem dX12_shape_0 : decode cX12_shape 0 = .ok (.aload_n 0, 1) := by decide +kernel
theorem dX12_shape_1 : decode cX12_shape 1 = .ok (.iload_n 1, 1) := by decide +kernel
theorem dX12_shape_2 : decode cX12_shape 2 = .ok (.iload_n 2, 1) := by decide +kernel
theorem dX12_shape_3 : decode cX12_shape 3 = .ok (.invokevirtual 229, 3) := by decide +kernel
theorem dX12_shape_6 : decode cX12_shape 6 = .ok (.ifCond .ne 10, 3) := by decide +kernel
theorem dX12_shape_9 : decode cX12_shape 9 = .ok (.aload_n 0, 1) := by decide +kernel
theorem dX12_shape_10 : decode cX12_shape 10 = .ok (.bipush (-3), 2) := by decide +kernel
theorem dX12_shape_12 : decode cX12_shape 12 = .ok (.invokevirtual 191, 3) := by decide +kernel
theorem dX12_shape_15 : decode cX12_shape 15 = .ok (.ireturn, 1) := by decide +kernel
theorem dX12_shape_16 : decode cX12_shape 16 = .ok (.bipush 16, 2) := by decide +kernel
theorem dX12_shape_18 : decode cX12_shape 18 = .ok (.iload_n 1, 1) := by decide +kernel
theorem dX12_shape_19 : decode cX12_shape 19 = .ok (.imul, 1) := by decide +kernel
theorem dX12_shape_20 : decode cX12_shape 20 = .ok (.iload_n 2, 1) := by decide +kernel
theorem dX12_shape_21 : decode cX12_shape 21 = .ok (.iadd, 1) := by decide +kernel
theorem dX12_shape_22 : decode cX12_shape 22 = .ok (.istore 4, 2) := by decide +kernel
theorem dX12_shape_24 : decode cX12_shape 24 = .ok (.iload_n 3, 1) := by decide +kernel
theorem dX12_shape_25 : decode cX12_shape 25 = .ok (.tableswitch 51 0 2 #[27, 35, 43], 27) := by decide +kernel
theorem dX12_shape_52 : decode cX12_shape 52 = .ok (.aload_n 0, 1) := by decide +kernel
theorem dX12_shape_53 : decode cX12_shape 53 = .ok (.getfield 7, 3) := by decide +kernel
theorem dX12_shape_56 : decode cX12_shape 56 = .ok (.iload 4, 2) := by decide +kernel
theorem dX12_shape_58 : decode cX12_shape 58 = .ok (.iaload, 1) := by decide +kernel
theorem dX12_shape_59 : decode cX12_shape 59 = .ok (.ireturn, 1) := by decide +kernel
theorem dX12_shape_60 : decode cX12_shape 60 = .ok (.aload_n 0, 1) := by decide +kernel
theorem dX12_shape_61 : decode cX12_shape 61 = .ok (.getfield 13, 3) := by decide +kernel
theorem dX12_shape_64 : decode cX12_shape 64 = .ok (.iload 4, 2) := by decide +kernel
theorem dX12_shape_66 : decode cX12_shape 66 = .ok (.iaload, 1) := by decide +kernel
theorem dX12_shape_67 : decode cX12_shape 67 = .ok (.ireturn, 1) := by decide +kernel
theorem dX12_shape_68 : decode cX12_shape 68 = .ok (.aload_n 0, 1) := by decide +kernel
theorem dX12_shape_69 : decode cX12_shape 69 = .ok (.getfield 16, 3) := by decide +kernel
theorem dX12_shape_72 : decode cX12_shape 72 = .ok (.iload 4, 2) := by decide +kernel
theorem dX12_shape_74 : decode cX12_shape 74 = .ok (.iaload, 1) := by decide +kernel
theorem dX12_shape_75 : decode cX12_shape 75 = .ok (.ireturn, 1) := by decide +kernel
theorem dX12_shape_76 : decode cX12_shape 76 = .ok (.aload_n 0, 1) := by decide +kernel
theorem dX12_shape_77 : decode cX12_shape 77 = .ok (.bipush (-7), 2) := by decide +kernel
theorem dX12_shape_79 : decode cX12_shape 79 = .ok (.invokevirtual 191, 3) := by decide +kernel
theorem dX12_shape_82 : decode cX12_shape 82 = .ok (.ireturn, 1) := by decide +kernel
theorem dX12_flatAt_0 : decode cX12_flatAt 0 = .ok (.sipush 4096, 3) := by decide +kernel
theorem dX12_flatAt_3 : decode cX12_flatAt 3 = .ok (.bipush 8, 2) := by decide +kernel
theorem dX12_flatAt_5 : decode cX12_flatAt 5 = .ok (.iload_n 0, 1) := by decide +kernel
theorem dX12_flatAt_6 : decode cX12_flatAt 6 = .ok (.imul, 1) := by decide +kernel
theorem dX12_flatAt_7 : decode cX12_flatAt 7 = .ok (.iload_n 1, 1) := by decide +kernel
theorem dX12_flatAt_8 : decode cX12_flatAt 8 = .ok (.iadd, 1) := by decide +kernel
theorem dX12_flatAt_9 : decode cX12_flatAt 9 = .ok (.imul, 1) := by decide +kernel
theorem dX12_flatAt_10 : decode cX12_flatAt 10 = .ok (.ireturn, 1) := by decide +kernel
theorem dX12_fill_0 : decode cX12_fill 0 = .ok (.iload_n 3, 1) := by decide +kernel
theorem dX12_fill_1 : decode cX12_fill 1 = .ok (.ifCond .ge 7, 3) := by decide +kernel
theorem dX12_fill_4 : decode cX12_fill 4 = .ok (.iconst 0, 1) := by decide +kernel
theorem dX12_fill_5 : decode cX12_fill 5 = .ok (.goto 4, 3) := by decide +kernel
theorem dX12_fill_8 : decode cX12_fill 8 = .ok (.iload_n 3, 1) := by decide +kernel
theorem dX12_fill_9 : decode cX12_fill 9 = .ok (.istore 7, 2) := by decide +kernel
theorem dX12_fill_11 : decode cX12_fill 11 = .ok (.iload 7, 2) := by decide +kernel
theorem dX12_fill_13 : decode cX12_fill 13 = .ok (.iload_n 3, 1) := by decide +kernel
theorem dX12_fill_14 : decode cX12_fill 14 = .ok (.iload 5, 2) := by decide +kernel
theorem dX12_fill_16 : decode cX12_fill 16 = .ok (.iadd, 1) := by decide +kernel
theorem dX12_fill_17 : decode cX12_fill 17 = .ok (.if_icmp .ge 66, 3) := by decide +kernel
theorem dX12_fill_20 : decode cX12_fill 20 = .ok (.iload 7, 2) := by decide +kernel
theorem dX12_fill_22 : decode cX12_fill 22 = .ok (.bipush 64, 2) := by decide +kernel
theorem dX12_fill_24 : decode cX12_fill 24 = .ok (.if_icmp .ge 59, 3) := by decide +kernel
theorem dX12_fill_27 : decode cX12_fill 27 = .ok (.iload_n 2, 1) := by decide +kernel
theorem dX12_fill_28 : decode cX12_fill 28 = .ok (.ifCond .ge 7, 3) := by decide +kernel
theorem dX12_fill_31 : decode cX12_fill 31 = .ok (.iconst 0, 1) := by decide +kernel
theorem dX12_fill_32 : decode cX12_fill 32 = .ok (.goto 4, 3) := by decide +kernel
theorem dX12_fill_35 : decode cX12_fill 35 = .ok (.iload_n 2, 1) := by decide +kernel
theorem dX12_fill_36 : decode cX12_fill 36 = .ok (.istore 8, 2) := by decide +kernel
theorem dX12_fill_38 : decode cX12_fill 38 = .ok (.iload 8, 2) := by decide +kernel
theorem dX12_fill_40 : decode cX12_fill 40 = .ok (.iload_n 2, 1) := by decide +kernel
theorem dX12_fill_41 : decode cX12_fill 41 = .ok (.iload 4, 2) := by decide +kernel
theorem dX12_fill_43 : decode cX12_fill 43 = .ok (.iadd, 1) := by decide +kernel
theorem dX12_fill_44 : decode cX12_fill 44 = .ok (.if_icmp .ge 33, 3) := by decide +kernel
theorem dX12_fill_47 : decode cX12_fill 47 = .ok (.iload 8, 2) := by decide +kernel
theorem dX12_fill_49 : decode cX12_fill 49 = .ok (.bipush 64, 2) := by decide +kernel
theorem dX12_fill_51 : decode cX12_fill 51 = .ok (.if_icmp .ge 26, 3) := by decide +kernel
theorem dX12_fill_54 : decode cX12_fill 54 = .ok (.aload_n 0, 1) := by decide +kernel
theorem dX12_fill_55 : decode cX12_fill 55 = .ok (.getfield 47, 3) := by decide +kernel
theorem dX12_fill_58 : decode cX12_fill 58 = .ok (.iload_n 1, 1) := by decide +kernel
theorem dX12_fill_59 : decode cX12_fill 59 = .ok (.bipush 64, 2) := by decide +kernel
theorem dX12_fill_61 : decode cX12_fill 61 = .ok (.iload 7, 2) := by decide +kernel
theorem dX12_fill_63 : decode cX12_fill 63 = .ok (.imul, 1) := by decide +kernel
theorem dX12_fill_64 : decode cX12_fill 64 = .ok (.iadd, 1) := by decide +kernel
theorem dX12_fill_65 : decode cX12_fill 65 = .ok (.iload 8, 2) := by decide +kernel
theorem dX12_fill_67 : decode cX12_fill 67 = .ok (.iadd, 1) := by decide +kernel
theorem dX12_fill_68 : decode cX12_fill 68 = .ok (.iload 6, 2) := by decide +kernel
theorem dX12_fill_70 : decode cX12_fill 70 = .ok (.bastore, 1) := by decide +kernel
theorem dX12_fill_71 : decode cX12_fill 71 = .ok (.iinc 8 1, 3) := by decide +kernel
theorem dX12_fill_74 : decode cX12_fill 74 = .ok (.goto (-36), 3) := by decide +kernel
theorem dX12_fill_77 : decode cX12_fill 77 = .ok (.iinc 7 1, 3) := by decide +kernel
theorem dX12_fill_80 : decode cX12_fill 80 = .ok (.goto (-69), 3) := by decide +kernel
theorem dX12_fill_83 : decode cX12_fill 83 = .ok (.return_, 1) := by decide +kernel
theorem dX12_laysPath_0 : decode cX12_laysPath 0 = .ok (.iload_n 2, 1) := by decide +kernel
theorem dX12_laysPath_1 : decode cX12_laysPath 1 = .ok (.bipush 64, 2) := by decide +kernel
theorem dX12_laysPath_3 : decode cX12_laysPath 3 = .ok (.irem, 1) := by decide +kernel
theorem dX12_laysPath_4 : decode cX12_laysPath 4 = .ok (.iload_n 3, 1) := by decide +kernel
theorem dX12_laysPath_5 : decode cX12_laysPath 5 = .ok (.bipush 64, 2) := by decide +kernel
theorem dX12_laysPath_7 : decode cX12_laysPath 7 = .ok (.irem, 1) := by decide +kernel
theorem dX12_laysPath_8 : decode cX12_laysPath 8 = .ok (.if_icmp .ge 10, 3) := by decide +kernel
theorem dX12_laysPath_11 : decode cX12_laysPath 11 = .ok (.iload_n 2, 1) := by decide +kernel
theorem dX12_laysPath_12 : decode cX12_laysPath 12 = .ok (.bipush 64, 2) := by decide +kernel
theorem dX12_laysPath_14 : decode cX12_laysPath 14 = .ok (.irem, 1) := by decide +kernel
theorem dX12_laysPath_15 : decode cX12_laysPath 15 = .ok (.goto 7, 3) := by decide +kernel
theorem dX12_laysPath_18 : decode cX12_laysPath 18 = .ok (.iload_n 3, 1) := by decide +kernel
theorem dX12_laysPath_19 : decode cX12_laysPath 19 = .ok (.bipush 64, 2) := by decide +kernel
theorem dX12_laysPath_21 : decode cX12_laysPath 21 = .ok (.irem, 1) := by decide +kernel
theorem dX12_laysPath_22 : decode cX12_laysPath 22 = .ok (.istore 5, 2) := by decide +kernel
theorem dX12_laysPath_24 : decode cX12_laysPath 24 = .ok (.iload_n 2, 1) := by decide +kernel
theorem dX12_laysPath_25 : decode cX12_laysPath 25 = .ok (.bipush 64, 2) := by decide +kernel
theorem dX12_laysPath_27 : decode cX12_laysPath 27 = .ok (.idiv, 1) := by decide +kernel
theorem dX12_laysPath_28 : decode cX12_laysPath 28 = .ok (.iload_n 3, 1) := by decide +kernel
theorem dX12_laysPath_29 : decode cX12_laysPath 29 = .ok (.bipush 64, 2) := by decide +kernel
theorem dX12_laysPath_31 : decode cX12_laysPath 31 = .ok (.idiv, 1) := by decide +kernel
theorem dX12_laysPath_32 : decode cX12_laysPath 32 = .ok (.if_icmp .ge 10, 3) := by decide +kernel
theorem dX12_laysPath_35 : decode cX12_laysPath 35 = .ok (.iload_n 2, 1) := by decide +kernel
theorem dX12_laysPath_36 : decode cX12_laysPath 36 = .ok (.bipush 64, 2) := by decide +kernel
theorem dX12_laysPath_38 : decode cX12_laysPath 38 = .ok (.idiv, 1) := by decide +kernel
theorem dX12_laysPath_39 : decode cX12_laysPath 39 = .ok (.goto 7, 3) := by decide +kernel
theorem dX12_laysPath_42 : decode cX12_laysPath 42 = .ok (.iload_n 3, 1) := by decide +kernel
theorem dX12_laysPath_43 : decode cX12_laysPath 43 = .ok (.bipush 64, 2) := by decide +kernel
theorem dX12_laysPath_45 : decode cX12_laysPath 45 = .ok (.idiv, 1) := by decide +kernel
theorem dX12_laysPath_46 : decode cX12_laysPath 46 = .ok (.istore 6, 2) := by decide +kernel
theorem dX12_laysPath_48 : decode cX12_laysPath 48 = .ok (.iload_n 2, 1) := by decide +kernel
theorem dX12_laysPath_49 : decode cX12_laysPath 49 = .ok (.bipush 64, 2) := by decide +kernel
theorem dX12_laysPath_51 : decode cX12_laysPath 51 = .ok (.irem, 1) := by decide +kernel
theorem dX12_laysPath_52 : decode cX12_laysPath 52 = .ok (.iload_n 3, 1) := by decide +kernel
theorem dX12_laysPath_53 : decode cX12_laysPath 53 = .ok (.bipush 64, 2) := by decide +kernel
theorem dX12_laysPath_55 : decode cX12_laysPath 55 = .ok (.irem, 1) := by decide +kernel
theorem dX12_laysPath_56 : decode cX12_laysPath 56 = .ok (.if_icmp .le 10, 3) := by decide +kernel
theorem dX12_laysPath_59 : decode cX12_laysPath 59 = .ok (.iload_n 2, 1) := by decide +kernel
theorem dX12_laysPath_60 : decode cX12_laysPath 60 = .ok (.bipush 64, 2) := by decide +kernel
theorem dX12_laysPath_62 : decode cX12_laysPath 62 = .ok (.irem, 1) := by decide +kernel
theorem dX12_laysPath_63 : decode cX12_laysPath 63 = .ok (.goto 7, 3) := by decide +kernel
theorem dX12_laysPath_66 : decode cX12_laysPath 66 = .ok (.iload_n 3, 1) := by decide +kernel
theorem dX12_laysPath_67 : decode cX12_laysPath 67 = .ok (.bipush 64, 2) := by decide +kernel
theorem dX12_laysPath_69 : decode cX12_laysPath 69 = .ok (.irem, 1) := by decide +kernel
theorem dX12_laysPath_70 : decode cX12_laysPath 70 = .ok (.istore 7, 2) := by decide +kernel
theorem dX12_laysPath_72 : decode cX12_laysPath 72 = .ok (.iload_n 2, 1) := by decide +kernel
theorem dX12_laysPath_73 : decode cX12_laysPath 73 = .ok (.bipush 64, 2) := by decide +kernel
theorem dX12_laysPath_75 : decode cX12_laysPath 75 = .ok (.idiv, 1) := by decide +kernel
theorem dX12_laysPath_76 : decode cX12_laysPath 76 = .ok (.iload_n 3, 1) := by decide +kernel
theorem dX12_laysPath_77 : decode cX12_laysPath 77 = .ok (.bipush 64, 2) := by decide +kernel
theorem dX12_laysPath_79 : decode cX12_laysPath 79 = .ok (.idiv, 1) := by decide +kernel
theorem dX12_laysPath_80 : decode cX12_laysPath 80 = .ok (.if_icmp .le 10, 3) := by decide +kernel
theorem dX12_laysPath_83 : decode cX12_laysPath 83 = .ok (.iload_n 2, 1) := by decide +kernel
theorem dX12_laysPath_84 : decode cX12_laysPath 84 = .ok (.bipush 64, 2) := by decide +kernel
theorem dX12_laysPath_86 : decode cX12_laysPath 86 = .ok (.idiv, 1) := by decide +kernel
theorem dX12_laysPath_87 : decode cX12_laysPath 87 = .ok (.goto 7, 3) := by decide +kernel
theorem dX12_laysPath_90 : decode cX12_laysPath 90 = .ok (.iload_n 3, 1) := by decide +kernel
theorem dX12_laysPath_91 : decode cX12_laysPath 91 = .ok (.bipush 64, 2) := by decide +kernel
theorem dX12_laysPath_93 : decode cX12_laysPath 93 = .ok (.idiv, 1) := by decide +kernel
theorem dX12_laysPath_94 : decode cX12_laysPath 94 = .ok (.istore 8, 2) := by decide +kernel
theorem dX12_laysPath_96 : decode cX12_laysPath 96 = .ok (.iload 4, 2) := by decide +kernel
theorem dX12_laysPath_98 : decode cX12_laysPath 98 = .ok (.iconst 1, 1) := by decide +kernel
theorem dX12_laysPath_99 : decode cX12_laysPath 99 = .ok (.isub, 1) := by decide +kernel
theorem dX12_laysPath_100 : decode cX12_laysPath 100 = .ok (.iconst 2, 1) := by decide +kernel
theorem dX12_laysPath_101 : decode cX12_laysPath 101 = .ok (.idiv, 1) := by decide +kernel
theorem dX12_laysPath_102 : decode cX12_laysPath 102 = .ok (.istore 9, 2) := by decide +kernel
theorem dX12_laysPath_104 : decode cX12_laysPath 104 = .ok (.iload 6, 2) := by decide +kernel
theorem dX12_laysPath_106 : decode cX12_laysPath 106 = .ok (.iload 8, 2) := by decide +kernel
theorem dX12_laysPath_108 : decode cX12_laysPath 108 = .ok (.if_icmp .ne 28, 3) := by decide +kernel
theorem dX12_laysPath_111 : decode cX12_laysPath 111 = .ok (.aload_n 0, 1) := by decide +kernel
theorem dX12_laysPath_112 : decode cX12_laysPath 112 = .ok (.iload_n 1, 1) := by decide +kernel
theorem dX12_laysPath_113 : decode cX12_laysPath 113 = .ok (.iload 5, 2) := by decide +kernel
theorem dX12_laysPath_115 : decode cX12_laysPath 115 = .ok (.iload 6, 2) := by decide +kernel
theorem dX12_laysPath_117 : decode cX12_laysPath 117 = .ok (.iload 9, 2) := by decide +kernel
theorem dX12_laysPath_119 : decode cX12_laysPath 119 = .ok (.isub, 1) := by decide +kernel
theorem dX12_laysPath_120 : decode cX12_laysPath 120 = .ok (.iload 7, 2) := by decide +kernel
theorem dX12_laysPath_122 : decode cX12_laysPath 122 = .ok (.iload 5, 2) := by decide +kernel
theorem dX12_laysPath_124 : decode cX12_laysPath 124 = .ok (.isub, 1) := by decide +kernel
theorem dX12_laysPath_125 : decode cX12_laysPath 125 = .ok (.iconst 1, 1) := by decide +kernel
theorem dX12_laysPath_126 : decode cX12_laysPath 126 = .ok (.iadd, 1) := by decide +kernel
theorem dX12_laysPath_127 : decode cX12_laysPath 127 = .ok (.iload 4, 2) := by decide +kernel
theorem dX12_laysPath_129 : decode cX12_laysPath 129 = .ok (.iconst 1, 1) := by decide +kernel
theorem dX12_laysPath_130 : decode cX12_laysPath 130 = .ok (.invokevirtual 236, 3) := by decide +kernel
theorem dX12_laysPath_133 : decode cX12_laysPath 133 = .ok (.goto 25, 3) := by decide +kernel
theorem dX12_laysPath_136 : decode cX12_laysPath 136 = .ok (.aload_n 0, 1) := by decide +kernel
theorem dX12_laysPath_137 : decode cX12_laysPath 137 = .ok (.iload_n 1, 1) := by decide +kernel
theorem dX12_laysPath_138 : decode cX12_laysPath 138 = .ok (.iload 5, 2) := by decide +kernel
theorem dX12_laysPath_140 : decode cX12_laysPath 140 = .ok (.iload 9, 2) := by decide +kernel
theorem dX12_laysPath_142 : decode cX12_laysPath 142 = .ok (.isub, 1) := by decide +kernel
theorem dX12_laysPath_143 : decode cX12_laysPath 143 = .ok (.iload 6, 2) := by decide +kernel
theorem dX12_laysPath_145 : decode cX12_laysPath 145 = .ok (.iload 4, 2) := by decide +kernel
theorem dX12_laysPath_147 : decode cX12_laysPath 147 = .ok (.iload 8, 2) := by decide +kernel
theorem dX12_laysPath_149 : decode cX12_laysPath 149 = .ok (.iload 6, 2) := by decide +kernel
theorem dX12_laysPath_151 : decode cX12_laysPath 151 = .ok (.isub, 1) := by decide +kernel
theorem dX12_laysPath_152 : decode cX12_laysPath 152 = .ok (.iconst 1, 1) := by decide +kernel
theorem dX12_laysPath_153 : decode cX12_laysPath 153 = .ok (.iadd, 1) := by decide +kernel
theorem dX12_laysPath_154 : decode cX12_laysPath 154 = .ok (.iconst 1, 1) := by decide +kernel
theorem dX12_laysPath_155 : decode cX12_laysPath 155 = .ok (.invokevirtual 236, 3) := by decide +kernel
theorem dX12_laysPath_158 : decode cX12_laysPath 158 = .ok (.return_, 1) := by decide +kernel
theorem dX12_laysOwn_0 : decode cX12_laysOwn 0 = .ok (.iconst 0, 1) := by decide +kernel
theorem dX12_laysOwn_1 : decode cX12_laysOwn 1 = .ok (.istore_n 2, 1) := by decide +kernel
theorem dX12_laysOwn_2 : decode cX12_laysOwn 2 = .ok (.iload_n 2, 1) := by decide +kernel
theorem dX12_laysOwn_3 : decode cX12_laysOwn 3 = .ok (.bipush 8, 2) := by decide +kernel
theorem dX12_laysOwn_5 : decode cX12_laysOwn 5 = .ok (.if_icmp .ge 273, 3) := by decide +kernel
theorem dX12_laysOwn_8 : decode cX12_laysOwn 8 = .ok (.iload_n 1, 1) := by decide +kernel
theorem dX12_laysOwn_9 : decode cX12_laysOwn 9 = .ok (.iload_n 2, 1) := by decide +kernel
theorem dX12_laysOwn_10 : decode cX12_laysOwn 10 = .ok (.invokestatic 240, 3) := by decide +kernel
theorem dX12_laysOwn_13 : decode cX12_laysOwn 13 = .ok (.istore_n 3, 1) := by decide +kernel
theorem dX12_laysOwn_14 : decode cX12_laysOwn 14 = .ok (.iconst 0, 1) := by decide +kernel
theorem dX12_laysOwn_15 : decode cX12_laysOwn 15 = .ok (.istore 4, 2) := by decide +kernel
theorem dX12_laysOwn_17 : decode cX12_laysOwn 17 = .ok (.iload 4, 2) := by decide +kernel
theorem dX12_laysOwn_19 : decode cX12_laysOwn 19 = .ok (.sipush 4096, 3) := by decide +kernel
theorem dX12_laysOwn_22 : decode cX12_laysOwn 22 = .ok (.if_icmp .ge 19, 3) := by decide +kernel
theorem dX12_laysOwn_25 : decode cX12_laysOwn 25 = .ok (.aload_n 0, 1) := by decide +kernel
theorem dX12_laysOwn_26 : decode cX12_laysOwn 26 = .ok (.getfield 47, 3) := by decide +kernel
theorem dX12_laysOwn_29 : decode cX12_laysOwn 29 = .ok (.iload_n 3, 1) := by decide +kernel
theorem dX12_laysOwn_30 : decode cX12_laysOwn 30 = .ok (.iload 4, 2) := by decide +kernel
theorem dX12_laysOwn_32 : decode cX12_laysOwn 32 = .ok (.iadd, 1) := by decide +kernel
theorem dX12_laysOwn_33 : decode cX12_laysOwn 33 = .ok (.iconst 0, 1) := by decide +kernel
theorem dX12_laysOwn_34 : decode cX12_laysOwn 34 = .ok (.bastore, 1) := by decide +kernel
theorem dX12_laysOwn_35 : decode cX12_laysOwn 35 = .ok (.iinc 4 1, 3) := by decide +kernel
theorem dX12_laysOwn_38 : decode cX12_laysOwn 38 = .ok (.goto (-21), 3) := by decide +kernel
theorem dX12_laysOwn_41 : decode cX12_laysOwn 41 = .ok (.bipush 16, 2) := by decide +kernel
theorem dX12_laysOwn_43 : decode cX12_laysOwn 43 = .ok (.iload_n 1, 1) := by decide +kernel
theorem dX12_laysOwn_44 : decode cX12_laysOwn 44 = .ok (.imul, 1) := by decide +kernel
theorem dX12_laysOwn_45 : decode cX12_laysOwn 45 = .ok (.istore 4, 2) := by decide +kernel
theorem dX12_laysOwn_47 : decode cX12_laysOwn 47 = .ok (.iload 4, 2) := by decide +kernel
theorem dX12_laysOwn_49 : decode cX12_laysOwn 49 = .ok (.bipush 16, 2) := by decide +kernel
theorem dX12_laysOwn_51 : decode cX12_laysOwn 51 = .ok (.iload_n 1, 1) := by decide +kernel
theorem dX12_laysOwn_52 : decode cX12_laysOwn 52 = .ok (.imul, 1) := by decide +kernel
theorem dX12_laysOwn_53 : decode cX12_laysOwn 53 = .ok (.aload_n 0, 1) := by decide +kernel
theorem dX12_laysOwn_54 : decode cX12_laysOwn 54 = .ok (.getfield 31, 3) := by decide +kernel
theorem dX12_laysOwn_57 : decode cX12_laysOwn 57 = .ok (.iload_n 1, 1) := by decide +kernel
theorem dX12_laysOwn_58 : decode cX12_laysOwn 58 = .ok (.iaload, 1) := by decide +kernel
theorem dX12_laysOwn_59 : decode cX12_laysOwn 59 = .ok (.iadd, 1) := by decide +kernel
theorem dX12_laysOwn_60 : decode cX12_laysOwn 60 = .ok (.if_icmp .ge 116, 3) := by decide +kernel
theorem dX12_laysOwn_63 : decode cX12_laysOwn 63 = .ok (.aload_n 0, 1) := by decide +kernel
theorem dX12_laysOwn_64 : decode cX12_laysOwn 64 = .ok (.getfield 13, 3) := by decide +kernel
theorem dX12_laysOwn_67 : decode cX12_laysOwn 67 = .ok (.iload 4, 2) := by decide +kernel
theorem dX12_laysOwn_69 : decode cX12_laysOwn 69 = .ok (.iaload, 1) := by decide +kernel
theorem dX12_laysOwn_70 : decode cX12_laysOwn 70 = .ok (.iload_n 2, 1) := by decide +kernel
theorem dX12_laysOwn_71 : decode cX12_laysOwn 71 = .ok (.if_icmp .eq 6, 3) := by decide +kernel
theorem dX12_laysOwn_74 : decode cX12_laysOwn 74 = .ok (.goto 96, 3) := by decide +kernel
theorem dX12_laysOwn_77 : decode cX12_laysOwn 77 = .ok (.aload_n 0, 1) := by decide +kernel
theorem dX12_laysOwn_78 : decode cX12_laysOwn 78 = .ok (.getfield 7, 3) := by decide +kernel
theorem dX12_laysOwn_81 : decode cX12_laysOwn 81 = .ok (.iload 4, 2) := by decide +kernel
theorem dX12_laysOwn_83 : decode cX12_laysOwn 83 = .ok (.iaload, 1) := by decide +kernel
theorem dX12_laysOwn_84 : decode cX12_laysOwn 84 = .ok (.ifCond .ne 49, 3) := by decide +kernel
theorem dX12_laysOwn_87 : decode cX12_laysOwn 87 = .ok (.aload_n 0, 1) := by decide +kernel
theorem dX12_laysOwn_88 : decode cX12_laysOwn 88 = .ok (.iload_n 3, 1) := by decide +kernel
theorem dX12_laysOwn_89 : decode cX12_laysOwn 89 = .ok (.aload_n 0, 1) := by decide +kernel
theorem dX12_laysOwn_90 : decode cX12_laysOwn 90 = .ok (.getfield 16, 3) := by decide +kernel
theorem dX12_laysOwn_93 : decode cX12_laysOwn 93 = .ok (.iload 4, 2) := by decide +kernel
theorem dX12_laysOwn_95 : decode cX12_laysOwn 95 = .ok (.iaload, 1) := by decide +kernel
theorem dX12_laysOwn_96 : decode cX12_laysOwn 96 = .ok (.bipush 64, 2) := by decide +kernel
theorem dX12_laysOwn_98 : decode cX12_laysOwn 98 = .ok (.irem, 1) := by decide +kernel
theorem dX12_laysOwn_99 : decode cX12_laysOwn 99 = .ok (.aload_n 0, 1) := by decide +kernel
theorem dX12_laysOwn_100 : decode cX12_laysOwn 100 = .ok (.getfield 16, 3) := by decide +kernel
theorem dX12_laysOwn_103 : decode cX12_laysOwn 103 = .ok (.iload 4, 2) := by decide +kernel
theorem dX12_laysOwn_105 : decode cX12_laysOwn 105 = .ok (.iaload, 1) := by decide +kernel
theorem dX12_laysOwn_106 : decode cX12_laysOwn 106 = .ok (.bipush 64, 2) := by decide +kernel
theorem dX12_laysOwn_108 : decode cX12_laysOwn 108 = .ok (.idiv, 1) := by decide +kernel
theorem dX12_laysOwn_109 : decode cX12_laysOwn 109 = .ok (.aload_n 0, 1) := by decide +kernel
theorem dX12_laysOwn_110 : decode cX12_laysOwn 110 = .ok (.getfield 19, 3) := by decide +kernel
theorem dX12_laysOwn_113 : decode cX12_laysOwn 113 = .ok (.iload 4, 2) := by decide +kernel
theorem dX12_laysOwn_115 : decode cX12_laysOwn 115 = .ok (.iaload, 1) := by decide +kernel
theorem dX12_laysOwn_116 : decode cX12_laysOwn 116 = .ok (.bipush 100, 2) := by decide +kernel
theorem dX12_laysOwn_118 : decode cX12_laysOwn 118 = .ok (.idiv, 1) := by decide +kernel
theorem dX12_laysOwn_119 : decode cX12_laysOwn 119 = .ok (.aload_n 0, 1) := by decide +kernel
theorem dX12_laysOwn_120 : decode cX12_laysOwn 120 = .ok (.getfield 19, 3) := by decide +kernel
theorem dX12_laysOwn_123 : decode cX12_laysOwn 123 = .ok (.iload 4, 2) := by decide +kernel
theorem dX12_laysOwn_125 : decode cX12_laysOwn 125 = .ok (.iaload, 1) := by decide +kernel
theorem dX12_laysOwn_126 : decode cX12_laysOwn 126 = .ok (.bipush 100, 2) := by decide +kernel
theorem dX12_laysOwn_128 : decode cX12_laysOwn 128 = .ok (.irem, 1) := by decide +kernel
theorem dX12_laysOwn_129 : decode cX12_laysOwn 129 = .ok (.iconst 1, 1) := by decide +kernel
theorem dX12_laysOwn_130 : decode cX12_laysOwn 130 = .ok (.invokevirtual 236, 3) := by decide +kernel
theorem dX12_laysOwn_133 : decode cX12_laysOwn 133 = .ok (.aload_n 0, 1) := by decide +kernel
theorem dX12_laysOwn_134 : decode cX12_laysOwn 134 = .ok (.getfield 7, 3) := by decide +kernel
theorem dX12_laysOwn_137 : decode cX12_laysOwn 137 = .ok (.iload 4, 2) := by decide +kernel
theorem dX12_laysOwn_139 : decode cX12_laysOwn 139 = .ok (.iaload, 1) := by decide +kernel
theorem dX12_laysOwn_140 : decode cX12_laysOwn 140 = .ok (.iconst 2, 1) := by decide +kernel
theorem dX12_laysOwn_141 : decode cX12_laysOwn 141 = .ok (.if_icmp .ne 29, 3) := by decide +kernel
theorem dX12_laysOwn_144 : decode cX12_laysOwn 144 = .ok (.aload_n 0, 1) := by decide +kernel
theorem dX12_laysOwn_145 : decode cX12_laysOwn 145 = .ok (.iload_n 3, 1) := by decide +kernel
theorem dX12_laysOwn_146 : decode cX12_laysOwn 146 = .ok (.aload_n 0, 1) := by decide +kernel
theorem dX12_laysOwn_147 : decode cX12_laysOwn 147 = .ok (.getfield 16, 3) := by decide +kernel
theorem dX12_laysOwn_150 : decode cX12_laysOwn 150 = .ok (.iload 4, 2) := by decide +kernel
theorem dX12_laysOwn_152 : decode cX12_laysOwn 152 = .ok (.iaload, 1) := by decide +kernel
theorem dX12_laysOwn_153 : decode cX12_laysOwn 153 = .ok (.aload_n 0, 1) := by decide +kernel
theorem dX12_laysOwn_154 : decode cX12_laysOwn 154 = .ok (.getfield 19, 3) := by decide +kernel
theorem dX12_laysOwn_157 : decode cX12_laysOwn 157 = .ok (.iload 4, 2) := by decide +kernel
theorem dX12_laysOwn_159 : decode cX12_laysOwn 159 = .ok (.iaload, 1) := by decide +kernel
theorem dX12_laysOwn_160 : decode cX12_laysOwn 160 = .ok (.aload_n 0, 1) := by decide +kernel
theorem dX12_laysOwn_161 : decode cX12_laysOwn 161 = .ok (.getfield 22, 3) := by decide +kernel
theorem dX12_laysOwn_164 : decode cX12_laysOwn 164 = .ok (.iload 4, 2) := by decide +kernel
theorem dX12_laysOwn_166 : decode cX12_laysOwn 166 = .ok (.iaload, 1) := by decide +kernel
theorem dX12_laysOwn_167 : decode cX12_laysOwn 167 = .ok (.invokevirtual 244, 3) := by decide +kernel
theorem dX12_laysOwn_170 : decode cX12_laysOwn 170 = .ok (.iinc 4 1, 3) := by decide +kernel
theorem dX12_laysOwn_173 : decode cX12_laysOwn 173 = .ok (.goto (-126), 3) := by decide +kernel
theorem dX12_laysOwn_176 : decode cX12_laysOwn 176 = .ok (.bipush 16, 2) := by decide +kernel
theorem dX12_laysOwn_178 : decode cX12_laysOwn 178 = .ok (.iload_n 1, 1) := by decide +kernel
theorem dX12_laysOwn_179 : decode cX12_laysOwn 179 = .ok (.imul, 1) := by decide +kernel
theorem dX12_laysOwn_180 : decode cX12_laysOwn 180 = .ok (.istore 4, 2) := by decide +kernel
theorem dX12_laysOwn_182 : decode cX12_laysOwn 182 = .ok (.iload 4, 2) := by decide +kernel
theorem dX12_laysOwn_184 : decode cX12_laysOwn 184 = .ok (.bipush 16, 2) := by decide +kernel
theorem dX12_laysOwn_186 : decode cX12_laysOwn 186 = .ok (.iload_n 1, 1) := by decide +kernel
theorem dX12_laysOwn_187 : decode cX12_laysOwn 187 = .ok (.imul, 1) := by decide +kernel
theorem dX12_laysOwn_188 : decode cX12_laysOwn 188 = .ok (.aload_n 0, 1) := by decide +kernel
theorem dX12_laysOwn_189 : decode cX12_laysOwn 189 = .ok (.getfield 31, 3) := by decide +kernel
theorem dX12_laysOwn_192 : decode cX12_laysOwn 192 = .ok (.iload_n 1, 1) := by decide +kernel
theorem dX12_laysOwn_193 : decode cX12_laysOwn 193 = .ok (.iaload, 1) := by decide +kernel
theorem dX12_laysOwn_194 : decode cX12_laysOwn 194 = .ok (.iadd, 1) := by decide +kernel
theorem dX12_laysOwn_195 : decode cX12_laysOwn 195 = .ok (.if_icmp .ge 77, 3) := by decide +kernel
theorem dX12_laysOwn_198 : decode cX12_laysOwn 198 = .ok (.aload_n 0, 1) := by decide +kernel
theorem dX12_laysOwn_199 : decode cX12_laysOwn 199 = .ok (.getfield 7, 3) := by decide +kernel
theorem dX12_laysOwn_202 : decode cX12_laysOwn 202 = .ok (.iload 4, 2) := by decide +kernel
theorem dX12_laysOwn_204 : decode cX12_laysOwn 204 = .ok (.iaload, 1) := by decide +kernel
theorem dX12_laysOwn_205 : decode cX12_laysOwn 205 = .ok (.iconst 1, 1) := by decide +kernel
theorem dX12_laysOwn_206 : decode cX12_laysOwn 206 = .ok (.if_icmp .ne 60, 3) := by decide +kernel
theorem dX12_laysOwn_209 : decode cX12_laysOwn 209 = .ok (.aload_n 0, 1) := by decide +kernel
theorem dX12_laysOwn_210 : decode cX12_laysOwn 210 = .ok (.getfield 13, 3) := by decide +kernel
theorem dX12_laysOwn_213 : decode cX12_laysOwn 213 = .ok (.iload 4, 2) := by decide +kernel
theorem dX12_laysOwn_215 : decode cX12_laysOwn 215 = .ok (.iaload, 1) := by decide +kernel
theorem dX12_laysOwn_216 : decode cX12_laysOwn 216 = .ok (.iload_n 2, 1) := by decide +kernel
theorem dX12_laysOwn_217 : decode cX12_laysOwn 217 = .ok (.if_icmp .ne 49, 3) := by decide +kernel
theorem dX12_laysOwn_220 : decode cX12_laysOwn 220 = .ok (.aload_n 0, 1) := by decide +kernel
theorem dX12_laysOwn_221 : decode cX12_laysOwn 221 = .ok (.iload_n 3, 1) := by decide +kernel
theorem dX12_laysOwn_222 : decode cX12_laysOwn 222 = .ok (.aload_n 0, 1) := by decide +kernel
theorem dX12_laysOwn_223 : decode cX12_laysOwn 223 = .ok (.getfield 16, 3) := by decide +kernel
theorem dX12_laysOwn_226 : decode cX12_laysOwn 226 = .ok (.iload 4, 2) := by decide +kernel
theorem dX12_laysOwn_228 : decode cX12_laysOwn 228 = .ok (.iaload, 1) := by decide +kernel
theorem dX12_laysOwn_229 : decode cX12_laysOwn 229 = .ok (.bipush 64, 2) := by decide +kernel
theorem dX12_laysOwn_231 : decode cX12_laysOwn 231 = .ok (.irem, 1) := by decide +kernel
theorem dX12_laysOwn_232 : decode cX12_laysOwn 232 = .ok (.aload_n 0, 1) := by decide +kernel
theorem dX12_laysOwn_233 : decode cX12_laysOwn 233 = .ok (.getfield 16, 3) := by decide +kernel
theorem dX12_laysOwn_236 : decode cX12_laysOwn 236 = .ok (.iload 4, 2) := by decide +kernel
theorem dX12_laysOwn_238 : decode cX12_laysOwn 238 = .ok (.iaload, 1) := by decide +kernel
theorem dX12_laysOwn_239 : decode cX12_laysOwn 239 = .ok (.bipush 64, 2) := by decide +kernel
theorem dX12_laysOwn_241 : decode cX12_laysOwn 241 = .ok (.idiv, 1) := by decide +kernel
theorem dX12_laysOwn_242 : decode cX12_laysOwn 242 = .ok (.aload_n 0, 1) := by decide +kernel
theorem dX12_laysOwn_243 : decode cX12_laysOwn 243 = .ok (.getfield 19, 3) := by decide +kernel
theorem dX12_laysOwn_246 : decode cX12_laysOwn 246 = .ok (.iload 4, 2) := by decide +kernel
theorem dX12_laysOwn_248 : decode cX12_laysOwn 248 = .ok (.iaload, 1) := by decide +kernel
theorem dX12_laysOwn_249 : decode cX12_laysOwn 249 = .ok (.bipush 100, 2) := by decide +kernel
theorem dX12_laysOwn_251 : decode cX12_laysOwn 251 = .ok (.idiv, 1) := by decide +kernel
theorem dX12_laysOwn_252 : decode cX12_laysOwn 252 = .ok (.aload_n 0, 1) := by decide +kernel
theorem dX12_laysOwn_253 : decode cX12_laysOwn 253 = .ok (.getfield 19, 3) := by decide +kernel
theorem dX12_laysOwn_256 : decode cX12_laysOwn 256 = .ok (.iload 4, 2) := by decide +kernel
theorem dX12_laysOwn_258 : decode cX12_laysOwn 258 = .ok (.iaload, 1) := by decide +kernel
theorem dX12_laysOwn_259 : decode cX12_laysOwn 259 = .ok (.bipush 100, 2) := by decide +kernel
theorem dX12_laysOwn_261 : decode cX12_laysOwn 261 = .ok (.irem, 1) := by decide +kernel
theorem dX12_laysOwn_262 : decode cX12_laysOwn 262 = .ok (.iconst 0, 1) := by decide +kernel
theorem dX12_laysOwn_263 : decode cX12_laysOwn 263 = .ok (.invokevirtual 236, 3) := by decide +kernel
theorem dX12_laysOwn_266 : decode cX12_laysOwn 266 = .ok (.iinc 4 1, 3) := by decide +kernel
theorem dX12_laysOwn_269 : decode cX12_laysOwn 269 = .ok (.goto (-87), 3) := by decide +kernel
theorem dX12_laysOwn_272 : decode cX12_laysOwn 272 = .ok (.iinc 2 1, 3) := by decide +kernel
theorem dX12_laysOwn_275 : decode cX12_laysOwn 275 = .ok (.goto (-273), 3) := by decide +kernel
theorem dX12_laysOwn_278 : decode cX12_laysOwn 278 = .ok (.return_, 1) := by decide +kernel
theorem dX12_turns_0 : decode cX12_turns 0 = .ok (.iload_n 2, 1) := by decide +kernel
theorem dX12_turns_1 : decode cX12_turns 1 = .ok (.bipush 64, 2) := by decide +kernel
theorem dX12_turns_3 : decode cX12_turns 3 = .ok (.irem, 1) := by decide +kernel
theorem dX12_turns_4 : decode cX12_turns 4 = .ok (.istore_n 3, 1) := by decide +kernel
theorem dX12_turns_5 : decode cX12_turns 5 = .ok (.iload_n 2, 1) := by decide +kernel
theorem dX12_turns_6 : decode cX12_turns 6 = .ok (.bipush 64, 2) := by decide +kernel
theorem dX12_turns_8 : decode cX12_turns 8 = .ok (.idiv, 1) := by decide +kernel
theorem dX12_turns_9 : decode cX12_turns 9 = .ok (.istore 4, 2) := by decide +kernel
theorem dX12_turns_11 : decode cX12_turns 11 = .ok (.aload_n 0, 1) := by decide +kernel
theorem dX12_turns_12 : decode cX12_turns 12 = .ok (.getfield 22, 3) := by decide +kernel
theorem dX12_turns_15 : decode cX12_turns 15 = .ok (.iload_n 1, 1) := by decide +kernel
theorem dX12_turns_16 : decode cX12_turns 16 = .ok (.iaload, 1) := by decide +kernel
theorem dX12_turns_17 : decode cX12_turns 17 = .ok (.iconst 1, 1) := by decide +kernel
theorem dX12_turns_18 : decode cX12_turns 18 = .ok (.if_icmp .ne 7, 3) := by decide +kernel
theorem dX12_turns_21 : decode cX12_turns 21 = .ok (.iconst (-1), 1) := by decide +kernel
theorem dX12_turns_22 : decode cX12_turns 22 = .ok (.iload_n 3, 1) := by decide +kernel
theorem dX12_turns_23 : decode cX12_turns 23 = .ok (.isub, 1) := by decide +kernel
theorem dX12_turns_24 : decode cX12_turns 24 = .ok (.istore_n 3, 1) := by decide +kernel
theorem dX12_turns_25 : decode cX12_turns 25 = .ok (.iconst 0, 1) := by decide +kernel
theorem dX12_turns_26 : decode cX12_turns 26 = .ok (.istore 5, 2) := by decide +kernel
theorem dX12_turns_28 : decode cX12_turns 28 = .ok (.iload 5, 2) := by decide +kernel
theorem dX12_turns_30 : decode cX12_turns 30 = .ok (.aload_n 0, 1) := by decide +kernel
theorem dX12_turns_31 : decode cX12_turns 31 = .ok (.getfield 19, 3) := by decide +kernel
theorem dX12_turns_34 : decode cX12_turns 34 = .ok (.iload_n 1, 1) := by decide +kernel
theorem dX12_turns_35 : decode cX12_turns 35 = .ok (.iaload, 1) := by decide +kernel
theorem dX12_turns_36 : decode cX12_turns 36 = .ok (.if_icmp .ge 21, 3) := by decide +kernel
theorem dX12_turns_39 : decode cX12_turns 39 = .ok (.iload_n 3, 1) := by decide +kernel
theorem dX12_turns_40 : decode cX12_turns 40 = .ok (.istore 6, 2) := by decide +kernel
theorem dX12_turns_42 : decode cX12_turns 42 = .ok (.iconst (-1), 1) := by decide +kernel
theorem dX12_turns_43 : decode cX12_turns 43 = .ok (.iload 4, 2) := by decide +kernel
theorem dX12_turns_45 : decode cX12_turns 45 = .ok (.isub, 1) := by decide +kernel
theorem dX12_turns_46 : decode cX12_turns 46 = .ok (.istore_n 3, 1) := by decide +kernel
theorem dX12_turns_47 : decode cX12_turns 47 = .ok (.iload 6, 2) := by decide +kernel
theorem dX12_turns_49 : decode cX12_turns 49 = .ok (.istore 4, 2) := by decide +kernel
theorem dX12_turns_51 : decode cX12_turns 51 = .ok (.iinc 5 1, 3) := by decide +kernel
theorem dX12_turns_54 : decode cX12_turns 54 = .ok (.goto (-26), 3) := by decide +kernel
theorem dX12_turns_57 : decode cX12_turns 57 = .ok (.aload_n 0, 1) := by decide +kernel
theorem dX12_turns_58 : decode cX12_turns 58 = .ok (.iload_n 3, 1) := by decide +kernel
theorem dX12_turns_59 : decode cX12_turns 59 = .ok (.aload_n 0, 1) := by decide +kernel
theorem dX12_turns_60 : decode cX12_turns 60 = .ok (.getfield 16, 3) := by decide +kernel
theorem dX12_turns_63 : decode cX12_turns 63 = .ok (.iload_n 1, 1) := by decide +kernel
theorem dX12_turns_64 : decode cX12_turns 64 = .ok (.iaload, 1) := by decide +kernel
theorem dX12_turns_65 : decode cX12_turns 65 = .ok (.bipush 64, 2) := by decide +kernel
theorem dX12_turns_67 : decode cX12_turns 67 = .ok (.irem, 1) := by decide +kernel
theorem dX12_turns_68 : decode cX12_turns 68 = .ok (.iadd, 1) := by decide +kernel
theorem dX12_turns_69 : decode cX12_turns 69 = .ok (.putfield 248, 3) := by decide +kernel
theorem dX12_turns_72 : decode cX12_turns 72 = .ok (.aload_n 0, 1) := by decide +kernel
theorem dX12_turns_73 : decode cX12_turns 73 = .ok (.iload 4, 2) := by decide +kernel
theorem dX12_turns_75 : decode cX12_turns 75 = .ok (.aload_n 0, 1) := by decide +kernel
theorem dX12_turns_76 : decode cX12_turns 76 = .ok (.getfield 16, 3) := by decide +kernel
theorem dX12_turns_79 : decode cX12_turns 79 = .ok (.iload_n 1, 1) := by decide +kernel
theorem dX12_turns_80 : decode cX12_turns 80 = .ok (.iaload, 1) := by decide +kernel
theorem dX12_turns_81 : decode cX12_turns 81 = .ok (.bipush 64, 2) := by decide +kernel
theorem dX12_turns_83 : decode cX12_turns 83 = .ok (.idiv, 1) := by decide +kernel
theorem dX12_turns_84 : decode cX12_turns 84 = .ok (.iadd, 1) := by decide +kernel
theorem dX12_turns_85 : decode cX12_turns 85 = .ok (.putfield 251, 3) := by decide +kernel
theorem dX12_turns_88 : decode cX12_turns 88 = .ok (.return_, 1) := by decide +kernel
theorem dX12_placed_0 : decode cX12_placed 0 = .ok (.aload_n 0, 1) := by decide +kernel
theorem dX12_placed_1 : decode cX12_placed 1 = .ok (.getfield 248, 3) := by decide +kernel
theorem dX12_placed_4 : decode cX12_placed 4 = .ok (.iload_n 2, 1) := by decide +kernel
theorem dX12_placed_5 : decode cX12_placed 5 = .ok (.aload_n 0, 1) := by decide +kernel
theorem dX12_placed_6 : decode cX12_placed 6 = .ok (.getfield 25, 3) := by decide +kernel
theorem dX12_placed_9 : decode cX12_placed 9 = .ok (.iload_n 1, 1) := by decide +kernel
theorem dX12_placed_10 : decode cX12_placed 10 = .ok (.iaload, 1) := by decide +kernel
theorem dX12_placed_11 : decode cX12_placed 11 = .ok (.sipush 200, 3) := by decide +kernel
theorem dX12_placed_14 : decode cX12_placed 14 = .ok (.irem, 1) := by decide +kernel
theorem dX12_placed_15 : decode cX12_placed 15 = .ok (.bipush 100, 2) := by decide +kernel
theorem dX12_placed_17 : decode cX12_placed 17 = .ok (.isub, 1) := by decide +kernel
theorem dX12_placed_18 : decode cX12_placed 18 = .ok (.imul, 1) := by decide +kernel
theorem dX12_placed_19 : decode cX12_placed 19 = .ok (.iadd, 1) := by decide +kernel
theorem dX12_placed_20 : decode cX12_placed 20 = .ok (.istore 4, 2) := by decide +kernel
theorem dX12_placed_22 : decode cX12_placed 22 = .ok (.aload_n 0, 1) := by decide +kernel
theorem dX12_placed_23 : decode cX12_placed 23 = .ok (.getfield 251, 3) := by decide +kernel
theorem dX12_placed_26 : decode cX12_placed 26 = .ok (.iload_n 3, 1) := by decide +kernel
theorem dX12_placed_27 : decode cX12_placed 27 = .ok (.aload_n 0, 1) := by decide +kernel
theorem dX12_placed_28 : decode cX12_placed 28 = .ok (.getfield 28, 3) := by decide +kernel
theorem dX12_placed_31 : decode cX12_placed 31 = .ok (.iload_n 1, 1) := by decide +kernel
theorem dX12_placed_32 : decode cX12_placed 32 = .ok (.iaload, 1) := by decide +kernel
theorem dX12_placed_33 : decode cX12_placed 33 = .ok (.sipush 200, 3) := by decide +kernel
theorem dX12_placed_36 : decode cX12_placed 36 = .ok (.irem, 1) := by decide +kernel
theorem dX12_placed_37 : decode cX12_placed 37 = .ok (.bipush 100, 2) := by decide +kernel
theorem dX12_placed_39 : decode cX12_placed 39 = .ok (.isub, 1) := by decide +kernel
theorem dX12_placed_40 : decode cX12_placed 40 = .ok (.imul, 1) := by decide +kernel
theorem dX12_placed_41 : decode cX12_placed 41 = .ok (.iadd, 1) := by decide +kernel
theorem dX12_placed_42 : decode cX12_placed 42 = .ok (.istore 5, 2) := by decide +kernel
theorem dX12_placed_44 : decode cX12_placed 44 = .ok (.iload 4, 2) := by decide +kernel
theorem dX12_placed_46 : decode cX12_placed 46 = .ok (.i2l, 1) := by decide +kernel
theorem dX12_placed_47 : decode cX12_placed 47 = .ok (.lconst 0, 1) := by decide +kernel
theorem dX12_placed_48 : decode cX12_placed 48 = .ok (.ldc2_w 227, 3) := by decide +kernel
theorem dX12_placed_51 : decode cX12_placed 51 = .ok (.invokestatic 201, 3) := by decide +kernel
theorem dX12_placed_54 : decode cX12_placed 54 = .ok (.ifCond .eq 27, 3) := by decide +kernel
theorem dX12_placed_57 : decode cX12_placed 57 = .ok (.iload 5, 2) := by decide +kernel
theorem dX12_placed_59 : decode cX12_placed 59 = .ok (.i2l, 1) := by decide +kernel
theorem dX12_placed_60 : decode cX12_placed 60 = .ok (.lconst 0, 1) := by decide +kernel
theorem dX12_placed_61 : decode cX12_placed 61 = .ok (.ldc2_w 227, 3) := by decide +kernel
theorem dX12_placed_64 : decode cX12_placed 64 = .ok (.invokestatic 201, 3) := by decide +kernel
theorem dX12_placed_67 : decode cX12_placed 67 = .ok (.ifCond .eq 14, 3) := by decide +kernel
theorem dX12_placed_70 : decode cX12_placed 70 = .ok (.bipush 64, 2) := by decide +kernel
theorem dX12_placed_72 : decode cX12_placed 72 = .ok (.iload 5, 2) := by decide +kernel
theorem dX12_placed_74 : decode cX12_placed 74 = .ok (.imul, 1) := by decide +kernel
theorem dX12_placed_75 : decode cX12_placed 75 = .ok (.iload 4, 2) := by decide +kernel
theorem dX12_placed_77 : decode cX12_placed 77 = .ok (.iadd, 1) := by decide +kernel
theorem dX12_placed_78 : decode cX12_placed 78 = .ok (.goto 4, 3) := by decide +kernel
theorem dX12_placed_81 : decode cX12_placed 81 = .ok (.iconst (-1), 1) := by decide +kernel
theorem dX12_placed_82 : decode cX12_placed 82 = .ok (.ireturn, 1) := by decide +kernel
theorem dX12_laysPut_0 : decode cX12_laysPut 0 = .ok (.iconst 0, 1) := by decide +kernel
theorem dX12_laysPut_1 : decode cX12_laysPut 1 = .ok (.istore_n 3, 1) := by decide +kernel
theorem dX12_laysPut_2 : decode cX12_laysPut 2 = .ok (.iload_n 3, 1) := by decide +kernel
theorem dX12_laysPut_3 : decode cX12_laysPut 3 = .ok (.bipush 8, 2) := by decide +kernel
theorem dX12_laysPut_5 : decode cX12_laysPut 5 = .ok (.if_icmp .ge 139, 3) := by decide +kernel
theorem dX12_laysPut_8 : decode cX12_laysPut 8 = .ok (.aload_n 0, 1) := by decide +kernel
theorem dX12_laysPut_9 : decode cX12_laysPut 9 = .ok (.getfield 13, 3) := by decide +kernel
theorem dX12_laysPut_12 : decode cX12_laysPut 12 = .ok (.iload_n 2, 1) := by decide +kernel
theorem dX12_laysPut_13 : decode cX12_laysPut 13 = .ok (.iaload, 1) := by decide +kernel
theorem dX12_laysPut_14 : decode cX12_laysPut 14 = .ok (.iload_n 3, 1) := by decide +kernel
theorem dX12_laysPut_15 : decode cX12_laysPut 15 = .ok (.invokestatic 240, 3) := by decide +kernel
theorem dX12_laysPut_18 : decode cX12_laysPut 18 = .ok (.istore 4, 2) := by decide +kernel
theorem dX12_laysPut_20 : decode cX12_laysPut 20 = .ok (.iconst 0, 1) := by decide +kernel
theorem dX12_laysPut_21 : decode cX12_laysPut 21 = .ok (.istore 5, 2) := by decide +kernel
theorem dX12_laysPut_23 : decode cX12_laysPut 23 = .ok (.iload 5, 2) := by decide +kernel
theorem dX12_laysPut_25 : decode cX12_laysPut 25 = .ok (.sipush 4096, 3) := by decide +kernel
theorem dX12_laysPut_28 : decode cX12_laysPut 28 = .ok (.if_icmp .ge 110, 3) := by decide +kernel
theorem dX12_laysPut_31 : decode cX12_laysPut 31 = .ok (.aload_n 0, 1) := by decide +kernel
theorem dX12_laysPut_32 : decode cX12_laysPut 32 = .ok (.getfield 47, 3) := by decide +kernel
theorem dX12_laysPut_35 : decode cX12_laysPut 35 = .ok (.iload 4, 2) := by decide +kernel
theorem dX12_laysPut_37 : decode cX12_laysPut 37 = .ok (.iload 5, 2) := by decide +kernel
theorem dX12_laysPut_39 : decode cX12_laysPut 39 = .ok (.iadd, 1) := by decide +kernel
theorem dX12_laysPut_40 : decode cX12_laysPut 40 = .ok (.baload, 1) := by decide +kernel
theorem dX12_laysPut_41 : decode cX12_laysPut 41 = .ok (.ifCond .ne 6, 3) := by decide +kernel
theorem dX12_laysPut_44 : decode cX12_laysPut 44 = .ok (.goto 88, 3) := by decide +kernel
theorem dX12_laysPut_47 : decode cX12_laysPut 47 = .ok (.aload_n 0, 1) := by decide +kernel
theorem dX12_laysPut_48 : decode cX12_laysPut 48 = .ok (.iload_n 2, 1) := by decide +kernel
theorem dX12_laysPut_49 : decode cX12_laysPut 49 = .ok (.iload 5, 2) := by decide +kernel
theorem dX12_laysPut_51 : decode cX12_laysPut 51 = .ok (.invokevirtual 254, 3) := by decide +kernel
theorem dX12_laysPut_54 : decode cX12_laysPut 54 = .ok (.iconst 0, 1) := by decide +kernel
theorem dX12_laysPut_55 : decode cX12_laysPut 55 = .ok (.istore 6, 2) := by decide +kernel
theorem dX12_laysPut_57 : decode cX12_laysPut 57 = .ok (.iload 6, 2) := by decide +kernel
theorem dX12_laysPut_59 : decode cX12_laysPut 59 = .ok (.aload_n 0, 1) := by decide +kernel
theorem dX12_laysPut_60 : decode cX12_laysPut 60 = .ok (.getfield 28, 3) := by decide +kernel
theorem dX12_laysPut_63 : decode cX12_laysPut 63 = .ok (.iload_n 2, 1) := by decide +kernel
theorem dX12_laysPut_64 : decode cX12_laysPut 64 = .ok (.iaload, 1) := by decide +kernel
theorem dX12_laysPut_65 : decode cX12_laysPut 65 = .ok (.sipush 200, 3) := by decide +kernel
theorem dX12_laysPut_68 : decode cX12_laysPut 68 = .ok (.idiv, 1) := by decide +kernel
theorem dX12_laysPut_69 : decode cX12_laysPut 69 = .ok (.if_icmp .ge 63, 3) := by decide +kernel
theorem dX12_laysPut_72 : decode cX12_laysPut 72 = .ok (.iconst 0, 1) := by decide +kernel
theorem dX12_laysPut_73 : decode cX12_laysPut 73 = .ok (.istore 7, 2) := by decide +kernel
theorem dX12_laysPut_75 : decode cX12_laysPut 75 = .ok (.iload 7, 2) := by decide +kernel
theorem dX12_laysPut_77 : decode cX12_laysPut 77 = .ok (.aload_n 0, 1) := by decide +kernel
theorem dX12_laysPut_78 : decode cX12_laysPut 78 = .ok (.getfield 25, 3) := by decide +kernel
theorem dX12_laysPut_81 : decode cX12_laysPut 81 = .ok (.iload_n 2, 1) := by decide +kernel
theorem dX12_laysPut_82 : decode cX12_laysPut 82 = .ok (.iaload, 1) := by decide +kernel
theorem dX12_laysPut_83 : decode cX12_laysPut 83 = .ok (.sipush 200, 3) := by decide +kernel
theorem dX12_laysPut_86 : decode cX12_laysPut 86 = .ok (.idiv, 1) := by decide +kernel
theorem dX12_laysPut_87 : decode cX12_laysPut 87 = .ok (.if_icmp .ge 39, 3) := by decide +kernel
theorem dX12_laysPut_90 : decode cX12_laysPut 90 = .ok (.aload_n 0, 1) := by decide +kernel
theorem dX12_laysPut_91 : decode cX12_laysPut 91 = .ok (.iload_n 2, 1) := by decide +kernel
theorem dX12_laysPut_92 : decode cX12_laysPut 92 = .ok (.iload 7, 2) := by decide +kernel
theorem dX12_laysPut_94 : decode cX12_laysPut 94 = .ok (.iload 6, 2) := by decide +kernel
theorem dX12_laysPut_96 : decode cX12_laysPut 96 = .ok (.invokevirtual 258, 3) := by decide +kernel
theorem dX12_laysPut_99 : decode cX12_laysPut 99 = .ok (.istore 8, 2) := by decide +kernel
theorem dX12_laysPut_101 : decode cX12_laysPut 101 = .ok (.iload 8, 2) := by decide +kernel
theorem dX12_laysPut_103 : decode cX12_laysPut 103 = .ok (.ifCond .lt 17, 3) := by decide +kernel
theorem dX12_laysPut_106 : decode cX12_laysPut 106 = .ok (.aload_n 0, 1) := by decide +kernel
theorem dX12_laysPut_107 : decode cX12_laysPut 107 = .ok (.getfield 47, 3) := by decide +kernel
theorem dX12_laysPut_110 : decode cX12_laysPut 110 = .ok (.iload_n 1, 1) := by decide +kernel
theorem dX12_laysPut_111 : decode cX12_laysPut 111 = .ok (.iload_n 3, 1) := by decide +kernel
theorem dX12_laysPut_112 : decode cX12_laysPut 112 = .ok (.invokestatic 240, 3) := by decide +kernel
theorem dX12_laysPut_115 : decode cX12_laysPut 115 = .ok (.iload 8, 2) := by decide +kernel
theorem dX12_laysPut_117 : decode cX12_laysPut 117 = .ok (.iadd, 1) := by decide +kernel
theorem dX12_laysPut_118 : decode cX12_laysPut 118 = .ok (.iconst 1, 1) := by decide +kernel
theorem dX12_laysPut_119 : decode cX12_laysPut 119 = .ok (.bastore, 1) := by decide +kernel
theorem dX12_laysPut_120 : decode cX12_laysPut 120 = .ok (.iinc 7 1, 3) := by decide +kernel
theorem dX12_laysPut_123 : decode cX12_laysPut 123 = .ok (.goto (-48), 3) := by decide +kernel
theorem dX12_laysPut_126 : decode cX12_laysPut 126 = .ok (.iinc 6 1, 3) := by decide +kernel
theorem dX12_laysPut_129 : decode cX12_laysPut 129 = .ok (.goto (-72), 3) := by decide +kernel
theorem dX12_laysPut_132 : decode cX12_laysPut 132 = .ok (.iinc 5 1, 3) := by decide +kernel
theorem dX12_laysPut_135 : decode cX12_laysPut 135 = .ok (.goto (-112), 3) := by decide +kernel
theorem dX12_laysPut_138 : decode cX12_laysPut 138 = .ok (.iinc 3 1, 3) := by decide +kernel
theorem dX12_laysPut_141 : decode cX12_laysPut 141 = .ok (.goto (-139), 3) := by decide +kernel
theorem dX12_laysPut_144 : decode cX12_laysPut 144 = .ok (.return_, 1) := by decide +kernel
theorem dX12_addText_0 : decode cX12_addText 0 = .ok (.aload_n 0, 1) := by decide +kernel
theorem dX12_addText_1 : decode cX12_addText 1 = .ok (.getfield 60, 3) := by decide +kernel
theorem dX12_addText_4 : decode cX12_addText 4 = .ok (.iload_n 1, 1) := by decide +kernel
theorem dX12_addText_5 : decode cX12_addText 5 = .ok (.iaload, 1) := by decide +kernel
theorem dX12_addText_6 : decode cX12_addText 6 = .ok (.sipush 200, 3) := by decide +kernel
theorem dX12_addText_9 : decode cX12_addText 9 = .ok (.if_icmp .ne 4, 3) := by decide +kernel
theorem dX12_addText_12 : decode cX12_addText 12 = .ok (.return_, 1) := by decide +kernel
theorem dX12_addText_13 : decode cX12_addText 13 = .ok (.sipush 200, 3) := by decide +kernel
theorem dX12_addText_16 : decode cX12_addText 16 = .ok (.iload_n 1, 1) := by decide +kernel
theorem dX12_addText_17 : decode cX12_addText 17 = .ok (.imul, 1) := by decide +kernel
theorem dX12_addText_18 : decode cX12_addText 18 = .ok (.aload_n 0, 1) := by decide +kernel
theorem dX12_addText_19 : decode cX12_addText 19 = .ok (.getfield 60, 3) := by decide +kernel
theorem dX12_addText_22 : decode cX12_addText 22 = .ok (.iload_n 1, 1) := by decide +kernel
theorem dX12_addText_23 : decode cX12_addText 23 = .ok (.iaload, 1) := by decide +kernel
theorem dX12_addText_24 : decode cX12_addText 24 = .ok (.iadd, 1) := by decide +kernel
theorem dX12_addText_25 : decode cX12_addText 25 = .ok (.istore 5, 2) := by decide +kernel
theorem dX12_addText_27 : decode cX12_addText 27 = .ok (.aload_n 0, 1) := by decide +kernel
theorem dX12_addText_28 : decode cX12_addText 28 = .ok (.getfield 51, 3) := by decide +kernel
theorem dX12_addText_31 : decode cX12_addText 31 = .ok (.iload 5, 2) := by decide +kernel
theorem dX12_addText_33 : decode cX12_addText 33 = .ok (.iload_n 2, 1) := by decide +kernel
theorem dX12_addText_34 : decode cX12_addText 34 = .ok (.iastore, 1) := by decide +kernel
theorem dX12_addText_35 : decode cX12_addText 35 = .ok (.aload_n 0, 1) := by decide +kernel
theorem dX12_addText_36 : decode cX12_addText 36 = .ok (.getfield 54, 3) := by decide +kernel
theorem dX12_addText_39 : decode cX12_addText 39 = .ok (.iload 5, 2) := by decide +kernel
theorem dX12_addText_41 : decode cX12_addText 41 = .ok (.iload_n 3, 1) := by decide +kernel
theorem dX12_addText_42 : decode cX12_addText 42 = .ok (.iastore, 1) := by decide +kernel
theorem dX12_addText_43 : decode cX12_addText 43 = .ok (.aload_n 0, 1) := by decide +kernel
theorem dX12_addText_44 : decode cX12_addText 44 = .ok (.getfield 57, 3) := by decide +kernel
theorem dX12_addText_47 : decode cX12_addText 47 = .ok (.iload 5, 2) := by decide +kernel
theorem dX12_addText_49 : decode cX12_addText 49 = .ok (.iload 4, 2) := by decide +kernel
theorem dX12_addText_51 : decode cX12_addText 51 = .ok (.iastore, 1) := by decide +kernel
theorem dX12_addText_52 : decode cX12_addText 52 = .ok (.aload_n 0, 1) := by decide +kernel
theorem dX12_addText_53 : decode cX12_addText 53 = .ok (.getfield 60, 3) := by decide +kernel
theorem dX12_addText_56 : decode cX12_addText 56 = .ok (.iload_n 1, 1) := by decide +kernel
theorem dX12_addText_57 : decode cX12_addText 57 = .ok (.dup2, 1) := by decide +kernel
theorem dX12_addText_58 : decode cX12_addText 58 = .ok (.iaload, 1) := by decide +kernel
theorem dX12_addText_59 : decode cX12_addText 59 = .ok (.iconst 1, 1) := by decide +kernel
theorem dX12_addText_60 : decode cX12_addText 60 = .ok (.iadd, 1) := by decide +kernel
theorem dX12_addText_61 : decode cX12_addText 61 = .ok (.iastore, 1) := by decide +kernel
theorem dX12_addText_62 : decode cX12_addText 62 = .ok (.return_, 1) := by decide +kernel
theorem dX12_textsOf_0 : decode cX12_textsOf 0 = .ok (.aload_n 0, 1) := by decide +kernel
theorem dX12_textsOf_1 : decode cX12_textsOf 1 = .ok (.getfield 13, 3) := by decide +kernel
theorem dX12_textsOf_4 : decode cX12_textsOf 4 = .ok (.iload_n 2, 1) := by decide +kernel
theorem dX12_textsOf_5 : decode cX12_textsOf 5 = .ok (.iaload, 1) := by decide +kernel
theorem dX12_textsOf_6 : decode cX12_textsOf 6 = .ok (.istore_n 3, 1) := by decide +kernel
theorem dX12_textsOf_7 : decode cX12_textsOf 7 = .ok (.iconst 0, 1) := by decide +kernel
theorem dX12_textsOf_8 : decode cX12_textsOf 8 = .ok (.istore 4, 2) := by decide +kernel
theorem dX12_textsOf_10 : decode cX12_textsOf 10 = .ok (.iload 4, 2) := by decide +kernel
theorem dX12_textsOf_12 : decode cX12_textsOf 12 = .ok (.aload_n 0, 1) := by decide +kernel
theorem dX12_textsOf_13 : decode cX12_textsOf 13 = .ok (.getfield 28, 3) := by decide +kernel
theorem dX12_textsOf_16 : decode cX12_textsOf 16 = .ok (.iload_n 2, 1) := by decide +kernel
theorem dX12_textsOf_17 : decode cX12_textsOf 17 = .ok (.iaload, 1) := by decide +kernel
theorem dX12_textsOf_18 : decode cX12_textsOf 18 = .ok (.sipush 200, 3) := by decide +kernel
theorem dX12_textsOf_21 : decode cX12_textsOf 21 = .ok (.idiv, 1) := by decide +kernel
theorem dX12_textsOf_22 : decode cX12_textsOf 22 = .ok (.if_icmp .ge 112, 3) := by decide +kernel
theorem dX12_textsOf_25 : decode cX12_textsOf 25 = .ok (.iconst 0, 1) := by decide +kernel
theorem dX12_textsOf_26 : decode cX12_textsOf 26 = .ok (.istore 5, 2) := by decide +kernel
theorem dX12_textsOf_28 : decode cX12_textsOf 28 = .ok (.iload 5, 2) := by decide +kernel
theorem dX12_textsOf_30 : decode cX12_textsOf 30 = .ok (.aload_n 0, 1) := by decide +kernel
theorem dX12_textsOf_31 : decode cX12_textsOf 31 = .ok (.getfield 25, 3) := by decide +kernel
theorem dX12_textsOf_34 : decode cX12_textsOf 34 = .ok (.iload_n 2, 1) := by decide +kernel
theorem dX12_textsOf_35 : decode cX12_textsOf 35 = .ok (.iaload, 1) := by decide +kernel
theorem dX12_textsOf_36 : decode cX12_textsOf 36 = .ok (.sipush 200, 3) := by decide +kernel
theorem dX12_textsOf_39 : decode cX12_textsOf 39 = .ok (.idiv, 1) := by decide +kernel
theorem dX12_textsOf_40 : decode cX12_textsOf 40 = .ok (.if_icmp .ge 88, 3) := by decide +kernel
theorem dX12_textsOf_43 : decode cX12_textsOf 43 = .ok (.sipush 200, 3) := by decide +kernel
theorem dX12_textsOf_46 : decode cX12_textsOf 46 = .ok (.iload_n 3, 1) := by decide +kernel
theorem dX12_textsOf_47 : decode cX12_textsOf 47 = .ok (.imul, 1) := by decide +kernel
theorem dX12_textsOf_48 : decode cX12_textsOf 48 = .ok (.istore 6, 2) := by decide +kernel
theorem dX12_textsOf_50 : decode cX12_textsOf 50 = .ok (.iload 6, 2) := by decide +kernel
theorem dX12_textsOf_52 : decode cX12_textsOf 52 = .ok (.sipush 200, 3) := by decide +kernel
theorem dX12_textsOf_55 : decode cX12_textsOf 55 = .ok (.iload_n 3, 1) := by decide +kernel
theorem dX12_textsOf_56 : decode cX12_textsOf 56 = .ok (.imul, 1) := by decide +kernel
theorem dX12_textsOf_57 : decode cX12_textsOf 57 = .ok (.aload_n 0, 1) := by decide +kernel
theorem dX12_textsOf_58 : decode cX12_textsOf 58 = .ok (.getfield 60, 3) := by decide +kernel
theorem dX12_textsOf_61 : decode cX12_textsOf 61 = .ok (.iload_n 3, 1) := by decide +kernel
theorem dX12_textsOf_62 : decode cX12_textsOf 62 = .ok (.iaload, 1) := by decide +kernel
theorem dX12_textsOf_63 : decode cX12_textsOf 63 = .ok (.iadd, 1) := by decide +kernel
theorem dX12_textsOf_64 : decode cX12_textsOf 64 = .ok (.if_icmp .ge 58, 3) := by decide +kernel
theorem dX12_textsOf_67 : decode cX12_textsOf 67 = .ok (.aload_n 0, 1) := by decide +kernel
theorem dX12_textsOf_68 : decode cX12_textsOf 68 = .ok (.iload_n 2, 1) := by decide +kernel
theorem dX12_textsOf_69 : decode cX12_textsOf 69 = .ok (.aload_n 0, 1) := by decide +kernel
theorem dX12_textsOf_70 : decode cX12_textsOf 70 = .ok (.getfield 54, 3) := by decide +kernel
theorem dX12_textsOf_73 : decode cX12_textsOf 73 = .ok (.iload 6, 2) := by decide +kernel
theorem dX12_textsOf_75 : decode cX12_textsOf 75 = .ok (.iaload, 1) := by decide +kernel
theorem dX12_textsOf_76 : decode cX12_textsOf 76 = .ok (.invokevirtual 254, 3) := by decide +kernel
theorem dX12_textsOf_79 : decode cX12_textsOf 79 = .ok (.aload_n 0, 1) := by decide +kernel
theorem dX12_textsOf_80 : decode cX12_textsOf 80 = .ok (.iload_n 2, 1) := by decide +kernel
theorem dX12_textsOf_81 : decode cX12_textsOf 81 = .ok (.iload 5, 2) := by decide +kernel
theorem dX12_textsOf_83 : decode cX12_textsOf 83 = .ok (.iload 4, 2) := by decide +kernel
theorem dX12_textsOf_85 : decode cX12_textsOf 85 = .ok (.invokevirtual 258, 3) := by decide +kernel
theorem dX12_textsOf_88 : decode cX12_textsOf 88 = .ok (.istore 7, 2) := by decide +kernel
theorem dX12_textsOf_90 : decode cX12_textsOf 90 = .ok (.iload 7, 2) := by decide +kernel
theorem dX12_textsOf_92 : decode cX12_textsOf 92 = .ok (.ifCond .lt 24, 3) := by decide +kernel
theorem dX12_textsOf_95 : decode cX12_textsOf 95 = .ok (.aload_n 0, 1) := by decide +kernel
theorem dX12_textsOf_96 : decode cX12_textsOf 96 = .ok (.iload_n 1, 1) := by decide +kernel
theorem dX12_textsOf_97 : decode cX12_textsOf 97 = .ok (.aload_n 0, 1) := by decide +kernel
theorem dX12_textsOf_98 : decode cX12_textsOf 98 = .ok (.getfield 51, 3) := by decide +kernel
theorem dX12_textsOf_101 : decode cX12_textsOf 101 = .ok (.iload 6, 2) := by decide +kernel
theorem dX12_textsOf_103 : decode cX12_textsOf 103 = .ok (.iaload, 1) := by decide +kernel
theorem dX12_textsOf_104 : decode cX12_textsOf 104 = .ok (.iload 7, 2) := by decide +kernel
theorem dX12_textsOf_106 : decode cX12_textsOf 106 = .ok (.aload_n 0, 1) := by decide +kernel
theorem dX12_textsOf_107 : decode cX12_textsOf 107 = .ok (.getfield 57, 3) := by decide +kernel
theorem dX12_textsOf_110 : decode cX12_textsOf 110 = .ok (.iload 6, 2) := by decide +kernel
theorem dX12_textsOf_112 : decode cX12_textsOf 112 = .ok (.iaload, 1) := by decide +kernel
theorem dX12_textsOf_113 : decode cX12_textsOf 113 = .ok (.invokevirtual 262, 3) := by decide +kernel
theorem dX12_textsOf_116 : decode cX12_textsOf 116 = .ok (.iinc 6 1, 3) := by decide +kernel
theorem dX12_textsOf_119 : decode cX12_textsOf 119 = .ok (.goto (-69), 3) := by decide +kernel
theorem dX12_textsOf_122 : decode cX12_textsOf 122 = .ok (.iinc 5 1, 3) := by decide +kernel
theorem dX12_textsOf_125 : decode cX12_textsOf 125 = .ok (.goto (-97), 3) := by decide +kernel
theorem dX12_textsOf_128 : decode cX12_textsOf 128 = .ok (.iinc 4 1, 3) := by decide +kernel
theorem dX12_textsOf_131 : decode cX12_textsOf 131 = .ok (.goto (-121), 3) := by decide +kernel
theorem dX12_textsOf_134 : decode cX12_textsOf 134 = .ok (.return_, 1) := by decide +kernel
theorem dX12_lays_0 : decode cX12_lays 0 = .ok (.aload_n 0, 1) := by decide +kernel
theorem dX12_lays_1 : decode cX12_lays 1 = .ok (.iload_n 1, 1) := by decide +kernel
theorem dX12_lays_2 : decode cX12_lays 2 = .ok (.invokevirtual 265, 3) := by decide +kernel
theorem dX12_lays_5 : decode cX12_lays 5 = .ok (.aload_n 0, 1) := by decide +kernel
theorem dX12_lays_6 : decode cX12_lays 6 = .ok (.getfield 60, 3) := by decide +kernel
theorem dX12_lays_9 : decode cX12_lays 9 = .ok (.iload_n 1, 1) := by decide +kernel
theorem dX12_lays_10 : decode cX12_lays 10 = .ok (.iconst 0, 1) := by decide +kernel
theorem dX12_lays_11 : decode cX12_lays 11 = .ok (.iastore, 1) := by decide +kernel
theorem dX12_lays_12 : decode cX12_lays 12 = .ok (.bipush 16, 2) := by decide +kernel
theorem dX12_lays_14 : decode cX12_lays 14 = .ok (.iload_n 1, 1) := by decide +kernel
theorem dX12_lays_15 : decode cX12_lays 15 = .ok (.imul, 1) := by decide +kernel
theorem dX12_lays_16 : decode cX12_lays 16 = .ok (.istore_n 2, 1) := by decide +kernel
theorem dX12_lays_17 : decode cX12_lays 17 = .ok (.iload_n 2, 1) := by decide +kernel
theorem dX12_lays_18 : decode cX12_lays 18 = .ok (.istore_n 3, 1) := by decide +kernel
theorem dX12_lays_19 : decode cX12_lays 19 = .ok (.iload_n 3, 1) := by decide +kernel
theorem dX12_lays_20 : decode cX12_lays 20 = .ok (.iload_n 2, 1) := by decide +kernel
theorem dX12_lays_21 : decode cX12_lays 21 = .ok (.aload_n 0, 1) := by decide +kernel
theorem dX12_lays_22 : decode cX12_lays 22 = .ok (.getfield 31, 3) := by decide +kernel
theorem dX12_lays_25 : decode cX12_lays 25 = .ok (.iload_n 1, 1) := by decide +kernel
theorem dX12_lays_26 : decode cX12_lays 26 = .ok (.iaload, 1) := by decide +kernel
theorem dX12_lays_27 : decode cX12_lays 27 = .ok (.iadd, 1) := by decide +kernel
theorem dX12_lays_28 : decode cX12_lays 28 = .ok (.if_icmp .ge 42, 3) := by decide +kernel
theorem dX12_lays_31 : decode cX12_lays 31 = .ok (.aload_n 0, 1) := by decide +kernel
theorem dX12_lays_32 : decode cX12_lays 32 = .ok (.getfield 7, 3) := by decide +kernel
theorem dX12_lays_35 : decode cX12_lays 35 = .ok (.iload_n 3, 1) := by decide +kernel
theorem dX12_lays_36 : decode cX12_lays 36 = .ok (.iaload, 1) := by decide +kernel
theorem dX12_lays_37 : decode cX12_lays 37 = .ok (.iconst 3, 1) := by decide +kernel
theorem dX12_lays_38 : decode cX12_lays 38 = .ok (.if_icmp .ne 26, 3) := by decide +kernel
theorem dX12_lays_41 : decode cX12_lays 41 = .ok (.aload_n 0, 1) := by decide +kernel
theorem dX12_lays_42 : decode cX12_lays 42 = .ok (.iload_n 1, 1) := by decide +kernel
theorem dX12_lays_43 : decode cX12_lays 43 = .ok (.aload_n 0, 1) := by decide +kernel
theorem dX12_lays_44 : decode cX12_lays 44 = .ok (.getfield 13, 3) := by decide +kernel
theorem dX12_lays_47 : decode cX12_lays 47 = .ok (.iload_n 3, 1) := by decide +kernel
theorem dX12_lays_48 : decode cX12_lays 48 = .ok (.iaload, 1) := by decide +kernel
theorem dX12_lays_49 : decode cX12_lays 49 = .ok (.aload_n 0, 1) := by decide +kernel
theorem dX12_lays_50 : decode cX12_lays 50 = .ok (.getfield 16, 3) := by decide +kernel
theorem dX12_lays_53 : decode cX12_lays 53 = .ok (.iload_n 3, 1) := by decide +kernel
theorem dX12_lays_54 : decode cX12_lays 54 = .ok (.iaload, 1) := by decide +kernel
theorem dX12_lays_55 : decode cX12_lays 55 = .ok (.aload_n 0, 1) := by decide +kernel
theorem dX12_lays_56 : decode cX12_lays 56 = .ok (.getfield 19, 3) := by decide +kernel
theorem dX12_lays_59 : decode cX12_lays 59 = .ok (.iload_n 3, 1) := by decide +kernel
theorem dX12_lays_60 : decode cX12_lays 60 = .ok (.iaload, 1) := by decide +kernel
theorem dX12_lays_61 : decode cX12_lays 61 = .ok (.invokevirtual 262, 3) := by decide +kernel
theorem dX12_lays_64 : decode cX12_lays 64 = .ok (.iinc 3 1, 3) := by decide +kernel
theorem dX12_lays_67 : decode cX12_lays 67 = .ok (.goto (-48), 3) := by decide +kernel
theorem dX12_lays_70 : decode cX12_lays 70 = .ok (.iload_n 2, 1) := by decide +kernel
theorem dX12_lays_71 : decode cX12_lays 71 = .ok (.istore_n 3, 1) := by decide +kernel
theorem dX12_lays_72 : decode cX12_lays 72 = .ok (.iload_n 3, 1) := by decide +kernel
theorem dX12_lays_73 : decode cX12_lays 73 = .ok (.iload_n 2, 1) := by decide +kernel
theorem dX12_lays_74 : decode cX12_lays 74 = .ok (.aload_n 0, 1) := by decide +kernel
theorem dX12_lays_75 : decode cX12_lays 75 = .ok (.getfield 31, 3) := by decide +kernel
theorem dX12_lays_78 : decode cX12_lays 78 = .ok (.iload_n 1, 1) := by decide +kernel
theorem dX12_lays_79 : decode cX12_lays 79 = .ok (.iaload, 1) := by decide +kernel
theorem dX12_lays_80 : decode cX12_lays 80 = .ok (.iadd, 1) := by decide +kernel
theorem dX12_lays_81 : decode cX12_lays 81 = .ok (.if_icmp .ge 34, 3) := by decide +kernel
theorem dX12_lays_84 : decode cX12_lays 84 = .ok (.aload_n 0, 1) := by decide +kernel
theorem dX12_lays_85 : decode cX12_lays 85 = .ok (.getfield 7, 3) := by decide +kernel
theorem dX12_lays_88 : decode cX12_lays 88 = .ok (.iload_n 3, 1) := by decide +kernel
theorem dX12_lays_89 : decode cX12_lays 89 = .ok (.iaload, 1) := by decide +kernel
theorem dX12_lays_90 : decode cX12_lays 90 = .ok (.iconst 4, 1) := by decide +kernel
theorem dX12_lays_91 : decode cX12_lays 91 = .ok (.if_icmp .eq 6, 3) := by decide +kernel
theorem dX12_lays_94 : decode cX12_lays 94 = .ok (.goto 15, 3) := by decide +kernel
theorem dX12_lays_97 : decode cX12_lays 97 = .ok (.aload_n 0, 1) := by decide +kernel
theorem dX12_lays_98 : decode cX12_lays 98 = .ok (.iload_n 1, 1) := by decide +kernel
theorem dX12_lays_99 : decode cX12_lays 99 = .ok (.iload_n 3, 1) := by decide +kernel
theorem dX12_lays_100 : decode cX12_lays 100 = .ok (.invokevirtual 269, 3) := by decide +kernel
theorem dX12_lays_103 : decode cX12_lays 103 = .ok (.aload_n 0, 1) := by decide +kernel
theorem dX12_lays_104 : decode cX12_lays 104 = .ok (.iload_n 1, 1) := by decide +kernel
theorem dX12_lays_105 : decode cX12_lays 105 = .ok (.iload_n 3, 1) := by decide +kernel
theorem dX12_lays_106 : decode cX12_lays 106 = .ok (.invokevirtual 272, 3) := by decide +kernel
theorem dX12_lays_109 : decode cX12_lays 109 = .ok (.iinc 3 1, 3) := by decide +kernel
theorem dX12_lays_112 : decode cX12_lays 112 = .ok (.goto (-40), 3) := by decide +kernel
theorem dX12_lays_115 : decode cX12_lays 115 = .ok (.return_, 1) := by decide +kernel
theorem dX12_made_0 : decode cX12_made 0 = .ok (.iload_n 2, 1) := by decide +kernel
theorem dX12_made_1 : decode cX12_made 1 = .ok (.ifCond .eq 18, 3) := by decide +kernel
theorem dX12_made_4 : decode cX12_made 4 = .ok (.iload_n 2, 1) := by decide +kernel
theorem dX12_made_5 : decode cX12_made 5 = .ok (.iconst 1, 1) := by decide +kernel
theorem dX12_made_6 : decode cX12_made 6 = .ok (.if_icmp .eq 13, 3) := by decide +kernel
theorem dX12_made_9 : decode cX12_made 9 = .ok (.iload_n 2, 1) := by decide +kernel
theorem dX12_made_10 : decode cX12_made 10 = .ok (.iconst 2, 1) := by decide +kernel
theorem dX12_made_11 : decode cX12_made 11 = .ok (.if_icmp .eq 8, 3) := by decide +kernel
theorem dX12_made_14 : decode cX12_made 14 = .ok (.iload_n 2, 1) := by decide +kernel
theorem dX12_made_15 : decode cX12_made 15 = .ok (.iconst 5, 1) := by decide +kernel
theorem dX12_made_16 : decode cX12_made 16 = .ok (.if_icmp .ne 7, 3) := by decide +kernel
theorem dX12_made_19 : decode cX12_made 19 = .ok (.iconst 1, 1) := by decide +kernel
theorem dX12_made_20 : decode cX12_made 20 = .ok (.goto 4, 3) := by decide +kernel
theorem dX12_made_23 : decode cX12_made 23 = .ok (.iconst 0, 1) := by decide +kernel
theorem dX12_made_24 : decode cX12_made 24 = .ok (.istore 5, 2) := by decide +kernel
theorem dX12_made_26 : decode cX12_made 26 = .ok (.iload_n 1, 1) := by decide +kernel
theorem dX12_made_27 : decode cX12_made 27 = .ok (.i2l, 1) := by decide +kernel
theorem dX12_made_28 : decode cX12_made 28 = .ok (.ldc2_w 275, 3) := by decide +kernel
theorem dX12_made_31 : decode cX12_made 31 = .ok (.ldc2_w 277, 3) := by decide +kernel
theorem dX12_made_34 : decode cX12_made 34 = .ok (.invokestatic 201, 3) := by decide +kernel
theorem dX12_made_37 : decode cX12_made 37 = .ok (.ifCond .eq 35, 3) := by decide +kernel
theorem dX12_made_40 : decode cX12_made 40 = .ok (.iload_n 3, 1) := by decide +kernel
theorem dX12_made_41 : decode cX12_made 41 = .ok (.i2l, 1) := by decide +kernel
theorem dX12_made_42 : decode cX12_made 42 = .ok (.lconst 0, 1) := by decide +kernel
theorem dX12_made_43 : decode cX12_made 43 = .ok (.iload_n 1, 1) := by decide +kernel
theorem dX12_made_44 : decode cX12_made 44 = .ok (.iconst 1, 1) := by decide +kernel
theorem dX12_made_45 : decode cX12_made 45 = .ok (.isub, 1) := by decide +kernel
theorem dX12_made_46 : decode cX12_made 46 = .ok (.i2l, 1) := by decide +kernel
theorem dX12_made_47 : decode cX12_made 47 = .ok (.invokestatic 201, 3) := by decide +kernel
theorem dX12_made_50 : decode cX12_made 50 = .ok (.ifCond .eq 22, 3) := by decide +kernel
theorem dX12_made_53 : decode cX12_made 53 = .ok (.iload 5, 2) := by decide +kernel
theorem dX12_made_55 : decode cX12_made 55 = .ok (.ifCond .eq 24, 3) := by decide +kernel
theorem dX12_made_58 : decode cX12_made 58 = .ok (.iload 4, 2) := by decide +kernel
theorem dX12_made_60 : decode cX12_made 60 = .ok (.i2l, 1) := by decide +kernel
theorem dX12_made_61 : decode cX12_made 61 = .ok (.lconst 0, 1) := by decide +kernel
theorem dX12_made_62 : decode cX12_made 62 = .ok (.iload_n 1, 1) := by decide +kernel
theorem dX12_made_63 : decode cX12_made 63 = .ok (.iconst 1, 1) := by decide +kernel
theorem dX12_made_64 : decode cX12_made 64 = .ok (.isub, 1) := by decide +kernel
theorem dX12_made_65 : decode cX12_made 65 = .ok (.i2l, 1) := by decide +kernel
theorem dX12_made_66 : decode cX12_made 66 = .ok (.invokestatic 201, 3) := by decide +kernel
theorem dX12_made_69 : decode cX12_made 69 = .ok (.ifCond .ne 10, 3) := by decide +kernel
theorem dX12_made_72 : decode cX12_made 72 = .ok (.aload_n 0, 1) := by decide +kernel
theorem dX12_made_73 : decode cX12_made 73 = .ok (.bipush (-3), 2) := by decide +kernel
theorem dX12_made_75 : decode cX12_made 75 = .ok (.invokevirtual 191, 3) := by decide +kernel
theorem dX12_made_78 : decode cX12_made 78 = .ok (.ireturn, 1) := by decide +kernel
theorem dX12_made_79 : decode cX12_made 79 = .ok (.iload_n 2, 1) := by decide +kernel
theorem dX12_made_80 : decode cX12_made 80 = .ok (.i2l, 1) := by decide +kernel
theorem dX12_made_81 : decode cX12_made 81 = .ok (.lconst 0, 1) := by decide +kernel
theorem dX12_made_82 : decode cX12_made 82 = .ok (.ldc2_w 279, 3) := by decide +kernel
theorem dX12_made_85 : decode cX12_made 85 = .ok (.invokestatic 201, 3) := by decide +kernel
theorem dX12_made_88 : decode cX12_made 88 = .ok (.ifCond .eq 21, 3) := by decide +kernel
theorem dX12_made_91 : decode cX12_made 91 = .ok (.iload 5, 2) := by decide +kernel
theorem dX12_made_93 : decode cX12_made 93 = .ok (.ifCond .ne 23, 3) := by decide +kernel
theorem dX12_made_96 : decode cX12_made 96 = .ok (.iload 4, 2) := by decide +kernel
theorem dX12_made_98 : decode cX12_made 98 = .ok (.i2l, 1) := by decide +kernel
theorem dX12_made_99 : decode cX12_made 99 = .ok (.lconst 0, 1) := by decide +kernel
theorem dX12_made_100 : decode cX12_made 100 = .ok (.ldc2_w 214, 3) := by decide +kernel
theorem dX12_made_103 : decode cX12_made 103 = .ok (.invokestatic 201, 3) := by decide +kernel
theorem dX12_made_106 : decode cX12_made 106 = .ok (.ifCond .ne 10, 3) := by decide +kernel
theorem dX12_made_109 : decode cX12_made 109 = .ok (.aload_n 0, 1) := by decide +kernel
theorem dX12_made_110 : decode cX12_made 110 = .ok (.bipush (-7), 2) := by decide +kernel
theorem dX12_made_112 : decode cX12_made 112 = .ok (.invokevirtual 191, 3) := by decide +kernel
theorem dX12_made_115 : decode cX12_made 115 = .ok (.ireturn, 1) := by decide +kernel
theorem dX12_made_116 : decode cX12_made 116 = .ok (.aload_n 0, 1) := by decide +kernel
theorem dX12_made_117 : decode cX12_made 117 = .ok (.getfield 34, 3) := by decide +kernel
theorem dX12_made_120 : decode cX12_made 120 = .ok (.iload_n 1, 1) := by decide +kernel
theorem dX12_made_121 : decode cX12_made 121 = .ok (.iload_n 2, 1) := by decide +kernel
theorem dX12_made_122 : decode cX12_made 122 = .ok (.iastore, 1) := by decide +kernel
theorem dX12_made_123 : decode cX12_made 123 = .ok (.aload_n 0, 1) := by decide +kernel
theorem dX12_made_124 : decode cX12_made 124 = .ok (.getfield 37, 3) := by decide +kernel
theorem dX12_made_127 : decode cX12_made 127 = .ok (.iload_n 1, 1) := by decide +kernel
theorem dX12_made_128 : decode cX12_made 128 = .ok (.iload_n 3, 1) := by decide +kernel
theorem dX12_made_129 : decode cX12_made 129 = .ok (.iastore, 1) := by decide +kernel
theorem dX12_made_130 : decode cX12_made 130 = .ok (.aload_n 0, 1) := by decide +kernel
theorem dX12_made_131 : decode cX12_made 131 = .ok (.getfield 40, 3) := by decide +kernel
theorem dX12_made_134 : decode cX12_made 134 = .ok (.iload_n 1, 1) := by decide +kernel
theorem dX12_made_135 : decode cX12_made 135 = .ok (.iload 4, 2) := by decide +kernel
theorem dX12_made_137 : decode cX12_made 137 = .ok (.iastore, 1) := by decide +kernel
theorem dX12_made_138 : decode cX12_made 138 = .ok (.iconst 1, 1) := by decide +kernel
theorem dX12_made_139 : decode cX12_made 139 = .ok (.ireturn, 1) := by decide +kernel
theorem dX12_around_0 : decode cX12_around 0 = .ok (.iload_n 2, 1) := by decide +kernel
theorem dX12_around_1 : decode cX12_around 1 = .ok (.bipush 64, 2) := by decide +kernel
theorem dX12_around_3 : decode cX12_around 3 = .ok (.idiv, 1) := by decide +kernel
theorem dX12_around_4 : decode cX12_around 4 = .ok (.iload_n 3, 1) := by decide +kernel
theorem dX12_around_5 : decode cX12_around 5 = .ok (.isub, 1) := by decide +kernel
theorem dX12_around_6 : decode cX12_around 6 = .ok (.istore 5, 2) := by decide +kernel
theorem dX12_around_8 : decode cX12_around 8 = .ok (.iload 5, 2) := by decide +kernel
theorem dX12_around_10 : decode cX12_around 10 = .ok (.iload_n 2, 1) := by decide +kernel
theorem dX12_around_11 : decode cX12_around 11 = .ok (.bipush 64, 2) := by decide +kernel
theorem dX12_around_13 : decode cX12_around 13 = .ok (.idiv, 1) := by decide +kernel
theorem dX12_around_14 : decode cX12_around 14 = .ok (.iload_n 3, 1) := by decide +kernel
theorem dX12_around_15 : decode cX12_around 15 = .ok (.iadd, 1) := by decide +kernel
theorem dX12_around_16 : decode cX12_around 16 = .ok (.if_icmp .gt 99, 3) := by decide +kernel
theorem dX12_around_19 : decode cX12_around 19 = .ok (.iload_n 2, 1) := by decide +kernel
theorem dX12_around_20 : decode cX12_around 20 = .ok (.bipush 64, 2) := by decide +kernel
theorem dX12_around_22 : decode cX12_around 22 = .ok (.irem, 1) := by decide +kernel
theorem dX12_around_23 : decode cX12_around 23 = .ok (.iload_n 3, 1) := by decide +kernel
theorem dX12_around_24 : decode cX12_around 24 = .ok (.isub, 1) := by decide +kernel
theorem dX12_around_25 : decode cX12_around 25 = .ok (.istore 6, 2) := by decide +kernel
theorem dX12_around_27 : decode cX12_around 27 = .ok (.iload 6, 2) := by decide +kernel
theorem dX12_around_29 : decode cX12_around 29 = .ok (.iload_n 2, 1) := by decide +kernel
theorem dX12_around_30 : decode cX12_around 30 = .ok (.bipush 64, 2) := by decide +kernel
theorem dX12_around_32 : decode cX12_around 32 = .ok (.irem, 1) := by decide +kernel
theorem dX12_around_33 : decode cX12_around 33 = .ok (.iload_n 3, 1) := by decide +kernel
theorem dX12_around_34 : decode cX12_around 34 = .ok (.iadd, 1) := by decide +kernel
theorem dX12_around_35 : decode cX12_around 35 = .ok (.if_icmp .gt 74, 3) := by decide +kernel
theorem dX12_around_38 : decode cX12_around 38 = .ok (.iload 6, 2) := by decide +kernel
theorem dX12_around_40 : decode cX12_around 40 = .ok (.i2l, 1) := by decide +kernel
theorem dX12_around_41 : decode cX12_around 41 = .ok (.lconst 0, 1) := by decide +kernel
theorem dX12_around_42 : decode cX12_around 42 = .ok (.ldc2_w 227, 3) := by decide +kernel
theorem dX12_around_45 : decode cX12_around 45 = .ok (.invokestatic 201, 3) := by decide +kernel
theorem dX12_around_48 : decode cX12_around 48 = .ok (.ifCond .eq 42, 3) := by decide +kernel
theorem dX12_around_51 : decode cX12_around 51 = .ok (.iload 5, 2) := by decide +kernel
theorem dX12_around_53 : decode cX12_around 53 = .ok (.i2l, 1) := by decide +kernel
theorem dX12_around_54 : decode cX12_around 54 = .ok (.lconst 0, 1) := by decide +kernel
theorem dX12_around_55 : decode cX12_around 55 = .ok (.ldc2_w 227, 3) := by decide +kernel
theorem dX12_around_58 : decode cX12_around 58 = .ok (.invokestatic 201, 3) := by decide +kernel
theorem dX12_around_61 : decode cX12_around 61 = .ok (.ifCond .eq 29, 3) := by decide +kernel
theorem dX12_around_64 : decode cX12_around 64 = .ok (.aload_n 0, 1) := by decide +kernel
theorem dX12_around_65 : decode cX12_around 65 = .ok (.getfield 64, 3) := by decide +kernel
theorem dX12_around_68 : decode cX12_around 68 = .ok (.sipush 4096, 3) := by decide +kernel
theorem dX12_around_71 : decode cX12_around 71 = .ok (.iload_n 1, 1) := by decide +kernel
theorem dX12_around_72 : decode cX12_around 72 = .ok (.imul, 1) := by decide +kernel
theorem dX12_around_73 : decode cX12_around 73 = .ok (.bipush 64, 2) := by decide +kernel
theorem dX12_around_75 : decode cX12_around 75 = .ok (.iload 5, 2) := by decide +kernel
theorem dX12_around_77 : decode cX12_around 77 = .ok (.imul, 1) := by decide +kernel
theorem dX12_around_78 : decode cX12_around 78 = .ok (.iadd, 1) := by decide +kernel
theorem dX12_around_79 : decode cX12_around 79 = .ok (.iload 6, 2) := by decide +kernel
theorem dX12_around_81 : decode cX12_around 81 = .ok (.iadd, 1) := by decide +kernel
theorem dX12_around_82 : decode cX12_around 82 = .ok (.baload, 1) := by decide +kernel
theorem dX12_around_83 : decode cX12_around 83 = .ok (.ifCond .eq 7, 3) := by decide +kernel
theorem dX12_around_86 : decode cX12_around 86 = .ok (.iconst 1, 1) := by decide +kernel
theorem dX12_around_87 : decode cX12_around 87 = .ok (.goto 4, 3) := by decide +kernel
theorem dX12_around_90 : decode cX12_around 90 = .ok (.iconst 0, 1) := by decide +kernel
theorem dX12_around_91 : decode cX12_around 91 = .ok (.istore 7, 2) := by decide +kernel
theorem dX12_around_93 : decode cX12_around 93 = .ok (.iload 7, 2) := by decide +kernel
theorem dX12_around_95 : decode cX12_around 95 = .ok (.iload 4, 2) := by decide +kernel
theorem dX12_around_97 : decode cX12_around 97 = .ok (.if_icmp .eq 6, 3) := by decide +kernel
theorem dX12_around_100 : decode cX12_around 100 = .ok (.iload 7, 2) := by decide +kernel
theorem dX12_around_102 : decode cX12_around 102 = .ok (.ireturn, 1) := by decide +kernel
theorem dX12_around_103 : decode cX12_around 103 = .ok (.iinc 6 1, 3) := by decide +kernel
theorem dX12_around_106 : decode cX12_around 106 = .ok (.goto (-79), 3) := by decide +kernel
theorem dX12_around_109 : decode cX12_around 109 = .ok (.iinc 5 1, 3) := by decide +kernel
theorem dX12_around_112 : decode cX12_around 112 = .ok (.goto (-104), 3) := by decide +kernel
theorem dX12_around_115 : decode cX12_around 115 = .ok (.iload 4, 2) := by decide +kernel
theorem dX12_around_117 : decode cX12_around 117 = .ok (.ireturn, 1) := by decide +kernel
theorem dX12_makes_0 : decode cX12_makes 0 = .ok (.sipush 4096, 3) := by decide +kernel
theorem dX12_makes_3 : decode cX12_makes 3 = .ok (.iload_n 1, 1) := by decide +kernel
