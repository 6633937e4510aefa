theorem dX11_times_1 : decode cX11_times 1 = .ok (.bipush 8, 2) := by decide +kernel
theorem dX11_times_3 : decode cX11_times 3 = .ok (.invokestatic 60, 3) := by decide +kernel
theorem dX11_times_6 : decode cX11_times 6 = .ok (.ifCond .ne 19, 3) := by decide +kernel
theorem dX11_times_9 : decode cX11_times 9 = .ok (.iload_n 2, 1) := by decide +kernel
theorem dX11_times_10 : decode cX11_times 10 = .ok (.aload_n 0, 1) := by decide +kernel
theorem dX11_times_11 : decode cX11_times 11 = .ok (.getfield 11, 3) := by decide +kernel
theorem dX11_times_14 : decode cX11_times 14 = .ok (.iload_n 1, 1) := by decide +kernel
theorem dX11_times_15 : decode cX11_times 15 = .ok (.aaload, 1) := by decide +kernel
theorem dX11_times_16 : decode cX11_times 16 = .ok (.getfield 68, 3) := by decide +kernel
theorem dX11_times_19 : decode cX11_times 19 = .ok (.invokestatic 60, 3) := by decide +kernel
theorem dX11_times_22 : decode cX11_times 22 = .ok (.ifCond .eq 10, 3) := by decide +kernel
theorem dX11_times_25 : decode cX11_times 25 = .ok (.aload_n 0, 1) := by decide +kernel
theorem dX11_times_26 : decode cX11_times 26 = .ok (.bipush (-3), 2) := by decide +kernel
theorem dX11_times_28 : decode cX11_times 28 = .ok (.invokevirtual 64, 3) := by decide +kernel
theorem dX11_times_31 : decode cX11_times 31 = .ok (.ireturn, 1) := by decide +kernel
theorem dX11_times_32 : decode cX11_times 32 = .ok (.aload_n 0, 1) := by decide +kernel
theorem dX11_times_33 : decode cX11_times 33 = .ok (.getfield 11, 3) := by decide +kernel
theorem dX11_times_36 : decode cX11_times 36 = .ok (.iload_n 1, 1) := by decide +kernel
theorem dX11_times_37 : decode cX11_times 37 = .ok (.aaload, 1) := by decide +kernel
theorem dX11_times_38 : decode cX11_times 38 = .ok (.getfield 102, 3) := by decide +kernel
theorem dX11_times_41 : decode cX11_times 41 = .ok (.iload_n 2, 1) := by decide +kernel
theorem dX11_times_42 : decode cX11_times 42 = .ok (.aaload, 1) := by decide +kernel
theorem dX11_times_43 : decode cX11_times 43 = .ok (.astore 6, 2) := by decide +kernel
theorem dX11_times_45 : decode cX11_times 45 = .ok (.aload 6, 2) := by decide +kernel
theorem dX11_times_47 : decode cX11_times 47 = .ok (.instanceof 97, 3) := by decide +kernel
theorem dX11_times_50 : decode cX11_times 50 = .ok (.ifCond .eq 47, 3) := by decide +kernel
theorem dX11_times_53 : decode cX11_times 53 = .ok (.aload 6, 2) := by decide +kernel
theorem dX11_times_55 : decode cX11_times 55 = .ok (.checkcast 97, 3) := by decide +kernel
theorem dX11_times_58 : decode cX11_times 58 = .ok (.astore 5, 2) := by decide +kernel
theorem dX11_times_60 : decode cX11_times 60 = .ok (.iload_n 3, 1) := by decide +kernel
theorem dX11_times_61 : decode cX11_times 61 = .ok (.invokestatic 106, 3) := by decide +kernel
theorem dX11_times_64 : decode cX11_times 64 = .ok (.ifCond .eq 11, 3) := by decide +kernel
theorem dX11_times_67 : decode cX11_times 67 = .ok (.iload 4, 2) := by decide +kernel
theorem dX11_times_69 : decode cX11_times 69 = .ok (.invokestatic 106, 3) := by decide +kernel
theorem dX11_times_72 : decode cX11_times 72 = .ok (.ifCond .ne 10, 3) := by decide +kernel
theorem dX11_times_75 : decode cX11_times 75 = .ok (.aload_n 0, 1) := by decide +kernel
theorem dX11_times_76 : decode cX11_times 76 = .ok (.bipush (-7), 2) := by decide +kernel
theorem dX11_times_78 : decode cX11_times 78 = .ok (.invokevirtual 64, 3) := by decide +kernel
theorem dX11_times_81 : decode cX11_times 81 = .ok (.ireturn, 1) := by decide +kernel
theorem dX11_times_82 : decode cX11_times 82 = .ok (.aload 5, 2) := by decide +kernel
theorem dX11_times_84 : decode cX11_times 84 = .ok (.iload_n 3, 1) := by decide +kernel
theorem dX11_times_85 : decode cX11_times 85 = .ok (.iload 4, 2) := by decide +kernel
theorem dX11_times_87 : decode cX11_times 87 = .ok (.invokevirtual 110, 3) := by decide +kernel
theorem dX11_times_90 : decode cX11_times 90 = .ok (.aload_n 0, 1) := by decide +kernel
theorem dX11_times_91 : decode cX11_times 91 = .ok (.iload_n 1, 1) := by decide +kernel
theorem dX11_times_92 : decode cX11_times 92 = .ok (.invokevirtual 114, 3) := by decide +kernel
theorem dX11_times_95 : decode cX11_times 95 = .ok (.iconst 1, 1) := by decide +kernel
theorem dX11_times_96 : decode cX11_times 96 = .ok (.ireturn, 1) := by decide +kernel
theorem dX11_times_97 : decode cX11_times 97 = .ok (.aload_n 0, 1) := by decide +kernel
theorem dX11_times_98 : decode cX11_times 98 = .ok (.bipush (-5), 2) := by decide +kernel
theorem dX11_times_100 : decode cX11_times 100 = .ok (.invokevirtual 64, 3) := by decide +kernel
theorem dX11_times_103 : decode cX11_times 103 = .ok (.ireturn, 1) := by decide +kernel
theorem dX11_undo_0 : decode cX11_undo 0 = .ok (.iload_n 1, 1) := by decide +kernel
theorem dX11_undo_1 : decode cX11_undo 1 = .ok (.bipush 8, 2) := by decide +kernel
theorem dX11_undo_3 : decode cX11_undo 3 = .ok (.invokestatic 60, 3) := by decide +kernel
theorem dX11_undo_6 : decode cX11_undo 6 = .ok (.ifCond .eq 10, 3) := by decide +kernel
theorem dX11_undo_9 : decode cX11_undo 9 = .ok (.aload_n 0, 1) := by decide +kernel
theorem dX11_undo_10 : decode cX11_undo 10 = .ok (.bipush (-3), 2) := by decide +kernel
theorem dX11_undo_12 : decode cX11_undo 12 = .ok (.invokevirtual 64, 3) := by decide +kernel
theorem dX11_undo_15 : decode cX11_undo 15 = .ok (.ireturn, 1) := by decide +kernel
theorem dX11_undo_16 : decode cX11_undo 16 = .ok (.aload_n 0, 1) := by decide +kernel
theorem dX11_undo_17 : decode cX11_undo 17 = .ok (.getfield 11, 3) := by decide +kernel
theorem dX11_undo_20 : decode cX11_undo 20 = .ok (.iload_n 1, 1) := by decide +kernel
theorem dX11_undo_21 : decode cX11_undo 21 = .ok (.aaload, 1) := by decide +kernel
theorem dX11_undo_22 : decode cX11_undo 22 = .ok (.getfield 68, 3) := by decide +kernel
theorem dX11_undo_25 : decode cX11_undo 25 = .ok (.ifCond .gt 10, 3) := by decide +kernel
theorem dX11_undo_28 : decode cX11_undo 28 = .ok (.aload_n 0, 1) := by decide +kernel
theorem dX11_undo_29 : decode cX11_undo 29 = .ok (.bipush (-2), 2) := by decide +kernel
theorem dX11_undo_31 : decode cX11_undo 31 = .ok (.invokevirtual 64, 3) := by decide +kernel
theorem dX11_undo_34 : decode cX11_undo 34 = .ok (.ireturn, 1) := by decide +kernel
theorem dX11_undo_35 : decode cX11_undo 35 = .ok (.aload_n 0, 1) := by decide +kernel
theorem dX11_undo_36 : decode cX11_undo 36 = .ok (.getfield 11, 3) := by decide +kernel
theorem dX11_undo_39 : decode cX11_undo 39 = .ok (.iload_n 1, 1) := by decide +kernel
theorem dX11_undo_40 : decode cX11_undo 40 = .ok (.aaload, 1) := by decide +kernel
theorem dX11_undo_41 : decode cX11_undo 41 = .ok (.dup, 1) := by decide +kernel
theorem dX11_undo_42 : decode cX11_undo 42 = .ok (.getfield 68, 3) := by decide +kernel
theorem dX11_undo_45 : decode cX11_undo 45 = .ok (.iconst 1, 1) := by decide +kernel
theorem dX11_undo_46 : decode cX11_undo 46 = .ok (.isub, 1) := by decide +kernel
theorem dX11_undo_47 : decode cX11_undo 47 = .ok (.putfield 68, 3) := by decide +kernel
theorem dX11_undo_50 : decode cX11_undo 50 = .ok (.aload_n 0, 1) := by decide +kernel
theorem dX11_undo_51 : decode cX11_undo 51 = .ok (.iload_n 1, 1) := by decide +kernel
theorem dX11_undo_52 : decode cX11_undo 52 = .ok (.invokevirtual 114, 3) := by decide +kernel
theorem dX11_undo_55 : decode cX11_undo 55 = .ok (.aload_n 0, 1) := by decide +kernel
theorem dX11_undo_56 : decode cX11_undo 56 = .ok (.getfield 11, 3) := by decide +kernel
theorem dX11_undo_59 : decode cX11_undo 59 = .ok (.iload_n 1, 1) := by decide +kernel
theorem dX11_undo_60 : decode cX11_undo 60 = .ok (.aaload, 1) := by decide +kernel
theorem dX11_undo_61 : decode cX11_undo 61 = .ok (.getfield 68, 3) := by decide +kernel
theorem dX11_undo_64 : decode cX11_undo 64 = .ok (.ireturn, 1) := by decide +kernel
theorem dX11_shape_0 : decode cX11_shape 0 = .ok (.iload_n 1, 1) := by decide +kernel
theorem dX11_shape_1 : decode cX11_shape 1 = .ok (.bipush 8, 2) := by decide +kernel
theorem dX11_shape_3 : decode cX11_shape 3 = .ok (.invokestatic 60, 3) := by decide +kernel
theorem dX11_shape_6 : decode cX11_shape 6 = .ok (.ifCond .ne 19, 3) := by decide +kernel
theorem dX11_shape_9 : decode cX11_shape 9 = .ok (.iload_n 2, 1) := by decide +kernel
theorem dX11_shape_10 : decode cX11_shape 10 = .ok (.aload_n 0, 1) := by decide +kernel
theorem dX11_shape_11 : decode cX11_shape 11 = .ok (.getfield 11, 3) := by decide +kernel
theorem dX11_shape_14 : decode cX11_shape 14 = .ok (.iload_n 1, 1) := by decide +kernel
theorem dX11_shape_15 : decode cX11_shape 15 = .ok (.aaload, 1) := by decide +kernel
theorem dX11_shape_16 : decode cX11_shape 16 = .ok (.getfield 68, 3) := by decide +kernel
theorem dX11_shape_19 : decode cX11_shape 19 = .ok (.invokestatic 60, 3) := by decide +kernel
theorem dX11_shape_22 : decode cX11_shape 22 = .ok (.ifCond .eq 10, 3) := by decide +kernel
theorem dX11_shape_25 : decode cX11_shape 25 = .ok (.aload_n 0, 1) := by decide +kernel
theorem dX11_shape_26 : decode cX11_shape 26 = .ok (.bipush (-3), 2) := by decide +kernel
theorem dX11_shape_28 : decode cX11_shape 28 = .ok (.invokevirtual 64, 3) := by decide +kernel
theorem dX11_shape_31 : decode cX11_shape 31 = .ok (.ireturn, 1) := by decide +kernel
theorem dX11_shape_32 : decode cX11_shape 32 = .ok (.aload_n 0, 1) := by decide +kernel
theorem dX11_shape_33 : decode cX11_shape 33 = .ok (.getfield 11, 3) := by decide +kernel
theorem dX11_shape_36 : decode cX11_shape 36 = .ok (.iload_n 1, 1) := by decide +kernel
theorem dX11_shape_37 : decode cX11_shape 37 = .ok (.aaload, 1) := by decide +kernel
theorem dX11_shape_38 : decode cX11_shape 38 = .ok (.getfield 102, 3) := by decide +kernel
theorem dX11_shape_41 : decode cX11_shape 41 = .ok (.iload_n 2, 1) := by decide +kernel
theorem dX11_shape_42 : decode cX11_shape 42 = .ok (.aaload, 1) := by decide +kernel
theorem dX11_shape_43 : decode cX11_shape 43 = .ok (.astore 4, 2) := by decide +kernel
theorem dX11_shape_45 : decode cX11_shape 45 = .ok (.aload 4, 2) := by decide +kernel
theorem dX11_shape_47 : decode cX11_shape 47 = .ok (.ifnull 11, 3) := by decide +kernel
theorem dX11_shape_50 : decode cX11_shape 50 = .ok (.iload_n 3, 1) := by decide +kernel
theorem dX11_shape_51 : decode cX11_shape 51 = .ok (.iconst 3, 1) := by decide +kernel
theorem dX11_shape_52 : decode cX11_shape 52 = .ok (.invokestatic 60, 3) := by decide +kernel
theorem dX11_shape_55 : decode cX11_shape 55 = .ok (.ifCond .eq 10, 3) := by decide +kernel
theorem dX11_shape_58 : decode cX11_shape 58 = .ok (.aload_n 0, 1) := by decide +kernel
theorem dX11_shape_59 : decode cX11_shape 59 = .ok (.bipush (-7), 2) := by decide +kernel
theorem dX11_shape_61 : decode cX11_shape 61 = .ok (.invokevirtual 64, 3) := by decide +kernel
theorem dX11_shape_64 : decode cX11_shape 64 = .ok (.ireturn, 1) := by decide +kernel
theorem dX11_shape_65 : decode cX11_shape 65 = .ok (.iload_n 3, 1) := by decide +kernel
theorem dX11_shape_66 : decode cX11_shape 66 = .ok (.ifCond .ne 11, 3) := by decide +kernel
theorem dX11_shape_69 : decode cX11_shape 69 = .ok (.aload 4, 2) := by decide +kernel
theorem dX11_shape_71 : decode cX11_shape 71 = .ok (.getfield 118, 3) := by decide +kernel
theorem dX11_shape_74 : decode cX11_shape 74 = .ok (.goto 21, 3) := by decide +kernel
theorem dX11_shape_77 : decode cX11_shape 77 = .ok (.iload_n 3, 1) := by decide +kernel
theorem dX11_shape_78 : decode cX11_shape 78 = .ok (.iconst 1, 1) := by decide +kernel
theorem dX11_shape_79 : decode cX11_shape 79 = .ok (.if_icmp .ne 11, 3) := by decide +kernel
theorem dX11_shape_82 : decode cX11_shape 82 = .ok (.aload 4, 2) := by decide +kernel
theorem dX11_shape_84 : decode cX11_shape 84 = .ok (.getfield 123, 3) := by decide +kernel
theorem dX11_shape_87 : decode cX11_shape 87 = .ok (.goto 8, 3) := by decide +kernel
theorem dX11_shape_90 : decode cX11_shape 90 = .ok (.aload 4, 2) := by decide +kernel
theorem dX11_shape_92 : decode cX11_shape 92 = .ok (.getfield 126, 3) := by decide +kernel
theorem dX11_shape_95 : decode cX11_shape 95 = .ok (.ireturn, 1) := by decide +kernel
theorem dX11_made_0 : decode cX11_made 0 = .ok (.iload_n 2, 1) := by decide +kernel
theorem dX11_made_1 : decode cX11_made 1 = .ok (.iconst 3, 1) := by decide +kernel
theorem dX11_made_2 : decode cX11_made 2 = .ok (.if_icmp .eq 8, 3) := by decide +kernel
theorem dX11_made_5 : decode cX11_made 5 = .ok (.iload_n 2, 1) := by decide +kernel
theorem dX11_made_6 : decode cX11_made 6 = .ok (.iconst 4, 1) := by decide +kernel
theorem dX11_made_7 : decode cX11_made 7 = .ok (.if_icmp .ne 7, 3) := by decide +kernel
theorem dX11_made_10 : decode cX11_made 10 = .ok (.iconst 1, 1) := by decide +kernel
theorem dX11_made_11 : decode cX11_made 11 = .ok (.goto 4, 3) := by decide +kernel
theorem dX11_made_14 : decode cX11_made 14 = .ok (.iconst 0, 1) := by decide +kernel
theorem dX11_made_15 : decode cX11_made 15 = .ok (.istore 5, 2) := by decide +kernel
theorem dX11_made_17 : decode cX11_made 17 = .ok (.iload 5, 2) := by decide +kernel
theorem dX11_made_19 : decode cX11_made 19 = .ok (.ifCond .ne 16, 3) := by decide +kernel
theorem dX11_made_22 : decode cX11_made 22 = .ok (.iload_n 2, 1) := by decide +kernel
theorem dX11_made_23 : decode cX11_made 23 = .ok (.ifCond .lt 12, 3) := by decide +kernel
theorem dX11_made_26 : decode cX11_made 26 = .ok (.iload_n 2, 1) := by decide +kernel
theorem dX11_made_27 : decode cX11_made 27 = .ok (.iconst 5, 1) := by decide +kernel
theorem dX11_made_28 : decode cX11_made 28 = .ok (.if_icmp .gt 7, 3) := by decide +kernel
theorem dX11_made_31 : decode cX11_made 31 = .ok (.iconst 1, 1) := by decide +kernel
theorem dX11_made_32 : decode cX11_made 32 = .ok (.goto 4, 3) := by decide +kernel
theorem dX11_made_35 : decode cX11_made 35 = .ok (.iconst 0, 1) := by decide +kernel
theorem dX11_made_36 : decode cX11_made 36 = .ok (.istore 6, 2) := by decide +kernel
theorem dX11_made_38 : decode cX11_made 38 = .ok (.iload_n 1, 1) := by decide +kernel
theorem dX11_made_39 : decode cX11_made 39 = .ok (.bipush 8, 2) := by decide +kernel
theorem dX11_made_41 : decode cX11_made 41 = .ok (.if_icmp .lt 31, 3) := by decide +kernel
theorem dX11_made_44 : decode cX11_made 44 = .ok (.iload_n 1, 1) := by decide +kernel
theorem dX11_made_45 : decode cX11_made 45 = .ok (.bipush 16, 2) := by decide +kernel
theorem dX11_made_47 : decode cX11_made 47 = .ok (.if_icmp .ge 25, 3) := by decide +kernel
theorem dX11_made_50 : decode cX11_made 50 = .ok (.iload_n 3, 1) := by decide +kernel
theorem dX11_made_51 : decode cX11_made 51 = .ok (.iload_n 1, 1) := by decide +kernel
theorem dX11_made_52 : decode cX11_made 52 = .ok (.invokestatic 60, 3) := by decide +kernel
theorem dX11_made_55 : decode cX11_made 55 = .ok (.ifCond .ne 17, 3) := by decide +kernel
theorem dX11_made_58 : decode cX11_made 58 = .ok (.iload 6, 2) := by decide +kernel
theorem dX11_made_60 : decode cX11_made 60 = .ok (.ifCond .eq 19, 3) := by decide +kernel
theorem dX11_made_63 : decode cX11_made 63 = .ok (.iload 4, 2) := by decide +kernel
theorem dX11_made_65 : decode cX11_made 65 = .ok (.iload_n 1, 1) := by decide +kernel
theorem dX11_made_66 : decode cX11_made 66 = .ok (.invokestatic 60, 3) := by decide +kernel
theorem dX11_made_69 : decode cX11_made 69 = .ok (.ifCond .eq 10, 3) := by decide +kernel
theorem dX11_made_72 : decode cX11_made 72 = .ok (.aload_n 0, 1) := by decide +kernel
theorem dX11_made_73 : decode cX11_made 73 = .ok (.bipush (-3), 2) := by decide +kernel
theorem dX11_made_75 : decode cX11_made 75 = .ok (.invokevirtual 64, 3) := by decide +kernel
theorem dX11_made_78 : decode cX11_made 78 = .ok (.ireturn, 1) := by decide +kernel
theorem dX11_made_79 : decode cX11_made 79 = .ok (.iload 6, 2) := by decide +kernel
theorem dX11_made_81 : decode cX11_made 81 = .ok (.ifCond .ne 8, 3) := by decide +kernel
theorem dX11_made_84 : decode cX11_made 84 = .ok (.iload 5, 2) := by decide +kernel
theorem dX11_made_86 : decode cX11_made 86 = .ok (.ifCond .eq 20, 3) := by decide +kernel
theorem dX11_made_89 : decode cX11_made 89 = .ok (.iload 5, 2) := by decide +kernel
theorem dX11_made_91 : decode cX11_made 91 = .ok (.ifCond .eq 22, 3) := by decide +kernel
theorem dX11_made_94 : decode cX11_made 94 = .ok (.iload 4, 2) := by decide +kernel
theorem dX11_made_96 : decode cX11_made 96 = .ok (.ifCond .lt 10, 3) := by decide +kernel
theorem dX11_made_99 : decode cX11_made 99 = .ok (.iload 4, 2) := by decide +kernel
theorem dX11_made_101 : decode cX11_made 101 = .ok (.bipush 9, 2) := by decide +kernel
theorem dX11_made_103 : decode cX11_made 103 = .ok (.if_icmp .le 10, 3) := by decide +kernel
theorem dX11_made_106 : decode cX11_made 106 = .ok (.aload_n 0, 1) := by decide +kernel
theorem dX11_made_107 : decode cX11_made 107 = .ok (.bipush (-7), 2) := by decide +kernel
theorem dX11_made_109 : decode cX11_made 109 = .ok (.invokevirtual 64, 3) := by decide +kernel
theorem dX11_made_112 : decode cX11_made 112 = .ok (.ireturn, 1) := by decide +kernel
theorem dX11_made_113 : decode cX11_made 113 = .ok (.aload_n 0, 1) := by decide +kernel
theorem dX11_made_114 : decode cX11_made 114 = .ok (.getfield 18, 3) := by decide +kernel
theorem dX11_made_117 : decode cX11_made 117 = .ok (.iload_n 1, 1) := by decide +kernel
theorem dX11_made_118 : decode cX11_made 118 = .ok (.iload_n 2, 1) := by decide +kernel
theorem dX11_made_119 : decode cX11_made 119 = .ok (.iload_n 3, 1) := by decide +kernel
theorem dX11_made_120 : decode cX11_made 120 = .ok (.iload 4, 2) := by decide +kernel
theorem dX11_made_122 : decode cX11_made 122 = .ok (.invokevirtual 129, 3) := by decide +kernel
theorem dX11_made_125 : decode cX11_made 125 = .ok (.iconst 1, 1) := by decide +kernel
theorem dX11_made_126 : decode cX11_made 126 = .ok (.ireturn, 1) := by decide +kernel
theorem dX11_flat_0 : decode cX11_flat 0 = .ok (.iload_n 1, 1) := by decide +kernel
theorem dX11_flat_1 : decode cX11_flat 1 = .ok (.bipush 8, 2) := by decide +kernel
theorem dX11_flat_3 : decode cX11_flat 3 = .ok (.invokestatic 60, 3) := by decide +kernel
theorem dX11_flat_6 : decode cX11_flat 6 = .ok (.ifCond .eq 10, 3) := by decide +kernel
theorem dX11_flat_9 : decode cX11_flat 9 = .ok (.aload_n 0, 1) := by decide +kernel
theorem dX11_flat_10 : decode cX11_flat 10 = .ok (.bipush (-3), 2) := by decide +kernel
theorem dX11_flat_12 : decode cX11_flat 12 = .ok (.invokevirtual 64, 3) := by decide +kernel
theorem dX11_flat_15 : decode cX11_flat 15 = .ok (.ireturn, 1) := by decide +kernel
theorem dX11_flat_16 : decode cX11_flat 16 = .ok (.iconst 1, 1) := by decide +kernel
theorem dX11_flat_17 : decode cX11_flat 17 = .ok (.iload_n 1, 1) := by decide +kernel
theorem dX11_flat_18 : decode cX11_flat 18 = .ok (.ishl, 1) := by decide +kernel
theorem dX11_flat_19 : decode cX11_flat 19 = .ok (.istore_n 2, 1) := by decide +kernel
theorem dX11_flat_20 : decode cX11_flat 20 = .ok (.iload_n 1, 1) := by decide +kernel
theorem dX11_flat_21 : decode cX11_flat 21 = .ok (.istore_n 3, 1) := by decide +kernel
theorem dX11_flat_22 : decode cX11_flat 22 = .ok (.iload_n 3, 1) := by decide +kernel
theorem dX11_flat_23 : decode cX11_flat 23 = .ok (.ifCond .lt 29, 3) := by decide +kernel
theorem dX11_flat_26 : decode cX11_flat 26 = .ok (.iload_n 2, 1) := by decide +kernel
theorem dX11_flat_27 : decode cX11_flat 27 = .ok (.iconst 1, 1) := by decide +kernel
theorem dX11_flat_28 : decode cX11_flat 28 = .ok (.iload_n 3, 1) := by decide +kernel
theorem dX11_flat_29 : decode cX11_flat 29 = .ok (.ishl, 1) := by decide +kernel
theorem dX11_flat_30 : decode cX11_flat 30 = .ok (.iand, 1) := by decide +kernel
theorem dX11_flat_31 : decode cX11_flat 31 = .ok (.ifCond .eq 15, 3) := by decide +kernel
theorem dX11_flat_34 : decode cX11_flat 34 = .ok (.iload_n 2, 1) := by decide +kernel
theorem dX11_flat_35 : decode cX11_flat 35 = .ok (.aload_n 0, 1) := by decide +kernel
theorem dX11_flat_36 : decode cX11_flat 36 = .ok (.getfield 11, 3) := by decide +kernel
theorem dX11_flat_39 : decode cX11_flat 39 = .ok (.iload_n 3, 1) := by decide +kernel
theorem dX11_flat_40 : decode cX11_flat 40 = .ok (.aaload, 1) := by decide +kernel
theorem dX11_flat_41 : decode cX11_flat 41 = .ok (.invokevirtual 132, 3) := by decide +kernel
theorem dX11_flat_44 : decode cX11_flat 44 = .ok (.ior, 1) := by decide +kernel
theorem dX11_flat_45 : decode cX11_flat 45 = .ok (.istore_n 2, 1) := by decide +kernel
theorem dX11_flat_46 : decode cX11_flat 46 = .ok (.iinc 3 (-1), 3) := by decide +kernel
theorem dX11_flat_49 : decode cX11_flat 49 = .ok (.goto (-27), 3) := by decide +kernel
theorem dX11_flat_52 : decode cX11_flat 52 = .ok (.iconst 0, 1) := by decide +kernel
theorem dX11_flat_53 : decode cX11_flat 53 = .ok (.istore_n 3, 1) := by decide +kernel
theorem dX11_flat_54 : decode cX11_flat 54 = .ok (.iload_n 3, 1) := by decide +kernel
theorem dX11_flat_55 : decode cX11_flat 55 = .ok (.iload_n 1, 1) := by decide +kernel
theorem dX11_flat_56 : decode cX11_flat 56 = .ok (.if_icmp .gt 34, 3) := by decide +kernel
theorem dX11_flat_59 : decode cX11_flat 59 = .ok (.iload_n 2, 1) := by decide +kernel
theorem dX11_flat_60 : decode cX11_flat 60 = .ok (.iconst 1, 1) := by decide +kernel
theorem dX11_flat_61 : decode cX11_flat 61 = .ok (.iload_n 3, 1) := by decide +kernel
theorem dX11_flat_62 : decode cX11_flat 62 = .ok (.ishl, 1) := by decide +kernel
theorem dX11_flat_63 : decode cX11_flat 63 = .ok (.iand, 1) := by decide +kernel
theorem dX11_flat_64 : decode cX11_flat 64 = .ok (.ifCond .eq 20, 3) := by decide +kernel
theorem dX11_flat_67 : decode cX11_flat 67 = .ok (.aload_n 0, 1) := by decide +kernel
theorem dX11_flat_68 : decode cX11_flat 68 = .ok (.getfield 11, 3) := by decide +kernel
theorem dX11_flat_71 : decode cX11_flat 71 = .ok (.iload_n 3, 1) := by decide +kernel
theorem dX11_flat_72 : decode cX11_flat 72 = .ok (.aaload, 1) := by decide +kernel
theorem dX11_flat_73 : decode cX11_flat 73 = .ok (.aload_n 0, 1) := by decide +kernel
theorem dX11_flat_74 : decode cX11_flat 74 = .ok (.getfield 11, 3) := by decide +kernel
theorem dX11_flat_77 : decode cX11_flat 77 = .ok (.aload_n 0, 1) := by decide +kernel
theorem dX11_flat_78 : decode cX11_flat 78 = .ok (.getfield 47, 3) := by decide +kernel
theorem dX11_flat_81 : decode cX11_flat 81 = .ok (.invokevirtual 136, 3) := by decide +kernel
theorem dX11_flat_84 : decode cX11_flat 84 = .ok (.iinc 3 1, 3) := by decide +kernel
theorem dX11_flat_87 : decode cX11_flat 87 = .ok (.goto (-33), 3) := by decide +kernel
theorem dX11_flat_90 : decode cX11_flat 90 = .ok (.aload_n 0, 1) := by decide +kernel
theorem dX11_flat_91 : decode cX11_flat 91 = .ok (.getfield 25, 3) := by decide +kernel
theorem dX11_flat_94 : decode cX11_flat 94 = .ok (.iconst 0, 1) := by decide +kernel
theorem dX11_flat_95 : decode cX11_flat 95 = .ok (.putfield 140, 3) := by decide +kernel
theorem dX11_flat_98 : decode cX11_flat 98 = .ok (.aload_n 0, 1) := by decide +kernel
theorem dX11_flat_99 : decode cX11_flat 99 = .ok (.getfield 32, 3) := by decide +kernel
theorem dX11_flat_102 : decode cX11_flat 102 = .ok (.iconst 0, 1) := by decide +kernel
theorem dX11_flat_103 : decode cX11_flat 103 = .ok (.putfield 143, 3) := by decide +kernel
theorem dX11_flat_106 : decode cX11_flat 106 = .ok (.aload_n 0, 1) := by decide +kernel
theorem dX11_flat_107 : decode cX11_flat 107 = .ok (.getfield 39, 3) := by decide +kernel
theorem dX11_flat_110 : decode cX11_flat 110 = .ok (.iconst 0, 1) := by decide +kernel
theorem dX11_flat_111 : decode cX11_flat 111 = .ok (.putfield 146, 3) := by decide +kernel
theorem dX11_flat_114 : decode cX11_flat 114 = .ok (.aload_n 0, 1) := by decide +kernel
theorem dX11_flat_115 : decode cX11_flat 115 = .ok (.getfield 18, 3) := by decide +kernel
theorem dX11_flat_118 : decode cX11_flat 118 = .ok (.aload_n 0, 1) := by decide +kernel
theorem dX11_flat_119 : decode cX11_flat 119 = .ok (.getfield 11, 3) := by decide +kernel
theorem dX11_flat_122 : decode cX11_flat 122 = .ok (.iload_n 1, 1) := by decide +kernel
theorem dX11_flat_123 : decode cX11_flat 123 = .ok (.aaload, 1) := by decide +kernel
theorem dX11_flat_124 : decode cX11_flat 124 = .ok (.invokevirtual 149, 3) := by decide +kernel
theorem dX11_flat_127 : decode cX11_flat 127 = .ok (.ireturn, 1) := by decide +kernel
theorem dX11_area_0 : decode cX11_area 0 = .ok (.iload_n 1, 1) := by decide +kernel
theorem dX11_area_1 : decode cX11_area 1 = .ok (.bipush 16, 2) := by decide +kernel
theorem dX11_area_3 : decode cX11_area 3 = .ok (.invokestatic 60, 3) := by decide +kernel
theorem dX11_area_6 : decode cX11_area 6 = .ok (.ifCond .eq 10, 3) := by decide +kernel
theorem dX11_area_9 : decode cX11_area 9 = .ok (.aload_n 0, 1) := by decide +kernel
theorem dX11_area_10 : decode cX11_area 10 = .ok (.bipush (-3), 2) := by decide +kernel
theorem dX11_area_12 : decode cX11_area 12 = .ok (.invokevirtual 64, 3) := by decide +kernel
theorem dX11_area_15 : decode cX11_area 15 = .ok (.ireturn, 1) := by decide +kernel
theorem dX11_area_16 : decode cX11_area 16 = .ok (.aload_n 0, 1) := by decide +kernel
theorem dX11_area_17 : decode cX11_area 17 = .ok (.getfield 18, 3) := by decide +kernel
theorem dX11_area_20 : decode cX11_area 20 = .ok (.getfield 153, 3) := by decide +kernel
theorem dX11_area_23 : decode cX11_area 23 = .ok (.ifCond .eq 14, 3) := by decide +kernel
theorem dX11_area_26 : decode cX11_area 26 = .ok (.aload_n 0, 1) := by decide +kernel
theorem dX11_area_27 : decode cX11_area 27 = .ok (.getfield 18, 3) := by decide +kernel
theorem dX11_area_30 : decode cX11_area 30 = .ok (.iload_n 1, 1) := by decide +kernel
theorem dX11_area_31 : decode cX11_area 31 = .ok (.invokevirtual 156, 3) := by decide +kernel
theorem dX11_area_34 : decode cX11_area 34 = .ok (.goto 9, 3) := by decide +kernel
theorem dX11_area_37 : decode cX11_area 37 = .ok (.aload_n 0, 1) := by decide +kernel
theorem dX11_area_38 : decode cX11_area 38 = .ok (.bipush (-2), 2) := by decide +kernel
theorem dX11_area_40 : decode cX11_area 40 = .ok (.invokevirtual 64, 3) := by decide +kernel
theorem dX11_area_43 : decode cX11_area 43 = .ok (.ireturn, 1) := by decide +kernel
theorem dX11_covered_0 : decode cX11_covered 0 = .ok (.iload_n 1, 1) := by decide +kernel
theorem dX11_covered_1 : decode cX11_covered 1 = .ok (.bipush 16, 2) := by decide +kernel
theorem dX11_covered_3 : decode cX11_covered 3 = .ok (.invokestatic 60, 3) := by decide +kernel
theorem dX11_covered_6 : decode cX11_covered 6 = .ok (.ifCond .ne 13, 3) := by decide +kernel
theorem dX11_covered_9 : decode cX11_covered 9 = .ok (.iload_n 2, 1) := by decide +kernel
theorem dX11_covered_10 : decode cX11_covered 10 = .ok (.sipush 4096, 3) := by decide +kernel
theorem dX11_covered_13 : decode cX11_covered 13 = .ok (.invokestatic 60, 3) := by decide +kernel
theorem dX11_covered_16 : decode cX11_covered 16 = .ok (.ifCond .eq 10, 3) := by decide +kernel
theorem dX11_covered_19 : decode cX11_covered 19 = .ok (.aload_n 0, 1) := by decide +kernel
theorem dX11_covered_20 : decode cX11_covered 20 = .ok (.bipush (-3), 2) := by decide +kernel
theorem dX11_covered_22 : decode cX11_covered 22 = .ok (.invokevirtual 64, 3) := by decide +kernel
theorem dX11_covered_25 : decode cX11_covered 25 = .ok (.ireturn, 1) := by decide +kernel
theorem dX11_covered_26 : decode cX11_covered 26 = .ok (.aload_n 0, 1) := by decide +kernel
theorem dX11_covered_27 : decode cX11_covered 27 = .ok (.getfield 18, 3) := by decide +kernel
theorem dX11_covered_30 : decode cX11_covered 30 = .ok (.getfield 153, 3) := by decide +kernel
theorem dX11_covered_33 : decode cX11_covered 33 = .ok (.ifCond .ne 10, 3) := by decide +kernel
theorem dX11_covered_36 : decode cX11_covered 36 = .ok (.aload_n 0, 1) := by decide +kernel
theorem dX11_covered_37 : decode cX11_covered 37 = .ok (.bipush (-2), 2) := by decide +kernel
theorem dX11_covered_39 : decode cX11_covered 39 = .ok (.invokevirtual 64, 3) := by decide +kernel
theorem dX11_covered_42 : decode cX11_covered 42 = .ok (.ireturn, 1) := by decide +kernel
theorem dX11_covered_43 : decode cX11_covered 43 = .ok (.aload_n 0, 1) := by decide +kernel
theorem dX11_covered_44 : decode cX11_covered 44 = .ok (.getfield 18, 3) := by decide +kernel
theorem dX11_covered_47 : decode cX11_covered 47 = .ok (.getfield 159, 3) := by decide +kernel
theorem dX11_covered_50 : decode cX11_covered 50 = .ok (.bipush 64, 2) := by decide +kernel
theorem dX11_covered_52 : decode cX11_covered 52 = .ok (.iload_n 1, 1) := by decide +kernel
theorem dX11_covered_53 : decode cX11_covered 53 = .ok (.imul, 1) := by decide +kernel
theorem dX11_covered_54 : decode cX11_covered 54 = .ok (.iload_n 2, 1) := by decide +kernel
theorem dX11_covered_55 : decode cX11_covered 55 = .ok (.bipush 64, 2) := by decide +kernel
theorem dX11_covered_57 : decode cX11_covered 57 = .ok (.idiv, 1) := by decide +kernel
theorem dX11_covered_58 : decode cX11_covered 58 = .ok (.iadd, 1) := by decide +kernel
theorem dX11_covered_59 : decode cX11_covered 59 = .ok (.laload, 1) := by decide +kernel
theorem dX11_covered_60 : decode cX11_covered 60 = .ok (.iload_n 2, 1) := by decide +kernel
theorem dX11_covered_61 : decode cX11_covered 61 = .ok (.bipush 64, 2) := by decide +kernel
theorem dX11_covered_63 : decode cX11_covered 63 = .ok (.irem, 1) := by decide +kernel
theorem dX11_covered_64 : decode cX11_covered 64 = .ok (.lushr, 1) := by decide +kernel
theorem dX11_covered_65 : decode cX11_covered 65 = .ok (.lconst 1, 1) := by decide +kernel
theorem dX11_covered_66 : decode cX11_covered 66 = .ok (.land, 1) := by decide +kernel
theorem dX11_covered_67 : decode cX11_covered 67 = .ok (.l2i, 1) := by decide +kernel
theorem dX11_covered_68 : decode cX11_covered 68 = .ok (.ireturn, 1) := by decide +kernel
theorem dX11_pieces_0 : decode cX11_pieces 0 = .ok (.iload_n 1, 1) := by decide +kernel
theorem dX11_pieces_1 : decode cX11_pieces 1 = .ok (.bipush 16, 2) := by decide +kernel
theorem dX11_pieces_3 : decode cX11_pieces 3 = .ok (.invokestatic 60, 3) := by decide +kernel
theorem dX11_pieces_6 : decode cX11_pieces 6 = .ok (.ifCond .eq 10, 3) := by decide +kernel
theorem dX11_pieces_9 : decode cX11_pieces 9 = .ok (.aload_n 0, 1) := by decide +kernel
theorem dX11_pieces_10 : decode cX11_pieces 10 = .ok (.bipush (-3), 2) := by decide +kernel
theorem dX11_pieces_12 : decode cX11_pieces 12 = .ok (.invokevirtual 64, 3) := by decide +kernel
theorem dX11_pieces_15 : decode cX11_pieces 15 = .ok (.ireturn, 1) := by decide +kernel
theorem dX11_pieces_16 : decode cX11_pieces 16 = .ok (.aload_n 0, 1) := by decide +kernel
theorem dX11_pieces_17 : decode cX11_pieces 17 = .ok (.getfield 18, 3) := by decide +kernel
theorem dX11_pieces_20 : decode cX11_pieces 20 = .ok (.getfield 153, 3) := by decide +kernel
theorem dX11_pieces_23 : decode cX11_pieces 23 = .ok (.ifCond .ne 10, 3) := by decide +kernel
theorem dX11_pieces_26 : decode cX11_pieces 26 = .ok (.aload_n 0, 1) := by decide +kernel
theorem dX11_pieces_27 : decode cX11_pieces 27 = .ok (.bipush (-2), 2) := by decide +kernel
theorem dX11_pieces_29 : decode cX11_pieces 29 = .ok (.invokevirtual 64, 3) := by decide +kernel
theorem dX11_pieces_32 : decode cX11_pieces 32 = .ok (.ireturn, 1) := by decide +kernel
theorem dX11_pieces_33 : decode cX11_pieces 33 = .ok (.aload_n 0, 1) := by decide +kernel
theorem dX11_pieces_34 : decode cX11_pieces 34 = .ok (.getfield 18, 3) := by decide +kernel
theorem dX11_pieces_37 : decode cX11_pieces 37 = .ok (.iload_n 1, 1) := by decide +kernel
theorem dX11_pieces_38 : decode cX11_pieces 38 = .ok (.invokevirtual 162, 3) := by decide +kernel
theorem dX11_pieces_41 : decode cX11_pieces 41 = .ok (.astore_n 3, 1) := by decide +kernel
theorem dX11_pieces_42 : decode cX11_pieces 42 = .ok (.iload_n 2, 1) := by decide +kernel
theorem dX11_pieces_43 : decode cX11_pieces 43 = .ok (.iconst (-1), 1) := by decide +kernel
theorem dX11_pieces_44 : decode cX11_pieces 44 = .ok (.if_icmp .ne 8, 3) := by decide +kernel
theorem dX11_pieces_47 : decode cX11_pieces 47 = .ok (.aload_n 3, 1) := by decide +kernel
theorem dX11_pieces_48 : decode cX11_pieces 48 = .ok (.getfield 166, 3) := by decide +kernel
theorem dX11_pieces_51 : decode cX11_pieces 51 = .ok (.ireturn, 1) := by decide +kernel
theorem dX11_pieces_52 : decode cX11_pieces 52 = .ok (.iload_n 2, 1) := by decide +kernel
theorem dX11_pieces_53 : decode cX11_pieces 53 = .ok (.aload_n 3, 1) := by decide +kernel
theorem dX11_pieces_54 : decode cX11_pieces 54 = .ok (.getfield 166, 3) := by decide +kernel
theorem dX11_pieces_57 : decode cX11_pieces 57 = .ok (.invokestatic 60, 3) := by decide +kernel
theorem dX11_pieces_60 : decode cX11_pieces 60 = .ok (.ifCond .eq 12, 3) := by decide +kernel
theorem dX11_pieces_63 : decode cX11_pieces 63 = .ok (.aload_n 0, 1) := by decide +kernel
theorem dX11_pieces_64 : decode cX11_pieces 64 = .ok (.bipush (-3), 2) := by decide +kernel
theorem dX11_pieces_66 : decode cX11_pieces 66 = .ok (.invokevirtual 64, 3) := by decide +kernel
theorem dX11_pieces_69 : decode cX11_pieces 69 = .ok (.goto 9, 3) := by decide +kernel
theorem dX11_pieces_72 : decode cX11_pieces 72 = .ok (.aload_n 3, 1) := by decide +kernel
theorem dX11_pieces_73 : decode cX11_pieces 73 = .ok (.getfield 169, 3) := by decide +kernel
theorem dX11_pieces_76 : decode cX11_pieces 76 = .ok (.iload_n 2, 1) := by decide +kernel
theorem dX11_pieces_77 : decode cX11_pieces 77 = .ok (.iaload, 1) := by decide +kernel
theorem dX11_pieces_78 : decode cX11_pieces 78 = .ok (.ireturn, 1) := by decide +kernel
theorem dX11_rule_0 : decode cX11_rule 0 = .ok (.iload_n 1, 1) := by decide +kernel
theorem dX11_rule_1 : decode cX11_rule 1 = .ok (.ifCond .lt 8, 3) := by decide +kernel
theorem dX11_rule_4 : decode cX11_rule 4 = .ok (.iload_n 1, 1) := by decide +kernel
theorem dX11_rule_5 : decode cX11_rule 5 = .ok (.iconst 4, 1) := by decide +kernel
theorem dX11_rule_6 : decode cX11_rule 6 = .ok (.if_icmp .le 10, 3) := by decide +kernel
theorem dX11_rule_9 : decode cX11_rule 9 = .ok (.aload_n 0, 1) := by decide +kernel
theorem dX11_rule_10 : decode cX11_rule 10 = .ok (.bipush (-7), 2) := by decide +kernel
theorem dX11_rule_12 : decode cX11_rule 12 = .ok (.invokevirtual 64, 3) := by decide +kernel
theorem dX11_rule_15 : decode cX11_rule 15 = .ok (.ireturn, 1) := by decide +kernel
theorem dX11_rule_16 : decode cX11_rule 16 = .ok (.iload_n 2, 1) := by decide +kernel
theorem dX11_rule_17 : decode cX11_rule 17 = .ok (.bipush 16, 2) := by decide +kernel
theorem dX11_rule_19 : decode cX11_rule 19 = .ok (.invokestatic 60, 3) := by decide +kernel
theorem dX11_rule_22 : decode cX11_rule 22 = .ok (.ifCond .ne 17, 3) := by decide +kernel
theorem dX11_rule_25 : decode cX11_rule 25 = .ok (.iload_n 1, 1) := by decide +kernel
theorem dX11_rule_26 : decode cX11_rule 26 = .ok (.iconst 2, 1) := by decide +kernel
theorem dX11_rule_27 : decode cX11_rule 27 = .ok (.if_icmp .ne 19, 3) := by decide +kernel
theorem dX11_rule_30 : decode cX11_rule 30 = .ok (.iload_n 3, 1) := by decide +kernel
theorem dX11_rule_31 : decode cX11_rule 31 = .ok (.bipush 16, 2) := by decide +kernel
theorem dX11_rule_33 : decode cX11_rule 33 = .ok (.invokestatic 60, 3) := by decide +kernel
theorem dX11_rule_36 : decode cX11_rule 36 = .ok (.ifCond .eq 10, 3) := by decide +kernel
theorem dX11_rule_39 : decode cX11_rule 39 = .ok (.aload_n 0, 1) := by decide +kernel
theorem dX11_rule_40 : decode cX11_rule 40 = .ok (.bipush (-3), 2) := by decide +kernel
theorem dX11_rule_42 : decode cX11_rule 42 = .ok (.invokevirtual 64, 3) := by decide +kernel
theorem dX11_rule_45 : decode cX11_rule 45 = .ok (.ireturn, 1) := by decide +kernel
theorem dX11_rule_46 : decode cX11_rule 46 = .ok (.iload 4, 2) := by decide +kernel
theorem dX11_rule_48 : decode cX11_rule 48 = .ok (.ifCond .lt 12, 3) := by decide +kernel
theorem dX11_rule_51 : decode cX11_rule 51 = .ok (.iload 4, 2) := by decide +kernel
theorem dX11_rule_53 : decode cX11_rule 53 = .ok (.iload_n 1, 1) := by decide +kernel
theorem dX11_rule_54 : decode cX11_rule 54 = .ok (.invokestatic 172, 3) := by decide +kernel
theorem dX11_rule_57 : decode cX11_rule 57 = .ok (.if_icmp .le 10, 3) := by decide +kernel
theorem dX11_rule_60 : decode cX11_rule 60 = .ok (.aload_n 0, 1) := by decide +kernel
theorem dX11_rule_61 : decode cX11_rule 61 = .ok (.bipush (-7), 2) := by decide +kernel
theorem dX11_rule_63 : decode cX11_rule 63 = .ok (.invokevirtual 64, 3) := by decide +kernel
theorem dX11_rule_66 : decode cX11_rule 66 = .ok (.ireturn, 1) := by decide +kernel
theorem dX11_rule_67 : decode cX11_rule 67 = .ok (.aload_n 0, 1) := by decide +kernel
theorem dX11_rule_68 : decode cX11_rule 68 = .ok (.getfield 25, 3) := by decide +kernel
theorem dX11_rule_71 : decode cX11_rule 71 = .ok (.getfield 175, 3) := by decide +kernel
theorem dX11_rule_74 : decode cX11_rule 74 = .ok (.bipush 16, 2) := by decide +kernel
theorem dX11_rule_76 : decode cX11_rule 76 = .ok (.if_icmp .lt 10, 3) := by decide +kernel
theorem dX11_rule_79 : decode cX11_rule 79 = .ok (.aload_n 0, 1) := by decide +kernel
theorem dX11_rule_80 : decode cX11_rule 80 = .ok (.bipush (-8), 2) := by decide +kernel
theorem dX11_rule_82 : decode cX11_rule 82 = .ok (.invokevirtual 64, 3) := by decide +kernel
theorem dX11_rule_85 : decode cX11_rule 85 = .ok (.ireturn, 1) := by decide +kernel
theorem dX11_rule_86 : decode cX11_rule 86 = .ok (.aload_n 0, 1) := by decide +kernel
theorem dX11_rule_87 : decode cX11_rule 87 = .ok (.getfield 25, 3) := by decide +kernel
theorem dX11_rule_90 : decode cX11_rule 90 = .ok (.iload_n 1, 1) := by decide +kernel
theorem dX11_rule_91 : decode cX11_rule 91 = .ok (.iload_n 2, 1) := by decide +kernel
theorem dX11_rule_92 : decode cX11_rule 92 = .ok (.iload_n 3, 1) := by decide +kernel
theorem dX11_rule_93 : decode cX11_rule 93 = .ok (.iload 4, 2) := by decide +kernel
theorem dX11_rule_95 : decode cX11_rule 95 = .ok (.invokevirtual 176, 3) := by decide +kernel
theorem dX11_rule_98 : decode cX11_rule 98 = .ok (.ireturn, 1) := by decide +kernel
theorem dX11_run_0 : decode cX11_run 0 = .ok (.aload_n 0, 1) := by decide +kernel
theorem dX11_run_1 : decode cX11_run 1 = .ok (.getfield 18, 3) := by decide +kernel
theorem dX11_run_4 : decode cX11_run 4 = .ok (.getfield 153, 3) := by decide +kernel
theorem dX11_run_7 : decode cX11_run 7 = .ok (.ifCond .eq 17, 3) := by decide +kernel
theorem dX11_run_10 : decode cX11_run 10 = .ok (.aload_n 0, 1) := by decide +kernel
theorem dX11_run_11 : decode cX11_run 11 = .ok (.getfield 25, 3) := by decide +kernel
theorem dX11_run_14 : decode cX11_run 14 = .ok (.aload_n 0, 1) := by decide +kernel
theorem dX11_run_15 : decode cX11_run 15 = .ok (.getfield 18, 3) := by decide +kernel
theorem dX11_run_18 : decode cX11_run 18 = .ok (.invokevirtual 180, 3) := by decide +kernel
theorem dX11_run_21 : decode cX11_run 21 = .ok (.goto 9, 3) := by decide +kernel
theorem dX11_run_24 : decode cX11_run 24 = .ok (.aload_n 0, 1) := by decide +kernel
theorem dX11_run_25 : decode cX11_run 25 = .ok (.bipush (-2), 2) := by decide +kernel
theorem dX11_run_27 : decode cX11_run 27 = .ok (.invokevirtual 64, 3) := by decide +kernel
theorem dX11_run_30 : decode cX11_run 30 = .ok (.ireturn, 1) := by decide +kernel
theorem dX11_fault_0 : decode cX11_fault 0 = .ok (.aload_n 0, 1) := by decide +kernel
theorem dX11_fault_1 : decode cX11_fault 1 = .ok (.getfield 25, 3) := by decide +kernel
theorem dX11_fault_4 : decode cX11_fault 4 = .ok (.getfield 140, 3) := by decide +kernel
theorem dX11_fault_7 : decode cX11_fault 7 = .ok (.ifCond .ne 10, 3) := by decide +kernel
theorem dX11_fault_10 : decode cX11_fault 10 = .ok (.aload_n 0, 1) := by decide +kernel
theorem dX11_fault_11 : decode cX11_fault 11 = .ok (.bipush (-2), 2) := by decide +kernel
theorem dX11_fault_13 : decode cX11_fault 13 = .ok (.invokevirtual 64, 3) := by decide +kernel
theorem dX11_fault_16 : decode cX11_fault 16 = .ok (.ireturn, 1) := by decide +kernel
theorem dX11_fault_17 : decode cX11_fault 17 = .ok (.iload_n 1, 1) := by decide +kernel
theorem dX11_fault_18 : decode cX11_fault 18 = .ok (.aload_n 0, 1) := by decide +kernel
theorem dX11_fault_19 : decode cX11_fault 19 = .ok (.getfield 25, 3) := by decide +kernel
theorem dX11_fault_22 : decode cX11_fault 22 = .ok (.getfield 184, 3) := by decide +kernel
theorem dX11_fault_25 : decode cX11_fault 25 = .ok (.sipush 600, 3) := by decide +kernel
theorem dX11_fault_28 : decode cX11_fault 28 = .ok (.invokestatic 85, 3) := by decide +kernel
theorem dX11_fault_31 : decode cX11_fault 31 = .ok (.invokestatic 60, 3) := by decide +kernel
theorem dX11_fault_34 : decode cX11_fault 34 = .ok (.ifCond .eq 10, 3) := by decide +kernel
theorem dX11_fault_37 : decode cX11_fault 37 = .ok (.aload_n 0, 1) := by decide +kernel
theorem dX11_fault_38 : decode cX11_fault 38 = .ok (.bipush (-3), 2) := by decide +kernel
theorem dX11_fault_40 : decode cX11_fault 40 = .ok (.invokevirtual 64, 3) := by decide +kernel
theorem dX11_fault_43 : decode cX11_fault 43 = .ok (.ireturn, 1) := by decide +kernel
theorem dX11_fault_44 : decode cX11_fault 44 = .ok (.iload_n 2, 1) := by decide +kernel
theorem dX11_fault_45 : decode cX11_fault 45 = .ok (.iconst 4, 1) := by decide +kernel
theorem dX11_fault_46 : decode cX11_fault 46 = .ok (.invokestatic 60, 3) := by decide +kernel
theorem dX11_fault_49 : decode cX11_fault 49 = .ok (.ifCond .eq 12, 3) := by decide +kernel
theorem dX11_fault_52 : decode cX11_fault 52 = .ok (.aload_n 0, 1) := by decide +kernel
theorem dX11_fault_53 : decode cX11_fault 53 = .ok (.bipush (-7), 2) := by decide +kernel
theorem dX11_fault_55 : decode cX11_fault 55 = .ok (.invokevirtual 64, 3) := by decide +kernel
theorem dX11_fault_58 : decode cX11_fault 58 = .ok (.goto 16, 3) := by decide +kernel
theorem dX11_fault_61 : decode cX11_fault 61 = .ok (.aload_n 0, 1) := by decide +kernel
theorem dX11_fault_62 : decode cX11_fault 62 = .ok (.getfield 25, 3) := by decide +kernel
theorem dX11_fault_65 : decode cX11_fault 65 = .ok (.getfield 187, 3) := by decide +kernel
theorem dX11_fault_68 : decode cX11_fault 68 = .ok (.iconst 4, 1) := by decide +kernel
theorem dX11_fault_69 : decode cX11_fault 69 = .ok (.iload_n 1, 1) := by decide +kernel
theorem dX11_fault_70 : decode cX11_fault 70 = .ok (.imul, 1) := by decide +kernel
theorem dX11_fault_71 : decode cX11_fault 71 = .ok (.iload_n 2, 1) := by decide +kernel
theorem dX11_fault_72 : decode cX11_fault 72 = .ok (.iadd, 1) := by decide +kernel
theorem dX11_fault_73 : decode cX11_fault 73 = .ok (.iaload, 1) := by decide +kernel
theorem dX11_fault_74 : decode cX11_fault 74 = .ok (.ireturn, 1) := by decide +kernel
theorem dX11_faults_0 : decode cX11_faults 0 = .ok (.iload_n 1, 1) := by decide +kernel
theorem dX11_faults_1 : decode cX11_faults 1 = .ok (.aload_n 0, 1) := by decide +kernel
theorem dX11_faults_2 : decode cX11_faults 2 = .ok (.getfield 25, 3) := by decide +kernel
theorem dX11_faults_5 : decode cX11_faults 5 = .ok (.getfield 175, 3) := by decide +kernel
theorem dX11_faults_8 : decode cX11_faults 8 = .ok (.invokestatic 60, 3) := by decide +kernel
theorem dX11_faults_11 : decode cX11_faults 11 = .ok (.ifCond .eq 10, 3) := by decide +kernel
theorem dX11_faults_14 : decode cX11_faults 14 = .ok (.aload_n 0, 1) := by decide +kernel
theorem dX11_faults_15 : decode cX11_faults 15 = .ok (.bipush (-3), 2) := by decide +kernel
theorem dX11_faults_17 : decode cX11_faults 17 = .ok (.invokevirtual 64, 3) := by decide +kernel
theorem dX11_faults_20 : decode cX11_faults 20 = .ok (.ireturn, 1) := by decide +kernel
theorem dX11_faults_21 : decode cX11_faults 21 = .ok (.aload_n 0, 1) := by decide +kernel
theorem dX11_faults_22 : decode cX11_faults 22 = .ok (.getfield 25, 3) := by decide +kernel
theorem dX11_faults_25 : decode cX11_faults 25 = .ok (.getfield 140, 3) := by decide +kernel
theorem dX11_faults_28 : decode cX11_faults 28 = .ok (.ifCond .ne 10, 3) := by decide +kernel
theorem dX11_faults_31 : decode cX11_faults 31 = .ok (.aload_n 0, 1) := by decide +kernel
theorem dX11_faults_32 : decode cX11_faults 32 = .ok (.bipush (-2), 2) := by decide +kernel
theorem dX11_faults_34 : decode cX11_faults 34 = .ok (.invokevirtual 64, 3) := by decide +kernel
theorem dX11_faults_37 : decode cX11_faults 37 = .ok (.ireturn, 1) := by decide +kernel
theorem dX11_faults_38 : decode cX11_faults 38 = .ok (.iload_n 2, 1) := by decide +kernel
theorem dX11_faults_39 : decode cX11_faults 39 = .ok (.iconst 2, 1) := by decide +kernel
theorem dX11_faults_40 : decode cX11_faults 40 = .ok (.invokestatic 60, 3) := by decide +kernel
theorem dX11_faults_43 : decode cX11_faults 43 = .ok (.ifCond .eq 10, 3) := by decide +kernel
theorem dX11_faults_46 : decode cX11_faults 46 = .ok (.aload_n 0, 1) := by decide +kernel
theorem dX11_faults_47 : decode cX11_faults 47 = .ok (.bipush (-7), 2) := by decide +kernel
theorem dX11_faults_49 : decode cX11_faults 49 = .ok (.invokevirtual 64, 3) := by decide +kernel
theorem dX11_faults_52 : decode cX11_faults 52 = .ok (.ireturn, 1) := by decide +kernel
theorem dX11_faults_53 : decode cX11_faults 53 = .ok (.iload_n 2, 1) := by decide +kernel
theorem dX11_faults_54 : decode cX11_faults 54 = .ok (.ifCond .ne 15, 3) := by decide +kernel
theorem dX11_faults_57 : decode cX11_faults 57 = .ok (.aload_n 0, 1) := by decide +kernel
theorem dX11_faults_58 : decode cX11_faults 58 = .ok (.getfield 25, 3) := by decide +kernel
theorem dX11_faults_61 : decode cX11_faults 61 = .ok (.getfield 190, 3) := by decide +kernel
theorem dX11_faults_64 : decode cX11_faults 64 = .ok (.iload_n 1, 1) := by decide +kernel
theorem dX11_faults_65 : decode cX11_faults 65 = .ok (.iaload, 1) := by decide +kernel
theorem dX11_faults_66 : decode cX11_faults 66 = .ok (.goto 12, 3) := by decide +kernel
theorem dX11_faults_69 : decode cX11_faults 69 = .ok (.aload_n 0, 1) := by decide +kernel
theorem dX11_faults_70 : decode cX11_faults 70 = .ok (.getfield 25, 3) := by decide +kernel
theorem dX11_faults_73 : decode cX11_faults 73 = .ok (.getfield 193, 3) := by decide +kernel
theorem dX11_faults_76 : decode cX11_faults 76 = .ok (.iload_n 1, 1) := by decide +kernel
theorem dX11_faults_77 : decode cX11_faults 77 = .ok (.iaload, 1) := by decide +kernel
theorem dX11_faults_78 : decode cX11_faults 78 = .ok (.ireturn, 1) := by decide +kernel
theorem dX11_conducts_0 : decode cX11_conducts 0 = .ok (.iload_n 1, 1) := by decide +kernel
theorem dX11_conducts_1 : decode cX11_conducts 1 = .ok (.bipush 16, 2) := by decide +kernel
theorem dX11_conducts_3 : decode cX11_conducts 3 = .ok (.invokestatic 60, 3) := by decide +kernel
theorem dX11_conducts_6 : decode cX11_conducts 6 = .ok (.ifCond .eq 10, 3) := by decide +kernel
theorem dX11_conducts_9 : decode cX11_conducts 9 = .ok (.aload_n 0, 1) := by decide +kernel
theorem dX11_conducts_10 : decode cX11_conducts 10 = .ok (.bipush (-3), 2) := by decide +kernel
theorem dX11_conducts_12 : decode cX11_conducts 12 = .ok (.invokevirtual 64, 3) := by decide +kernel
theorem dX11_conducts_15 : decode cX11_conducts 15 = .ok (.ireturn, 1) := by decide +kernel
theorem dX11_conducts_16 : decode cX11_conducts 16 = .ok (.aload_n 0, 1) := by decide +kernel
theorem dX11_conducts_17 : decode cX11_conducts 17 = .ok (.getfield 32, 3) := by decide +kernel
theorem dX11_conducts_20 : decode cX11_conducts 20 = .ok (.getfield 196, 3) := by decide +kernel
theorem dX11_conducts_23 : decode cX11_conducts 23 = .ok (.iload_n 1, 1) := by decide +kernel
theorem dX11_conducts_24 : decode cX11_conducts 24 = .ok (.ishr, 1) := by decide +kernel
theorem dX11_conducts_25 : decode cX11_conducts 25 = .ok (.iconst 1, 1) := by decide +kernel
theorem dX11_conducts_26 : decode cX11_conducts 26 = .ok (.iand, 1) := by decide +kernel
theorem dX11_conducts_27 : decode cX11_conducts 27 = .ok (.istore_n 3, 1) := by decide +kernel
theorem dX11_conducts_28 : decode cX11_conducts 28 = .ok (.aload_n 0, 1) := by decide +kernel
theorem dX11_conducts_29 : decode cX11_conducts 29 = .ok (.getfield 32, 3) := by decide +kernel
theorem dX11_conducts_32 : decode cX11_conducts 32 = .ok (.dup, 1) := by decide +kernel
theorem dX11_conducts_33 : decode cX11_conducts 33 = .ok (.getfield 196, 3) := by decide +kernel
theorem dX11_conducts_36 : decode cX11_conducts 36 = .ok (.iconst 1, 1) := by decide +kernel
theorem dX11_conducts_37 : decode cX11_conducts 37 = .ok (.iload_n 1, 1) := by decide +kernel
theorem dX11_conducts_38 : decode cX11_conducts 38 = .ok (.ishl, 1) := by decide +kernel
theorem dX11_conducts_39 : decode cX11_conducts 39 = .ok (.iconst (-1), 1) := by decide +kernel
theorem dX11_conducts_40 : decode cX11_conducts 40 = .ok (.ixor, 1) := by decide +kernel
theorem dX11_conducts_41 : decode cX11_conducts 41 = .ok (.iand, 1) := by decide +kernel
theorem dX11_conducts_42 : decode cX11_conducts 42 = .ok (.putfield 196, 3) := by decide +kernel
theorem dX11_conducts_45 : decode cX11_conducts 45 = .ok (.iload_n 2, 1) := by decide +kernel
theorem dX11_conducts_46 : decode cX11_conducts 46 = .ok (.ifCond .eq 18, 3) := by decide +kernel
theorem dX11_conducts_49 : decode cX11_conducts 49 = .ok (.aload_n 0, 1) := by decide +kernel
theorem dX11_conducts_50 : decode cX11_conducts 50 = .ok (.getfield 32, 3) := by decide +kernel
theorem dX11_conducts_53 : decode cX11_conducts 53 = .ok (.dup, 1) := by decide +kernel
theorem dX11_conducts_54 : decode cX11_conducts 54 = .ok (.getfield 196, 3) := by decide +kernel
theorem dX11_conducts_57 : decode cX11_conducts 57 = .ok (.iconst 1, 1) := by decide +kernel
theorem dX11_conducts_58 : decode cX11_conducts 58 = .ok (.iload_n 1, 1) := by decide +kernel
theorem dX11_conducts_59 : decode cX11_conducts 59 = .ok (.ishl, 1) := by decide +kernel
theorem dX11_conducts_60 : decode cX11_conducts 60 = .ok (.ior, 1) := by decide +kernel
theorem dX11_conducts_61 : decode cX11_conducts 61 = .ok (.putfield 196, 3) := by decide +kernel
theorem dX11_conducts_64 : decode cX11_conducts 64 = .ok (.iload_n 3, 1) := by decide +kernel
theorem dX11_conducts_65 : decode cX11_conducts 65 = .ok (.ireturn, 1) := by decide +kernel
theorem dX11_joint_0 : decode cX11_joint 0 = .ok (.iload_n 1, 1) := by decide +kernel
theorem dX11_joint_1 : decode cX11_joint 1 = .ok (.bipush 16, 2) := by decide +kernel
theorem dX11_joint_3 : decode cX11_joint 3 = .ok (.invokestatic 60, 3) := by decide +kernel
theorem dX11_joint_6 : decode cX11_joint 6 = .ok (.ifCond .ne 21, 3) := by decide +kernel
theorem dX11_joint_9 : decode cX11_joint 9 = .ok (.iload_n 2, 1) := by decide +kernel
theorem dX11_joint_10 : decode cX11_joint 10 = .ok (.bipush 16, 2) := by decide +kernel
theorem dX11_joint_12 : decode cX11_joint 12 = .ok (.invokestatic 60, 3) := by decide +kernel
theorem dX11_joint_15 : decode cX11_joint 15 = .ok (.ifCond .ne 12, 3) := by decide +kernel
theorem dX11_joint_18 : decode cX11_joint 18 = .ok (.iload_n 3, 1) := by decide +kernel
theorem dX11_joint_19 : decode cX11_joint 19 = .ok (.bipush 16, 2) := by decide +kernel
theorem dX11_joint_21 : decode cX11_joint 21 = .ok (.invokestatic 60, 3) := by decide +kernel
theorem dX11_joint_24 : decode cX11_joint 24 = .ok (.ifCond .eq 10, 3) := by decide +kernel
theorem dX11_joint_27 : decode cX11_joint 27 = .ok (.aload_n 0, 1) := by decide +kernel
theorem dX11_joint_28 : decode cX11_joint 28 = .ok (.bipush (-3), 2) := by decide +kernel
theorem dX11_joint_30 : decode cX11_joint 30 = .ok (.invokevirtual 64, 3) := by decide +kernel
theorem dX11_joint_33 : decode cX11_joint 33 = .ok (.ireturn, 1) := by decide +kernel
theorem dX11_joint_34 : decode cX11_joint 34 = .ok (.aload_n 0, 1) := by decide +kernel
theorem dX11_joint_35 : decode cX11_joint 35 = .ok (.getfield 32, 3) := by decide +kernel
theorem dX11_joint_38 : decode cX11_joint 38 = .ok (.getfield 199, 3) := by decide +kernel
theorem dX11_joint_41 : decode cX11_joint 41 = .ok (.bipush 8, 2) := by decide +kernel
theorem dX11_joint_43 : decode cX11_joint 43 = .ok (.if_icmp .lt 10, 3) := by decide +kernel
theorem dX11_joint_46 : decode cX11_joint 46 = .ok (.aload_n 0, 1) := by decide +kernel
theorem dX11_joint_47 : decode cX11_joint 47 = .ok (.bipush (-8), 2) := by decide +kernel
theorem dX11_joint_49 : decode cX11_joint 49 = .ok (.invokevirtual 64, 3) := by decide +kernel
theorem dX11_joint_52 : decode cX11_joint 52 = .ok (.ireturn, 1) := by decide +kernel
theorem dX11_joint_53 : decode cX11_joint 53 = .ok (.aload_n 0, 1) := by decide +kernel
theorem dX11_joint_54 : decode cX11_joint 54 = .ok (.getfield 32, 3) := by decide +kernel
theorem dX11_joint_57 : decode cX11_joint 57 = .ok (.iload_n 1, 1) := by decide +kernel
theorem dX11_joint_58 : decode cX11_joint 58 = .ok (.iload_n 2, 1) := by decide +kernel
theorem dX11_joint_59 : decode cX11_joint 59 = .ok (.iload_n 3, 1) := by decide +kernel
theorem dX11_joint_60 : decode cX11_joint 60 = .ok (.invokevirtual 202, 3) := by decide +kernel
theorem dX11_joint_63 : decode cX11_joint 63 = .ok (.ireturn, 1) := by decide +kernel
theorem dX11_gates_0 : decode cX11_gates 0 = .ok (.iload_n 1, 1) := by decide +kernel
theorem dX11_gates_1 : decode cX11_gates 1 = .ok (.bipush 16, 2) := by decide +kernel
theorem dX11_gates_3 : decode cX11_gates 3 = .ok (.invokestatic 60, 3) := by decide +kernel
theorem dX11_gates_6 : decode cX11_gates 6 = .ok (.ifCond .ne 21, 3) := by decide +kernel
theorem dX11_gates_9 : decode cX11_gates 9 = .ok (.iload_n 2, 1) := by decide +kernel
theorem dX11_gates_10 : decode cX11_gates 10 = .ok (.bipush 16, 2) := by decide +kernel
theorem dX11_gates_12 : decode cX11_gates 12 = .ok (.invokestatic 60, 3) := by decide +kernel
theorem dX11_gates_15 : decode cX11_gates 15 = .ok (.ifCond .ne 12, 3) := by decide +kernel
theorem dX11_gates_18 : decode cX11_gates 18 = .ok (.iload_n 3, 1) := by decide +kernel
theorem dX11_gates_19 : decode cX11_gates 19 = .ok (.bipush 16, 2) := by decide +kernel
theorem dX11_gates_21 : decode cX11_gates 21 = .ok (.invokestatic 60, 3) := by decide +kernel
theorem dX11_gates_24 : decode cX11_gates 24 = .ok (.ifCond .eq 10, 3) := by decide +kernel
theorem dX11_gates_27 : decode cX11_gates 27 = .ok (.aload_n 0, 1) := by decide +kernel
theorem dX11_gates_28 : decode cX11_gates 28 = .ok (.bipush (-3), 2) := by decide +kernel
theorem dX11_gates_30 : decode cX11_gates 30 = .ok (.invokevirtual 64, 3) := by decide +kernel
theorem dX11_gates_33 : decode cX11_gates 33 = .ok (.ireturn, 1) := by decide +kernel
theorem dX11_gates_34 : decode cX11_gates 34 = .ok (.aload_n 0, 1) := by decide +kernel
theorem dX11_gates_35 : decode cX11_gates 35 = .ok (.getfield 32, 3) := by decide +kernel
theorem dX11_gates_38 : decode cX11_gates 38 = .ok (.getfield 196, 3) := by decide +kernel
theorem dX11_gates_41 : decode cX11_gates 41 = .ok (.iconst 1, 1) := by decide +kernel
theorem dX11_gates_42 : decode cX11_gates 42 = .ok (.iload_n 3, 1) := by decide +kernel
theorem dX11_gates_43 : decode cX11_gates 43 = .ok (.ishl, 1) := by decide +kernel
theorem dX11_gates_44 : decode cX11_gates 44 = .ok (.iand, 1) := by decide +kernel
theorem dX11_gates_45 : decode cX11_gates 45 = .ok (.ifCond .ne 10, 3) := by decide +kernel
theorem dX11_gates_48 : decode cX11_gates 48 = .ok (.aload_n 0, 1) := by decide +kernel
theorem dX11_gates_49 : decode cX11_gates 49 = .ok (.bipush (-7), 2) := by decide +kernel
theorem dX11_gates_51 : decode cX11_gates 51 = .ok (.invokevirtual 64, 3) := by decide +kernel
theorem dX11_gates_54 : decode cX11_gates 54 = .ok (.ireturn, 1) := by decide +kernel
theorem dX11_gates_55 : decode cX11_gates 55 = .ok (.aload_n 0, 1) := by decide +kernel
theorem dX11_gates_56 : decode cX11_gates 56 = .ok (.getfield 32, 3) := by decide +kernel
theorem dX11_gates_59 : decode cX11_gates 59 = .ok (.iload_n 1, 1) := by decide +kernel
theorem dX11_gates_60 : decode cX11_gates 60 = .ok (.iload_n 2, 1) := by decide +kernel
theorem dX11_gates_61 : decode cX11_gates 61 = .ok (.iload_n 3, 1) := by decide +kernel
theorem dX11_gates_62 : decode cX11_gates 62 = .ok (.invokevirtual 206, 3) := by decide +kernel
theorem dX11_gates_65 : decode cX11_gates 65 = .ok (.iconst 1, 1) := by decide +kernel
theorem dX11_gates_66 : decode cX11_gates 66 = .ok (.ireturn, 1) := by decide +kernel
theorem dX11_circuit_0 : decode cX11_circuit 0 = .ok (.aload_n 0, 1) := by decide +kernel
theorem dX11_circuit_1 : decode cX11_circuit 1 = .ok (.getfield 18, 3) := by decide +kernel
theorem dX11_circuit_4 : decode cX11_circuit 4 = .ok (.getfield 153, 3) := by decide +kernel
theorem dX11_circuit_7 : decode cX11_circuit 7 = .ok (.ifCond .ne 10, 3) := by decide +kernel
theorem dX11_circuit_10 : decode cX11_circuit 10 = .ok (.aload_n 0, 1) := by decide +kernel
theorem dX11_circuit_11 : decode cX11_circuit 11 = .ok (.bipush (-2), 2) := by decide +kernel
theorem dX11_circuit_13 : decode cX11_circuit 13 = .ok (.invokevirtual 64, 3) := by decide +kernel
theorem dX11_circuit_16 : decode cX11_circuit 16 = .ok (.ireturn, 1) := by decide +kernel
theorem dX11_circuit_17 : decode cX11_circuit 17 = .ok (.aload_n 0, 1) := by decide +kernel
theorem dX11_circuit_18 : decode cX11_circuit 18 = .ok (.getfield 32, 3) := by decide +kernel
theorem dX11_circuit_21 : decode cX11_circuit 21 = .ok (.invokevirtual 209, 3) := by decide +kernel
theorem dX11_circuit_24 : decode cX11_circuit 24 = .ok (.ifCond .eq 10, 3) := by decide +kernel
theorem dX11_circuit_27 : decode cX11_circuit 27 = .ok (.aload_n 0, 1) := by decide +kernel
theorem dX11_circuit_28 : decode cX11_circuit 28 = .ok (.bipush (-7), 2) := by decide +kernel
theorem dX11_circuit_30 : decode cX11_circuit 30 = .ok (.invokevirtual 64, 3) := by decide +kernel
theorem dX11_circuit_33 : decode cX11_circuit 33 = .ok (.ireturn, 1) := by decide +kernel
theorem dX11_circuit_34 : decode cX11_circuit 34 = .ok (.aload_n 0, 1) := by decide +kernel
theorem dX11_circuit_35 : decode cX11_circuit 35 = .ok (.getfield 32, 3) := by decide +kernel
theorem dX11_circuit_38 : decode cX11_circuit 38 = .ok (.aload_n 0, 1) := by decide +kernel
theorem dX11_circuit_39 : decode cX11_circuit 39 = .ok (.getfield 18, 3) := by decide +kernel
theorem dX11_circuit_42 : decode cX11_circuit 42 = .ok (.invokevirtual 213, 3) := by decide +kernel
theorem dX11_circuit_45 : decode cX11_circuit 45 = .ok (.aload_n 0, 1) := by decide +kernel
theorem dX11_circuit_46 : decode cX11_circuit 46 = .ok (.getfield 32, 3) := by decide +kernel
theorem dX11_circuit_49 : decode cX11_circuit 49 = .ok (.aload_n 0, 1) := by decide +kernel
theorem dX11_circuit_50 : decode cX11_circuit 50 = .ok (.getfield 18, 3) := by decide +kernel
theorem dX11_circuit_53 : decode cX11_circuit 53 = .ok (.invokevirtual 217, 3) := by decide +kernel
theorem dX11_circuit_56 : decode cX11_circuit 56 = .ok (.aload_n 0, 1) := by decide +kernel
theorem dX11_circuit_57 : decode cX11_circuit 57 = .ok (.getfield 32, 3) := by decide +kernel
theorem dX11_circuit_60 : decode cX11_circuit 60 = .ok (.iconst 1, 1) := by decide +kernel
theorem dX11_circuit_61 : decode cX11_circuit 61 = .ok (.putfield 143, 3) := by decide +kernel
theorem dX11_circuit_64 : decode cX11_circuit 64 = .ok (.aload_n 0, 1) := by decide +kernel
theorem dX11_circuit_65 : decode cX11_circuit 65 = .ok (.getfield 39, 3) := by decide +kernel
theorem dX11_circuit_68 : decode cX11_circuit 68 = .ok (.iconst 0, 1) := by decide +kernel
theorem dX11_circuit_69 : decode cX11_circuit 69 = .ok (.putfield 146, 3) := by decide +kernel
theorem dX11_circuit_72 : decode cX11_circuit 72 = .ok (.aload_n 0, 1) := by decide +kernel
theorem dX11_circuit_73 : decode cX11_circuit 73 = .ok (.getfield 32, 3) := by decide +kernel
theorem dX11_circuit_76 : decode cX11_circuit 76 = .ok (.getfield 220, 3) := by decide +kernel
theorem dX11_circuit_79 : decode cX11_circuit 79 = .ok (.getfield 166, 3) := by decide +kernel
theorem dX11_circuit_82 : decode cX11_circuit 82 = .ok (.ireturn, 1) := by decide +kernel
theorem dX11_net_0 : decode cX11_net 0 = .ok (.iload_n 1, 1) := by decide +kernel
theorem dX11_net_1 : decode cX11_net 1 = .ok (.bipush 16, 2) := by decide +kernel
theorem dX11_net_3 : decode cX11_net 3 = .ok (.invokestatic 60, 3) := by decide +kernel
theorem dX11_net_6 : decode cX11_net 6 = .ok (.ifCond .ne 13, 3) := by decide +kernel
theorem dX11_net_9 : decode cX11_net 9 = .ok (.iload_n 2, 1) := by decide +kernel
theorem dX11_net_10 : decode cX11_net 10 = .ok (.sipush 4096, 3) := by decide +kernel
theorem dX11_net_13 : decode cX11_net 13 = .ok (.invokestatic 60, 3) := by decide +kernel
theorem dX11_net_16 : decode cX11_net 16 = .ok (.ifCond .eq 10, 3) := by decide +kernel
theorem dX11_net_19 : decode cX11_net 19 = .ok (.aload_n 0, 1) := by decide +kernel
theorem dX11_net_20 : decode cX11_net 20 = .ok (.bipush (-3), 2) := by decide +kernel
theorem dX11_net_22 : decode cX11_net 22 = .ok (.invokevirtual 64, 3) := by decide +kernel
theorem dX11_net_25 : decode cX11_net 25 = .ok (.ireturn, 1) := by decide +kernel
theorem dX11_net_26 : decode cX11_net 26 = .ok (.aload_n 0, 1) := by decide +kernel
theorem dX11_net_27 : decode cX11_net 27 = .ok (.getfield 32, 3) := by decide +kernel
theorem dX11_net_30 : decode cX11_net 30 = .ok (.getfield 143, 3) := by decide +kernel
theorem dX11_net_33 : decode cX11_net 33 = .ok (.ifCond .ne 10, 3) := by decide +kernel
theorem dX11_net_36 : decode cX11_net 36 = .ok (.aload_n 0, 1) := by decide +kernel
theorem dX11_net_37 : decode cX11_net 37 = .ok (.bipush (-2), 2) := by decide +kernel
theorem dX11_net_39 : decode cX11_net 39 = .ok (.invokevirtual 64, 3) := by decide +kernel
theorem dX11_net_42 : decode cX11_net 42 = .ok (.ireturn, 1) := by decide +kernel
theorem dX11_net_43 : decode cX11_net 43 = .ok (.aload_n 0, 1) := by decide +kernel
theorem dX11_net_44 : decode cX11_net 44 = .ok (.getfield 32, 3) := by decide +kernel
theorem dX11_net_47 : decode cX11_net 47 = .ok (.iload_n 1, 1) := by decide +kernel
theorem dX11_net_48 : decode cX11_net 48 = .ok (.invokevirtual 224, 3) := by decide +kernel
theorem dX11_net_51 : decode cX11_net 51 = .ok (.ifCond .eq 15, 3) := by decide +kernel
theorem dX11_net_54 : decode cX11_net 54 = .ok (.aload_n 0, 1) := by decide +kernel
theorem dX11_net_55 : decode cX11_net 55 = .ok (.getfield 32, 3) := by decide +kernel
theorem dX11_net_58 : decode cX11_net 58 = .ok (.iload_n 1, 1) := by decide +kernel
theorem dX11_net_59 : decode cX11_net 59 = .ok (.iload_n 2, 1) := by decide +kernel
theorem dX11_net_60 : decode cX11_net 60 = .ok (.invokevirtual 227, 3) := by decide +kernel
theorem dX11_net_63 : decode cX11_net 63 = .ok (.goto 9, 3) := by decide +kernel
theorem dX11_net_66 : decode cX11_net 66 = .ok (.aload_n 0, 1) := by decide +kernel
theorem dX11_net_67 : decode cX11_net 67 = .ok (.bipush (-7), 2) := by decide +kernel
theorem dX11_net_69 : decode cX11_net 69 = .ok (.invokevirtual 64, 3) := by decide +kernel
theorem dX11_net_72 : decode cX11_net 72 = .ok (.ireturn, 1) := by decide +kernel
theorem dX11_name_0 : decode cX11_name 0 = .ok (.aload_n 0, 1) := by decide +kernel
theorem dX11_name_1 : decode cX11_name 1 = .ok (.getfield 32, 3) := by decide +kernel
theorem dX11_name_4 : decode cX11_name 4 = .ok (.getfield 143, 3) := by decide +kernel
theorem dX11_name_7 : decode cX11_name 7 = .ok (.ifCond .ne 10, 3) := by decide +kernel
theorem dX11_name_10 : decode cX11_name 10 = .ok (.aload_n 0, 1) := by decide +kernel
theorem dX11_name_11 : decode cX11_name 11 = .ok (.bipush (-2), 2) := by decide +kernel
theorem dX11_name_13 : decode cX11_name 13 = .ok (.invokevirtual 64, 3) := by decide +kernel
theorem dX11_name_16 : decode cX11_name 16 = .ok (.ireturn, 1) := by decide +kernel
theorem dX11_name_17 : decode cX11_name 17 = .ok (.iload_n 1, 1) := by decide +kernel
theorem dX11_name_18 : decode cX11_name 18 = .ok (.aload_n 0, 1) := by decide +kernel
theorem dX11_name_19 : decode cX11_name 19 = .ok (.getfield 32, 3) := by decide +kernel
theorem dX11_name_22 : decode cX11_name 22 = .ok (.getfield 220, 3) := by decide +kernel
theorem dX11_name_25 : decode cX11_name 25 = .ok (.getfield 166, 3) := by decide +kernel
theorem dX11_name_28 : decode cX11_name 28 = .ok (.invokestatic 60, 3) := by decide +kernel
theorem dX11_name_31 : decode cX11_name 31 = .ok (.ifCond .eq 10, 3) := by decide +kernel
theorem dX11_name_34 : decode cX11_name 34 = .ok (.aload_n 0, 1) := by decide +kernel
theorem dX11_name_35 : decode cX11_name 35 = .ok (.bipush (-3), 2) := by decide +kernel
theorem dX11_name_37 : decode cX11_name 37 = .ok (.invokevirtual 64, 3) := by decide +kernel
theorem dX11_name_40 : decode cX11_name 40 = .ok (.ireturn, 1) := by decide +kernel
theorem dX11_name_41 : decode cX11_name 41 = .ok (.iload_n 2, 1) := by decide +kernel
theorem dX11_name_42 : decode cX11_name 42 = .ok (.ifCond .ge 12, 3) := by decide +kernel
theorem dX11_name_45 : decode cX11_name 45 = .ok (.aload_n 0, 1) := by decide +kernel
theorem dX11_name_46 : decode cX11_name 46 = .ok (.bipush (-4), 2) := by decide +kernel
theorem dX11_name_48 : decode cX11_name 48 = .ok (.invokevirtual 64, 3) := by decide +kernel
theorem dX11_name_51 : decode cX11_name 51 = .ok (.goto 16, 3) := by decide +kernel
theorem dX11_name_54 : decode cX11_name 54 = .ok (.aload_n 0, 1) := by decide +kernel
theorem dX11_name_55 : decode cX11_name 55 = .ok (.getfield 32, 3) := by decide +kernel
theorem dX11_name_58 : decode cX11_name 58 = .ok (.aload_n 0, 1) := by decide +kernel
theorem dX11_name_59 : decode cX11_name 59 = .ok (.getfield 18, 3) := by decide +kernel
theorem dX11_name_62 : decode cX11_name 62 = .ok (.iload_n 1, 1) := by decide +kernel
theorem dX11_name_63 : decode cX11_name 63 = .ok (.iload_n 2, 1) := by decide +kernel
theorem dX11_name_64 : decode cX11_name 64 = .ok (.invokevirtual 230, 3) := by decide +kernel
theorem dX11_name_67 : decode cX11_name 67 = .ok (.ireturn, 1) := by decide +kernel
theorem dX11_device_0 : decode cX11_device 0 = .ok (.aload_n 0, 1) := by decide +kernel
theorem dX11_device_1 : decode cX11_device 1 = .ok (.getfield 32, 3) := by decide +kernel
theorem dX11_device_4 : decode cX11_device 4 = .ok (.getfield 143, 3) := by decide +kernel
theorem dX11_device_7 : decode cX11_device 7 = .ok (.ifCond .ne 10, 3) := by decide +kernel
theorem dX11_device_10 : decode cX11_device 10 = .ok (.aload_n 0, 1) := by decide +kernel
theorem dX11_device_11 : decode cX11_device 11 = .ok (.bipush (-2), 2) := by decide +kernel
theorem dX11_device_13 : decode cX11_device 13 = .ok (.invokevirtual 64, 3) := by decide +kernel
theorem dX11_device_16 : decode cX11_device 16 = .ok (.ireturn, 1) := by decide +kernel
theorem dX11_device_17 : decode cX11_device 17 = .ok (.iload_n 1, 1) := by decide +kernel
theorem dX11_device_18 : decode cX11_device 18 = .ok (.iconst (-1), 1) := by decide +kernel
theorem dX11_device_19 : decode cX11_device 19 = .ok (.if_icmp .ne 11, 3) := by decide +kernel
theorem dX11_device_22 : decode cX11_device 22 = .ok (.aload_n 0, 1) := by decide +kernel
theorem dX11_device_23 : decode cX11_device 23 = .ok (.getfield 32, 3) := by decide +kernel
theorem dX11_device_26 : decode cX11_device 26 = .ok (.getfield 234, 3) := by decide +kernel
theorem dX11_device_29 : decode cX11_device 29 = .ok (.ireturn, 1) := by decide +kernel
theorem dX11_device_30 : decode cX11_device 30 = .ok (.iload_n 1, 1) := by decide +kernel
theorem dX11_device_31 : decode cX11_device 31 = .ok (.aload_n 0, 1) := by decide +kernel
theorem dX11_device_32 : decode cX11_device 32 = .ok (.getfield 32, 3) := by decide +kernel
theorem dX11_device_35 : decode cX11_device 35 = .ok (.getfield 234, 3) := by decide +kernel
theorem dX11_device_38 : decode cX11_device 38 = .ok (.invokestatic 60, 3) := by decide +kernel
theorem dX11_device_41 : decode cX11_device 41 = .ok (.ifCond .eq 10, 3) := by decide +kernel
theorem dX11_device_44 : decode cX11_device 44 = .ok (.aload_n 0, 1) := by decide +kernel
theorem dX11_device_45 : decode cX11_device 45 = .ok (.bipush (-3), 2) := by decide +kernel
theorem dX11_device_47 : decode cX11_device 47 = .ok (.invokevirtual 64, 3) := by decide +kernel
theorem dX11_device_50 : decode cX11_device 50 = .ok (.ireturn, 1) := by decide +kernel
theorem dX11_device_51 : decode cX11_device 51 = .ok (.iload_n 2, 1) := by decide +kernel
theorem dX11_device_52 : decode cX11_device 52 = .ok (.iconst 4, 1) := by decide +kernel
theorem dX11_device_53 : decode cX11_device 53 = .ok (.invokestatic 60, 3) := by decide +kernel
theorem dX11_device_56 : decode cX11_device 56 = .ok (.ifCond .eq 12, 3) := by decide +kernel
theorem dX11_device_59 : decode cX11_device 59 = .ok (.aload_n 0, 1) := by decide +kernel
theorem dX11_device_60 : decode cX11_device 60 = .ok (.bipush (-7), 2) := by decide +kernel
theorem dX11_device_62 : decode cX11_device 62 = .ok (.invokevirtual 64, 3) := by decide +kernel
theorem dX11_device_65 : decode cX11_device 65 = .ok (.goto 12, 3) := by decide +kernel
theorem dX11_device_68 : decode cX11_device 68 = .ok (.aload_n 0, 1) := by decide +kernel
theorem dX11_device_69 : decode cX11_device 69 = .ok (.getfield 32, 3) := by decide +kernel
theorem dX11_device_72 : decode cX11_device 72 = .ok (.iload_n 1, 1) := by decide +kernel
theorem dX11_device_73 : decode cX11_device 73 = .ok (.iload_n 2, 1) := by decide +kernel
theorem dX11_device_74 : decode cX11_device 74 = .ok (.invokevirtual 237, 3) := by decide +kernel
theorem dX11_device_77 : decode cX11_device 77 = .ok (.ireturn, 1) := by decide +kernel
theorem dX11_wish_0 : decode cX11_wish 0 = .ok (.iload_n 1, 1) := by decide +kernel
theorem dX11_wish_1 : decode cX11_wish 1 = .ok (.sipush 13824, 3) := by decide +kernel
theorem dX11_wish_4 : decode cX11_wish 4 = .ok (.invokestatic 60, 3) := by decide +kernel
theorem dX11_wish_7 : decode cX11_wish 7 = .ok (.ifCond .ne 14, 3) := by decide +kernel
theorem dX11_wish_10 : decode cX11_wish 10 = .ok (.iload_n 2, 1) := by decide +kernel
theorem dX11_wish_11 : decode cX11_wish 11 = .ok (.ifCond .lt 10, 3) := by decide +kernel
theorem dX11_wish_14 : decode cX11_wish 14 = .ok (.iload_n 2, 1) := by decide +kernel
theorem dX11_wish_15 : decode cX11_wish 15 = .ok (.sipush 4096, 3) := by decide +kernel
theorem dX11_wish_18 : decode cX11_wish 18 = .ok (.if_icmp .le 10, 3) := by decide +kernel
theorem dX11_wish_21 : decode cX11_wish 21 = .ok (.aload_n 0, 1) := by decide +kernel
theorem dX11_wish_22 : decode cX11_wish 22 = .ok (.bipush (-7), 2) := by decide +kernel
theorem dX11_wish_24 : decode cX11_wish 24 = .ok (.invokevirtual 64, 3) := by decide +kernel
theorem dX11_wish_27 : decode cX11_wish 27 = .ok (.ireturn, 1) := by decide +kernel
theorem dX11_wish_28 : decode cX11_wish 28 = .ok (.aload_n 0, 1) := by decide +kernel
theorem dX11_wish_29 : decode cX11_wish 29 = .ok (.getfield 39, 3) := by decide +kernel
theorem dX11_wish_32 : decode cX11_wish 32 = .ok (.getfield 240, 3) := by decide +kernel
theorem dX11_wish_35 : decode cX11_wish 35 = .ok (.bipush 12, 2) := by decide +kernel
theorem dX11_wish_37 : decode cX11_wish 37 = .ok (.if_icmp .lt 12, 3) := by decide +kernel
theorem dX11_wish_40 : decode cX11_wish 40 = .ok (.aload_n 0, 1) := by decide +kernel
theorem dX11_wish_41 : decode cX11_wish 41 = .ok (.bipush (-8), 2) := by decide +kernel
theorem dX11_wish_43 : decode cX11_wish 43 = .ok (.invokevirtual 64, 3) := by decide +kernel
theorem dX11_wish_46 : decode cX11_wish 46 = .ok (.goto 12, 3) := by decide +kernel
theorem dX11_wish_49 : decode cX11_wish 49 = .ok (.aload_n 0, 1) := by decide +kernel
theorem dX11_wish_50 : decode cX11_wish 50 = .ok (.getfield 39, 3) := by decide +kernel
theorem dX11_wish_53 : decode cX11_wish 53 = .ok (.iload_n 1, 1) := by decide +kernel
theorem dX11_wish_54 : decode cX11_wish 54 = .ok (.iload_n 2, 1) := by decide +kernel
theorem dX11_wish_55 : decode cX11_wish 55 = .ok (.invokevirtual 241, 3) := by decide +kernel
theorem dX11_wish_58 : decode cX11_wish 58 = .ok (.ireturn, 1) := by decide +kernel
theorem dX11_unwish_0 : decode cX11_unwish 0 = .ok (.aload_n 0, 1) := by decide +kernel
theorem dX11_unwish_1 : decode cX11_unwish 1 = .ok (.getfield 39, 3) := by decide +kernel
theorem dX11_unwish_4 : decode cX11_unwish 4 = .ok (.getfield 240, 3) := by decide +kernel
theorem dX11_unwish_7 : decode cX11_unwish 7 = .ok (.istore_n 1, 1) := by decide +kernel
theorem dX11_unwish_8 : decode cX11_unwish 8 = .ok (.aload_n 0, 1) := by decide +kernel
theorem dX11_unwish_9 : decode cX11_unwish 9 = .ok (.getfield 39, 3) := by decide +kernel
theorem dX11_unwish_12 : decode cX11_unwish 12 = .ok (.iconst 0, 1) := by decide +kernel
theorem dX11_unwish_13 : decode cX11_unwish 13 = .ok (.putfield 240, 3) := by decide +kernel
theorem dX11_unwish_16 : decode cX11_unwish 16 = .ok (.aload_n 0, 1) := by decide +kernel
theorem dX11_unwish_17 : decode cX11_unwish 17 = .ok (.getfield 39, 3) := by decide +kernel
theorem dX11_unwish_20 : decode cX11_unwish 20 = .ok (.iconst 0, 1) := by decide +kernel
theorem dX11_unwish_21 : decode cX11_unwish 21 = .ok (.putfield 146, 3) := by decide +kernel
theorem dX11_unwish_24 : decode cX11_unwish 24 = .ok (.iload_n 1, 1) := by decide +kernel
theorem dX11_unwish_25 : decode cX11_unwish 25 = .ok (.ireturn, 1) := by decide +kernel
theorem dX11_same_0 : decode cX11_same 0 = .ok (.aload_n 0, 1) := by decide +kernel
theorem dX11_same_1 : decode cX11_same 1 = .ok (.getfield 32, 3) := by decide +kernel
theorem dX11_same_4 : decode cX11_same 4 = .ok (.getfield 143, 3) := by decide +kernel
theorem dX11_same_7 : decode cX11_same 7 = .ok (.ifCond .ne 10, 3) := by decide +kernel
theorem dX11_same_10 : decode cX11_same 10 = .ok (.aload_n 0, 1) := by decide +kernel
theorem dX11_same_11 : decode cX11_same 11 = .ok (.bipush (-2), 2) := by decide +kernel
theorem dX11_same_13 : decode cX11_same 13 = .ok (.invokevirtual 64, 3) := by decide +kernel
theorem dX11_same_16 : decode cX11_same 16 = .ok (.ireturn, 1) := by decide +kernel
theorem dX11_same_17 : decode cX11_same 17 = .ok (.aload_n 0, 1) := by decide +kernel
theorem dX11_same_18 : decode cX11_same 18 = .ok (.getfield 39, 3) := by decide +kernel
theorem dX11_same_21 : decode cX11_same 21 = .ok (.aload_n 0, 1) := by decide +kernel
theorem dX11_same_22 : decode cX11_same 22 = .ok (.getfield 32, 3) := by decide +kernel
theorem dX11_same_25 : decode cX11_same 25 = .ok (.invokevirtual 243, 3) := by decide +kernel
theorem dX11_same_28 : decode cX11_same 28 = .ok (.aload_n 0, 1) := by decide +kernel
theorem dX11_same_29 : decode cX11_same 29 = .ok (.getfield 39, 3) := by decide +kernel
theorem dX11_same_32 : decode cX11_same 32 = .ok (.getfield 247, 3) := by decide +kernel
theorem dX11_same_35 : decode cX11_same 35 = .ok (.ifCond .eq 10, 3) := by decide +kernel
theorem dX11_same_38 : decode cX11_same 38 = .ok (.aload_n 0, 1) := by decide +kernel
theorem dX11_same_39 : decode cX11_same 39 = .ok (.bipush (-9), 2) := by decide +kernel
theorem dX11_same_41 : decode cX11_same 41 = .ok (.invokevirtual 64, 3) := by decide +kernel
theorem dX11_same_44 : decode cX11_same 44 = .ok (.ireturn, 1) := by decide +kernel
theorem dX11_same_45 : decode cX11_same 45 = .ok (.aload_n 0, 1) := by decide +kernel
theorem dX11_same_46 : decode cX11_same 46 = .ok (.getfield 39, 3) := by decide +kernel
theorem dX11_same_49 : decode cX11_same 49 = .ok (.getfield 146, 3) := by decide +kernel
theorem dX11_same_52 : decode cX11_same 52 = .ok (.ifCond .eq 7, 3) := by decide +kernel
theorem dX11_same_55 : decode cX11_same 55 = .ok (.iconst 1, 1) := by decide +kernel
theorem dX11_same_56 : decode cX11_same 56 = .ok (.goto 4, 3) := by decide +kernel
theorem dX11_same_59 : decode cX11_same 59 = .ok (.iconst 0, 1) := by decide +kernel
theorem dX11_same_60 : decode cX11_same 60 = .ok (.ireturn, 1) := by decide +kernel
theorem dX11_tries_0 : decode cX11_tries 0 = .ok (.aload_n 0, 1) := by decide +kernel
theorem dX11_tries_1 : decode cX11_tries 1 = .ok (.getfield 39, 3) := by decide +kernel
theorem dX11_tries_4 : decode cX11_tries 4 = .ok (.getfield 250, 3) := by decide +kernel
theorem dX11_tries_7 : decode cX11_tries 7 = .ok (.ireturn, 1) := by decide +kernel
theorem dX11_pair_0 : decode cX11_pair 0 = .ok (.aload_n 0, 1) := by decide +kernel
theorem dX11_pair_1 : decode cX11_pair 1 = .ok (.getfield 39, 3) := by decide +kernel
theorem dX11_pair_4 : decode cX11_pair 4 = .ok (.getfield 146, 3) := by decide +kernel
theorem dX11_pair_7 : decode cX11_pair 7 = .ok (.ifCond .ne 10, 3) := by decide +kernel
theorem dX11_pair_10 : decode cX11_pair 10 = .ok (.aload_n 0, 1) := by decide +kernel
theorem dX11_pair_11 : decode cX11_pair 11 = .ok (.bipush (-2), 2) := by decide +kernel
theorem dX11_pair_13 : decode cX11_pair 13 = .ok (.invokevirtual 64, 3) := by decide +kernel
theorem dX11_pair_16 : decode cX11_pair 16 = .ok (.ireturn, 1) := by decide +kernel
theorem dX11_pair_17 : decode cX11_pair 17 = .ok (.iload_n 1, 1) := by decide +kernel
theorem dX11_pair_18 : decode cX11_pair 18 = .ok (.iload_n 2, 1) := by decide +kernel
theorem dX11_pair_19 : decode cX11_pair 19 = .ok (.ifCond .eq 16, 3) := by decide +kernel
theorem dX11_pair_22 : decode cX11_pair 22 = .ok (.aload_n 0, 1) := by decide +kernel
theorem dX11_pair_23 : decode cX11_pair 23 = .ok (.getfield 32, 3) := by decide +kernel
theorem dX11_pair_26 : decode cX11_pair 26 = .ok (.getfield 220, 3) := by decide +kernel
theorem dX11_pair_29 : decode cX11_pair 29 = .ok (.getfield 166, 3) := by decide +kernel
theorem dX11_pair_32 : decode cX11_pair 32 = .ok (.goto 10, 3) := by decide +kernel
theorem dX11_pair_35 : decode cX11_pair 35 = .ok (.aload_n 0, 1) := by decide +kernel
theorem dX11_pair_36 : decode cX11_pair 36 = .ok (.getfield 32, 3) := by decide +kernel
theorem dX11_pair_39 : decode cX11_pair 39 = .ok (.getfield 234, 3) := by decide +kernel
theorem dX11_pair_42 : decode cX11_pair 42 = .ok (.invokestatic 60, 3) := by decide +kernel
theorem dX11_pair_45 : decode cX11_pair 45 = .ok (.ifCond .eq 10, 3) := by decide +kernel
theorem dX11_pair_48 : decode cX11_pair 48 = .ok (.aload_n 0, 1) := by decide +kernel
theorem dX11_pair_49 : decode cX11_pair 49 = .ok (.bipush (-3), 2) := by decide +kernel
theorem dX11_pair_51 : decode cX11_pair 51 = .ok (.invokevirtual 64, 3) := by decide +kernel
theorem dX11_pair_54 : decode cX11_pair 54 = .ok (.ireturn, 1) := by decide +kernel
theorem dX11_pair_55 : decode cX11_pair 55 = .ok (.iload_n 2, 1) := by decide +kernel
theorem dX11_pair_56 : decode cX11_pair 56 = .ok (.ifCond .eq 14, 3) := by decide +kernel
theorem dX11_pair_59 : decode cX11_pair 59 = .ok (.aload_n 0, 1) := by decide +kernel
theorem dX11_pair_60 : decode cX11_pair 60 = .ok (.getfield 39, 3) := by decide +kernel
theorem dX11_pair_63 : decode cX11_pair 63 = .ok (.iload_n 1, 1) := by decide +kernel
theorem dX11_pair_64 : decode cX11_pair 64 = .ok (.invokevirtual 253, 3) := by decide +kernel
theorem dX11_pair_67 : decode cX11_pair 67 = .ok (.goto 11, 3) := by decide +kernel
theorem dX11_pair_70 : decode cX11_pair 70 = .ok (.aload_n 0, 1) := by decide +kernel
theorem dX11_pair_71 : decode cX11_pair 71 = .ok (.getfield 39, 3) := by decide +kernel
theorem dX11_pair_74 : decode cX11_pair 74 = .ok (.iload_n 1, 1) := by decide +kernel
theorem dX11_pair_75 : decode cX11_pair 75 = .ok (.invokevirtual 256, 3) := by decide +kernel
theorem dX11_pair_78 : decode cX11_pair 78 = .ok (.ireturn, 1) := by decide +kernel
theorem dX11_lay_0 : decode cX11_lay 0 = .ok (.iload_n 1, 1) := by decide +kernel
theorem dX11_lay_1 : decode cX11_lay 1 = .ok (.bipush 16, 2) := by decide +kernel
theorem dX11_lay_3 : decode cX11_lay 3 = .ok (.invokestatic 60, 3) := by decide +kernel
theorem dX11_lay_6 : decode cX11_lay 6 = .ok (.ifCond .ne 12, 3) := by decide +kernel
theorem dX11_lay_9 : decode cX11_lay 9 = .ok (.iload_n 2, 1) := by decide +kernel
theorem dX11_lay_10 : decode cX11_lay 10 = .ok (.bipush 64, 2) := by decide +kernel
theorem dX11_lay_12 : decode cX11_lay 12 = .ok (.invokestatic 60, 3) := by decide +kernel
theorem dX11_lay_15 : decode cX11_lay 15 = .ok (.ifCond .eq 10, 3) := by decide +kernel
theorem dX11_lay_18 : decode cX11_lay 18 = .ok (.aload_n 0, 1) := by decide +kernel
theorem dX11_lay_19 : decode cX11_lay 19 = .ok (.bipush (-3), 2) := by decide +kernel
theorem dX11_lay_21 : decode cX11_lay 21 = .ok (.invokevirtual 64, 3) := by decide +kernel
theorem dX11_lay_24 : decode cX11_lay 24 = .ok (.ireturn, 1) := by decide +kernel
theorem dX11_lay_25 : decode cX11_lay 25 = .ok (.aload_n 0, 1) := by decide +kernel
theorem dX11_lay_26 : decode cX11_lay 26 = .ok (.getfield 18, 3) := by decide +kernel
theorem dX11_lay_29 : decode cX11_lay 29 = .ok (.getfield 153, 3) := by decide +kernel
theorem dX11_lay_32 : decode cX11_lay 32 = .ok (.ifCond .ne 10, 3) := by decide +kernel
theorem dX11_lay_35 : decode cX11_lay 35 = .ok (.aload_n 0, 1) := by decide +kernel
theorem dX11_lay_36 : decode cX11_lay 36 = .ok (.bipush (-2), 2) := by decide +kernel
theorem dX11_lay_38 : decode cX11_lay 38 = .ok (.invokevirtual 64, 3) := by decide +kernel
theorem dX11_lay_41 : decode cX11_lay 41 = .ok (.ireturn, 1) := by decide +kernel
theorem dX11_lay_42 : decode cX11_lay 42 = .ok (.aload_n 0, 1) := by decide +kernel
theorem dX11_lay_43 : decode cX11_lay 43 = .ok (.aload_n 0, 1) := by decide +kernel
theorem dX11_lay_44 : decode cX11_lay 44 = .ok (.getfield 18, 3) := by decide +kernel
theorem dX11_lay_47 : decode cX11_lay 47 = .ok (.getfield 159, 3) := by decide +kernel
theorem dX11_lay_50 : decode cX11_lay 50 = .ok (.bipush 64, 2) := by decide +kernel
theorem dX11_lay_52 : decode cX11_lay 52 = .ok (.iload_n 1, 1) := by decide +kernel
theorem dX11_lay_53 : decode cX11_lay 53 = .ok (.imul, 1) := by decide +kernel
theorem dX11_lay_54 : decode cX11_lay 54 = .ok (.iload_n 2, 1) := by decide +kernel
theorem dX11_lay_55 : decode cX11_lay 55 = .ok (.iadd, 1) := by decide +kernel
theorem dX11_lay_56 : decode cX11_lay 56 = .ok (.laload, 1) := by decide +kernel
theorem dX11_lay_57 : decode cX11_lay 57 = .ok (.putfield 51, 3) := by decide +kernel
theorem dX11_lay_60 : decode cX11_lay 60 = .ok (.aload_n 0, 1) := by decide +kernel
theorem dX11_lay_61 : decode cX11_lay 61 = .ok (.iconst 1, 1) := by decide +kernel
theorem dX11_lay_62 : decode cX11_lay 62 = .ok (.putfield 55, 3) := by decide +kernel
theorem dX11_lay_65 : decode cX11_lay 65 = .ok (.aload_n 0, 1) := by decide +kernel
theorem dX11_lay_66 : decode cX11_lay 66 = .ok (.getfield 51, 3) := by decide +kernel
theorem dX11_lay_69 : decode cX11_lay 69 = .ok (.invokestatic 259, 3) := by decide +kernel
theorem dX11_lay_72 : decode cX11_lay 72 = .ok (.ireturn, 1) := by decide +kernel
theorem dX11_tear_0 : decode cX11_tear 0 = .ok (.aload_n 0, 1) := by decide +kernel
theorem dX11_tear_1 : decode cX11_tear 1 = .ok (.getfield 55, 3) := by decide +kernel
theorem dX11_tear_4 : decode cX11_tear 4 = .ok (.ifCond .eq 7, 3) := by decide +kernel
theorem dX11_tear_7 : decode cX11_tear 7 = .ok (.iconst 1, 1) := by decide +kernel
theorem dX11_tear_8 : decode cX11_tear 8 = .ok (.goto 4, 3) := by decide +kernel
theorem dX11_tear_11 : decode cX11_tear 11 = .ok (.iconst 0, 1) := by decide +kernel
theorem dX11_tear_12 : decode cX11_tear 12 = .ok (.istore_n 1, 1) := by decide +kernel
theorem dX11_tear_13 : decode cX11_tear 13 = .ok (.aload_n 0, 1) := by decide +kernel
theorem dX11_tear_14 : decode cX11_tear 14 = .ok (.iconst 0, 1) := by decide +kernel
theorem dX11_tear_15 : decode cX11_tear 15 = .ok (.putfield 55, 3) := by decide +kernel
theorem dX11_tear_18 : decode cX11_tear 18 = .ok (.iload_n 1, 1) := by decide +kernel
theorem dX11_tear_19 : decode cX11_tear 19 = .ok (.ireturn, 1) := by decide +kernel
theorem dX11_row_0 : decode cX11_row 0 = .ok (.aload_n 0, 1) := by decide +kernel
theorem dX11_row_1 : decode cX11_row 1 = .ok (.getfield 55, 3) := by decide +kernel
theorem dX11_row_4 : decode cX11_row 4 = .ok (.ifCond .ne 10, 3) := by decide +kernel
theorem dX11_row_7 : decode cX11_row 7 = .ok (.aload_n 0, 1) := by decide +kernel
theorem dX11_row_8 : decode cX11_row 8 = .ok (.bipush (-2), 2) := by decide +kernel
theorem dX11_row_10 : decode cX11_row 10 = .ok (.invokevirtual 64, 3) := by decide +kernel
theorem dX11_row_13 : decode cX11_row 13 = .ok (.ireturn, 1) := by decide +kernel
theorem dX11_row_14 : decode cX11_row 14 = .ok (.iload_n 1, 1) := by decide +kernel
theorem dX11_row_15 : decode cX11_row 15 = .ok (.bipush 64, 2) := by decide +kernel
theorem dX11_row_17 : decode cX11_row 17 = .ok (.invokestatic 60, 3) := by decide +kernel
theorem dX11_row_20 : decode cX11_row 20 = .ok (.ifCond .eq 12, 3) := by decide +kernel
theorem dX11_row_23 : decode cX11_row 23 = .ok (.aload_n 0, 1) := by decide +kernel
theorem dX11_row_24 : decode cX11_row 24 = .ok (.bipush (-3), 2) := by decide +kernel
theorem dX11_row_26 : decode cX11_row 26 = .ok (.invokevirtual 64, 3) := by decide +kernel
theorem dX11_row_29 : decode cX11_row 29 = .ok (.goto 12, 3) := by decide +kernel
theorem dX11_row_32 : decode cX11_row 32 = .ok (.aload_n 0, 1) := by decide +kernel
theorem dX11_row_33 : decode cX11_row 33 = .ok (.getfield 51, 3) := by decide +kernel
theorem dX11_row_36 : decode cX11_row 36 = .ok (.iload_n 1, 1) := by decide +kernel
theorem dX11_row_37 : decode cX11_row 37 = .ok (.lushr, 1) := by decide +kernel
theorem dX11_row_38 : decode cX11_row 38 = .ok (.lconst 1, 1) := by decide +kernel
theorem dX11_row_39 : decode cX11_row 39 = .ok (.land, 1) := by decide +kernel
theorem dX11_row_40 : decode cX11_row 40 = .ok (.l2i, 1) := by decide +kernel
theorem dX11_row_41 : decode cX11_row 41 = .ok (.ireturn, 1) := by decide +kernel
theorem dX11_copy_0 : decode cX11_copy 0 = .ok (.aload_n 0, 1) := by decide +kernel
theorem dX11_copy_1 : decode cX11_copy 1 = .ok (.getfield 55, 3) := by decide +kernel
theorem dX11_copy_4 : decode cX11_copy 4 = .ok (.ifCond .ne 10, 3) := by decide +kernel
theorem dX11_copy_7 : decode cX11_copy 7 = .ok (.aload_n 0, 1) := by decide +kernel
theorem dX11_copy_8 : decode cX11_copy 8 = .ok (.bipush (-2), 2) := by decide +kernel
theorem dX11_copy_10 : decode cX11_copy 10 = .ok (.invokevirtual 64, 3) := by decide +kernel
theorem dX11_copy_13 : decode cX11_copy 13 = .ok (.ireturn, 1) := by decide +kernel
theorem dX11_copy_14 : decode cX11_copy 14 = .ok (.iload_n 3, 1) := by decide +kernel
theorem dX11_copy_15 : decode cX11_copy 15 = .ok (.ifCond .ge 10, 3) := by decide +kernel
theorem dX11_copy_18 : decode cX11_copy 18 = .ok (.aload_n 0, 1) := by decide +kernel
theorem dX11_copy_19 : decode cX11_copy 19 = .ok (.bipush (-4), 2) := by decide +kernel
theorem dX11_copy_21 : decode cX11_copy 21 = .ok (.invokevirtual 64, 3) := by decide +kernel
theorem dX11_copy_24 : decode cX11_copy 24 = .ok (.ireturn, 1) := by decide +kernel
theorem dX11_copy_25 : decode cX11_copy 25 = .ok (.iload_n 1, 1) := by decide +kernel
theorem dX11_copy_26 : decode cX11_copy 26 = .ok (.ifCond .lt 29, 3) := by decide +kernel
theorem dX11_copy_29 : decode cX11_copy 29 = .ok (.iload_n 2, 1) := by decide +kernel
theorem dX11_copy_30 : decode cX11_copy 30 = .ok (.ifCond .lt 25, 3) := by decide +kernel
theorem dX11_copy_33 : decode cX11_copy 33 = .ok (.iload_n 3, 1) := by decide +kernel
theorem dX11_copy_34 : decode cX11_copy 34 = .ok (.bipush 64, 2) := by decide +kernel
theorem dX11_copy_36 : decode cX11_copy 36 = .ok (.if_icmp .gt 19, 3) := by decide +kernel
theorem dX11_copy_39 : decode cX11_copy 39 = .ok (.iload_n 1, 1) := by decide +kernel
theorem dX11_copy_40 : decode cX11_copy 40 = .ok (.bipush 64, 2) := by decide +kernel
theorem dX11_copy_42 : decode cX11_copy 42 = .ok (.iload_n 3, 1) := by decide +kernel
theorem dX11_copy_43 : decode cX11_copy 43 = .ok (.isub, 1) := by decide +kernel
theorem dX11_copy_44 : decode cX11_copy 44 = .ok (.if_icmp .gt 11, 3) := by decide +kernel
theorem dX11_copy_47 : decode cX11_copy 47 = .ok (.iload_n 2, 1) := by decide +kernel
theorem dX11_copy_48 : decode cX11_copy 48 = .ok (.bipush 64, 2) := by decide +kernel
theorem dX11_copy_50 : decode cX11_copy 50 = .ok (.iload_n 3, 1) := by decide +kernel
theorem dX11_copy_51 : decode cX11_copy 51 = .ok (.isub, 1) := by decide +kernel
theorem dX11_copy_52 : decode cX11_copy 52 = .ok (.if_icmp .le 10, 3) := by decide +kernel
theorem dX11_copy_55 : decode cX11_copy 55 = .ok (.aload_n 0, 1) := by decide +kernel
theorem dX11_copy_56 : decode cX11_copy 56 = .ok (.bipush (-6), 2) := by decide +kernel
theorem dX11_copy_58 : decode cX11_copy 58 = .ok (.invokevirtual 64, 3) := by decide +kernel
theorem dX11_copy_61 : decode cX11_copy 61 = .ok (.ireturn, 1) := by decide +kernel
theorem dX11_copy_62 : decode cX11_copy 62 = .ok (.aload_n 0, 1) := by decide +kernel
theorem dX11_copy_63 : decode cX11_copy 63 = .ok (.getfield 51, 3) := by decide +kernel
theorem dX11_copy_66 : decode cX11_copy 66 = .ok (.iload_n 1, 1) := by decide +kernel
theorem dX11_copy_67 : decode cX11_copy 67 = .ok (.lushr, 1) := by decide +kernel
theorem dX11_copy_68 : decode cX11_copy 68 = .ok (.iconst 0, 1) := by decide +kernel
theorem dX11_copy_69 : decode cX11_copy 69 = .ok (.iload_n 3, 1) := by decide +kernel
theorem dX11_copy_70 : decode cX11_copy 70 = .ok (.invokestatic 265, 3) := by decide +kernel
theorem dX11_copy_73 : decode cX11_copy 73 = .ok (.land, 1) := by decide +kernel
theorem dX11_copy_74 : decode cX11_copy 74 = .ok (.lstore 4, 2) := by decide +kernel
theorem dX11_copy_76 : decode cX11_copy 76 = .ok (.aload_n 0, 1) := by decide +kernel
theorem dX11_copy_77 : decode cX11_copy 77 = .ok (.aload_n 0, 1) := by decide +kernel
theorem dX11_copy_78 : decode cX11_copy 78 = .ok (.getfield 51, 3) := by decide +kernel
theorem dX11_copy_81 : decode cX11_copy 81 = .ok (.iload_n 2, 1) := by decide +kernel
theorem dX11_copy_82 : decode cX11_copy 82 = .ok (.iload_n 3, 1) := by decide +kernel
theorem dX11_copy_83 : decode cX11_copy 83 = .ok (.invokestatic 265, 3) := by decide +kernel
theorem dX11_copy_86 : decode cX11_copy 86 = .ok (.ldc2_w 271, 3) := by decide +kernel
theorem dX11_copy_89 : decode cX11_copy 89 = .ok (.lxor, 1) := by decide +kernel
theorem dX11_copy_90 : decode cX11_copy 90 = .ok (.land, 1) := by decide +kernel
theorem dX11_copy_91 : decode cX11_copy 91 = .ok (.lload 4, 2) := by decide +kernel
theorem dX11_copy_93 : decode cX11_copy 93 = .ok (.iload_n 2, 1) := by decide +kernel
theorem dX11_copy_94 : decode cX11_copy 94 = .ok (.lshl, 1) := by decide +kernel
theorem dX11_copy_95 : decode cX11_copy 95 = .ok (.lor, 1) := by decide +kernel
theorem dX11_copy_96 : decode cX11_copy 96 = .ok (.putfield 51, 3) := by decide +kernel
theorem dX11_copy_99 : decode cX11_copy 99 = .ok (.iload_n 3, 1) := by decide +kernel
theorem dX11_copy_100 : decode cX11_copy 100 = .ok (.ireturn, 1) := by decide +kernel
theorem dX11_status_0 : decode cX11_status 0 = .ok (.iload_n 1, 1) := by decide +kernel
theorem dX11_status_1 : decode cX11_status 1 = .ok (.bipush (-2), 2) := by decide +kernel
theorem dX11_status_3 : decode cX11_status 3 = .ok (.if_icmp .gt 9, 3) := by decide +kernel
theorem dX11_status_6 : decode cX11_status 6 = .ok (.iload_n 1, 1) := by decide +kernel
theorem dX11_status_7 : decode cX11_status 7 = .ok (.bipush (-9), 2) := by decide +kernel
theorem dX11_status_9 : decode cX11_status 9 = .ok (.if_icmp .ge 10, 3) := by decide +kernel
theorem dX11_status_12 : decode cX11_status 12 = .ok (.aload_n 0, 1) := by decide +kernel
theorem dX11_status_13 : decode cX11_status 13 = .ok (.bipush (-7), 2) := by decide +kernel
theorem dX11_status_15 : decode cX11_status 15 = .ok (.invokevirtual 64, 3) := by decide +kernel
theorem dX11_status_18 : decode cX11_status 18 = .ok (.ireturn, 1) := by decide +kernel
theorem dX11_status_19 : decode cX11_status 19 = .ok (.aload_n 0, 1) := by decide +kernel
theorem dX11_status_20 : decode cX11_status 20 = .ok (.getfield 43, 3) := by decide +kernel
theorem dX11_status_23 : decode cX11_status 23 = .ok (.bipush (-2), 2) := by decide +kernel
theorem dX11_status_25 : decode cX11_status 25 = .ok (.iload_n 1, 1) := by decide +kernel
theorem dX11_status_26 : decode cX11_status 26 = .ok (.isub, 1) := by decide +kernel
theorem dX11_status_27 : decode cX11_status 27 = .ok (.iaload, 1) := by decide +kernel
theorem dX11_status_28 : decode cX11_status 28 = .ok (.ireturn, 1) := by decide +kernel
theorem dX11_outside_0 : decode cX11_outside 0 = .ok (.iload_n 0, 1) := by decide +kernel
theorem dX11_outside_1 : decode cX11_outside 1 = .ok (.ifCond .lt 8, 3) := by decide +kernel
theorem dX11_outside_4 : decode cX11_outside 4 = .ok (.iload_n 0, 1) := by decide +kernel
theorem dX11_outside_5 : decode cX11_outside 5 = .ok (.iload_n 1, 1) := by decide +kernel
theorem dX11_outside_6 : decode cX11_outside 6 = .ok (.if_icmp .lt 7, 3) := by decide +kernel
theorem dX11_outside_9 : decode cX11_outside 9 = .ok (.iconst 1, 1) := by decide +kernel
theorem dX11_outside_10 : decode cX11_outside 10 = .ok (.goto 4, 3) := by decide +kernel
theorem dX11_outside_13 : decode cX11_outside 13 = .ok (.iconst 0, 1) := by decide +kernel
theorem dX11_outside_14 : decode cX11_outside 14 = .ok (.ireturn, 1) := by decide +kernel
theorem dX11_refuse_0 : decode cX11_refuse 0 = .ok (.aload_n 0, 1) := by decide +kernel
theorem dX11_refuse_1 : decode cX11_refuse 1 = .ok (.getfield 43, 3) := by decide +kernel
theorem dX11_refuse_4 : decode cX11_refuse 4 = .ok (.bipush (-2), 2) := by decide +kernel
theorem dX11_refuse_6 : decode cX11_refuse 6 = .ok (.iload_n 1, 1) := by decide +kernel
theorem dX11_refuse_7 : decode cX11_refuse 7 = .ok (.isub, 1) := by decide +kernel
theorem dX11_refuse_8 : decode cX11_refuse 8 = .ok (.dup2, 1) := by decide +kernel
theorem dX11_refuse_9 : decode cX11_refuse 9 = .ok (.iaload, 1) := by decide +kernel
theorem dX11_refuse_10 : decode cX11_refuse 10 = .ok (.iconst 1, 1) := by decide +kernel
theorem dX11_refuse_11 : decode cX11_refuse 11 = .ok (.iadd, 1) := by decide +kernel
theorem dX11_refuse_12 : decode cX11_refuse 12 = .ok (.iastore, 1) := by decide +kernel
theorem dX11_refuse_13 : decode cX11_refuse 13 = .ok (.iload_n 1, 1) := by decide +kernel
theorem dX11_refuse_14 : decode cX11_refuse 14 = .ok (.ireturn, 1) := by decide +kernel
theorem dX11_drawn_0 : decode cX11_drawn 0 = .ok (.aload_n 0, 1) := by decide +kernel
theorem dX11_drawn_1 : decode cX11_drawn 1 = .ok (.iload_n 1, 1) := by decide +kernel
theorem dX11_drawn_2 : decode cX11_drawn 2 = .ok (.invokevirtual 114, 3) := by decide +kernel
theorem dX11_drawn_5 : decode cX11_drawn 5 = .ok (.aload_n 0, 1) := by decide +kernel
theorem dX11_drawn_6 : decode cX11_drawn 6 = .ok (.getfield 11, 3) := by decide +kernel
theorem dX11_drawn_9 : decode cX11_drawn 9 = .ok (.iload_n 1, 1) := by decide +kernel
theorem dX11_drawn_10 : decode cX11_drawn 10 = .ok (.aaload, 1) := by decide +kernel
theorem dX11_drawn_11 : decode cX11_drawn 11 = .ok (.aload_n 2, 1) := by decide +kernel
theorem dX11_drawn_12 : decode cX11_drawn 12 = .ok (.invokevirtual 273, 3) := by decide +kernel
theorem dX11_drawn_15 : decode cX11_drawn 15 = .ok (.ireturn, 1) := by decide +kernel
theorem dX11_outdate_0 : decode cX11_outdate 0 = .ok (.iload_n 1, 1) := by decide +kernel
theorem dX11_outdate_1 : decode cX11_outdate 1 = .ok (.istore_n 2, 1) := by decide +kernel
theorem dX11_outdate_2 : decode cX11_outdate 2 = .ok (.iload_n 2, 1) := by decide +kernel
theorem dX11_outdate_3 : decode cX11_outdate 3 = .ok (.bipush 8, 2) := by decide +kernel
theorem dX11_outdate_5 : decode cX11_outdate 5 = .ok (.if_icmp .ge 19, 3) := by decide +kernel
theorem dX11_outdate_8 : decode cX11_outdate 8 = .ok (.aload_n 0, 1) := by decide +kernel
theorem dX11_outdate_9 : decode cX11_outdate 9 = .ok (.getfield 11, 3) := by decide +kernel
theorem dX11_outdate_12 : decode cX11_outdate 12 = .ok (.iload_n 2, 1) := by decide +kernel
theorem dX11_outdate_13 : decode cX11_outdate 13 = .ok (.aaload, 1) := by decide +kernel
theorem dX11_outdate_14 : decode cX11_outdate 14 = .ok (.iconst 0, 1) := by decide +kernel
theorem dX11_outdate_15 : decode cX11_outdate 15 = .ok (.putfield 276, 3) := by decide +kernel
theorem dX11_outdate_18 : decode cX11_outdate 18 = .ok (.iinc 2 1, 3) := by decide +kernel
theorem dX11_outdate_21 : decode cX11_outdate 21 = .ok (.goto (-19), 3) := by decide +kernel
theorem dX11_outdate_24 : decode cX11_outdate 24 = .ok (.return_, 1) := by decide +kernel
theorem dX12_init_0 : decode cX12_init 0 = .ok (.aload_n 0, 1) := by decide +kernel
theorem dX12_init_1 : decode cX12_init 1 = .ok (.invokespecial 1, 3) := by decide +kernel
theorem dX12_init_4 : decode cX12_init 4 = .ok (.aload_n 0, 1) := by decide +kernel
theorem dX12_init_5 : decode cX12_init 5 = .ok (.sipush 128, 3) := by decide +kernel
theorem dX12_init_8 : decode cX12_init 8 = .ok (.newarray .int, 2) := by decide +kernel
theorem dX12_init_10 : decode cX12_init 10 = .ok (.putfield 7, 3) := by decide +kernel
theorem dX12_init_13 : decode cX12_init 13 = .ok (.aload_n 0, 1) := by decide +kernel
theorem dX12_init_14 : decode cX12_init 14 = .ok (.sipush 128, 3) := by decide +kernel
theorem dX12_init_17 : decode cX12_init 17 = .ok (.newarray .int, 2) := by decide +kernel
theorem dX12_init_19 : decode cX12_init 19 = .ok (.putfield 13, 3) := by decide +kernel
theorem dX12_init_22 : decode cX12_init 22 = .ok (.aload_n 0, 1) := by decide +kernel
theorem dX12_init_23 : decode cX12_init 23 = .ok (.sipush 128, 3) := by decide +kernel
theorem dX12_init_26 : decode cX12_init 26 = .ok (.newarray .int, 2) := by decide +kernel
theorem dX12_init_28 : decode cX12_init 28 = .ok (.putfield 16, 3) := by decide +kernel
theorem dX12_init_31 : decode cX12_init 31 = .ok (.aload_n 0, 1) := by decide +kernel
theorem dX12_init_32 : decode cX12_init 32 = .ok (.sipush 128, 3) := by decide +kernel
theorem dX12_init_35 : decode cX12_init 35 = .ok (.newarray .int, 2) := by decide +kernel
theorem dX12_init_37 : decode cX12_init 37 = .ok (.putfield 19, 3) := by decide +kernel
theorem dX12_init_40 : decode cX12_init 40 = .ok (.aload_n 0, 1) := by decide +kernel
theorem dX12_init_41 : decode cX12_init 41 = .ok (.sipush 128, 3) := by decide +kernel
theorem dX12_init_44 : decode cX12_init 44 = .ok (.newarray .int, 2) := by decide +kernel
theorem dX12_init_46 : decode cX12_init 46 = .ok (.putfield 22, 3) := by decide +kernel
theorem dX12_init_49 : decode cX12_init 49 = .ok (.aload_n 0, 1) := by decide +kernel
theorem dX12_init_50 : decode cX12_init 50 = .ok (.sipush 128, 3) := by decide +kernel
theorem dX12_init_53 : decode cX12_init 53 = .ok (.newarray .int, 2) := by decide +kernel
theorem dX12_init_55 : decode cX12_init 55 = .ok (.putfield 25, 3) := by decide +kernel
theorem dX12_init_58 : decode cX12_init 58 = .ok (.aload_n 0, 1) := by decide +kernel
theorem dX12_init_59 : decode cX12_init 59 = .ok (.sipush 128, 3) := by decide +kernel
theorem dX12_init_62 : decode cX12_init 62 = .ok (.newarray .int, 2) := by decide +kernel
theorem dX12_init_64 : decode cX12_init 64 = .ok (.putfield 28, 3) := by decide +kernel
theorem dX12_init_67 : decode cX12_init 67 = .ok (.aload_n 0, 1) := by decide +kernel
theorem dX12_init_68 : decode cX12_init 68 = .ok (.bipush 8, 2) := by decide +kernel
theorem dX12_init_70 : decode cX12_init 70 = .ok (.newarray .int, 2) := by decide +kernel
theorem dX12_init_72 : decode cX12_init 72 = .ok (.putfield 31, 3) := by decide +kernel
theorem dX12_init_75 : decode cX12_init 75 = .ok (.aload_n 0, 1) := by decide +kernel
theorem dX12_init_76 : decode cX12_init 76 = .ok (.bipush 16, 2) := by decide +kernel
theorem dX12_init_78 : decode cX12_init 78 = .ok (.newarray .int, 2) := by decide +kernel
theorem dX12_init_80 : decode cX12_init 80 = .ok (.putfield 34, 3) := by decide +kernel
theorem dX12_init_83 : decode cX12_init 83 = .ok (.aload_n 0, 1) := by decide +kernel
theorem dX12_init_84 : decode cX12_init 84 = .ok (.bipush 16, 2) := by decide +kernel
theorem dX12_init_86 : decode cX12_init 86 = .ok (.newarray .int, 2) := by decide +kernel
theorem dX12_init_88 : decode cX12_init 88 = .ok (.putfield 37, 3) := by decide +kernel
theorem dX12_init_91 : decode cX12_init 91 = .ok (.aload_n 0, 1) := by decide +kernel
theorem dX12_init_92 : decode cX12_init 92 = .ok (.bipush 16, 2) := by decide +kernel
theorem dX12_init_94 : decode cX12_init 94 = .ok (.newarray .int, 2) := by decide +kernel
theorem dX12_init_96 : decode cX12_init 96 = .ok (.putfield 40, 3) := by decide +kernel
theorem dX12_init_99 : decode cX12_init 99 = .ok (.aload_n 0, 1) := by decide +kernel
theorem dX12_init_100 : decode cX12_init 100 = .ok (.bipush 10, 2) := by decide +kernel
theorem dX12_init_102 : decode cX12_init 102 = .ok (.newarray .int, 2) := by decide +kernel
theorem dX12_init_104 : decode cX12_init 104 = .ok (.putfield 43, 3) := by decide +kernel
theorem dX12_init_107 : decode cX12_init 107 = .ok (.aload_n 0, 1) := by decide +kernel
theorem dX12_init_108 : decode cX12_init 108 = .ok (.ldc 46, 2) := by decide +kernel
theorem dX12_init_110 : decode cX12_init 110 = .ok (.newarray .boolean, 2) := by decide +kernel
theorem dX12_init_112 : decode cX12_init 112 = .ok (.putfield 47, 3) := by decide +kernel
theorem dX12_init_115 : decode cX12_init 115 = .ok (.aload_n 0, 1) := by decide +kernel
theorem dX12_init_116 : decode cX12_init 116 = .ok (.sipush 1600, 3) := by decide +kernel
theorem dX12_init_119 : decode cX12_init 119 = .ok (.newarray .int, 2) := by decide +kernel
theorem dX12_init_121 : decode cX12_init 121 = .ok (.putfield 51, 3) := by decide +kernel
theorem dX12_init_124 : decode cX12_init 124 = .ok (.aload_n 0, 1) := by decide +kernel
theorem dX12_init_125 : decode cX12_init 125 = .ok (.sipush 1600, 3) := by decide +kernel
theorem dX12_init_128 : decode cX12_init 128 = .ok (.newarray .int, 2) := by decide +kernel
theorem dX12_init_130 : decode cX12_init 130 = .ok (.putfield 54, 3) := by decide +kernel
theorem dX12_init_133 : decode cX12_init 133 = .ok (.aload_n 0, 1) := by decide +kernel
theorem dX12_init_134 : decode cX12_init 134 = .ok (.sipush 1600, 3) := by decide +kernel
theorem dX12_init_137 : decode cX12_init 137 = .ok (.newarray .int, 2) := by decide +kernel
theorem dX12_init_139 : decode cX12_init 139 = .ok (.putfield 57, 3) := by decide +kernel
theorem dX12_init_142 : decode cX12_init 142 = .ok (.aload_n 0, 1) := by decide +kernel
theorem dX12_init_143 : decode cX12_init 143 = .ok (.bipush 8, 2) := by decide +kernel
theorem dX12_init_145 : decode cX12_init 145 = .ok (.newarray .int, 2) := by decide +kernel
theorem dX12_init_147 : decode cX12_init 147 = .ok (.putfield 60, 3) := by decide +kernel
theorem dX12_init_150 : decode cX12_init 150 = .ok (.aload_n 0, 1) := by decide +kernel
theorem dX12_init_151 : decode cX12_init 151 = .ok (.ldc 63, 2) := by decide +kernel
theorem dX12_init_153 : decode cX12_init 153 = .ok (.newarray .boolean, 2) := by decide +kernel
theorem dX12_init_155 : decode cX12_init 155 = .ok (.putfield 64, 3) := by decide +kernel
theorem dX12_init_158 : decode cX12_init 158 = .ok (.aload_n 0, 1) := by decide +kernel
theorem dX12_init_159 : decode cX12_init 159 = .ok (.sipush 200, 3) := by decide +kernel
theorem dX12_init_162 : decode cX12_init 162 = .ok (.newarray .int, 2) := by decide +kernel
theorem dX12_init_164 : decode cX12_init 164 = .ok (.putfield 67, 3) := by decide +kernel
theorem dX12_init_167 : decode cX12_init 167 = .ok (.aload_n 0, 1) := by decide +kernel
theorem dX12_init_168 : decode cX12_init 168 = .ok (.sipush 200, 3) := by decide +kernel
theorem dX12_init_171 : decode cX12_init 171 = .ok (.newarray .int, 2) := by decide +kernel
theorem dX12_init_173 : decode cX12_init 173 = .ok (.putfield 70, 3) := by decide +kernel
theorem dX12_init_176 : decode cX12_init 176 = .ok (.aload_n 0, 1) := by decide +kernel
theorem dX12_init_177 : decode cX12_init 177 = .ok (.sipush 200, 3) := by decide +kernel
theorem dX12_init_180 : decode cX12_init 180 = .ok (.newarray .int, 2) := by decide +kernel
theorem dX12_init_182 : decode cX12_init 182 = .ok (.putfield 73, 3) := by decide +kernel
theorem dX12_init_185 : decode cX12_init 185 = .ok (.aload_n 0, 1) := by decide +kernel
theorem dX12_init_186 : decode cX12_init 186 = .ok (.sipush 4096, 3) := by decide +kernel
theorem dX12_init_189 : decode cX12_init 189 = .ok (.newarray .int, 2) := by decide +kernel
theorem dX12_init_191 : decode cX12_init 191 = .ok (.putfield 76, 3) := by decide +kernel
theorem dX12_init_194 : decode cX12_init 194 = .ok (.aload_n 0, 1) := by decide +kernel
theorem dX12_init_195 : decode cX12_init 195 = .ok (.sipush 4096, 3) := by decide +kernel
theorem dX12_init_198 : decode cX12_init 198 = .ok (.newarray .int, 2) := by decide +kernel
theorem dX12_init_200 : decode cX12_init 200 = .ok (.putfield 79, 3) := by decide +kernel
theorem dX12_init_203 : decode cX12_init 203 = .ok (.aload_n 0, 1) := by decide +kernel
theorem dX12_init_204 : decode cX12_init 204 = .ok (.sipush 4096, 3) := by decide +kernel
theorem dX12_init_207 : decode cX12_init 207 = .ok (.newarray .int, 2) := by decide +kernel
theorem dX12_init_209 : decode cX12_init 209 = .ok (.putfield 82, 3) := by decide +kernel
theorem dX12_init_212 : decode cX12_init 212 = .ok (.aload_n 0, 1) := by decide +kernel
theorem dX12_init_213 : decode cX12_init 213 = .ok (.sipush 4096, 3) := by decide +kernel
theorem dX12_init_216 : decode cX12_init 216 = .ok (.newarray .int, 2) := by decide +kernel
theorem dX12_init_218 : decode cX12_init 218 = .ok (.putfield 85, 3) := by decide +kernel
theorem dX12_init_221 : decode cX12_init 221 = .ok (.aload_n 0, 1) := by decide +kernel
theorem dX12_init_222 : decode cX12_init 222 = .ok (.sipush 4096, 3) := by decide +kernel
theorem dX12_init_225 : decode cX12_init 225 = .ok (.newarray .int, 2) := by decide +kernel
theorem dX12_init_227 : decode cX12_init 227 = .ok (.putfield 88, 3) := by decide +kernel
theorem dX12_init_230 : decode cX12_init 230 = .ok (.aload_n 0, 1) := by decide +kernel
theorem dX12_init_231 : decode cX12_init 231 = .ok (.sipush 4096, 3) := by decide +kernel
theorem dX12_init_234 : decode cX12_init 234 = .ok (.newarray .boolean, 2) := by decide +kernel
theorem dX12_init_236 : decode cX12_init 236 = .ok (.putfield 91, 3) := by decide +kernel
theorem dX12_init_239 : decode cX12_init 239 = .ok (.aload_n 0, 1) := by decide +kernel
theorem dX12_init_240 : decode cX12_init 240 = .ok (.bipush 16, 2) := by decide +kernel
theorem dX12_init_242 : decode cX12_init 242 = .ok (.newarray .int, 2) := by decide +kernel
theorem dX12_init_244 : decode cX12_init 244 = .ok (.putfield 94, 3) := by decide +kernel
theorem dX12_init_247 : decode cX12_init 247 = .ok (.aload_n 0, 1) := by decide +kernel
theorem dX12_init_248 : decode cX12_init 248 = .ok (.bipush 16, 2) := by decide +kernel
theorem dX12_init_250 : decode cX12_init 250 = .ok (.newarray .int, 2) := by decide +kernel
theorem dX12_init_252 : decode cX12_init 252 = .ok (.putfield 97, 3) := by decide +kernel
theorem dX12_init_255 : decode cX12_init 255 = .ok (.aload_n 0, 1) := by decide +kernel
theorem dX12_init_256 : decode cX12_init 256 = .ok (.bipush 16, 2) := by decide +kernel
theorem dX12_init_258 : decode cX12_init 258 = .ok (.newarray .int, 2) := by decide +kernel
theorem dX12_init_260 : decode cX12_init 260 = .ok (.putfield 100, 3) := by decide +kernel
theorem dX12_init_263 : decode cX12_init 263 = .ok (.aload_n 0, 1) := by decide +kernel
theorem dX12_init_264 : decode cX12_init 264 = .ok (.bipush 16, 2) := by decide +kernel
theorem dX12_init_266 : decode cX12_init 266 = .ok (.newarray .int, 2) := by decide +kernel
theorem dX12_init_268 : decode cX12_init 268 = .ok (.putfield 103, 3) := by decide +kernel
theorem dX12_init_271 : decode cX12_init 271 = .ok (.aload_n 0, 1) := by decide +kernel
theorem dX12_init_272 : decode cX12_init 272 = .ok (.sipush 600, 3) := by decide +kernel
theorem dX12_init_275 : decode cX12_init 275 = .ok (.newarray .int, 2) := by decide +kernel
theorem dX12_init_277 : decode cX12_init 277 = .ok (.putfield 106, 3) := by decide +kernel
theorem dX12_init_280 : decode cX12_init 280 = .ok (.aload_n 0, 1) := by decide +kernel
theorem dX12_init_281 : decode cX12_init 281 = .ok (.sipush 600, 3) := by decide +kernel
theorem dX12_init_284 : decode cX12_init 284 = .ok (.newarray .int, 2) := by decide +kernel
theorem dX12_init_286 : decode cX12_init 286 = .ok (.putfield 109, 3) := by decide +kernel
theorem dX12_init_289 : decode cX12_init 289 = .ok (.aload_n 0, 1) := by decide +kernel
theorem dX12_init_290 : decode cX12_init 290 = .ok (.sipush 600, 3) := by decide +kernel
theorem dX12_init_293 : decode cX12_init 293 = .ok (.newarray .int, 2) := by decide +kernel
theorem dX12_init_295 : decode cX12_init 295 = .ok (.putfield 112, 3) := by decide +kernel
theorem dX12_init_298 : decode cX12_init 298 = .ok (.aload_n 0, 1) := by decide +kernel
theorem dX12_init_299 : decode cX12_init 299 = .ok (.sipush 600, 3) := by decide +kernel
theorem dX12_init_302 : decode cX12_init 302 = .ok (.newarray .int, 2) := by decide +kernel
theorem dX12_init_304 : decode cX12_init 304 = .ok (.putfield 115, 3) := by decide +kernel
theorem dX12_init_307 : decode cX12_init 307 = .ok (.aload_n 0, 1) := by decide +kernel
theorem dX12_init_308 : decode cX12_init 308 = .ok (.bipush 16, 2) := by decide +kernel
theorem dX12_init_310 : decode cX12_init 310 = .ok (.newarray .int, 2) := by decide +kernel
theorem dX12_init_312 : decode cX12_init 312 = .ok (.putfield 118, 3) := by decide +kernel
theorem dX12_init_315 : decode cX12_init 315 = .ok (.aload_n 0, 1) := by decide +kernel
theorem dX12_init_316 : decode cX12_init 316 = .ok (.bipush 16, 2) := by decide +kernel
theorem dX12_init_318 : decode cX12_init 318 = .ok (.newarray .int, 2) := by decide +kernel
theorem dX12_init_320 : decode cX12_init 320 = .ok (.putfield 121, 3) := by decide +kernel
theorem dX12_init_323 : decode cX12_init 323 = .ok (.aload_n 0, 1) := by decide +kernel
theorem dX12_init_324 : decode cX12_init 324 = .ok (.bipush 16, 2) := by decide +kernel
theorem dX12_init_326 : decode cX12_init 326 = .ok (.newarray .boolean, 2) := by decide +kernel
theorem dX12_init_328 : decode cX12_init 328 = .ok (.putfield 124, 3) := by decide +kernel
theorem dX12_init_331 : decode cX12_init 331 = .ok (.aload_n 0, 1) := by decide +kernel
theorem dX12_init_332 : decode cX12_init 332 = .ok (.bipush 16, 2) := by decide +kernel
theorem dX12_init_334 : decode cX12_init 334 = .ok (.newarray .boolean, 2) := by decide +kernel
theorem dX12_init_336 : decode cX12_init 336 = .ok (.putfield 127, 3) := by decide +kernel
theorem dX12_init_339 : decode cX12_init 339 = .ok (.aload_n 0, 1) := by decide +kernel
theorem dX12_init_340 : decode cX12_init 340 = .ok (.bipush 8, 2) := by decide +kernel
theorem dX12_init_342 : decode cX12_init 342 = .ok (.newarray .int, 2) := by decide +kernel
theorem dX12_init_344 : decode cX12_init 344 = .ok (.putfield 130, 3) := by decide +kernel
theorem dX12_init_347 : decode cX12_init 347 = .ok (.aload_n 0, 1) := by decide +kernel
theorem dX12_init_348 : decode cX12_init 348 = .ok (.bipush 8, 2) := by decide +kernel
theorem dX12_init_350 : decode cX12_init 350 = .ok (.newarray .int, 2) := by decide +kernel
theorem dX12_init_352 : decode cX12_init 352 = .ok (.putfield 133, 3) := by decide +kernel
theorem dX12_init_355 : decode cX12_init 355 = .ok (.aload_n 0, 1) := by decide +kernel
theorem dX12_init_356 : decode cX12_init 356 = .ok (.bipush 8, 2) := by decide +kernel
theorem dX12_init_358 : decode cX12_init 358 = .ok (.newarray .int, 2) := by decide +kernel
theorem dX12_init_360 : decode cX12_init 360 = .ok (.putfield 136, 3) := by decide +kernel
theorem dX12_init_363 : decode cX12_init 363 = .ok (.aload_n 0, 1) := by decide +kernel
theorem dX12_init_364 : decode cX12_init 364 = .ok (.iconst (-1), 1) := by decide +kernel
theorem dX12_init_365 : decode cX12_init 365 = .ok (.putfield 139, 3) := by decide +kernel
theorem dX12_init_368 : decode cX12_init 368 = .ok (.aload_n 0, 1) := by decide +kernel
theorem dX12_init_369 : decode cX12_init 369 = .ok (.ldc 63, 2) := by decide +kernel
theorem dX12_init_371 : decode cX12_init 371 = .ok (.newarray .int, 2) := by decide +kernel
theorem dX12_init_373 : decode cX12_init 373 = .ok (.putfield 143, 3) := by decide +kernel
theorem dX12_init_376 : decode cX12_init 376 = .ok (.aload_n 0, 1) := by decide +kernel
theorem dX12_init_377 : decode cX12_init 377 = .ok (.ldc 63, 2) := by decide +kernel
theorem dX12_init_379 : decode cX12_init 379 = .ok (.newarray .int, 2) := by decide +kernel
theorem dX12_init_381 : decode cX12_init 381 = .ok (.putfield 146, 3) := by decide +kernel
theorem dX12_init_384 : decode cX12_init 384 = .ok (.aload_n 0, 1) := by decide +kernel
theorem dX12_init_385 : decode cX12_init 385 = .ok (.sipush 4096, 3) := by decide +kernel
theorem dX12_init_388 : decode cX12_init 388 = .ok (.newarray .int, 2) := by decide +kernel
theorem dX12_init_390 : decode cX12_init 390 = .ok (.putfield 149, 3) := by decide +kernel
theorem dX12_init_393 : decode cX12_init 393 = .ok (.aload_n 0, 1) := by decide +kernel
theorem dX12_init_394 : decode cX12_init 394 = .ok (.sipush 4096, 3) := by decide +kernel
theorem dX12_init_397 : decode cX12_init 397 = .ok (.newarray .int, 2) := by decide +kernel
theorem dX12_init_399 : decode cX12_init 399 = .ok (.putfield 152, 3) := by decide +kernel
theorem dX12_init_402 : decode cX12_init 402 = .ok (.aload_n 0, 1) := by decide +kernel
theorem dX12_init_403 : decode cX12_init 403 = .ok (.sipush 4096, 3) := by decide +kernel
theorem dX12_init_406 : decode cX12_init 406 = .ok (.newarray .int, 2) := by decide +kernel
theorem dX12_init_408 : decode cX12_init 408 = .ok (.putfield 155, 3) := by decide +kernel
theorem dX12_init_411 : decode cX12_init 411 = .ok (.aload_n 0, 1) := by decide +kernel
theorem dX12_init_412 : decode cX12_init 412 = .ok (.sipush 4096, 3) := by decide +kernel
theorem dX12_init_415 : decode cX12_init 415 = .ok (.newarray .int, 2) := by decide +kernel
theorem dX12_init_417 : decode cX12_init 417 = .ok (.putfield 158, 3) := by decide +kernel
theorem dX12_init_420 : decode cX12_init 420 = .ok (.aload_n 0, 1) := by decide +kernel
theorem dX12_init_421 : decode cX12_init 421 = .ok (.bipush 12, 2) := by decide +kernel
theorem dX12_init_423 : decode cX12_init 423 = .ok (.newarray .int, 2) := by decide +kernel
theorem dX12_init_425 : decode cX12_init 425 = .ok (.putfield 161, 3) := by decide +kernel
theorem dX12_init_428 : decode cX12_init 428 = .ok (.aload_n 0, 1) := by decide +kernel
theorem dX12_init_429 : decode cX12_init 429 = .ok (.bipush 12, 2) := by decide +kernel
theorem dX12_init_431 : decode cX12_init 431 = .ok (.newarray .int, 2) := by decide +kernel
theorem dX12_init_433 : decode cX12_init 433 = .ok (.putfield 164, 3) := by decide +kernel
theorem dX12_init_436 : decode cX12_init 436 = .ok (.aload_n 0, 1) := by decide +kernel
theorem dX12_init_437 : decode cX12_init 437 = .ok (.bipush 12, 2) := by decide +kernel
theorem dX12_init_439 : decode cX12_init 439 = .ok (.newarray .int, 2) := by decide +kernel
theorem dX12_init_441 : decode cX12_init 441 = .ok (.putfield 167, 3) := by decide +kernel
theorem dX12_init_444 : decode cX12_init 444 = .ok (.aload_n 0, 1) := by decide +kernel
theorem dX12_init_445 : decode cX12_init 445 = .ok (.bipush 12, 2) := by decide +kernel
theorem dX12_init_447 : decode cX12_init 447 = .ok (.newarray .int, 2) := by decide +kernel
theorem dX12_init_449 : decode cX12_init 449 = .ok (.putfield 170, 3) := by decide +kernel
theorem dX12_init_452 : decode cX12_init 452 = .ok (.aload_n 0, 1) := by decide +kernel
theorem dX12_init_453 : decode cX12_init 453 = .ok (.bipush 12, 2) := by decide +kernel
theorem dX12_init_455 : decode cX12_init 455 = .ok (.newarray .int, 2) := by decide +kernel
theorem dX12_init_457 : decode cX12_init 457 = .ok (.putfield 173, 3) := by decide +kernel
theorem dX12_init_460 : decode cX12_init 460 = .ok (.aload_n 0, 1) := by decide +kernel
theorem dX12_init_461 : decode cX12_init 461 = .ok (.ldc 63, 2) := by decide +kernel
theorem dX12_init_463 : decode cX12_init 463 = .ok (.newarray .int, 2) := by decide +kernel
theorem dX12_init_465 : decode cX12_init 465 = .ok (.putfield 176, 3) := by decide +kernel
