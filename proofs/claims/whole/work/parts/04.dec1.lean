theorem dX2_addEnd_5 : decode cX2_addEnd 5 = .ok (.iaload, 1) := by decide +kernel
theorem dX2_addEnd_6 : decode cX2_addEnd 6 = .ok (.istore_n 3, 1) := by decide +kernel
theorem dX2_addEnd_7 : decode cX2_addEnd 7 = .ok (.aload_n 0, 1) := by decide +kernel
theorem dX2_addEnd_8 : decode cX2_addEnd 8 = .ok (.getfield 59, 3) := by decide +kernel
theorem dX2_addEnd_11 : decode cX2_addEnd 11 = .ok (.iload_n 1, 1) := by decide +kernel
theorem dX2_addEnd_12 : decode cX2_addEnd 12 = .ok (.iaload, 1) := by decide +kernel
theorem dX2_addEnd_13 : decode cX2_addEnd 13 = .ok (.istore 4, 2) := by decide +kernel
theorem dX2_addEnd_15 : decode cX2_addEnd 15 = .ok (.iload_n 2, 1) := by decide +kernel
theorem dX2_addEnd_16 : decode cX2_addEnd 16 = .ok (.iload_n 3, 1) := by decide +kernel
theorem dX2_addEnd_17 : decode cX2_addEnd 17 = .ok (.if_icmp .eq 9, 3) := by decide +kernel
theorem dX2_addEnd_20 : decode cX2_addEnd 20 = .ok (.iload_n 2, 1) := by decide +kernel
theorem dX2_addEnd_21 : decode cX2_addEnd 21 = .ok (.iload 4, 2) := by decide +kernel
theorem dX2_addEnd_23 : decode cX2_addEnd 23 = .ok (.if_icmp .ne 4, 3) := by decide +kernel
theorem dX2_addEnd_26 : decode cX2_addEnd 26 = .ok (.return_, 1) := by decide +kernel
theorem dX2_addEnd_27 : decode cX2_addEnd 27 = .ok (.iload_n 3, 1) := by decide +kernel
theorem dX2_addEnd_28 : decode cX2_addEnd 28 = .ok (.iconst (-1), 1) := by decide +kernel
theorem dX2_addEnd_29 : decode cX2_addEnd 29 = .ok (.if_icmp .eq 8, 3) := by decide +kernel
theorem dX2_addEnd_32 : decode cX2_addEnd 32 = .ok (.iload_n 2, 1) := by decide +kernel
theorem dX2_addEnd_33 : decode cX2_addEnd 33 = .ok (.iload_n 3, 1) := by decide +kernel
theorem dX2_addEnd_34 : decode cX2_addEnd 34 = .ok (.if_icmp .ge 20, 3) := by decide +kernel
theorem dX2_addEnd_37 : decode cX2_addEnd 37 = .ok (.aload_n 0, 1) := by decide +kernel
theorem dX2_addEnd_38 : decode cX2_addEnd 38 = .ok (.getfield 56, 3) := by decide +kernel
theorem dX2_addEnd_41 : decode cX2_addEnd 41 = .ok (.iload_n 1, 1) := by decide +kernel
theorem dX2_addEnd_42 : decode cX2_addEnd 42 = .ok (.iload_n 2, 1) := by decide +kernel
theorem dX2_addEnd_43 : decode cX2_addEnd 43 = .ok (.iastore, 1) := by decide +kernel
theorem dX2_addEnd_44 : decode cX2_addEnd 44 = .ok (.aload_n 0, 1) := by decide +kernel
theorem dX2_addEnd_45 : decode cX2_addEnd 45 = .ok (.getfield 59, 3) := by decide +kernel
theorem dX2_addEnd_48 : decode cX2_addEnd 48 = .ok (.iload_n 1, 1) := by decide +kernel
theorem dX2_addEnd_49 : decode cX2_addEnd 49 = .ok (.iload_n 3, 1) := by decide +kernel
theorem dX2_addEnd_50 : decode cX2_addEnd 50 = .ok (.iastore, 1) := by decide +kernel
theorem dX2_addEnd_51 : decode cX2_addEnd 51 = .ok (.goto 22, 3) := by decide +kernel
theorem dX2_addEnd_54 : decode cX2_addEnd 54 = .ok (.iload 4, 2) := by decide +kernel
theorem dX2_addEnd_56 : decode cX2_addEnd 56 = .ok (.iconst (-1), 1) := by decide +kernel
theorem dX2_addEnd_57 : decode cX2_addEnd 57 = .ok (.if_icmp .eq 9, 3) := by decide +kernel
theorem dX2_addEnd_60 : decode cX2_addEnd 60 = .ok (.iload_n 2, 1) := by decide +kernel
theorem dX2_addEnd_61 : decode cX2_addEnd 61 = .ok (.iload 4, 2) := by decide +kernel
theorem dX2_addEnd_63 : decode cX2_addEnd 63 = .ok (.if_icmp .ge 10, 3) := by decide +kernel
theorem dX2_addEnd_66 : decode cX2_addEnd 66 = .ok (.aload_n 0, 1) := by decide +kernel
theorem dX2_addEnd_67 : decode cX2_addEnd 67 = .ok (.getfield 59, 3) := by decide +kernel
theorem dX2_addEnd_70 : decode cX2_addEnd 70 = .ok (.iload_n 1, 1) := by decide +kernel
theorem dX2_addEnd_71 : decode cX2_addEnd 71 = .ok (.iload_n 2, 1) := by decide +kernel
theorem dX2_addEnd_72 : decode cX2_addEnd 72 = .ok (.iastore, 1) := by decide +kernel
theorem dX2_addEnd_73 : decode cX2_addEnd 73 = .ok (.return_, 1) := by decide +kernel
theorem dX2_conducted_0 : decode cX2_conducted 0 = .ok (.aload_n 0, 1) := by decide +kernel
theorem dX2_conducted_1 : decode cX2_conducted 1 = .ok (.getfield 47, 3) := by decide +kernel
theorem dX2_conducted_4 : decode cX2_conducted 4 = .ok (.iconst 1, 1) := by decide +kernel
theorem dX2_conducted_5 : decode cX2_conducted 5 = .ok (.iload_n 1, 1) := by decide +kernel
theorem dX2_conducted_6 : decode cX2_conducted 6 = .ok (.ishl, 1) := by decide +kernel
theorem dX2_conducted_7 : decode cX2_conducted 7 = .ok (.iand, 1) := by decide +kernel
theorem dX2_conducted_8 : decode cX2_conducted 8 = .ok (.ifCond .eq 7, 3) := by decide +kernel
theorem dX2_conducted_11 : decode cX2_conducted 11 = .ok (.iconst 1, 1) := by decide +kernel
theorem dX2_conducted_12 : decode cX2_conducted 12 = .ok (.goto 4, 3) := by decide +kernel
theorem dX2_conducted_15 : decode cX2_conducted 15 = .ok (.iconst 0, 1) := by decide +kernel
theorem dX2_conducted_16 : decode cX2_conducted 16 = .ok (.ireturn, 1) := by decide +kernel
theorem dX2_netAt_0 : decode cX2_netAt 0 = .ok (.aload_n 0, 1) := by decide +kernel
theorem dX2_netAt_1 : decode cX2_netAt 1 = .ok (.getfield 30, 3) := by decide +kernel
theorem dX2_netAt_4 : decode cX2_netAt 4 = .ok (.bipush 64, 2) := by decide +kernel
theorem dX2_netAt_6 : decode cX2_netAt 6 = .ok (.iload_n 1, 1) := by decide +kernel
theorem dX2_netAt_7 : decode cX2_netAt 7 = .ok (.imul, 1) := by decide +kernel
theorem dX2_netAt_8 : decode cX2_netAt 8 = .ok (.iload_n 2, 1) := by decide +kernel
theorem dX2_netAt_9 : decode cX2_netAt 9 = .ok (.bipush 64, 2) := by decide +kernel
theorem dX2_netAt_11 : decode cX2_netAt 11 = .ok (.idiv, 1) := by decide +kernel
theorem dX2_netAt_12 : decode cX2_netAt 12 = .ok (.iadd, 1) := by decide +kernel
theorem dX2_netAt_13 : decode cX2_netAt 13 = .ok (.iload_n 2, 1) := by decide +kernel
theorem dX2_netAt_14 : decode cX2_netAt 14 = .ok (.bipush 64, 2) := by decide +kernel
theorem dX2_netAt_16 : decode cX2_netAt 16 = .ok (.irem, 1) := by decide +kernel
theorem dX2_netAt_17 : decode cX2_netAt 17 = .ok (.invokevirtual 131, 3) := by decide +kernel
theorem dX2_netAt_20 : decode cX2_netAt 20 = .ok (.ireturn, 1) := by decide +kernel
theorem dX2_nameOf_0 : decode cX2_nameOf 0 = .ok (.iload_n 3, 1) := by decide +kernel
theorem dX2_nameOf_1 : decode cX2_nameOf 1 = .ok (.istore 4, 2) := by decide +kernel
theorem dX2_nameOf_3 : decode cX2_nameOf 3 = .ok (.iconst 0, 1) := by decide +kernel
theorem dX2_nameOf_4 : decode cX2_nameOf 4 = .ok (.istore 5, 2) := by decide +kernel
theorem dX2_nameOf_6 : decode cX2_nameOf 6 = .ok (.iload 5, 2) := by decide +kernel
theorem dX2_nameOf_8 : decode cX2_nameOf 8 = .ok (.aload_n 1, 1) := by decide +kernel
theorem dX2_nameOf_9 : decode cX2_nameOf 9 = .ok (.getfield 153, 3) := by decide +kernel
theorem dX2_nameOf_12 : decode cX2_nameOf 12 = .ok (.if_icmp .ge 50, 3) := by decide +kernel
theorem dX2_nameOf_15 : decode cX2_nameOf 15 = .ok (.aload_n 1, 1) := by decide +kernel
theorem dX2_nameOf_16 : decode cX2_nameOf 16 = .ok (.getfield 156, 3) := by decide +kernel
theorem dX2_nameOf_19 : decode cX2_nameOf 19 = .ok (.iload 5, 2) := by decide +kernel
theorem dX2_nameOf_21 : decode cX2_nameOf 21 = .ok (.iaload, 1) := by decide +kernel
theorem dX2_nameOf_22 : decode cX2_nameOf 22 = .ok (.istore 6, 2) := by decide +kernel
theorem dX2_nameOf_24 : decode cX2_nameOf 24 = .ok (.aload_n 0, 1) := by decide +kernel
theorem dX2_nameOf_25 : decode cX2_nameOf 25 = .ok (.iload 6, 2) := by decide +kernel
theorem dX2_nameOf_27 : decode cX2_nameOf 27 = .ok (.invokestatic 159, 3) := by decide +kernel
theorem dX2_nameOf_30 : decode cX2_nameOf 30 = .ok (.iload 6, 2) := by decide +kernel
theorem dX2_nameOf_32 : decode cX2_nameOf 32 = .ok (.invokestatic 165, 3) := by decide +kernel
theorem dX2_nameOf_35 : decode cX2_nameOf 35 = .ok (.invokevirtual 111, 3) := by decide +kernel
theorem dX2_nameOf_38 : decode cX2_nameOf 38 = .ok (.iload_n 2, 1) := by decide +kernel
theorem dX2_nameOf_39 : decode cX2_nameOf 39 = .ok (.if_icmp .ne 17, 3) := by decide +kernel
theorem dX2_nameOf_42 : decode cX2_nameOf 42 = .ok (.iload 4, 2) := by decide +kernel
theorem dX2_nameOf_44 : decode cX2_nameOf 44 = .ok (.ifCond .ne 9, 3) := by decide +kernel
theorem dX2_nameOf_47 : decode cX2_nameOf 47 = .ok (.iload 6, 2) := by decide +kernel
theorem dX2_nameOf_49 : decode cX2_nameOf 49 = .ok (.invokestatic 168, 3) := by decide +kernel
theorem dX2_nameOf_52 : decode cX2_nameOf 52 = .ok (.ireturn, 1) := by decide +kernel
theorem dX2_nameOf_53 : decode cX2_nameOf 53 = .ok (.iinc 4 (-1), 3) := by decide +kernel
theorem dX2_nameOf_56 : decode cX2_nameOf 56 = .ok (.iinc 5 1, 3) := by decide +kernel
theorem dX2_nameOf_59 : decode cX2_nameOf 59 = .ok (.goto (-53), 3) := by decide +kernel
theorem dX2_nameOf_62 : decode cX2_nameOf 62 = .ok (.iconst (-1), 1) := by decide +kernel
theorem dX2_nameOf_63 : decode cX2_nameOf 63 = .ok (.ireturn, 1) := by decide +kernel
theorem dX2_ofDevice_0 : decode cX2_ofDevice 0 = .ok (.iload_n 2, 1) := by decide +kernel
theorem dX2_ofDevice_1 : decode cX2_ofDevice 1 = .ok (.tableswitch 51 0 2 #[27, 37, 44], 27) := by decide +kernel
theorem dX2_ofDevice_28 : decode cX2_ofDevice 28 = .ok (.aload_n 0, 1) := by decide +kernel
theorem dX2_ofDevice_29 : decode cX2_ofDevice 29 = .ok (.getfield 50, 3) := by decide +kernel
theorem dX2_ofDevice_32 : decode cX2_ofDevice 32 = .ok (.getfield 171, 3) := by decide +kernel
theorem dX2_ofDevice_35 : decode cX2_ofDevice 35 = .ok (.iload_n 1, 1) := by decide +kernel
theorem dX2_ofDevice_36 : decode cX2_ofDevice 36 = .ok (.iaload, 1) := by decide +kernel
theorem dX2_ofDevice_37 : decode cX2_ofDevice 37 = .ok (.ireturn, 1) := by decide +kernel
theorem dX2_ofDevice_38 : decode cX2_ofDevice 38 = .ok (.aload_n 0, 1) := by decide +kernel
theorem dX2_ofDevice_39 : decode cX2_ofDevice 39 = .ok (.getfield 53, 3) := by decide +kernel
theorem dX2_ofDevice_42 : decode cX2_ofDevice 42 = .ok (.iload_n 1, 1) := by decide +kernel
theorem dX2_ofDevice_43 : decode cX2_ofDevice 43 = .ok (.iaload, 1) := by decide +kernel
theorem dX2_ofDevice_44 : decode cX2_ofDevice 44 = .ok (.ireturn, 1) := by decide +kernel
theorem dX2_ofDevice_45 : decode cX2_ofDevice 45 = .ok (.aload_n 0, 1) := by decide +kernel
theorem dX2_ofDevice_46 : decode cX2_ofDevice 46 = .ok (.getfield 56, 3) := by decide +kernel
theorem dX2_ofDevice_49 : decode cX2_ofDevice 49 = .ok (.iload_n 1, 1) := by decide +kernel
theorem dX2_ofDevice_50 : decode cX2_ofDevice 50 = .ok (.iaload, 1) := by decide +kernel
theorem dX2_ofDevice_51 : decode cX2_ofDevice 51 = .ok (.ireturn, 1) := by decide +kernel
theorem dX2_ofDevice_52 : decode cX2_ofDevice 52 = .ok (.aload_n 0, 1) := by decide +kernel
theorem dX2_ofDevice_53 : decode cX2_ofDevice 53 = .ok (.getfield 59, 3) := by decide +kernel
theorem dX2_ofDevice_56 : decode cX2_ofDevice 56 = .ok (.iload_n 1, 1) := by decide +kernel
theorem dX2_ofDevice_57 : decode cX2_ofDevice 57 = .ok (.iaload, 1) := by decide +kernel
theorem dX2_ofDevice_58 : decode cX2_ofDevice 58 = .ok (.ireturn, 1) := by decide +kernel
theorem dX2_isWhole_0 : decode cX2_isWhole 0 = .ok (.aload_n 0, 1) := by decide +kernel
theorem dX2_isWhole_1 : decode cX2_isWhole 1 = .ok (.getfield 53, 3) := by decide +kernel
theorem dX2_isWhole_4 : decode cX2_isWhole 4 = .ok (.iload_n 1, 1) := by decide +kernel
theorem dX2_isWhole_5 : decode cX2_isWhole 5 = .ok (.iaload, 1) := by decide +kernel
theorem dX2_isWhole_6 : decode cX2_isWhole 6 = .ok (.iconst (-1), 1) := by decide +kernel
theorem dX2_isWhole_7 : decode cX2_isWhole 7 = .ok (.if_icmp .eq 17, 3) := by decide +kernel
theorem dX2_isWhole_10 : decode cX2_isWhole 10 = .ok (.aload_n 0, 1) := by decide +kernel
theorem dX2_isWhole_11 : decode cX2_isWhole 11 = .ok (.getfield 59, 3) := by decide +kernel
theorem dX2_isWhole_14 : decode cX2_isWhole 14 = .ok (.iload_n 1, 1) := by decide +kernel
theorem dX2_isWhole_15 : decode cX2_isWhole 15 = .ok (.iaload, 1) := by decide +kernel
theorem dX2_isWhole_16 : decode cX2_isWhole 16 = .ok (.iconst (-1), 1) := by decide +kernel
theorem dX2_isWhole_17 : decode cX2_isWhole 17 = .ok (.if_icmp .eq 7, 3) := by decide +kernel
theorem dX2_isWhole_20 : decode cX2_isWhole 20 = .ok (.iconst 1, 1) := by decide +kernel
theorem dX2_isWhole_21 : decode cX2_isWhole 21 = .ok (.goto 4, 3) := by decide +kernel
theorem dX2_isWhole_24 : decode cX2_isWhole 24 = .ok (.iconst 0, 1) := by decide +kernel
theorem dX2_isWhole_25 : decode cX2_isWhole 25 = .ok (.ireturn, 1) := by decide +kernel
theorem dX3_init_0 : decode cX3_init 0 = .ok (.aload_n 0, 1) := by decide +kernel
theorem dX3_init_1 : decode cX3_init 1 = .ok (.invokespecial 3, 3) := by decide +kernel
theorem dX3_init_4 : decode cX3_init 4 = .ok (.aload_n 0, 1) := by decide +kernel
theorem dX3_init_5 : decode cX3_init 5 = .ok (.iconst 0, 1) := by decide +kernel
theorem dX3_init_6 : decode cX3_init 6 = .ok (.putfield 9, 3) := by decide +kernel
theorem dX3_init_9 : decode cX3_init 9 = .ok (.aload_n 0, 1) := by decide +kernel
theorem dX3_init_10 : decode cX3_init 10 = .ok (.sipush 1024, 3) := by decide +kernel
theorem dX3_init_13 : decode cX3_init 13 = .ok (.newarray .long, 2) := by decide +kernel
theorem dX3_init_15 : decode cX3_init 15 = .ok (.putfield 15, 3) := by decide +kernel
theorem dX3_init_18 : decode cX3_init 18 = .ok (.aload_n 0, 1) := by decide +kernel
theorem dX3_init_19 : decode cX3_init 19 = .ok (.sipush 200, 3) := by decide +kernel
theorem dX3_init_22 : decode cX3_init 22 = .ok (.newarray .int, 2) := by decide +kernel
theorem dX3_init_24 : decode cX3_init 24 = .ok (.putfield 19, 3) := by decide +kernel
theorem dX3_init_27 : decode cX3_init 27 = .ok (.aload_n 0, 1) := by decide +kernel
theorem dX3_init_28 : decode cX3_init 28 = .ok (.iconst 0, 1) := by decide +kernel
theorem dX3_init_29 : decode cX3_init 29 = .ok (.putfield 23, 3) := by decide +kernel
theorem dX3_init_32 : decode cX3_init 32 = .ok (.aload_n 0, 1) := by decide +kernel
theorem dX3_init_33 : decode cX3_init 33 = .ok (.bipush 8, 2) := by decide +kernel
theorem dX3_init_35 : decode cX3_init 35 = .ok (.newarray .int, 2) := by decide +kernel
theorem dX3_init_37 : decode cX3_init 37 = .ok (.putfield 27, 3) := by decide +kernel
theorem dX3_init_40 : decode cX3_init 40 = .ok (.aload_n 0, 1) := by decide +kernel
theorem dX3_init_41 : decode cX3_init 41 = .ok (.bipush 8, 2) := by decide +kernel
theorem dX3_init_43 : decode cX3_init 43 = .ok (.newarray .int, 2) := by decide +kernel
theorem dX3_init_45 : decode cX3_init 45 = .ok (.putfield 30, 3) := by decide +kernel
theorem dX3_init_48 : decode cX3_init 48 = .ok (.aload_n 0, 1) := by decide +kernel
theorem dX3_init_49 : decode cX3_init 49 = .ok (.bipush 8, 2) := by decide +kernel
theorem dX3_init_51 : decode cX3_init 51 = .ok (.newarray .int, 2) := by decide +kernel
theorem dX3_init_53 : decode cX3_init 53 = .ok (.putfield 33, 3) := by decide +kernel
theorem dX3_init_56 : decode cX3_init 56 = .ok (.aload_n 0, 1) := by decide +kernel
theorem dX3_init_57 : decode cX3_init 57 = .ok (.new 36, 3) := by decide +kernel
theorem dX3_init_60 : decode cX3_init 60 = .ok (.dup, 1) := by decide +kernel
theorem dX3_init_61 : decode cX3_init 61 = .ok (.iconst 1, 1) := by decide +kernel
theorem dX3_init_62 : decode cX3_init 62 = .ok (.invokespecial 38, 3) := by decide +kernel
theorem dX3_init_65 : decode cX3_init 65 = .ok (.putfield 41, 3) := by decide +kernel
theorem dX3_init_68 : decode cX3_init 68 = .ok (.aload_n 0, 1) := by decide +kernel
theorem dX3_init_69 : decode cX3_init 69 = .ok (.getfield 27, 3) := by decide +kernel
theorem dX3_init_72 : decode cX3_init 72 = .ok (.iconst (-1), 1) := by decide +kernel
theorem dX3_init_73 : decode cX3_init 73 = .ok (.invokestatic 45, 3) := by decide +kernel
theorem dX3_init_76 : decode cX3_init 76 = .ok (.return_, 1) := by decide +kernel
theorem dX3_tell_0 : decode cX3_tell 0 = .ok (.aload_n 0, 1) := by decide +kernel
theorem dX3_tell_1 : decode cX3_tell 1 = .ok (.getfield 27, 3) := by decide +kernel
theorem dX3_tell_4 : decode cX3_tell 4 = .ok (.iload_n 1, 1) := by decide +kernel
theorem dX3_tell_5 : decode cX3_tell 5 = .ok (.bipush 8, 2) := by decide +kernel
theorem dX3_tell_7 : decode cX3_tell 7 = .ok (.isub, 1) := by decide +kernel
theorem dX3_tell_8 : decode cX3_tell 8 = .ok (.iload_n 2, 1) := by decide +kernel
theorem dX3_tell_9 : decode cX3_tell 9 = .ok (.iastore, 1) := by decide +kernel
theorem dX3_tell_10 : decode cX3_tell 10 = .ok (.aload_n 0, 1) := by decide +kernel
theorem dX3_tell_11 : decode cX3_tell 11 = .ok (.getfield 30, 3) := by decide +kernel
theorem dX3_tell_14 : decode cX3_tell 14 = .ok (.iload_n 1, 1) := by decide +kernel
theorem dX3_tell_15 : decode cX3_tell 15 = .ok (.bipush 8, 2) := by decide +kernel
theorem dX3_tell_17 : decode cX3_tell 17 = .ok (.isub, 1) := by decide +kernel
theorem dX3_tell_18 : decode cX3_tell 18 = .ok (.iload_n 3, 1) := by decide +kernel
theorem dX3_tell_19 : decode cX3_tell 19 = .ok (.iastore, 1) := by decide +kernel
theorem dX3_tell_20 : decode cX3_tell 20 = .ok (.aload_n 0, 1) := by decide +kernel
theorem dX3_tell_21 : decode cX3_tell 21 = .ok (.getfield 33, 3) := by decide +kernel
theorem dX3_tell_24 : decode cX3_tell 24 = .ok (.iload_n 1, 1) := by decide +kernel
theorem dX3_tell_25 : decode cX3_tell 25 = .ok (.bipush 8, 2) := by decide +kernel
theorem dX3_tell_27 : decode cX3_tell 27 = .ok (.isub, 1) := by decide +kernel
theorem dX3_tell_28 : decode cX3_tell 28 = .ok (.iload 4, 2) := by decide +kernel
theorem dX3_tell_30 : decode cX3_tell 30 = .ok (.iastore, 1) := by decide +kernel
theorem dX3_tell_31 : decode cX3_tell 31 = .ok (.return_, 1) := by decide +kernel
theorem dX3_take_0 : decode cX3_take 0 = .ok (.aload_n 1, 1) := by decide +kernel
theorem dX3_take_1 : decode cX3_take 1 = .ok (.getfield 51, 3) := by decide +kernel
theorem dX3_take_4 : decode cX3_take 4 = .ok (.iconst 0, 1) := by decide +kernel
theorem dX3_take_5 : decode cX3_take 5 = .ok (.aload_n 0, 1) := by decide +kernel
theorem dX3_take_6 : decode cX3_take 6 = .ok (.getfield 15, 3) := by decide +kernel
theorem dX3_take_9 : decode cX3_take 9 = .ok (.iconst 0, 1) := by decide +kernel
theorem dX3_take_10 : decode cX3_take 10 = .ok (.sipush 512, 3) := by decide +kernel
theorem dX3_take_13 : decode cX3_take 13 = .ok (.invokestatic 54, 3) := by decide +kernel
theorem dX3_take_16 : decode cX3_take 16 = .ok (.aload_n 1, 1) := by decide +kernel
theorem dX3_take_17 : decode cX3_take 17 = .ok (.getfield 60, 3) := by decide +kernel
theorem dX3_take_20 : decode cX3_take 20 = .ok (.iconst 0, 1) := by decide +kernel
theorem dX3_take_21 : decode cX3_take 21 = .ok (.aload_n 0, 1) := by decide +kernel
theorem dX3_take_22 : decode cX3_take 22 = .ok (.getfield 19, 3) := by decide +kernel
theorem dX3_take_25 : decode cX3_take 25 = .ok (.iconst 0, 1) := by decide +kernel
theorem dX3_take_26 : decode cX3_take 26 = .ok (.aload_n 1, 1) := by decide +kernel
theorem dX3_take_27 : decode cX3_take 27 = .ok (.getfield 61, 3) := by decide +kernel
theorem dX3_take_30 : decode cX3_take 30 = .ok (.invokestatic 54, 3) := by decide +kernel
theorem dX3_take_33 : decode cX3_take 33 = .ok (.aload_n 0, 1) := by decide +kernel
theorem dX3_take_34 : decode cX3_take 34 = .ok (.aload_n 1, 1) := by decide +kernel
theorem dX3_take_35 : decode cX3_take 35 = .ok (.getfield 61, 3) := by decide +kernel
theorem dX3_take_38 : decode cX3_take 38 = .ok (.putfield 23, 3) := by decide +kernel
theorem dX3_take_41 : decode cX3_take 41 = .ok (.bipush 8, 2) := by decide +kernel
theorem dX3_take_43 : decode cX3_take 43 = .ok (.istore_n 2, 1) := by decide +kernel
theorem dX3_take_44 : decode cX3_take 44 = .ok (.iload_n 2, 1) := by decide +kernel
theorem dX3_take_45 : decode cX3_take 45 = .ok (.bipush 16, 2) := by decide +kernel
theorem dX3_take_47 : decode cX3_take 47 = .ok (.if_icmp .ge 44, 3) := by decide +kernel
theorem dX3_take_50 : decode cX3_take 50 = .ok (.aload_n 0, 1) := by decide +kernel
theorem dX3_take_51 : decode cX3_take 51 = .ok (.iload_n 2, 1) := by decide +kernel
theorem dX3_take_52 : decode cX3_take 52 = .ok (.aload_n 0, 1) := by decide +kernel
theorem dX3_take_53 : decode cX3_take 53 = .ok (.getfield 27, 3) := by decide +kernel
theorem dX3_take_56 : decode cX3_take 56 = .ok (.iload_n 2, 1) := by decide +kernel
theorem dX3_take_57 : decode cX3_take 57 = .ok (.bipush 8, 2) := by decide +kernel
theorem dX3_take_59 : decode cX3_take 59 = .ok (.isub, 1) := by decide +kernel
theorem dX3_take_60 : decode cX3_take 60 = .ok (.iaload, 1) := by decide +kernel
theorem dX3_take_61 : decode cX3_take 61 = .ok (.bipush 64, 2) := by decide +kernel
theorem dX3_take_63 : decode cX3_take 63 = .ok (.aload_n 0, 1) := by decide +kernel
theorem dX3_take_64 : decode cX3_take 64 = .ok (.getfield 30, 3) := by decide +kernel
theorem dX3_take_67 : decode cX3_take 67 = .ok (.iload_n 2, 1) := by decide +kernel
theorem dX3_take_68 : decode cX3_take 68 = .ok (.bipush 8, 2) := by decide +kernel
theorem dX3_take_70 : decode cX3_take 70 = .ok (.isub, 1) := by decide +kernel
theorem dX3_take_71 : decode cX3_take 71 = .ok (.iaload, 1) := by decide +kernel
theorem dX3_take_72 : decode cX3_take 72 = .ok (.imul, 1) := by decide +kernel
theorem dX3_take_73 : decode cX3_take 73 = .ok (.aload_n 0, 1) := by decide +kernel
theorem dX3_take_74 : decode cX3_take 74 = .ok (.getfield 33, 3) := by decide +kernel
theorem dX3_take_77 : decode cX3_take 77 = .ok (.iload_n 2, 1) := by decide +kernel
theorem dX3_take_78 : decode cX3_take 78 = .ok (.bipush 8, 2) := by decide +kernel
theorem dX3_take_80 : decode cX3_take 80 = .ok (.isub, 1) := by decide +kernel
theorem dX3_take_81 : decode cX3_take 81 = .ok (.iaload, 1) := by decide +kernel
theorem dX3_take_82 : decode cX3_take 82 = .ok (.invokevirtual 62, 3) := by decide +kernel
theorem dX3_take_85 : decode cX3_take 85 = .ok (.iinc 2 1, 3) := by decide +kernel
theorem dX3_take_88 : decode cX3_take 88 = .ok (.goto (-44), 3) := by decide +kernel
theorem dX3_take_91 : decode cX3_take 91 = .ok (.aload_n 0, 1) := by decide +kernel
theorem dX3_take_92 : decode cX3_take 92 = .ok (.iconst 1, 1) := by decide +kernel
theorem dX3_take_93 : decode cX3_take 93 = .ok (.putfield 9, 3) := by decide +kernel
theorem dX3_take_96 : decode cX3_take 96 = .ok (.iconst 0, 1) := by decide +kernel
theorem dX3_take_97 : decode cX3_take 97 = .ok (.istore_n 2, 1) := by decide +kernel
theorem dX3_take_98 : decode cX3_take 98 = .ok (.iconst 0, 1) := by decide +kernel
theorem dX3_take_99 : decode cX3_take 99 = .ok (.istore_n 3, 1) := by decide +kernel
theorem dX3_take_100 : decode cX3_take 100 = .ok (.iload_n 3, 1) := by decide +kernel
theorem dX3_take_101 : decode cX3_take 101 = .ok (.bipush 8, 2) := by decide +kernel
theorem dX3_take_103 : decode cX3_take 103 = .ok (.if_icmp .ge 17, 3) := by decide +kernel
theorem dX3_take_106 : decode cX3_take 106 = .ok (.iload_n 2, 1) := by decide +kernel
theorem dX3_take_107 : decode cX3_take 107 = .ok (.aload_n 0, 1) := by decide +kernel
theorem dX3_take_108 : decode cX3_take 108 = .ok (.iload_n 3, 1) := by decide +kernel
theorem dX3_take_109 : decode cX3_take 109 = .ok (.invokevirtual 66, 3) := by decide +kernel
theorem dX3_take_112 : decode cX3_take 112 = .ok (.iadd, 1) := by decide +kernel
theorem dX3_take_113 : decode cX3_take 113 = .ok (.istore_n 2, 1) := by decide +kernel
theorem dX3_take_114 : decode cX3_take 114 = .ok (.iinc 3 1, 3) := by decide +kernel
theorem dX3_take_117 : decode cX3_take 117 = .ok (.goto (-17), 3) := by decide +kernel
theorem dX3_take_120 : decode cX3_take 120 = .ok (.iload_n 2, 1) := by decide +kernel
theorem dX3_take_121 : decode cX3_take 121 = .ok (.ireturn, 1) := by decide +kernel
theorem dX3_make_0 : decode cX3_make 0 = .ok (.bipush 64, 2) := by decide +kernel
theorem dX3_make_2 : decode cX3_make 2 = .ok (.iload_n 1, 1) := by decide +kernel
theorem dX3_make_3 : decode cX3_make 3 = .ok (.imul, 1) := by decide +kernel
theorem dX3_make_4 : decode cX3_make 4 = .ok (.istore 5, 2) := by decide +kernel
theorem dX3_make_6 : decode cX3_make 6 = .ok (.iload_n 2, 1) := by decide +kernel
theorem dX3_make_7 : decode cX3_make 7 = .ok (.iconst 3, 1) := by decide +kernel
theorem dX3_make_8 : decode cX3_make 8 = .ok (.if_icmp .eq 8, 3) := by decide +kernel
theorem dX3_make_11 : decode cX3_make 11 = .ok (.iload_n 2, 1) := by decide +kernel
theorem dX3_make_12 : decode cX3_make 12 = .ok (.iconst 4, 1) := by decide +kernel
theorem dX3_make_13 : decode cX3_make 13 = .ok (.if_icmp .ne 32, 3) := by decide +kernel
theorem dX3_make_16 : decode cX3_make 16 = .ok (.aload_n 0, 1) := by decide +kernel
theorem dX3_make_17 : decode cX3_make 17 = .ok (.getfield 15, 3) := by decide +kernel
theorem dX3_make_20 : decode cX3_make 20 = .ok (.iload_n 3, 1) := by decide +kernel
theorem dX3_make_21 : decode cX3_make 21 = .ok (.aload_n 0, 1) := by decide +kernel
theorem dX3_make_22 : decode cX3_make 22 = .ok (.getfield 15, 3) := by decide +kernel
theorem dX3_make_25 : decode cX3_make 25 = .ok (.iload 5, 2) := by decide +kernel
theorem dX3_make_27 : decode cX3_make 27 = .ok (.iload 4, 2) := by decide +kernel
theorem dX3_make_29 : decode cX3_make 29 = .ok (.iload_n 2, 1) := by decide +kernel
theorem dX3_make_30 : decode cX3_make 30 = .ok (.iconst 3, 1) := by decide +kernel
theorem dX3_make_31 : decode cX3_make 31 = .ok (.if_icmp .ne 7, 3) := by decide +kernel
theorem dX3_make_34 : decode cX3_make 34 = .ok (.iconst 1, 1) := by decide +kernel
theorem dX3_make_35 : decode cX3_make 35 = .ok (.goto 4, 3) := by decide +kernel
theorem dX3_make_38 : decode cX3_make 38 = .ok (.iconst 0, 1) := by decide +kernel
theorem dX3_make_39 : decode cX3_make 39 = .ok (.invokestatic 70, 3) := by decide +kernel
theorem dX3_make_42 : decode cX3_make 42 = .ok (.goto 135, 3) := by decide +kernel
theorem dX3_make_45 : decode cX3_make 45 = .ok (.iload_n 2, 1) := by decide +kernel
theorem dX3_make_46 : decode cX3_make 46 = .ok (.iconst 5, 1) := by decide +kernel
theorem dX3_make_47 : decode cX3_make 47 = .ok (.if_icmp .ne 69, 3) := by decide +kernel
theorem dX3_make_50 : decode cX3_make 50 = .ok (.aload_n 0, 1) := by decide +kernel
theorem dX3_make_51 : decode cX3_make 51 = .ok (.getfield 41, 3) := by decide +kernel
theorem dX3_make_54 : decode cX3_make 54 = .ok (.aload_n 0, 1) := by decide +kernel
theorem dX3_make_55 : decode cX3_make 55 = .ok (.getfield 15, 3) := by decide +kernel
theorem dX3_make_58 : decode cX3_make 58 = .ok (.iload_n 3, 1) := by decide +kernel
theorem dX3_make_59 : decode cX3_make 59 = .ok (.invokevirtual 76, 3) := by decide +kernel
theorem dX3_make_62 : decode cX3_make 62 = .ok (.aload_n 0, 1) := by decide +kernel
theorem dX3_make_63 : decode cX3_make 63 = .ok (.getfield 41, 3) := by decide +kernel
theorem dX3_make_66 : decode cX3_make 66 = .ok (.aload_n 0, 1) := by decide +kernel
theorem dX3_make_67 : decode cX3_make 67 = .ok (.getfield 15, 3) := by decide +kernel
theorem dX3_make_70 : decode cX3_make 70 = .ok (.bipush 64, 2) := by decide +kernel
theorem dX3_make_72 : decode cX3_make 72 = .ok (.iload 4, 2) := by decide +kernel
theorem dX3_make_74 : decode cX3_make 74 = .ok (.imul, 1) := by decide +kernel
theorem dX3_make_75 : decode cX3_make 75 = .ok (.invokevirtual 80, 3) := by decide +kernel
theorem dX3_make_78 : decode cX3_make 78 = .ok (.iconst 0, 1) := by decide +kernel
theorem dX3_make_79 : decode cX3_make 79 = .ok (.istore 6, 2) := by decide +kernel
theorem dX3_make_81 : decode cX3_make 81 = .ok (.iload 6, 2) := by decide +kernel
theorem dX3_make_83 : decode cX3_make 83 = .ok (.bipush 64, 2) := by decide +kernel
theorem dX3_make_85 : decode cX3_make 85 = .ok (.if_icmp .ge 28, 3) := by decide +kernel
theorem dX3_make_88 : decode cX3_make 88 = .ok (.aload_n 0, 1) := by decide +kernel
theorem dX3_make_89 : decode cX3_make 89 = .ok (.getfield 15, 3) := by decide +kernel
theorem dX3_make_92 : decode cX3_make 92 = .ok (.iload 5, 2) := by decide +kernel
theorem dX3_make_94 : decode cX3_make 94 = .ok (.iload 6, 2) := by decide +kernel
theorem dX3_make_96 : decode cX3_make 96 = .ok (.iadd, 1) := by decide +kernel
theorem dX3_make_97 : decode cX3_make 97 = .ok (.aload_n 0, 1) := by decide +kernel
theorem dX3_make_98 : decode cX3_make 98 = .ok (.getfield 41, 3) := by decide +kernel
theorem dX3_make_101 : decode cX3_make 101 = .ok (.iload 6, 2) := by decide +kernel
theorem dX3_make_103 : decode cX3_make 103 = .ok (.invokevirtual 83, 3) := by decide +kernel
theorem dX3_make_106 : decode cX3_make 106 = .ok (.lastore, 1) := by decide +kernel
theorem dX3_make_107 : decode cX3_make 107 = .ok (.iinc 6 1, 3) := by decide +kernel
theorem dX3_make_110 : decode cX3_make 110 = .ok (.goto (-29), 3) := by decide +kernel
theorem dX3_make_113 : decode cX3_make 113 = .ok (.goto 64, 3) := by decide +kernel
theorem dX3_make_116 : decode cX3_make 116 = .ok (.iconst 0, 1) := by decide +kernel
theorem dX3_make_117 : decode cX3_make 117 = .ok (.istore 6, 2) := by decide +kernel
theorem dX3_make_119 : decode cX3_make 119 = .ok (.iload 6, 2) := by decide +kernel
theorem dX3_make_121 : decode cX3_make 121 = .ok (.bipush 64, 2) := by decide +kernel
theorem dX3_make_123 : decode cX3_make 123 = .ok (.if_icmp .ge 54, 3) := by decide +kernel
theorem dX3_make_126 : decode cX3_make 126 = .ok (.aload_n 0, 1) := by decide +kernel
theorem dX3_make_127 : decode cX3_make 127 = .ok (.getfield 15, 3) := by decide +kernel
theorem dX3_make_130 : decode cX3_make 130 = .ok (.iload 5, 2) := by decide +kernel
theorem dX3_make_132 : decode cX3_make 132 = .ok (.iload 6, 2) := by decide +kernel
theorem dX3_make_134 : decode cX3_make 134 = .ok (.iadd, 1) := by decide +kernel
theorem dX3_make_135 : decode cX3_make 135 = .ok (.iload_n 2, 1) := by decide +kernel
theorem dX3_make_136 : decode cX3_make 136 = .ok (.iconst (-1), 1) := by decide +kernel
theorem dX3_make_137 : decode cX3_make 137 = .ok (.if_icmp .ne 7, 3) := by decide +kernel
theorem dX3_make_140 : decode cX3_make 140 = .ok (.lconst 0, 1) := by decide +kernel
theorem dX3_make_141 : decode cX3_make 141 = .ok (.goto 29, 3) := by decide +kernel
theorem dX3_make_144 : decode cX3_make 144 = .ok (.iload_n 2, 1) := by decide +kernel
theorem dX3_make_145 : decode cX3_make 145 = .ok (.aload_n 0, 1) := by decide +kernel
theorem dX3_make_146 : decode cX3_make 146 = .ok (.getfield 15, 3) := by decide +kernel
theorem dX3_make_149 : decode cX3_make 149 = .ok (.iload_n 3, 1) := by decide +kernel
theorem dX3_make_150 : decode cX3_make 150 = .ok (.iload 6, 2) := by decide +kernel
theorem dX3_make_152 : decode cX3_make 152 = .ok (.iadd, 1) := by decide +kernel
theorem dX3_make_153 : decode cX3_make 153 = .ok (.laload, 1) := by decide +kernel
theorem dX3_make_154 : decode cX3_make 154 = .ok (.aload_n 0, 1) := by decide +kernel
theorem dX3_make_155 : decode cX3_make 155 = .ok (.getfield 15, 3) := by decide +kernel
theorem dX3_make_158 : decode cX3_make 158 = .ok (.bipush 64, 2) := by decide +kernel
theorem dX3_make_160 : decode cX3_make 160 = .ok (.iload 4, 2) := by decide +kernel
theorem dX3_make_162 : decode cX3_make 162 = .ok (.imul, 1) := by decide +kernel
theorem dX3_make_163 : decode cX3_make 163 = .ok (.iload 6, 2) := by decide +kernel
theorem dX3_make_165 : decode cX3_make 165 = .ok (.iadd, 1) := by decide +kernel
theorem dX3_make_166 : decode cX3_make 166 = .ok (.laload, 1) := by decide +kernel
theorem dX3_make_167 : decode cX3_make 167 = .ok (.invokestatic 87, 3) := by decide +kernel
theorem dX3_make_170 : decode cX3_make 170 = .ok (.lastore, 1) := by decide +kernel
theorem dX3_make_171 : decode cX3_make 171 = .ok (.iinc 6 1, 3) := by decide +kernel
theorem dX3_make_174 : decode cX3_make 174 = .ok (.goto (-55), 3) := by decide +kernel
theorem dX3_make_177 : decode cX3_make 177 = .ok (.return_, 1) := by decide +kernel
theorem dX3_mixed_0 : decode cX3_mixed 0 = .ok (.iload_n 0, 1) := by decide +kernel
theorem dX3_mixed_1 : decode cX3_mixed 1 = .ok (.ifCond .ne 9, 3) := by decide +kernel
theorem dX3_mixed_4 : decode cX3_mixed 4 = .ok (.lload_n 1, 1) := by decide +kernel
theorem dX3_mixed_5 : decode cX3_mixed 5 = .ok (.lload_n 3, 1) := by decide +kernel
theorem dX3_mixed_6 : decode cX3_mixed 6 = .ok (.land, 1) := by decide +kernel
theorem dX3_mixed_7 : decode cX3_mixed 7 = .ok (.goto 21, 3) := by decide +kernel
theorem dX3_mixed_10 : decode cX3_mixed 10 = .ok (.iload_n 0, 1) := by decide +kernel
theorem dX3_mixed_11 : decode cX3_mixed 11 = .ok (.iconst 1, 1) := by decide +kernel
theorem dX3_mixed_12 : decode cX3_mixed 12 = .ok (.if_icmp .ne 9, 3) := by decide +kernel
theorem dX3_mixed_15 : decode cX3_mixed 15 = .ok (.lload_n 1, 1) := by decide +kernel
theorem dX3_mixed_16 : decode cX3_mixed 16 = .ok (.lload_n 3, 1) := by decide +kernel
theorem dX3_mixed_17 : decode cX3_mixed 17 = .ok (.lor, 1) := by decide +kernel
theorem dX3_mixed_18 : decode cX3_mixed 18 = .ok (.goto 10, 3) := by decide +kernel
theorem dX3_mixed_21 : decode cX3_mixed 21 = .ok (.lload_n 1, 1) := by decide +kernel
theorem dX3_mixed_22 : decode cX3_mixed 22 = .ok (.lload_n 3, 1) := by decide +kernel
theorem dX3_mixed_23 : decode cX3_mixed 23 = .ok (.ldc2_w 91, 3) := by decide +kernel
theorem dX3_mixed_26 : decode cX3_mixed 26 = .ok (.lxor, 1) := by decide +kernel
theorem dX3_mixed_27 : decode cX3_mixed 27 = .ok (.land, 1) := by decide +kernel
theorem dX3_mixed_28 : decode cX3_mixed 28 = .ok (.lreturn, 1) := by decide +kernel
theorem dX3_squaresOf_0 : decode cX3_squaresOf 0 = .ok (.iconst 0, 1) := by decide +kernel
theorem dX3_squaresOf_1 : decode cX3_squaresOf 1 = .ok (.istore_n 2, 1) := by decide +kernel
theorem dX3_squaresOf_2 : decode cX3_squaresOf 2 = .ok (.iconst 0, 1) := by decide +kernel
theorem dX3_squaresOf_3 : decode cX3_squaresOf 3 = .ok (.istore_n 3, 1) := by decide +kernel
theorem dX3_squaresOf_4 : decode cX3_squaresOf 4 = .ok (.iload_n 3, 1) := by decide +kernel
theorem dX3_squaresOf_5 : decode cX3_squaresOf 5 = .ok (.bipush 64, 2) := by decide +kernel
theorem dX3_squaresOf_7 : decode cX3_squaresOf 7 = .ok (.if_icmp .ge 26, 3) := by decide +kernel
theorem dX3_squaresOf_10 : decode cX3_squaresOf 10 = .ok (.iload_n 2, 1) := by decide +kernel
theorem dX3_squaresOf_11 : decode cX3_squaresOf 11 = .ok (.aload_n 0, 1) := by decide +kernel
theorem dX3_squaresOf_12 : decode cX3_squaresOf 12 = .ok (.getfield 15, 3) := by decide +kernel
theorem dX3_squaresOf_15 : decode cX3_squaresOf 15 = .ok (.bipush 64, 2) := by decide +kernel
theorem dX3_squaresOf_17 : decode cX3_squaresOf 17 = .ok (.iload_n 1, 1) := by decide +kernel
theorem dX3_squaresOf_18 : decode cX3_squaresOf 18 = .ok (.imul, 1) := by decide +kernel
theorem dX3_squaresOf_19 : decode cX3_squaresOf 19 = .ok (.iload_n 3, 1) := by decide +kernel
theorem dX3_squaresOf_20 : decode cX3_squaresOf 20 = .ok (.iadd, 1) := by decide +kernel
theorem dX3_squaresOf_21 : decode cX3_squaresOf 21 = .ok (.laload, 1) := by decide +kernel
theorem dX3_squaresOf_22 : decode cX3_squaresOf 22 = .ok (.invokestatic 93, 3) := by decide +kernel
theorem dX3_squaresOf_25 : decode cX3_squaresOf 25 = .ok (.iadd, 1) := by decide +kernel
theorem dX3_squaresOf_26 : decode cX3_squaresOf 26 = .ok (.istore_n 2, 1) := by decide +kernel
theorem dX3_squaresOf_27 : decode cX3_squaresOf 27 = .ok (.iinc 3 1, 3) := by decide +kernel
theorem dX3_squaresOf_30 : decode cX3_squaresOf 30 = .ok (.goto (-26), 3) := by decide +kernel
theorem dX3_squaresOf_33 : decode cX3_squaresOf 33 = .ok (.iload_n 2, 1) := by decide +kernel
theorem dX3_squaresOf_34 : decode cX3_squaresOf 34 = .ok (.ireturn, 1) := by decide +kernel
theorem dX3_piecesOf_0 : decode cX3_piecesOf 0 = .ok (.aload_n 0, 1) := by decide +kernel
theorem dX3_piecesOf_1 : decode cX3_piecesOf 1 = .ok (.getfield 41, 3) := by decide +kernel
theorem dX3_piecesOf_4 : decode cX3_piecesOf 4 = .ok (.aload_n 0, 1) := by decide +kernel
theorem dX3_piecesOf_5 : decode cX3_piecesOf 5 = .ok (.getfield 15, 3) := by decide +kernel
theorem dX3_piecesOf_8 : decode cX3_piecesOf 8 = .ok (.bipush 64, 2) := by decide +kernel
theorem dX3_piecesOf_10 : decode cX3_piecesOf 10 = .ok (.iload_n 1, 1) := by decide +kernel
theorem dX3_piecesOf_11 : decode cX3_piecesOf 11 = .ok (.imul, 1) := by decide +kernel
theorem dX3_piecesOf_12 : decode cX3_piecesOf 12 = .ok (.invokevirtual 76, 3) := by decide +kernel
theorem dX3_piecesOf_15 : decode cX3_piecesOf 15 = .ok (.aload_n 0, 1) := by decide +kernel
theorem dX3_piecesOf_16 : decode cX3_piecesOf 16 = .ok (.getfield 41, 3) := by decide +kernel
theorem dX3_piecesOf_19 : decode cX3_piecesOf 19 = .ok (.areturn, 1) := by decide +kernel
theorem dX4_init_0 : decode cX4_init 0 = .ok (.aload_n 0, 1) := by decide +kernel
theorem dX4_init_1 : decode cX4_init 1 = .ok (.invokespecial 3, 3) := by decide +kernel
theorem dX4_init_4 : decode cX4_init 4 = .ok (.aload_n 0, 1) := by decide +kernel
theorem dX4_init_5 : decode cX4_init 5 = .ok (.iconst 0, 1) := by decide +kernel
theorem dX4_init_6 : decode cX4_init 6 = .ok (.putfield 9, 3) := by decide +kernel
theorem dX4_init_9 : decode cX4_init 9 = .ok (.aload_n 0, 1) := by decide +kernel
theorem dX4_init_10 : decode cX4_init 10 = .ok (.iconst 0, 1) := by decide +kernel
theorem dX4_init_11 : decode cX4_init 11 = .ok (.newarray .int, 2) := by decide +kernel
theorem dX4_init_13 : decode cX4_init 13 = .ok (.putfield 15, 3) := by decide +kernel
theorem dX4_init_16 : decode cX4_init 16 = .ok (.aload_n 0, 1) := by decide +kernel
theorem dX4_init_17 : decode cX4_init 17 = .ok (.iconst 0, 1) := by decide +kernel
theorem dX4_init_18 : decode cX4_init 18 = .ok (.newarray .int, 2) := by decide +kernel
theorem dX4_init_20 : decode cX4_init 20 = .ok (.putfield 19, 3) := by decide +kernel
theorem dX4_init_23 : decode cX4_init 23 = .ok (.aload_n 0, 1) := by decide +kernel
theorem dX4_init_24 : decode cX4_init 24 = .ok (.iconst 0, 1) := by decide +kernel
theorem dX4_init_25 : decode cX4_init 25 = .ok (.newarray .int, 2) := by decide +kernel
theorem dX4_init_27 : decode cX4_init 27 = .ok (.putfield 22, 3) := by decide +kernel
theorem dX4_init_30 : decode cX4_init 30 = .ok (.aload_n 0, 1) := by decide +kernel
theorem dX4_init_31 : decode cX4_init 31 = .ok (.iconst 0, 1) := by decide +kernel
theorem dX4_init_32 : decode cX4_init 32 = .ok (.newarray .int, 2) := by decide +kernel
theorem dX4_init_34 : decode cX4_init 34 = .ok (.putfield 25, 3) := by decide +kernel
theorem dX4_init_37 : decode cX4_init 37 = .ok (.aload_n 0, 1) := by decide +kernel
theorem dX4_init_38 : decode cX4_init 38 = .ok (.iconst 0, 1) := by decide +kernel
theorem dX4_init_39 : decode cX4_init 39 = .ok (.putfield 28, 3) := by decide +kernel
theorem dX4_init_42 : decode cX4_init 42 = .ok (.aload_n 0, 1) := by decide +kernel
theorem dX4_init_43 : decode cX4_init 43 = .ok (.iconst 0, 1) := by decide +kernel
theorem dX4_init_44 : decode cX4_init 44 = .ok (.newarray .int, 2) := by decide +kernel
theorem dX4_init_46 : decode cX4_init 46 = .ok (.putfield 31, 3) := by decide +kernel
theorem dX4_init_49 : decode cX4_init 49 = .ok (.aload_n 0, 1) := by decide +kernel
theorem dX4_init_50 : decode cX4_init 50 = .ok (.bipush 64, 2) := by decide +kernel
theorem dX4_init_52 : decode cX4_init 52 = .ok (.iload_n 1, 1) := by decide +kernel
theorem dX4_init_53 : decode cX4_init 53 = .ok (.imul, 1) := by decide +kernel
theorem dX4_init_54 : decode cX4_init 54 = .ok (.newarray .long, 2) := by decide +kernel
theorem dX4_init_56 : decode cX4_init 56 = .ok (.putfield 34, 3) := by decide +kernel
theorem dX4_init_59 : decode cX4_init 59 = .ok (.aload_n 0, 1) := by decide +kernel
theorem dX4_init_60 : decode cX4_init 60 = .ok (.bipush 64, 2) := by decide +kernel
theorem dX4_init_62 : decode cX4_init 62 = .ok (.iload_n 1, 1) := by decide +kernel
theorem dX4_init_63 : decode cX4_init 63 = .ok (.imul, 1) := by decide +kernel
theorem dX4_init_64 : decode cX4_init 64 = .ok (.newarray .int, 2) := by decide +kernel
theorem dX4_init_66 : decode cX4_init 66 = .ok (.putfield 38, 3) := by decide +kernel
theorem dX4_init_69 : decode cX4_init 69 = .ok (.return_, 1) := by decide +kernel
theorem dX4_find_0 : decode cX4_find 0 = .ok (.aload_n 1, 1) := by decide +kernel
theorem dX4_find_1 : decode cX4_find 1 = .ok (.iload_n 2, 1) := by decide +kernel
theorem dX4_find_2 : decode cX4_find 2 = .ok (.aload_n 0, 1) := by decide +kernel
theorem dX4_find_3 : decode cX4_find 3 = .ok (.getfield 34, 3) := by decide +kernel
theorem dX4_find_6 : decode cX4_find 6 = .ok (.iconst 0, 1) := by decide +kernel
theorem dX4_find_7 : decode cX4_find 7 = .ok (.bipush 64, 2) := by decide +kernel
theorem dX4_find_9 : decode cX4_find 9 = .ok (.invokestatic 41, 3) := by decide +kernel
theorem dX4_find_12 : decode cX4_find 12 = .ok (.aload_n 0, 1) := by decide +kernel
theorem dX4_find_13 : decode cX4_find 13 = .ok (.invokevirtual 47, 3) := by decide +kernel
theorem dX4_find_16 : decode cX4_find 16 = .ok (.aload_n 0, 1) := by decide +kernel
theorem dX4_find_17 : decode cX4_find 17 = .ok (.invokevirtual 50, 3) := by decide +kernel
theorem dX4_find_20 : decode cX4_find 20 = .ok (.aload_n 0, 1) := by decide +kernel
theorem dX4_find_21 : decode cX4_find 21 = .ok (.invokevirtual 53, 3) := by decide +kernel
theorem dX4_find_24 : decode cX4_find 24 = .ok (.return_, 1) := by decide +kernel
theorem dX4_findCommon_0 : decode cX4_findCommon 0 = .ok (.iconst 0, 1) := by decide +kernel
theorem dX4_findCommon_1 : decode cX4_findCommon 1 = .ok (.istore 4, 2) := by decide +kernel
theorem dX4_findCommon_3 : decode cX4_findCommon 3 = .ok (.iload 4, 2) := by decide +kernel
theorem dX4_findCommon_5 : decode cX4_findCommon 5 = .ok (.bipush 64, 2) := by decide +kernel
theorem dX4_findCommon_7 : decode cX4_findCommon 7 = .ok (.if_icmp .ge 29, 3) := by decide +kernel
theorem dX4_findCommon_10 : decode cX4_findCommon 10 = .ok (.aload_n 0, 1) := by decide +kernel
theorem dX4_findCommon_11 : decode cX4_findCommon 11 = .ok (.getfield 34, 3) := by decide +kernel
theorem dX4_findCommon_14 : decode cX4_findCommon 14 = .ok (.iload 4, 2) := by decide +kernel
theorem dX4_findCommon_16 : decode cX4_findCommon 16 = .ok (.aload_n 1, 1) := by decide +kernel
theorem dX4_findCommon_17 : decode cX4_findCommon 17 = .ok (.iload_n 2, 1) := by decide +kernel
theorem dX4_findCommon_18 : decode cX4_findCommon 18 = .ok (.iload 4, 2) := by decide +kernel
theorem dX4_findCommon_20 : decode cX4_findCommon 20 = .ok (.iadd, 1) := by decide +kernel
theorem dX4_findCommon_21 : decode cX4_findCommon 21 = .ok (.laload, 1) := by decide +kernel
theorem dX4_findCommon_22 : decode cX4_findCommon 22 = .ok (.aload_n 1, 1) := by decide +kernel
theorem dX4_findCommon_23 : decode cX4_findCommon 23 = .ok (.iload_n 3, 1) := by decide +kernel
theorem dX4_findCommon_24 : decode cX4_findCommon 24 = .ok (.iload 4, 2) := by decide +kernel
theorem dX4_findCommon_26 : decode cX4_findCommon 26 = .ok (.iadd, 1) := by decide +kernel
theorem dX4_findCommon_27 : decode cX4_findCommon 27 = .ok (.laload, 1) := by decide +kernel
theorem dX4_findCommon_28 : decode cX4_findCommon 28 = .ok (.land, 1) := by decide +kernel
theorem dX4_findCommon_29 : decode cX4_findCommon 29 = .ok (.lastore, 1) := by decide +kernel
theorem dX4_findCommon_30 : decode cX4_findCommon 30 = .ok (.iinc 4 1, 3) := by decide +kernel
theorem dX4_findCommon_33 : decode cX4_findCommon 33 = .ok (.goto (-30), 3) := by decide +kernel
theorem dX4_findCommon_36 : decode cX4_findCommon 36 = .ok (.aload_n 0, 1) := by decide +kernel
theorem dX4_findCommon_37 : decode cX4_findCommon 37 = .ok (.invokevirtual 47, 3) := by decide +kernel
theorem dX4_findCommon_40 : decode cX4_findCommon 40 = .ok (.aload_n 0, 1) := by decide +kernel
theorem dX4_findCommon_41 : decode cX4_findCommon 41 = .ok (.invokevirtual 50, 3) := by decide +kernel
theorem dX4_findCommon_44 : decode cX4_findCommon 44 = .ok (.aload_n 0, 1) := by decide +kernel
theorem dX4_findCommon_45 : decode cX4_findCommon 45 = .ok (.invokevirtual 53, 3) := by decide +kernel
theorem dX4_findCommon_48 : decode cX4_findCommon 48 = .ok (.return_, 1) := by decide +kernel
theorem dX4_gather_0 : decode cX4_gather 0 = .ok (.aload_n 0, 1) := by decide +kernel
theorem dX4_gather_1 : decode cX4_gather 1 = .ok (.iconst 0, 1) := by decide +kernel
theorem dX4_gather_2 : decode cX4_gather 2 = .ok (.putfield 28, 3) := by decide +kernel
theorem dX4_gather_5 : decode cX4_gather 5 = .ok (.iconst 0, 1) := by decide +kernel
theorem dX4_gather_6 : decode cX4_gather 6 = .ok (.istore_n 1, 1) := by decide +kernel
theorem dX4_gather_7 : decode cX4_gather 7 = .ok (.iload_n 1, 1) := by decide +kernel
theorem dX4_gather_8 : decode cX4_gather 8 = .ok (.aload_n 0, 1) := by decide +kernel
theorem dX4_gather_9 : decode cX4_gather 9 = .ok (.getfield 34, 3) := by decide +kernel
theorem dX4_gather_12 : decode cX4_gather 12 = .ok (.arraylength, 1) := by decide +kernel
theorem dX4_gather_13 : decode cX4_gather 13 = .ok (.if_icmp .ge 40, 3) := by decide +kernel
theorem dX4_gather_16 : decode cX4_gather 16 = .ok (.aload_n 0, 1) := by decide +kernel
theorem dX4_gather_17 : decode cX4_gather 17 = .ok (.getfield 38, 3) := by decide +kernel
theorem dX4_gather_20 : decode cX4_gather 20 = .ok (.iload_n 1, 1) := by decide +kernel
theorem dX4_gather_21 : decode cX4_gather 21 = .ok (.aload_n 0, 1) := by decide +kernel
theorem dX4_gather_22 : decode cX4_gather 22 = .ok (.getfield 28, 3) := by decide +kernel
theorem dX4_gather_25 : decode cX4_gather 25 = .ok (.iastore, 1) := by decide +kernel
theorem dX4_gather_26 : decode cX4_gather 26 = .ok (.aload_n 0, 1) := by decide +kernel
theorem dX4_gather_27 : decode cX4_gather 27 = .ok (.dup, 1) := by decide +kernel
theorem dX4_gather_28 : decode cX4_gather 28 = .ok (.getfield 28, 3) := by decide +kernel
theorem dX4_gather_31 : decode cX4_gather 31 = .ok (.aload_n 0, 1) := by decide +kernel
theorem dX4_gather_32 : decode cX4_gather 32 = .ok (.getfield 34, 3) := by decide +kernel
theorem dX4_gather_35 : decode cX4_gather 35 = .ok (.iload_n 1, 1) := by decide +kernel
theorem dX4_gather_36 : decode cX4_gather 36 = .ok (.laload, 1) := by decide +kernel
theorem dX4_gather_37 : decode cX4_gather 37 = .ok (.invokestatic 56, 3) := by decide +kernel
theorem dX4_gather_40 : decode cX4_gather 40 = .ok (.invokestatic 62, 3) := by decide +kernel
theorem dX4_gather_43 : decode cX4_gather 43 = .ok (.iadd, 1) := by decide +kernel
theorem dX4_gather_44 : decode cX4_gather 44 = .ok (.putfield 28, 3) := by decide +kernel
theorem dX4_gather_47 : decode cX4_gather 47 = .ok (.iinc 1 1, 3) := by decide +kernel
theorem dX4_gather_50 : decode cX4_gather 50 = .ok (.goto (-43), 3) := by decide +kernel
theorem dX4_gather_53 : decode cX4_gather 53 = .ok (.aload_n 0, 1) := by decide +kernel
theorem dX4_gather_54 : decode cX4_gather 54 = .ok (.aload_n 0, 1) := by decide +kernel
theorem dX4_gather_55 : decode cX4_gather 55 = .ok (.getfield 25, 3) := by decide +kernel
theorem dX4_gather_58 : decode cX4_gather 58 = .ok (.aload_n 0, 1) := by decide +kernel
theorem dX4_gather_59 : decode cX4_gather 59 = .ok (.getfield 28, 3) := by decide +kernel
theorem dX4_gather_62 : decode cX4_gather 62 = .ok (.invokestatic 68, 3) := by decide +kernel
theorem dX4_gather_65 : decode cX4_gather 65 = .ok (.putfield 25, 3) := by decide +kernel
theorem dX4_gather_68 : decode cX4_gather 68 = .ok (.iconst 0, 1) := by decide +kernel
theorem dX4_gather_69 : decode cX4_gather 69 = .ok (.istore_n 1, 1) := by decide +kernel
theorem dX4_gather_70 : decode cX4_gather 70 = .ok (.iload_n 1, 1) := by decide +kernel
theorem dX4_gather_71 : decode cX4_gather 71 = .ok (.aload_n 0, 1) := by decide +kernel
theorem dX4_gather_72 : decode cX4_gather 72 = .ok (.getfield 28, 3) := by decide +kernel
theorem dX4_gather_75 : decode cX4_gather 75 = .ok (.if_icmp .ge 16, 3) := by decide +kernel
theorem dX4_gather_78 : decode cX4_gather 78 = .ok (.aload_n 0, 1) := by decide +kernel
theorem dX4_gather_79 : decode cX4_gather 79 = .ok (.getfield 25, 3) := by decide +kernel
theorem dX4_gather_82 : decode cX4_gather 82 = .ok (.iload_n 1, 1) := by decide +kernel
theorem dX4_gather_83 : decode cX4_gather 83 = .ok (.iload_n 1, 1) := by decide +kernel
theorem dX4_gather_84 : decode cX4_gather 84 = .ok (.iastore, 1) := by decide +kernel
theorem dX4_gather_85 : decode cX4_gather 85 = .ok (.iinc 1 1, 3) := by decide +kernel
theorem dX4_gather_88 : decode cX4_gather 88 = .ok (.goto (-18), 3) := by decide +kernel
theorem dX4_gather_91 : decode cX4_gather 91 = .ok (.iconst 1, 1) := by decide +kernel
theorem dX4_gather_92 : decode cX4_gather 92 = .ok (.istore_n 1, 1) := by decide +kernel
theorem dX4_gather_93 : decode cX4_gather 93 = .ok (.iload_n 1, 1) := by decide +kernel
theorem dX4_gather_94 : decode cX4_gather 94 = .ok (.aload_n 0, 1) := by decide +kernel
theorem dX4_gather_95 : decode cX4_gather 95 = .ok (.getfield 34, 3) := by decide +kernel
theorem dX4_gather_98 : decode cX4_gather 98 = .ok (.arraylength, 1) := by decide +kernel
theorem dX4_gather_99 : decode cX4_gather 99 = .ok (.if_icmp .ge 39, 3) := by decide +kernel
theorem dX4_gather_102 : decode cX4_gather 102 = .ok (.iload_n 1, 1) := by decide +kernel
theorem dX4_gather_103 : decode cX4_gather 103 = .ok (.bipush 64, 2) := by decide +kernel
theorem dX4_gather_105 : decode cX4_gather 105 = .ok (.irem, 1) := by decide +kernel
theorem dX4_gather_106 : decode cX4_gather 106 = .ok (.ifCond .eq 26, 3) := by decide +kernel
theorem dX4_gather_109 : decode cX4_gather 109 = .ok (.aload_n 0, 1) := by decide +kernel
theorem dX4_gather_110 : decode cX4_gather 110 = .ok (.iload_n 1, 1) := by decide +kernel
theorem dX4_gather_111 : decode cX4_gather 111 = .ok (.iconst 1, 1) := by decide +kernel
theorem dX4_gather_112 : decode cX4_gather 112 = .ok (.isub, 1) := by decide +kernel
theorem dX4_gather_113 : decode cX4_gather 113 = .ok (.iload_n 1, 1) := by decide +kernel
theorem dX4_gather_114 : decode cX4_gather 114 = .ok (.aload_n 0, 1) := by decide +kernel
theorem dX4_gather_115 : decode cX4_gather 115 = .ok (.getfield 34, 3) := by decide +kernel
theorem dX4_gather_118 : decode cX4_gather 118 = .ok (.iload_n 1, 1) := by decide +kernel
theorem dX4_gather_119 : decode cX4_gather 119 = .ok (.iconst 1, 1) := by decide +kernel
theorem dX4_gather_120 : decode cX4_gather 120 = .ok (.isub, 1) := by decide +kernel
theorem dX4_gather_121 : decode cX4_gather 121 = .ok (.laload, 1) := by decide +kernel
theorem dX4_gather_122 : decode cX4_gather 122 = .ok (.aload_n 0, 1) := by decide +kernel
theorem dX4_gather_123 : decode cX4_gather 123 = .ok (.getfield 34, 3) := by decide +kernel
theorem dX4_gather_126 : decode cX4_gather 126 = .ok (.iload_n 1, 1) := by decide +kernel
theorem dX4_gather_127 : decode cX4_gather 127 = .ok (.laload, 1) := by decide +kernel
theorem dX4_gather_128 : decode cX4_gather 128 = .ok (.land, 1) := by decide +kernel
theorem dX4_gather_129 : decode cX4_gather 129 = .ok (.invokevirtual 72, 3) := by decide +kernel
theorem dX4_gather_132 : decode cX4_gather 132 = .ok (.iinc 1 1, 3) := by decide +kernel
theorem dX4_gather_135 : decode cX4_gather 135 = .ok (.goto (-42), 3) := by decide +kernel
theorem dX4_gather_138 : decode cX4_gather 138 = .ok (.return_, 1) := by decide +kernel
theorem dX4_unite_0 : decode cX4_unite 0 = .ok (.lload_n 3, 1) := by decide +kernel
theorem dX4_unite_1 : decode cX4_unite 1 = .ok (.invokestatic 56, 3) := by decide +kernel
theorem dX4_unite_4 : decode cX4_unite 4 = .ok (.lstore 5, 2) := by decide +kernel
theorem dX4_unite_6 : decode cX4_unite 6 = .ok (.lload 5, 2) := by decide +kernel
theorem dX4_unite_8 : decode cX4_unite 8 = .ok (.invokestatic 62, 3) := by decide +kernel
theorem dX4_unite_11 : decode cX4_unite 11 = .ok (.istore 7, 2) := by decide +kernel
theorem dX4_unite_13 : decode cX4_unite 13 = .ok (.iconst 0, 1) := by decide +kernel
theorem dX4_unite_14 : decode cX4_unite 14 = .ok (.istore 8, 2) := by decide +kernel
theorem dX4_unite_16 : decode cX4_unite 16 = .ok (.iload 8, 2) := by decide +kernel
theorem dX4_unite_18 : decode cX4_unite 18 = .ok (.iload 7, 2) := by decide +kernel
theorem dX4_unite_20 : decode cX4_unite 20 = .ok (.if_icmp .ge 70, 3) := by decide +kernel
theorem dX4_unite_23 : decode cX4_unite 23 = .ok (.lload 5, 2) := by decide +kernel
theorem dX4_unite_25 : decode cX4_unite 25 = .ok (.invokestatic 76, 3) := by decide +kernel
theorem dX4_unite_28 : decode cX4_unite 28 = .ok (.istore 9, 2) := by decide +kernel
theorem dX4_unite_30 : decode cX4_unite 30 = .ok (.aload_n 0, 1) := by decide +kernel
theorem dX4_unite_31 : decode cX4_unite 31 = .ok (.aload_n 0, 1) := by decide +kernel
theorem dX4_unite_32 : decode cX4_unite 32 = .ok (.iload_n 1, 1) := by decide +kernel
theorem dX4_unite_33 : decode cX4_unite 33 = .ok (.iload 9, 2) := by decide +kernel
theorem dX4_unite_35 : decode cX4_unite 35 = .ok (.invokevirtual 79, 3) := by decide +kernel
theorem dX4_unite_38 : decode cX4_unite 38 = .ok (.invokevirtual 83, 3) := by decide +kernel
theorem dX4_unite_41 : decode cX4_unite 41 = .ok (.istore 10, 2) := by decide +kernel
theorem dX4_unite_43 : decode cX4_unite 43 = .ok (.aload_n 0, 1) := by decide +kernel
theorem dX4_unite_44 : decode cX4_unite 44 = .ok (.aload_n 0, 1) := by decide +kernel
theorem dX4_unite_45 : decode cX4_unite 45 = .ok (.iload_n 2, 1) := by decide +kernel
theorem dX4_unite_46 : decode cX4_unite 46 = .ok (.iload 9, 2) := by decide +kernel
theorem dX4_unite_48 : decode cX4_unite 48 = .ok (.invokevirtual 79, 3) := by decide +kernel
theorem dX4_unite_51 : decode cX4_unite 51 = .ok (.invokevirtual 83, 3) := by decide +kernel
theorem dX4_unite_54 : decode cX4_unite 54 = .ok (.istore 11, 2) := by decide +kernel
theorem dX4_unite_56 : decode cX4_unite 56 = .ok (.aload_n 0, 1) := by decide +kernel
theorem dX4_unite_57 : decode cX4_unite 57 = .ok (.getfield 25, 3) := by decide +kernel
theorem dX4_unite_60 : decode cX4_unite 60 = .ok (.iload 10, 2) := by decide +kernel
theorem dX4_unite_62 : decode cX4_unite 62 = .ok (.iload 11, 2) := by decide +kernel
theorem dX4_unite_64 : decode cX4_unite 64 = .ok (.invokestatic 87, 3) := by decide +kernel
theorem dX4_unite_67 : decode cX4_unite 67 = .ok (.iload 10, 2) := by decide +kernel
theorem dX4_unite_69 : decode cX4_unite 69 = .ok (.iload 11, 2) := by decide +kernel
theorem dX4_unite_71 : decode cX4_unite 71 = .ok (.invokestatic 92, 3) := by decide +kernel
theorem dX4_unite_74 : decode cX4_unite 74 = .ok (.iastore, 1) := by decide +kernel
theorem dX4_unite_75 : decode cX4_unite 75 = .ok (.lload 5, 2) := by decide +kernel
theorem dX4_unite_77 : decode cX4_unite 77 = .ok (.lload 5, 2) := by decide +kernel
theorem dX4_unite_79 : decode cX4_unite 79 = .ok (.lconst 1, 1) := by decide +kernel
theorem dX4_unite_80 : decode cX4_unite 80 = .ok (.lsub, 1) := by decide +kernel
theorem dX4_unite_81 : decode cX4_unite 81 = .ok (.land, 1) := by decide +kernel
theorem dX4_unite_82 : decode cX4_unite 82 = .ok (.lstore 5, 2) := by decide +kernel
theorem dX4_unite_84 : decode cX4_unite 84 = .ok (.iinc 8 1, 3) := by decide +kernel
theorem dX4_unite_87 : decode cX4_unite 87 = .ok (.goto (-71), 3) := by decide +kernel
theorem dX4_unite_90 : decode cX4_unite 90 = .ok (.return_, 1) := by decide +kernel
theorem dX4_stretchAt_0 : decode cX4_stretchAt 0 = .ok (.aload_n 0, 1) := by decide +kernel
theorem dX4_stretchAt_1 : decode cX4_stretchAt 1 = .ok (.getfield 34, 3) := by decide +kernel
theorem dX4_stretchAt_4 : decode cX4_stretchAt 4 = .ok (.iload_n 1, 1) := by decide +kernel
theorem dX4_stretchAt_5 : decode cX4_stretchAt 5 = .ok (.laload, 1) := by decide +kernel
theorem dX4_stretchAt_6 : decode cX4_stretchAt 6 = .ok (.aload_n 0, 1) := by decide +kernel
theorem dX4_stretchAt_7 : decode cX4_stretchAt 7 = .ok (.getfield 34, 3) := by decide +kernel
theorem dX4_stretchAt_10 : decode cX4_stretchAt 10 = .ok (.iload_n 1, 1) := by decide +kernel
theorem dX4_stretchAt_11 : decode cX4_stretchAt 11 = .ok (.laload, 1) := by decide +kernel
theorem dX4_stretchAt_12 : decode cX4_stretchAt 12 = .ok (.iconst 1, 1) := by decide +kernel
theorem dX4_stretchAt_13 : decode cX4_stretchAt 13 = .ok (.lshl, 1) := by decide +kernel
theorem dX4_stretchAt_14 : decode cX4_stretchAt 14 = .ok (.ldc2_w 95, 3) := by decide +kernel
theorem dX4_stretchAt_17 : decode cX4_stretchAt 17 = .ok (.lxor, 1) := by decide +kernel
theorem dX4_stretchAt_18 : decode cX4_stretchAt 18 = .ok (.land, 1) := by decide +kernel
theorem dX4_stretchAt_19 : decode cX4_stretchAt 19 = .ok (.lstore_n 3, 1) := by decide +kernel
theorem dX4_stretchAt_20 : decode cX4_stretchAt 20 = .ok (.aload_n 0, 1) := by decide +kernel
theorem dX4_stretchAt_21 : decode cX4_stretchAt 21 = .ok (.getfield 38, 3) := by decide +kernel
theorem dX4_stretchAt_24 : decode cX4_stretchAt 24 = .ok (.iload_n 1, 1) := by decide +kernel
theorem dX4_stretchAt_25 : decode cX4_stretchAt 25 = .ok (.iaload, 1) := by decide +kernel
theorem dX4_stretchAt_26 : decode cX4_stretchAt 26 = .ok (.lload_n 3, 1) := by decide +kernel
theorem dX4_stretchAt_27 : decode cX4_stretchAt 27 = .ok (.ldc2_w 95, 3) := by decide +kernel
theorem dX4_stretchAt_30 : decode cX4_stretchAt 30 = .ok (.bipush 63, 2) := by decide +kernel
theorem dX4_stretchAt_32 : decode cX4_stretchAt 32 = .ok (.iload_n 2, 1) := by decide +kernel
theorem dX4_stretchAt_33 : decode cX4_stretchAt 33 = .ok (.isub, 1) := by decide +kernel
theorem dX4_stretchAt_34 : decode cX4_stretchAt 34 = .ok (.lushr, 1) := by decide +kernel
theorem dX4_stretchAt_35 : decode cX4_stretchAt 35 = .ok (.land, 1) := by decide +kernel
theorem dX4_stretchAt_36 : decode cX4_stretchAt 36 = .ok (.invokestatic 62, 3) := by decide +kernel
theorem dX4_stretchAt_39 : decode cX4_stretchAt 39 = .ok (.iadd, 1) := by decide +kernel
theorem dX4_stretchAt_40 : decode cX4_stretchAt 40 = .ok (.iconst 1, 1) := by decide +kernel
theorem dX4_stretchAt_41 : decode cX4_stretchAt 41 = .ok (.isub, 1) := by decide +kernel
theorem dX4_stretchAt_42 : decode cX4_stretchAt 42 = .ok (.ireturn, 1) := by decide +kernel
theorem dX4_root_0 : decode cX4_root 0 = .ok (.iload_n 1, 1) := by decide +kernel
theorem dX4_root_1 : decode cX4_root 1 = .ok (.istore_n 2, 1) := by decide +kernel
theorem dX4_root_2 : decode cX4_root 2 = .ok (.iconst 0, 1) := by decide +kernel
theorem dX4_root_3 : decode cX4_root 3 = .ok (.istore_n 3, 1) := by decide +kernel
theorem dX4_root_4 : decode cX4_root 4 = .ok (.iload_n 3, 1) := by decide +kernel
theorem dX4_root_5 : decode cX4_root 5 = .ok (.aload_n 0, 1) := by decide +kernel
theorem dX4_root_6 : decode cX4_root 6 = .ok (.getfield 28, 3) := by decide +kernel
theorem dX4_root_9 : decode cX4_root 9 = .ok (.if_icmp .ge 43, 3) := by decide +kernel
theorem dX4_root_12 : decode cX4_root 12 = .ok (.aload_n 0, 1) := by decide +kernel
theorem dX4_root_13 : decode cX4_root 13 = .ok (.getfield 25, 3) := by decide +kernel
theorem dX4_root_16 : decode cX4_root 16 = .ok (.iload_n 2, 1) := by decide +kernel
theorem dX4_root_17 : decode cX4_root 17 = .ok (.iaload, 1) := by decide +kernel
theorem dX4_root_18 : decode cX4_root 18 = .ok (.iload_n 2, 1) := by decide +kernel
theorem dX4_root_19 : decode cX4_root 19 = .ok (.if_icmp .eq 33, 3) := by decide +kernel
theorem dX4_root_22 : decode cX4_root 22 = .ok (.aload_n 0, 1) := by decide +kernel
theorem dX4_root_23 : decode cX4_root 23 = .ok (.getfield 25, 3) := by decide +kernel
theorem dX4_root_26 : decode cX4_root 26 = .ok (.iload_n 2, 1) := by decide +kernel
theorem dX4_root_27 : decode cX4_root 27 = .ok (.aload_n 0, 1) := by decide +kernel
theorem dX4_root_28 : decode cX4_root 28 = .ok (.getfield 25, 3) := by decide +kernel
theorem dX4_root_31 : decode cX4_root 31 = .ok (.aload_n 0, 1) := by decide +kernel
theorem dX4_root_32 : decode cX4_root 32 = .ok (.getfield 25, 3) := by decide +kernel
theorem dX4_root_35 : decode cX4_root 35 = .ok (.iload_n 2, 1) := by decide +kernel
theorem dX4_root_36 : decode cX4_root 36 = .ok (.iaload, 1) := by decide +kernel
theorem dX4_root_37 : decode cX4_root 37 = .ok (.iaload, 1) := by decide +kernel
theorem dX4_root_38 : decode cX4_root 38 = .ok (.iastore, 1) := by decide +kernel
theorem dX4_root_39 : decode cX4_root 39 = .ok (.aload_n 0, 1) := by decide +kernel
theorem dX4_root_40 : decode cX4_root 40 = .ok (.getfield 25, 3) := by decide +kernel
theorem dX4_root_43 : decode cX4_root 43 = .ok (.iload_n 2, 1) := by decide +kernel
theorem dX4_root_44 : decode cX4_root 44 = .ok (.iaload, 1) := by decide +kernel
theorem dX4_root_45 : decode cX4_root 45 = .ok (.istore_n 2, 1) := by decide +kernel
theorem dX4_root_46 : decode cX4_root 46 = .ok (.iinc 3 1, 3) := by decide +kernel
theorem dX4_root_49 : decode cX4_root 49 = .ok (.goto (-45), 3) := by decide +kernel
theorem dX4_root_52 : decode cX4_root 52 = .ok (.iload_n 2, 1) := by decide +kernel
theorem dX4_root_53 : decode cX4_root 53 = .ok (.ireturn, 1) := by decide +kernel
theorem dX4_number_0 : decode cX4_number 0 = .ok (.aload_n 0, 1) := by decide +kernel
theorem dX4_number_1 : decode cX4_number 1 = .ok (.iconst 0, 1) := by decide +kernel
theorem dX4_number_2 : decode cX4_number 2 = .ok (.putfield 9, 3) := by decide +kernel
theorem dX4_number_5 : decode cX4_number 5 = .ok (.iconst 0, 1) := by decide +kernel
theorem dX4_number_6 : decode cX4_number 6 = .ok (.istore_n 1, 1) := by decide +kernel
theorem dX4_number_7 : decode cX4_number 7 = .ok (.iload_n 1, 1) := by decide +kernel
theorem dX4_number_8 : decode cX4_number 8 = .ok (.aload_n 0, 1) := by decide +kernel
theorem dX4_number_9 : decode cX4_number 9 = .ok (.getfield 28, 3) := by decide +kernel
theorem dX4_number_12 : decode cX4_number 12 = .ok (.if_icmp .ge 59, 3) := by decide +kernel
theorem dX4_number_15 : decode cX4_number 15 = .ok (.aload_n 0, 1) := by decide +kernel
theorem dX4_number_16 : decode cX4_number 16 = .ok (.getfield 25, 3) := by decide +kernel
theorem dX4_number_19 : decode cX4_number 19 = .ok (.iload_n 1, 1) := by decide +kernel
theorem dX4_number_20 : decode cX4_number 20 = .ok (.iaload, 1) := by decide +kernel
theorem dX4_number_21 : decode cX4_number 21 = .ok (.iload_n 1, 1) := by decide +kernel
theorem dX4_number_22 : decode cX4_number 22 = .ok (.if_icmp .ne 26, 3) := by decide +kernel
theorem dX4_number_25 : decode cX4_number 25 = .ok (.aload_n 0, 1) := by decide +kernel
theorem dX4_number_26 : decode cX4_number 26 = .ok (.getfield 25, 3) := by decide +kernel
theorem dX4_number_29 : decode cX4_number 29 = .ok (.iload_n 1, 1) := by decide +kernel
theorem dX4_number_30 : decode cX4_number 30 = .ok (.aload_n 0, 1) := by decide +kernel
theorem dX4_number_31 : decode cX4_number 31 = .ok (.getfield 9, 3) := by decide +kernel
theorem dX4_number_34 : decode cX4_number 34 = .ok (.iastore, 1) := by decide +kernel
theorem dX4_number_35 : decode cX4_number 35 = .ok (.aload_n 0, 1) := by decide +kernel
theorem dX4_number_36 : decode cX4_number 36 = .ok (.dup, 1) := by decide +kernel
theorem dX4_number_37 : decode cX4_number 37 = .ok (.getfield 9, 3) := by decide +kernel
theorem dX4_number_40 : decode cX4_number 40 = .ok (.iconst 1, 1) := by decide +kernel
theorem dX4_number_41 : decode cX4_number 41 = .ok (.iadd, 1) := by decide +kernel
theorem dX4_number_42 : decode cX4_number 42 = .ok (.putfield 9, 3) := by decide +kernel
theorem dX4_number_45 : decode cX4_number 45 = .ok (.goto 20, 3) := by decide +kernel
theorem dX4_number_48 : decode cX4_number 48 = .ok (.aload_n 0, 1) := by decide +kernel
theorem dX4_number_49 : decode cX4_number 49 = .ok (.getfield 25, 3) := by decide +kernel
theorem dX4_number_52 : decode cX4_number 52 = .ok (.iload_n 1, 1) := by decide +kernel
theorem dX4_number_53 : decode cX4_number 53 = .ok (.aload_n 0, 1) := by decide +kernel
theorem dX4_number_54 : decode cX4_number 54 = .ok (.getfield 25, 3) := by decide +kernel
theorem dX4_number_57 : decode cX4_number 57 = .ok (.aload_n 0, 1) := by decide +kernel
theorem dX4_number_58 : decode cX4_number 58 = .ok (.getfield 25, 3) := by decide +kernel
theorem dX4_number_61 : decode cX4_number 61 = .ok (.iload_n 1, 1) := by decide +kernel
theorem dX4_number_62 : decode cX4_number 62 = .ok (.iaload, 1) := by decide +kernel
theorem dX4_number_63 : decode cX4_number 63 = .ok (.iaload, 1) := by decide +kernel
theorem dX4_number_64 : decode cX4_number 64 = .ok (.iastore, 1) := by decide +kernel
theorem dX4_number_65 : decode cX4_number 65 = .ok (.iinc 1 1, 3) := by decide +kernel
theorem dX4_number_68 : decode cX4_number 68 = .ok (.goto (-61), 3) := by decide +kernel
theorem dX4_number_71 : decode cX4_number 71 = .ok (.return_, 1) := by decide +kernel
theorem dX4_measure_0 : decode cX4_measure 0 = .ok (.aload_n 0, 1) := by decide +kernel
theorem dX4_measure_1 : decode cX4_measure 1 = .ok (.aload_n 0, 1) := by decide +kernel
theorem dX4_measure_2 : decode cX4_measure 2 = .ok (.getfield 15, 3) := by decide +kernel
theorem dX4_measure_5 : decode cX4_measure 5 = .ok (.aload_n 0, 1) := by decide +kernel
theorem dX4_measure_6 : decode cX4_measure 6 = .ok (.getfield 9, 3) := by decide +kernel
theorem dX4_measure_9 : decode cX4_measure 9 = .ok (.invokestatic 68, 3) := by decide +kernel
theorem dX4_measure_12 : decode cX4_measure 12 = .ok (.putfield 15, 3) := by decide +kernel
theorem dX4_measure_15 : decode cX4_measure 15 = .ok (.aload_n 0, 1) := by decide +kernel
theorem dX4_measure_16 : decode cX4_measure 16 = .ok (.aload_n 0, 1) := by decide +kernel
theorem dX4_measure_17 : decode cX4_measure 17 = .ok (.getfield 19, 3) := by decide +kernel
theorem dX4_measure_20 : decode cX4_measure 20 = .ok (.aload_n 0, 1) := by decide +kernel
theorem dX4_measure_21 : decode cX4_measure 21 = .ok (.getfield 9, 3) := by decide +kernel
theorem dX4_measure_24 : decode cX4_measure 24 = .ok (.invokestatic 68, 3) := by decide +kernel
theorem dX4_measure_27 : decode cX4_measure 27 = .ok (.putfield 19, 3) := by decide +kernel
theorem dX4_measure_30 : decode cX4_measure 30 = .ok (.aload_n 0, 1) := by decide +kernel
theorem dX4_measure_31 : decode cX4_measure 31 = .ok (.aload_n 0, 1) := by decide +kernel
theorem dX4_measure_32 : decode cX4_measure 32 = .ok (.getfield 22, 3) := by decide +kernel
theorem dX4_measure_35 : decode cX4_measure 35 = .ok (.aload_n 0, 1) := by decide +kernel
theorem dX4_measure_36 : decode cX4_measure 36 = .ok (.getfield 9, 3) := by decide +kernel
theorem dX4_measure_39 : decode cX4_measure 39 = .ok (.invokestatic 68, 3) := by decide +kernel
theorem dX4_measure_42 : decode cX4_measure 42 = .ok (.putfield 22, 3) := by decide +kernel
theorem dX4_measure_45 : decode cX4_measure 45 = .ok (.aload_n 0, 1) := by decide +kernel
theorem dX4_measure_46 : decode cX4_measure 46 = .ok (.getfield 15, 3) := by decide +kernel
theorem dX4_measure_49 : decode cX4_measure 49 = .ok (.iconst 0, 1) := by decide +kernel
theorem dX4_measure_50 : decode cX4_measure 50 = .ok (.invokestatic 97, 3) := by decide +kernel
theorem dX4_measure_53 : decode cX4_measure 53 = .ok (.iconst 0, 1) := by decide +kernel
theorem dX4_measure_54 : decode cX4_measure 54 = .ok (.istore_n 1, 1) := by decide +kernel
theorem dX4_measure_55 : decode cX4_measure 55 = .ok (.iload_n 1, 1) := by decide +kernel
theorem dX4_measure_56 : decode cX4_measure 56 = .ok (.bipush 64, 2) := by decide +kernel
theorem dX4_measure_58 : decode cX4_measure 58 = .ok (.if_icmp .ge 89, 3) := by decide +kernel
theorem dX4_measure_61 : decode cX4_measure 61 = .ok (.aload_n 0, 1) := by decide +kernel
theorem dX4_measure_62 : decode cX4_measure 62 = .ok (.getfield 34, 3) := by decide +kernel
theorem dX4_measure_65 : decode cX4_measure 65 = .ok (.iload_n 1, 1) := by decide +kernel
theorem dX4_measure_66 : decode cX4_measure 66 = .ok (.laload, 1) := by decide +kernel
theorem dX4_measure_67 : decode cX4_measure 67 = .ok (.invokestatic 56, 3) := by decide +kernel
theorem dX4_measure_70 : decode cX4_measure 70 = .ok (.lstore_n 2, 1) := by decide +kernel
theorem dX4_measure_71 : decode cX4_measure 71 = .ok (.lload_n 2, 1) := by decide +kernel
theorem dX4_measure_72 : decode cX4_measure 72 = .ok (.invokestatic 62, 3) := by decide +kernel
theorem dX4_measure_75 : decode cX4_measure 75 = .ok (.istore 4, 2) := by decide +kernel
theorem dX4_measure_77 : decode cX4_measure 77 = .ok (.iconst 0, 1) := by decide +kernel
theorem dX4_measure_78 : decode cX4_measure 78 = .ok (.istore 5, 2) := by decide +kernel
theorem dX4_measure_80 : decode cX4_measure 80 = .ok (.iload 5, 2) := by decide +kernel
theorem dX4_measure_82 : decode cX4_measure 82 = .ok (.iload 4, 2) := by decide +kernel
theorem dX4_measure_84 : decode cX4_measure 84 = .ok (.if_icmp .ge 57, 3) := by decide +kernel
theorem dX4_measure_87 : decode cX4_measure 87 = .ok (.lload_n 2, 1) := by decide +kernel
theorem dX4_measure_88 : decode cX4_measure 88 = .ok (.invokestatic 76, 3) := by decide +kernel
theorem dX4_measure_91 : decode cX4_measure 91 = .ok (.istore 6, 2) := by decide +kernel
theorem dX4_measure_93 : decode cX4_measure 93 = .ok (.aload_n 0, 1) := by decide +kernel
theorem dX4_measure_94 : decode cX4_measure 94 = .ok (.aload_n 0, 1) := by decide +kernel
theorem dX4_measure_95 : decode cX4_measure 95 = .ok (.getfield 25, 3) := by decide +kernel
theorem dX4_measure_98 : decode cX4_measure 98 = .ok (.aload_n 0, 1) := by decide +kernel
theorem dX4_measure_99 : decode cX4_measure 99 = .ok (.getfield 38, 3) := by decide +kernel
theorem dX4_measure_102 : decode cX4_measure 102 = .ok (.iload_n 1, 1) := by decide +kernel
theorem dX4_measure_103 : decode cX4_measure 103 = .ok (.iaload, 1) := by decide +kernel
theorem dX4_measure_104 : decode cX4_measure 104 = .ok (.iload 5, 2) := by decide +kernel
theorem dX4_measure_106 : decode cX4_measure 106 = .ok (.iadd, 1) := by decide +kernel
theorem dX4_measure_107 : decode cX4_measure 107 = .ok (.iaload, 1) := by decide +kernel
theorem dX4_measure_108 : decode cX4_measure 108 = .ok (.bipush 64, 2) := by decide +kernel
theorem dX4_measure_110 : decode cX4_measure 110 = .ok (.iload_n 1, 1) := by decide +kernel
theorem dX4_measure_111 : decode cX4_measure 111 = .ok (.imul, 1) := by decide +kernel
theorem dX4_measure_112 : decode cX4_measure 112 = .ok (.iload 6, 2) := by decide +kernel
theorem dX4_measure_114 : decode cX4_measure 114 = .ok (.iadd, 1) := by decide +kernel
theorem dX4_measure_115 : decode cX4_measure 115 = .ok (.aload_n 0, 1) := by decide +kernel
theorem dX4_measure_116 : decode cX4_measure 116 = .ok (.getfield 34, 3) := by decide +kernel
theorem dX4_measure_119 : decode cX4_measure 119 = .ok (.iload_n 1, 1) := by decide +kernel
theorem dX4_measure_120 : decode cX4_measure 120 = .ok (.laload, 1) := by decide +kernel
theorem dX4_measure_121 : decode cX4_measure 121 = .ok (.iload 6, 2) := by decide +kernel
theorem dX4_measure_123 : decode cX4_measure 123 = .ok (.invokestatic 103, 3) := by decide +kernel
theorem dX4_measure_126 : decode cX4_measure 126 = .ok (.invokevirtual 107, 3) := by decide +kernel
theorem dX4_measure_129 : decode cX4_measure 129 = .ok (.lload_n 2, 1) := by decide +kernel
theorem dX4_measure_130 : decode cX4_measure 130 = .ok (.lload_n 2, 1) := by decide +kernel
theorem dX4_measure_131 : decode cX4_measure 131 = .ok (.lconst 1, 1) := by decide +kernel
theorem dX4_measure_132 : decode cX4_measure 132 = .ok (.lsub, 1) := by decide +kernel
theorem dX4_measure_133 : decode cX4_measure 133 = .ok (.land, 1) := by decide +kernel
theorem dX4_measure_134 : decode cX4_measure 134 = .ok (.lstore_n 2, 1) := by decide +kernel
theorem dX4_measure_135 : decode cX4_measure 135 = .ok (.iinc 5 1, 3) := by decide +kernel
theorem dX4_measure_138 : decode cX4_measure 138 = .ok (.goto (-58), 3) := by decide +kernel
theorem dX4_measure_141 : decode cX4_measure 141 = .ok (.iinc 1 1, 3) := by decide +kernel
theorem dX4_measure_144 : decode cX4_measure 144 = .ok (.goto (-89), 3) := by decide +kernel
theorem dX4_measure_147 : decode cX4_measure 147 = .ok (.return_, 1) := by decide +kernel
theorem dX4_measureStretch_0 : decode cX4_measureStretch 0 = .ok (.aload_n 0, 1) := by decide +kernel
theorem dX4_measureStretch_1 : decode cX4_measureStretch 1 = .ok (.getfield 15, 3) := by decide +kernel
theorem dX4_measureStretch_4 : decode cX4_measureStretch 4 = .ok (.iload_n 1, 1) := by decide +kernel
theorem dX4_measureStretch_5 : decode cX4_measureStretch 5 = .ok (.iaload, 1) := by decide +kernel
theorem dX4_measureStretch_6 : decode cX4_measureStretch 6 = .ok (.ifCond .ne 10, 3) := by decide +kernel
theorem dX4_measureStretch_9 : decode cX4_measureStretch 9 = .ok (.aload_n 0, 1) := by decide +kernel
theorem dX4_measureStretch_10 : decode cX4_measureStretch 10 = .ok (.getfield 19, 3) := by decide +kernel
theorem dX4_measureStretch_13 : decode cX4_measureStretch 13 = .ok (.iload_n 1, 1) := by decide +kernel
theorem dX4_measureStretch_14 : decode cX4_measureStretch 14 = .ok (.iload_n 2, 1) := by decide +kernel
theorem dX4_measureStretch_15 : decode cX4_measureStretch 15 = .ok (.iastore, 1) := by decide +kernel
theorem dX4_measureStretch_16 : decode cX4_measureStretch 16 = .ok (.aload_n 0, 1) := by decide +kernel
theorem dX4_measureStretch_17 : decode cX4_measureStretch 17 = .ok (.getfield 15, 3) := by decide +kernel
theorem dX4_measureStretch_20 : decode cX4_measureStretch 20 = .ok (.iload_n 1, 1) := by decide +kernel
theorem dX4_measureStretch_21 : decode cX4_measureStretch 21 = .ok (.dup2, 1) := by decide +kernel
theorem dX4_measureStretch_22 : decode cX4_measureStretch 22 = .ok (.iaload, 1) := by decide +kernel
theorem dX4_measureStretch_23 : decode cX4_measureStretch 23 = .ok (.iload_n 3, 1) := by decide +kernel
theorem dX4_measureStretch_24 : decode cX4_measureStretch 24 = .ok (.iadd, 1) := by decide +kernel
theorem dX4_measureStretch_25 : decode cX4_measureStretch 25 = .ok (.iastore, 1) := by decide +kernel
theorem dX4_measureStretch_26 : decode cX4_measureStretch 26 = .ok (.aload_n 0, 1) := by decide +kernel
theorem dX4_measureStretch_27 : decode cX4_measureStretch 27 = .ok (.getfield 22, 3) := by decide +kernel
theorem dX4_measureStretch_30 : decode cX4_measureStretch 30 = .ok (.iload_n 1, 1) := by decide +kernel
theorem dX4_measureStretch_31 : decode cX4_measureStretch 31 = .ok (.iload_n 2, 1) := by decide +kernel
theorem dX4_measureStretch_32 : decode cX4_measureStretch 32 = .ok (.iload_n 3, 1) := by decide +kernel
theorem dX4_measureStretch_33 : decode cX4_measureStretch 33 = .ok (.iadd, 1) := by decide +kernel
theorem dX4_measureStretch_34 : decode cX4_measureStretch 34 = .ok (.iconst 1, 1) := by decide +kernel
theorem dX4_measureStretch_35 : decode cX4_measureStretch 35 = .ok (.isub, 1) := by decide +kernel
theorem dX4_measureStretch_36 : decode cX4_measureStretch 36 = .ok (.iastore, 1) := by decide +kernel
theorem dX4_measureStretch_37 : decode cX4_measureStretch 37 = .ok (.return_, 1) := by decide +kernel
theorem dX4_groupAt_0 : decode cX4_groupAt 0 = .ok (.aload_n 0, 1) := by decide +kernel
theorem dX4_groupAt_1 : decode cX4_groupAt 1 = .ok (.getfield 34, 3) := by decide +kernel
theorem dX4_groupAt_4 : decode cX4_groupAt 4 = .ok (.iload_n 1, 1) := by decide +kernel
theorem dX4_groupAt_5 : decode cX4_groupAt 5 = .ok (.laload, 1) := by decide +kernel
theorem dX4_groupAt_6 : decode cX4_groupAt 6 = .ok (.iload_n 2, 1) := by decide +kernel
theorem dX4_groupAt_7 : decode cX4_groupAt 7 = .ok (.lushr, 1) := by decide +kernel
theorem dX4_groupAt_8 : decode cX4_groupAt 8 = .ok (.lconst 1, 1) := by decide +kernel
theorem dX4_groupAt_9 : decode cX4_groupAt 9 = .ok (.land, 1) := by decide +kernel
theorem dX4_groupAt_10 : decode cX4_groupAt 10 = .ok (.lconst 0, 1) := by decide +kernel
theorem dX4_groupAt_11 : decode cX4_groupAt 11 = .ok (.lcmp, 1) := by decide +kernel
theorem dX4_groupAt_12 : decode cX4_groupAt 12 = .ok (.ifCond .ne 7, 3) := by decide +kernel
theorem dX4_groupAt_15 : decode cX4_groupAt 15 = .ok (.iconst (-1), 1) := by decide +kernel
theorem dX4_groupAt_16 : decode cX4_groupAt 16 = .ok (.goto 14, 3) := by decide +kernel
theorem dX4_groupAt_19 : decode cX4_groupAt 19 = .ok (.aload_n 0, 1) := by decide +kernel
theorem dX4_groupAt_20 : decode cX4_groupAt 20 = .ok (.getfield 25, 3) := by decide +kernel
theorem dX4_groupAt_23 : decode cX4_groupAt 23 = .ok (.aload_n 0, 1) := by decide +kernel
theorem dX4_groupAt_24 : decode cX4_groupAt 24 = .ok (.iload_n 1, 1) := by decide +kernel
theorem dX4_groupAt_25 : decode cX4_groupAt 25 = .ok (.iload_n 2, 1) := by decide +kernel
theorem dX4_groupAt_26 : decode cX4_groupAt 26 = .ok (.invokevirtual 79, 3) := by decide +kernel
theorem dX4_groupAt_29 : decode cX4_groupAt 29 = .ok (.iaload, 1) := by decide +kernel
theorem dX4_groupAt_30 : decode cX4_groupAt 30 = .ok (.ireturn, 1) := by decide +kernel
theorem dX4_touch_0 : decode cX4_touch 0 = .ok (.aload_n 0, 1) := by decide +kernel
theorem dX4_touch_1 : decode cX4_touch 1 = .ok (.aload_n 0, 1) := by decide +kernel
theorem dX4_touch_2 : decode cX4_touch 2 = .ok (.getfield 31, 3) := by decide +kernel
theorem dX4_touch_5 : decode cX4_touch 5 = .ok (.aload_n 0, 1) := by decide +kernel
theorem dX4_touch_6 : decode cX4_touch 6 = .ok (.getfield 9, 3) := by decide +kernel
theorem dX4_touch_9 : decode cX4_touch 9 = .ok (.invokestatic 68, 3) := by decide +kernel
theorem dX4_touch_12 : decode cX4_touch 12 = .ok (.putfield 31, 3) := by decide +kernel
theorem dX4_touch_15 : decode cX4_touch 15 = .ok (.aload_n 0, 1) := by decide +kernel
theorem dX4_touch_16 : decode cX4_touch 16 = .ok (.getfield 31, 3) := by decide +kernel
theorem dX4_touch_19 : decode cX4_touch 19 = .ok (.iconst 0, 1) := by decide +kernel
theorem dX4_touch_20 : decode cX4_touch 20 = .ok (.invokestatic 97, 3) := by decide +kernel
theorem dX4_touch_23 : decode cX4_touch 23 = .ok (.iconst 0, 1) := by decide +kernel
theorem dX4_touch_24 : decode cX4_touch 24 = .ok (.istore_n 3, 1) := by decide +kernel
theorem dX4_touch_25 : decode cX4_touch 25 = .ok (.iload_n 3, 1) := by decide +kernel
theorem dX4_touch_26 : decode cX4_touch 26 = .ok (.bipush 64, 2) := by decide +kernel
theorem dX4_touch_28 : decode cX4_touch 28 = .ok (.if_icmp .ge 79, 3) := by decide +kernel
theorem dX4_touch_31 : decode cX4_touch 31 = .ok (.aload_n 0, 1) := by decide +kernel
theorem dX4_touch_32 : decode cX4_touch 32 = .ok (.getfield 34, 3) := by decide +kernel
theorem dX4_touch_35 : decode cX4_touch 35 = .ok (.iload_n 3, 1) := by decide +kernel
theorem dX4_touch_36 : decode cX4_touch 36 = .ok (.laload, 1) := by decide +kernel
theorem dX4_touch_37 : decode cX4_touch 37 = .ok (.aload_n 1, 1) := by decide +kernel
theorem dX4_touch_38 : decode cX4_touch 38 = .ok (.iload_n 2, 1) := by decide +kernel
theorem dX4_touch_39 : decode cX4_touch 39 = .ok (.iload_n 3, 1) := by decide +kernel
theorem dX4_touch_40 : decode cX4_touch 40 = .ok (.iadd, 1) := by decide +kernel
theorem dX4_touch_41 : decode cX4_touch 41 = .ok (.laload, 1) := by decide +kernel
theorem dX4_touch_42 : decode cX4_touch 42 = .ok (.land, 1) := by decide +kernel
theorem dX4_touch_43 : decode cX4_touch 43 = .ok (.invokestatic 56, 3) := by decide +kernel
theorem dX4_touch_46 : decode cX4_touch 46 = .ok (.lstore 4, 2) := by decide +kernel
theorem dX4_touch_48 : decode cX4_touch 48 = .ok (.lload 4, 2) := by decide +kernel
theorem dX4_touch_50 : decode cX4_touch 50 = .ok (.invokestatic 62, 3) := by decide +kernel
theorem dX4_touch_53 : decode cX4_touch 53 = .ok (.istore 6, 2) := by decide +kernel
theorem dX4_touch_55 : decode cX4_touch 55 = .ok (.iconst 0, 1) := by decide +kernel
theorem dX4_touch_56 : decode cX4_touch 56 = .ok (.istore 7, 2) := by decide +kernel
theorem dX4_touch_58 : decode cX4_touch 58 = .ok (.iload 7, 2) := by decide +kernel
theorem dX4_touch_60 : decode cX4_touch 60 = .ok (.iload 6, 2) := by decide +kernel
theorem dX4_touch_62 : decode cX4_touch 62 = .ok (.if_icmp .ge 39, 3) := by decide +kernel
theorem dX4_touch_65 : decode cX4_touch 65 = .ok (.aload_n 0, 1) := by decide +kernel
theorem dX4_touch_66 : decode cX4_touch 66 = .ok (.getfield 31, 3) := by decide +kernel
theorem dX4_touch_69 : decode cX4_touch 69 = .ok (.aload_n 0, 1) := by decide +kernel
theorem dX4_touch_70 : decode cX4_touch 70 = .ok (.getfield 25, 3) := by decide +kernel
theorem dX4_touch_73 : decode cX4_touch 73 = .ok (.aload_n 0, 1) := by decide +kernel
theorem dX4_touch_74 : decode cX4_touch 74 = .ok (.iload_n 3, 1) := by decide +kernel
theorem dX4_touch_75 : decode cX4_touch 75 = .ok (.lload 4, 2) := by decide +kernel
theorem dX4_touch_77 : decode cX4_touch 77 = .ok (.invokestatic 76, 3) := by decide +kernel
theorem dX4_touch_80 : decode cX4_touch 80 = .ok (.invokevirtual 79, 3) := by decide +kernel
theorem dX4_touch_83 : decode cX4_touch 83 = .ok (.iaload, 1) := by decide +kernel
theorem dX4_touch_84 : decode cX4_touch 84 = .ok (.iconst 1, 1) := by decide +kernel
theorem dX4_touch_85 : decode cX4_touch 85 = .ok (.iastore, 1) := by decide +kernel
theorem dX4_touch_86 : decode cX4_touch 86 = .ok (.lload 4, 2) := by decide +kernel
theorem dX4_touch_88 : decode cX4_touch 88 = .ok (.lload 4, 2) := by decide +kernel
theorem dX4_touch_90 : decode cX4_touch 90 = .ok (.lconst 1, 1) := by decide +kernel
theorem dX4_touch_91 : decode cX4_touch 91 = .ok (.lsub, 1) := by decide +kernel
theorem dX4_touch_92 : decode cX4_touch 92 = .ok (.land, 1) := by decide +kernel
theorem dX4_touch_93 : decode cX4_touch 93 = .ok (.lstore 4, 2) := by decide +kernel
theorem dX4_touch_95 : decode cX4_touch 95 = .ok (.iinc 7 1, 3) := by decide +kernel
theorem dX4_touch_98 : decode cX4_touch 98 = .ok (.goto (-40), 3) := by decide +kernel
theorem dX4_touch_101 : decode cX4_touch 101 = .ok (.iinc 3 1, 3) := by decide +kernel
theorem dX4_touch_104 : decode cX4_touch 104 = .ok (.goto (-79), 3) := by decide +kernel
theorem dX4_touch_107 : decode cX4_touch 107 = .ok (.return_, 1) := by decide +kernel
theorem dX4_touchedIn_0 : decode cX4_touchedIn 0 = .ok (.lconst 0, 1) := by decide +kernel
theorem dX4_touchedIn_1 : decode cX4_touchedIn 1 = .ok (.lstore_n 2, 1) := by decide +kernel
theorem dX4_touchedIn_2 : decode cX4_touchedIn 2 = .ok (.aload_n 0, 1) := by decide +kernel
theorem dX4_touchedIn_3 : decode cX4_touchedIn 3 = .ok (.getfield 34, 3) := by decide +kernel
theorem dX4_touchedIn_6 : decode cX4_touchedIn 6 = .ok (.iload_n 1, 1) := by decide +kernel
theorem dX4_touchedIn_7 : decode cX4_touchedIn 7 = .ok (.laload, 1) := by decide +kernel
theorem dX4_touchedIn_8 : decode cX4_touchedIn 8 = .ok (.invokestatic 56, 3) := by decide +kernel
theorem dX4_touchedIn_11 : decode cX4_touchedIn 11 = .ok (.lstore 4, 2) := by decide +kernel
theorem dX4_touchedIn_13 : decode cX4_touchedIn 13 = .ok (.lload 4, 2) := by decide +kernel
theorem dX4_touchedIn_15 : decode cX4_touchedIn 15 = .ok (.invokestatic 62, 3) := by decide +kernel
theorem dX4_touchedIn_18 : decode cX4_touchedIn 18 = .ok (.istore 6, 2) := by decide +kernel
theorem dX4_touchedIn_20 : decode cX4_touchedIn 20 = .ok (.iconst 0, 1) := by decide +kernel
theorem dX4_touchedIn_21 : decode cX4_touchedIn 21 = .ok (.istore 7, 2) := by decide +kernel
theorem dX4_touchedIn_23 : decode cX4_touchedIn 23 = .ok (.iload 7, 2) := by decide +kernel
theorem dX4_touchedIn_25 : decode cX4_touchedIn 25 = .ok (.iload 6, 2) := by decide +kernel
theorem dX4_touchedIn_27 : decode cX4_touchedIn 27 = .ok (.if_icmp .ge 66, 3) := by decide +kernel
theorem dX4_touchedIn_30 : decode cX4_touchedIn 30 = .ok (.lload 4, 2) := by decide +kernel
theorem dX4_touchedIn_32 : decode cX4_touchedIn 32 = .ok (.invokestatic 76, 3) := by decide +kernel
theorem dX4_touchedIn_35 : decode cX4_touchedIn 35 = .ok (.istore 8, 2) := by decide +kernel
theorem dX4_touchedIn_37 : decode cX4_touchedIn 37 = .ok (.aload_n 0, 1) := by decide +kernel
theorem dX4_touchedIn_38 : decode cX4_touchedIn 38 = .ok (.getfield 31, 3) := by decide +kernel
theorem dX4_touchedIn_41 : decode cX4_touchedIn 41 = .ok (.aload_n 0, 1) := by decide +kernel
theorem dX4_touchedIn_42 : decode cX4_touchedIn 42 = .ok (.getfield 25, 3) := by decide +kernel
theorem dX4_touchedIn_45 : decode cX4_touchedIn 45 = .ok (.aload_n 0, 1) := by decide +kernel
theorem dX4_touchedIn_46 : decode cX4_touchedIn 46 = .ok (.getfield 38, 3) := by decide +kernel
theorem dX4_touchedIn_49 : decode cX4_touchedIn 49 = .ok (.iload_n 1, 1) := by decide +kernel
theorem dX4_touchedIn_50 : decode cX4_touchedIn 50 = .ok (.iaload, 1) := by decide +kernel
theorem dX4_touchedIn_51 : decode cX4_touchedIn 51 = .ok (.iload 7, 2) := by decide +kernel
theorem dX4_touchedIn_53 : decode cX4_touchedIn 53 = .ok (.iadd, 1) := by decide +kernel
theorem dX4_touchedIn_54 : decode cX4_touchedIn 54 = .ok (.iaload, 1) := by decide +kernel
theorem dX4_touchedIn_55 : decode cX4_touchedIn 55 = .ok (.iaload, 1) := by decide +kernel
theorem dX4_touchedIn_56 : decode cX4_touchedIn 56 = .ok (.ifCond .eq 22, 3) := by decide +kernel
theorem dX4_touchedIn_59 : decode cX4_touchedIn 59 = .ok (.lload_n 2, 1) := by decide +kernel
theorem dX4_touchedIn_60 : decode cX4_touchedIn 60 = .ok (.iload 8, 2) := by decide +kernel
theorem dX4_touchedIn_62 : decode cX4_touchedIn 62 = .ok (.aload_n 0, 1) := by decide +kernel
theorem dX4_touchedIn_63 : decode cX4_touchedIn 63 = .ok (.getfield 34, 3) := by decide +kernel
theorem dX4_touchedIn_66 : decode cX4_touchedIn 66 = .ok (.iload_n 1, 1) := by decide +kernel
theorem dX4_touchedIn_67 : decode cX4_touchedIn 67 = .ok (.laload, 1) := by decide +kernel
theorem dX4_touchedIn_68 : decode cX4_touchedIn 68 = .ok (.iload 8, 2) := by decide +kernel
theorem dX4_touchedIn_70 : decode cX4_touchedIn 70 = .ok (.invokestatic 103, 3) := by decide +kernel
theorem dX4_touchedIn_73 : decode cX4_touchedIn 73 = .ok (.invokestatic 111, 3) := by decide +kernel
theorem dX4_touchedIn_76 : decode cX4_touchedIn 76 = .ok (.lor, 1) := by decide +kernel
theorem dX4_touchedIn_77 : decode cX4_touchedIn 77 = .ok (.lstore_n 2, 1) := by decide +kernel
theorem dX4_touchedIn_78 : decode cX4_touchedIn 78 = .ok (.lload 4, 2) := by decide +kernel
theorem dX4_touchedIn_80 : decode cX4_touchedIn 80 = .ok (.lload 4, 2) := by decide +kernel
theorem dX4_touchedIn_82 : decode cX4_touchedIn 82 = .ok (.lconst 1, 1) := by decide +kernel
theorem dX4_touchedIn_83 : decode cX4_touchedIn 83 = .ok (.lsub, 1) := by decide +kernel
theorem dX4_touchedIn_84 : decode cX4_touchedIn 84 = .ok (.land, 1) := by decide +kernel
theorem dX4_touchedIn_85 : decode cX4_touchedIn 85 = .ok (.lstore 4, 2) := by decide +kernel
theorem dX4_touchedIn_87 : decode cX4_touchedIn 87 = .ok (.iinc 7 1, 3) := by decide +kernel
theorem dX4_touchedIn_90 : decode cX4_touchedIn 90 = .ok (.goto (-67), 3) := by decide +kernel
theorem dX4_touchedIn_93 : decode cX4_touchedIn 93 = .ok (.lload_n 2, 1) := by decide +kernel
theorem dX4_touchedIn_94 : decode cX4_touchedIn 94 = .ok (.lreturn, 1) := by decide +kernel
theorem dX5_init_0 : decode cX5_init 0 = .ok (.aload_n 0, 1) := by decide +kernel
theorem dX5_init_1 : decode cX5_init 1 = .ok (.iconst 3, 1) := by decide +kernel
theorem dX5_init_2 : decode cX5_init 2 = .ok (.iload_n 1, 1) := by decide +kernel
theorem dX5_init_3 : decode cX5_init 3 = .ok (.iload_n 2, 1) := by decide +kernel
theorem dX5_init_4 : decode cX5_init 4 = .ok (.invokespecial 3, 3) := by decide +kernel
theorem dX5_init_7 : decode cX5_init 7 = .ok (.aload_n 0, 1) := by decide +kernel
theorem dX5_init_8 : decode cX5_init 8 = .ok (.iload_n 1, 1) := by decide +kernel
theorem dX5_init_9 : decode cX5_init 9 = .ok (.iload_n 2, 1) := by decide +kernel
theorem dX5_init_10 : decode cX5_init 10 = .ok (.iload_n 3, 1) := by decide +kernel
theorem dX5_init_11 : decode cX5_init 11 = .ok (.invokestatic 9, 3) := by decide +kernel
theorem dX5_init_14 : decode cX5_init 14 = .ok (.putfield 15, 3) := by decide +kernel
theorem dX5_init_17 : decode cX5_init 17 = .ok (.return_, 1) := by decide +kernel
theorem dX5_pack_0 : decode cX5_pack 0 = .ok (.iload_n 0, 1) := by decide +kernel
theorem dX5_pack_1 : decode cX5_pack 1 = .ok (.bipush 12, 2) := by decide +kernel
theorem dX5_pack_3 : decode cX5_pack 3 = .ok (.ishl, 1) := by decide +kernel
theorem dX5_pack_4 : decode cX5_pack 4 = .ok (.iload_n 1, 1) := by decide +kernel
theorem dX5_pack_5 : decode cX5_pack 5 = .ok (.ior, 1) := by decide +kernel
theorem dX5_pack_6 : decode cX5_pack 6 = .ok (.bipush 10, 2) := by decide +kernel
theorem dX5_pack_8 : decode cX5_pack 8 = .ok (.ishl, 1) := by decide +kernel
theorem dX5_pack_9 : decode cX5_pack 9 = .ok (.iload_n 2, 1) := by decide +kernel
theorem dX5_pack_10 : decode cX5_pack 10 = .ok (.ior, 1) := by decide +kernel
theorem dX5_pack_11 : decode cX5_pack 11 = .ok (.ireturn, 1) := by decide +kernel
theorem dX5_layerOf_0 : decode cX5_layerOf 0 = .ok (.iload_n 0, 1) := by decide +kernel
theorem dX5_layerOf_1 : decode cX5_layerOf 1 = .ok (.bipush 22, 2) := by decide +kernel
theorem dX5_layerOf_3 : decode cX5_layerOf 3 = .ok (.iushr, 1) := by decide +kernel
theorem dX5_layerOf_4 : decode cX5_layerOf 4 = .ok (.ireturn, 1) := by decide +kernel
theorem dX5_squareOf_0 : decode cX5_squareOf 0 = .ok (.iload_n 0, 1) := by decide +kernel
theorem dX5_squareOf_1 : decode cX5_squareOf 1 = .ok (.bipush 10, 2) := by decide +kernel
theorem dX5_squareOf_3 : decode cX5_squareOf 3 = .ok (.iushr, 1) := by decide +kernel
theorem dX5_squareOf_4 : decode cX5_squareOf 4 = .ok (.sipush 4095, 3) := by decide +kernel
theorem dX5_squareOf_7 : decode cX5_squareOf 7 = .ok (.iand, 1) := by decide +kernel
theorem dX5_squareOf_8 : decode cX5_squareOf 8 = .ok (.ireturn, 1) := by decide +kernel
theorem dX5_nameOf_0 : decode cX5_nameOf 0 = .ok (.iload_n 0, 1) := by decide +kernel
theorem dX5_nameOf_1 : decode cX5_nameOf 1 = .ok (.sipush 1023, 3) := by decide +kernel
theorem dX5_nameOf_4 : decode cX5_nameOf 4 = .ok (.iand, 1) := by decide +kernel
theorem dX5_nameOf_5 : decode cX5_nameOf 5 = .ok (.ireturn, 1) := by decide +kernel
theorem dX6_init_0 : decode cX6_init 0 = .ok (.aload_n 0, 1) := by decide +kernel
theorem dX6_init_1 : decode cX6_init 1 = .ok (.iload_n 1, 1) := by decide +kernel
theorem dX6_init_2 : decode cX6_init 2 = .ok (.iload_n 2, 1) := by decide +kernel
theorem dX6_init_3 : decode cX6_init 3 = .ok (.iload_n 3, 1) := by decide +kernel
theorem dX6_init_4 : decode cX6_init 4 = .ok (.invokespecial 3, 3) := by decide +kernel
theorem dX6_init_7 : decode cX6_init 7 = .ok (.return_, 1) := by decide +kernel
theorem dX6_reach_0 : decode cX6_reach 0 = .ok (.iload_n 1, 1) := by decide +kernel
theorem dX6_reach_1 : decode cX6_reach 1 = .ok (.iconst 0, 1) := by decide +kernel
theorem dX6_reach_2 : decode cX6_reach 2 = .ok (.invokestatic 9, 3) := by decide +kernel
theorem dX6_reach_5 : decode cX6_reach 5 = .ok (.istore 5, 2) := by decide +kernel
theorem dX6_reach_7 : decode cX6_reach 7 = .ok (.iload_n 3, 1) := by decide +kernel
theorem dX6_reach_8 : decode cX6_reach 8 = .ok (.bipush 63, 2) := by decide +kernel
theorem dX6_reach_10 : decode cX6_reach 10 = .ok (.invokestatic 15, 3) := by decide +kernel
theorem dX6_reach_13 : decode cX6_reach 13 = .ok (.istore 6, 2) := by decide +kernel
theorem dX6_reach_15 : decode cX6_reach 15 = .ok (.aload_n 0, 1) := by decide +kernel
theorem dX6_reach_16 : decode cX6_reach 16 = .ok (.iload_n 2, 1) := by decide +kernel
theorem dX6_reach_17 : decode cX6_reach 17 = .ok (.iconst 0, 1) := by decide +kernel
theorem dX6_reach_18 : decode cX6_reach 18 = .ok (.invokestatic 9, 3) := by decide +kernel
theorem dX6_reach_21 : decode cX6_reach 21 = .ok (.putfield 18, 3) := by decide +kernel
theorem dX6_reach_24 : decode cX6_reach 24 = .ok (.aload_n 0, 1) := by decide +kernel
theorem dX6_reach_25 : decode cX6_reach 25 = .ok (.iload 4, 2) := by decide +kernel
theorem dX6_reach_27 : decode cX6_reach 27 = .ok (.bipush 63, 2) := by decide +kernel
theorem dX6_reach_29 : decode cX6_reach 29 = .ok (.invokestatic 15, 3) := by decide +kernel
theorem dX6_reach_32 : decode cX6_reach 32 = .ok (.putfield 24, 3) := by decide +kernel
theorem dX6_reach_35 : decode cX6_reach 35 = .ok (.aload_n 0, 1) := by decide +kernel
theorem dX6_reach_36 : decode cX6_reach 36 = .ok (.iload 5, 2) := by decide +kernel
theorem dX6_reach_38 : decode cX6_reach 38 = .ok (.iload 6, 2) := by decide +kernel
theorem dX6_reach_40 : decode cX6_reach 40 = .ok (.iload 5, 2) := by decide +kernel
theorem dX6_reach_42 : decode cX6_reach 42 = .ok (.isub, 1) := by decide +kernel
theorem dX6_reach_43 : decode cX6_reach 43 = .ok (.iconst 1, 1) := by decide +kernel
theorem dX6_reach_44 : decode cX6_reach 44 = .ok (.iadd, 1) := by decide +kernel
theorem dX6_reach_45 : decode cX6_reach 45 = .ok (.invokestatic 27, 3) := by decide +kernel
theorem dX6_reach_48 : decode cX6_reach 48 = .ok (.putfield 33, 3) := by decide +kernel
theorem dX6_reach_51 : decode cX6_reach 51 = .ok (.return_, 1) := by decide +kernel
theorem dX6_mark_0 : decode cX6_mark 0 = .ok (.aload_n 0, 1) := by decide +kernel
theorem dX6_mark_1 : decode cX6_mark 1 = .ok (.getfield 18, 3) := by decide +kernel
theorem dX6_mark_4 : decode cX6_mark 4 = .ok (.istore_n 2, 1) := by decide +kernel
theorem dX6_mark_5 : decode cX6_mark 5 = .ok (.iload_n 2, 1) := by decide +kernel
theorem dX6_mark_6 : decode cX6_mark 6 = .ok (.aload_n 0, 1) := by decide +kernel
theorem dX6_mark_7 : decode cX6_mark 7 = .ok (.getfield 24, 3) := by decide +kernel
theorem dX6_mark_10 : decode cX6_mark 10 = .ok (.if_icmp .gt 53, 3) := by decide +kernel
theorem dX6_mark_13 : decode cX6_mark 13 = .ok (.bipush 64, 2) := by decide +kernel
theorem dX6_mark_15 : decode cX6_mark 15 = .ok (.aload_n 0, 1) := by decide +kernel
theorem dX6_mark_16 : decode cX6_mark 16 = .ok (.getfield 37, 3) := by decide +kernel
theorem dX6_mark_19 : decode cX6_mark 19 = .ok (.imul, 1) := by decide +kernel
theorem dX6_mark_20 : decode cX6_mark 20 = .ok (.iload_n 2, 1) := by decide +kernel
theorem dX6_mark_21 : decode cX6_mark 21 = .ok (.iadd, 1) := by decide +kernel
theorem dX6_mark_22 : decode cX6_mark 22 = .ok (.istore_n 3, 1) := by decide +kernel
theorem dX6_mark_23 : decode cX6_mark 23 = .ok (.aload_n 1, 1) := by decide +kernel
theorem dX6_mark_24 : decode cX6_mark 24 = .ok (.iload_n 3, 1) := by decide +kernel
theorem dX6_mark_25 : decode cX6_mark 25 = .ok (.aload_n 0, 1) := by decide +kernel
theorem dX6_mark_26 : decode cX6_mark 26 = .ok (.getfield 40, 3) := by decide +kernel
theorem dX6_mark_29 : decode cX6_mark 29 = .ok (.iconst 1, 1) := by decide +kernel
theorem dX6_mark_30 : decode cX6_mark 30 = .ok (.if_icmp .ne 18, 3) := by decide +kernel
theorem dX6_mark_33 : decode cX6_mark 33 = .ok (.aload_n 1, 1) := by decide +kernel
theorem dX6_mark_34 : decode cX6_mark 34 = .ok (.iload_n 3, 1) := by decide +kernel
theorem dX6_mark_35 : decode cX6_mark 35 = .ok (.laload, 1) := by decide +kernel
theorem dX6_mark_36 : decode cX6_mark 36 = .ok (.aload_n 0, 1) := by decide +kernel
theorem dX6_mark_37 : decode cX6_mark 37 = .ok (.getfield 33, 3) := by decide +kernel
theorem dX6_mark_40 : decode cX6_mark 40 = .ok (.ldc2_w 43, 3) := by decide +kernel
theorem dX6_mark_43 : decode cX6_mark 43 = .ok (.lxor, 1) := by decide +kernel
theorem dX6_mark_44 : decode cX6_mark 44 = .ok (.land, 1) := by decide +kernel
theorem dX6_mark_45 : decode cX6_mark 45 = .ok (.goto 11, 3) := by decide +kernel
theorem dX6_mark_48 : decode cX6_mark 48 = .ok (.aload_n 1, 1) := by decide +kernel
theorem dX6_mark_49 : decode cX6_mark 49 = .ok (.iload_n 3, 1) := by decide +kernel
theorem dX6_mark_50 : decode cX6_mark 50 = .ok (.laload, 1) := by decide +kernel
theorem dX6_mark_51 : decode cX6_mark 51 = .ok (.aload_n 0, 1) := by decide +kernel
theorem dX6_mark_52 : decode cX6_mark 52 = .ok (.getfield 33, 3) := by decide +kernel
theorem dX6_mark_55 : decode cX6_mark 55 = .ok (.lor, 1) := by decide +kernel
theorem dX6_mark_56 : decode cX6_mark 56 = .ok (.lastore, 1) := by decide +kernel
theorem dX6_mark_57 : decode cX6_mark 57 = .ok (.iinc 2 1, 3) := by decide +kernel
theorem dX6_mark_60 : decode cX6_mark 60 = .ok (.goto (-55), 3) := by decide +kernel
theorem dX6_mark_63 : decode cX6_mark 63 = .ok (.return_, 1) := by decide +kernel
theorem dX7_init_0 : decode cX7_init 0 = .ok (.aload_n 0, 1) := by decide +kernel
theorem dX7_init_1 : decode cX7_init 1 = .ok (.iconst 4, 1) := by decide +kernel
theorem dX7_init_2 : decode cX7_init 2 = .ok (.iload_n 1, 1) := by decide +kernel
theorem dX7_init_3 : decode cX7_init 3 = .ok (.iload_n 2, 1) := by decide +kernel
theorem dX7_init_4 : decode cX7_init 4 = .ok (.invokespecial 3, 3) := by decide +kernel
theorem dX7_init_7 : decode cX7_init 7 = .ok (.aload_n 0, 1) := by decide +kernel
theorem dX7_init_8 : decode cX7_init 8 = .ok (.iconst 0, 1) := by decide +kernel
theorem dX7_init_9 : decode cX7_init 9 = .ok (.putfield 9, 3) := by decide +kernel
theorem dX7_init_12 : decode cX7_init 12 = .ok (.aload_n 0, 1) := by decide +kernel
theorem dX7_init_13 : decode cX7_init 13 = .ok (.iconst 0, 1) := by decide +kernel
theorem dX7_init_14 : decode cX7_init 14 = .ok (.putfield 15, 3) := by decide +kernel
theorem dX7_init_17 : decode cX7_init 17 = .ok (.aload_n 0, 1) := by decide +kernel
theorem dX7_init_18 : decode cX7_init 18 = .ok (.iconst 1, 1) := by decide +kernel
theorem dX7_init_19 : decode cX7_init 19 = .ok (.putfield 18, 3) := by decide +kernel
theorem dX7_init_22 : decode cX7_init 22 = .ok (.aload_n 0, 1) := by decide +kernel
theorem dX7_init_23 : decode cX7_init 23 = .ok (.iconst 1, 1) := by decide +kernel
theorem dX7_init_24 : decode cX7_init 24 = .ok (.putfield 21, 3) := by decide +kernel
theorem dX7_init_27 : decode cX7_init 27 = .ok (.aload_n 0, 1) := by decide +kernel
theorem dX7_init_28 : decode cX7_init 28 = .ok (.iload_n 3, 1) := by decide +kernel
theorem dX7_init_29 : decode cX7_init 29 = .ok (.putfield 24, 3) := by decide +kernel
theorem dX7_init_32 : decode cX7_init 32 = .ok (.aload_n 0, 1) := by decide +kernel
theorem dX7_init_33 : decode cX7_init 33 = .ok (.iload 4, 2) := by decide +kernel
theorem dX7_init_35 : decode cX7_init 35 = .ok (.putfield 27, 3) := by decide +kernel
theorem dX7_init_38 : decode cX7_init 38 = .ok (.return_, 1) := by decide +kernel
theorem dX7_canBeTold_0 : decode cX7_canBeTold 0 = .ok (.iload_n 0, 1) := by decide +kernel
theorem dX7_canBeTold_1 : decode cX7_canBeTold 1 = .ok (.sipush 200, 3) := by decide +kernel
theorem dX7_canBeTold_4 : decode cX7_canBeTold 4 = .ok (.idiv, 1) := by decide +kernel
theorem dX7_canBeTold_5 : decode cX7_canBeTold 5 = .ok (.istore_n 1, 1) := by decide +kernel
theorem dX7_canBeTold_6 : decode cX7_canBeTold 6 = .ok (.iload_n 0, 1) := by decide +kernel
theorem dX7_canBeTold_7 : decode cX7_canBeTold 7 = .ok (.sipush 200, 3) := by decide +kernel
theorem dX7_canBeTold_10 : decode cX7_canBeTold 10 = .ok (.irem, 1) := by decide +kernel
theorem dX7_canBeTold_11 : decode cX7_canBeTold 11 = .ok (.bipush 100, 2) := by decide +kernel
theorem dX7_canBeTold_13 : decode cX7_canBeTold 13 = .ok (.isub, 1) := by decide +kernel
theorem dX7_canBeTold_14 : decode cX7_canBeTold 14 = .ok (.istore_n 2, 1) := by decide +kernel
theorem dX7_canBeTold_15 : decode cX7_canBeTold 15 = .ok (.iload_n 1, 1) := by decide +kernel
theorem dX7_canBeTold_16 : decode cX7_canBeTold 16 = .ok (.iconst 1, 1) := by decide +kernel
theorem dX7_canBeTold_17 : decode cX7_canBeTold 17 = .ok (.if_icmp .lt 24, 3) := by decide +kernel
theorem dX7_canBeTold_20 : decode cX7_canBeTold 20 = .ok (.iload_n 1, 1) := by decide +kernel
theorem dX7_canBeTold_21 : decode cX7_canBeTold 21 = .ok (.iconst 4, 1) := by decide +kernel
theorem dX7_canBeTold_22 : decode cX7_canBeTold 22 = .ok (.if_icmp .gt 19, 3) := by decide +kernel
theorem dX7_canBeTold_25 : decode cX7_canBeTold 25 = .ok (.iload_n 2, 1) := by decide +kernel
theorem dX7_canBeTold_26 : decode cX7_canBeTold 26 = .ok (.bipush (-63), 2) := by decide +kernel
theorem dX7_canBeTold_28 : decode cX7_canBeTold 28 = .ok (.if_icmp .lt 13, 3) := by decide +kernel
theorem dX7_canBeTold_31 : decode cX7_canBeTold 31 = .ok (.iload_n 2, 1) := by decide +kernel
theorem dX7_canBeTold_32 : decode cX7_canBeTold 32 = .ok (.bipush 63, 2) := by decide +kernel
theorem dX7_canBeTold_34 : decode cX7_canBeTold 34 = .ok (.if_icmp .gt 7, 3) := by decide +kernel
theorem dX7_canBeTold_37 : decode cX7_canBeTold 37 = .ok (.iconst 1, 1) := by decide +kernel
theorem dX7_canBeTold_38 : decode cX7_canBeTold 38 = .ok (.goto 4, 3) := by decide +kernel
theorem dX7_canBeTold_41 : decode cX7_canBeTold 41 = .ok (.iconst 0, 1) := by decide +kernel
theorem dX7_canBeTold_42 : decode cX7_canBeTold 42 = .ok (.ireturn, 1) := by decide +kernel
theorem dX7_repeat_0 : decode cX7_repeat 0 = .ok (.aload_n 0, 1) := by decide +kernel
theorem dX7_repeat_1 : decode cX7_repeat 1 = .ok (.iload_n 1, 1) := by decide +kernel
theorem dX7_repeat_2 : decode cX7_repeat 2 = .ok (.sipush 200, 3) := by decide +kernel
theorem dX7_repeat_5 : decode cX7_repeat 5 = .ok (.idiv, 1) := by decide +kernel
theorem dX7_repeat_6 : decode cX7_repeat 6 = .ok (.putfield 18, 3) := by decide +kernel
theorem dX7_repeat_9 : decode cX7_repeat 9 = .ok (.aload_n 0, 1) := by decide +kernel
theorem dX7_repeat_10 : decode cX7_repeat 10 = .ok (.iload_n 1, 1) := by decide +kernel
theorem dX7_repeat_11 : decode cX7_repeat 11 = .ok (.sipush 200, 3) := by decide +kernel
theorem dX7_repeat_14 : decode cX7_repeat 14 = .ok (.irem, 1) := by decide +kernel
theorem dX7_repeat_15 : decode cX7_repeat 15 = .ok (.bipush 100, 2) := by decide +kernel
theorem dX7_repeat_17 : decode cX7_repeat 17 = .ok (.isub, 1) := by decide +kernel
theorem dX7_repeat_18 : decode cX7_repeat 18 = .ok (.putfield 9, 3) := by decide +kernel
theorem dX7_repeat_21 : decode cX7_repeat 21 = .ok (.aload_n 0, 1) := by decide +kernel
theorem dX7_repeat_22 : decode cX7_repeat 22 = .ok (.iload_n 2, 1) := by decide +kernel
theorem dX7_repeat_23 : decode cX7_repeat 23 = .ok (.sipush 200, 3) := by decide +kernel
theorem dX7_repeat_26 : decode cX7_repeat 26 = .ok (.idiv, 1) := by decide +kernel
theorem dX7_repeat_27 : decode cX7_repeat 27 = .ok (.putfield 21, 3) := by decide +kernel
theorem dX7_repeat_30 : decode cX7_repeat 30 = .ok (.aload_n 0, 1) := by decide +kernel
theorem dX7_repeat_31 : decode cX7_repeat 31 = .ok (.iload_n 2, 1) := by decide +kernel
theorem dX7_repeat_32 : decode cX7_repeat 32 = .ok (.sipush 200, 3) := by decide +kernel
theorem dX7_repeat_35 : decode cX7_repeat 35 = .ok (.irem, 1) := by decide +kernel
theorem dX7_repeat_36 : decode cX7_repeat 36 = .ok (.bipush 100, 2) := by decide +kernel
theorem dX7_repeat_38 : decode cX7_repeat 38 = .ok (.isub, 1) := by decide +kernel
theorem dX7_repeat_39 : decode cX7_repeat 39 = .ok (.putfield 15, 3) := by decide +kernel
theorem dX7_repeat_42 : decode cX7_repeat 42 = .ok (.return_, 1) := by decide +kernel
theorem dX7_xOf_0 : decode cX7_xOf 0 = .ok (.aload_n 0, 1) := by decide +kernel
theorem dX7_xOf_1 : decode cX7_xOf 1 = .ok (.getfield 31, 3) := by decide +kernel
theorem dX7_xOf_4 : decode cX7_xOf 4 = .ok (.bipush 64, 2) := by decide +kernel
theorem dX7_xOf_6 : decode cX7_xOf 6 = .ok (.irem, 1) := by decide +kernel
theorem dX7_xOf_7 : decode cX7_xOf 7 = .ok (.iload_n 1, 1) := by decide +kernel
theorem dX7_xOf_8 : decode cX7_xOf 8 = .ok (.aload_n 0, 1) := by decide +kernel
theorem dX7_xOf_9 : decode cX7_xOf 9 = .ok (.getfield 9, 3) := by decide +kernel
theorem dX7_xOf_12 : decode cX7_xOf 12 = .ok (.imul, 1) := by decide +kernel
theorem dX7_xOf_13 : decode cX7_xOf 13 = .ok (.iadd, 1) := by decide +kernel
theorem dX7_xOf_14 : decode cX7_xOf 14 = .ok (.ireturn, 1) := by decide +kernel
theorem dX7_yOf_0 : decode cX7_yOf 0 = .ok (.aload_n 0, 1) := by decide +kernel
theorem dX7_yOf_1 : decode cX7_yOf 1 = .ok (.getfield 31, 3) := by decide +kernel
theorem dX7_yOf_4 : decode cX7_yOf 4 = .ok (.bipush 64, 2) := by decide +kernel
theorem dX7_yOf_6 : decode cX7_yOf 6 = .ok (.idiv, 1) := by decide +kernel
theorem dX7_yOf_7 : decode cX7_yOf 7 = .ok (.iload_n 1, 1) := by decide +kernel
theorem dX7_yOf_8 : decode cX7_yOf 8 = .ok (.aload_n 0, 1) := by decide +kernel
theorem dX7_yOf_9 : decode cX7_yOf 9 = .ok (.getfield 15, 3) := by decide +kernel
theorem dX7_yOf_12 : decode cX7_yOf 12 = .ok (.imul, 1) := by decide +kernel
theorem dX7_yOf_13 : decode cX7_yOf 13 = .ok (.iadd, 1) := by decide +kernel
theorem dX7_yOf_14 : decode cX7_yOf 14 = .ok (.ireturn, 1) := by decide +kernel
theorem dX7_turn_0 : decode cX7_turn 0 = .ok (.aload_n 0, 1) := by decide +kernel
theorem dX7_turn_1 : decode cX7_turn 1 = .ok (.getfield 27, 3) := by decide +kernel
theorem dX7_turn_4 : decode cX7_turn 4 = .ok (.ifCond .eq 7, 3) := by decide +kernel
theorem dX7_turn_7 : decode cX7_turn 7 = .ok (.aload_n 1, 1) := by decide +kernel
theorem dX7_turn_8 : decode cX7_turn 8 = .ok (.invokestatic 34, 3) := by decide +kernel
theorem dX7_turn_11 : decode cX7_turn 11 = .ok (.iconst 0, 1) := by decide +kernel
theorem dX7_turn_12 : decode cX7_turn 12 = .ok (.istore_n 2, 1) := by decide +kernel
theorem dX7_turn_13 : decode cX7_turn 13 = .ok (.iload_n 2, 1) := by decide +kernel
theorem dX7_turn_14 : decode cX7_turn 14 = .ok (.aload_n 0, 1) := by decide +kernel
theorem dX7_turn_15 : decode cX7_turn 15 = .ok (.getfield 24, 3) := by decide +kernel
theorem dX7_turn_18 : decode cX7_turn 18 = .ok (.if_icmp .ge 17, 3) := by decide +kernel
theorem dX7_turn_21 : decode cX7_turn 21 = .ok (.aload_n 1, 1) := by decide +kernel
theorem dX7_turn_22 : decode cX7_turn 22 = .ok (.invokestatic 38, 3) := by decide +kernel
theorem dX7_turn_25 : decode cX7_turn 25 = .ok (.aload_n 1, 1) := by decide +kernel
theorem dX7_turn_26 : decode cX7_turn 26 = .ok (.invokestatic 34, 3) := by decide +kernel
theorem dX7_turn_29 : decode cX7_turn 29 = .ok (.iinc 2 1, 3) := by decide +kernel
theorem dX7_turn_32 : decode cX7_turn 32 = .ok (.goto (-19), 3) := by decide +kernel
theorem dX7_turn_35 : decode cX7_turn 35 = .ok (.return_, 1) := by decide +kernel
theorem dX7_reverseRows_0 : decode cX7_reverseRows 0 = .ok (.iconst 0, 1) := by decide +kernel
theorem dX7_reverseRows_1 : decode cX7_reverseRows 1 = .ok (.istore_n 1, 1) := by decide +kernel
theorem dX7_reverseRows_2 : decode cX7_reverseRows 2 = .ok (.iload_n 1, 1) := by decide +kernel
theorem dX7_reverseRows_3 : decode cX7_reverseRows 3 = .ok (.bipush 64, 2) := by decide +kernel
theorem dX7_reverseRows_5 : decode cX7_reverseRows 5 = .ok (.if_icmp .ge 18, 3) := by decide +kernel
theorem dX7_reverseRows_8 : decode cX7_reverseRows 8 = .ok (.aload_n 0, 1) := by decide +kernel
theorem dX7_reverseRows_9 : decode cX7_reverseRows 9 = .ok (.iload_n 1, 1) := by decide +kernel
theorem dX7_reverseRows_10 : decode cX7_reverseRows 10 = .ok (.aload_n 0, 1) := by decide +kernel
theorem dX7_reverseRows_11 : decode cX7_reverseRows 11 = .ok (.iload_n 1, 1) := by decide +kernel
theorem dX7_reverseRows_12 : decode cX7_reverseRows 12 = .ok (.laload, 1) := by decide +kernel
theorem dX7_reverseRows_13 : decode cX7_reverseRows 13 = .ok (.invokestatic 43, 3) := by decide +kernel
theorem dX7_reverseRows_16 : decode cX7_reverseRows 16 = .ok (.lastore, 1) := by decide +kernel
theorem dX7_reverseRows_17 : decode cX7_reverseRows 17 = .ok (.iinc 1 1, 3) := by decide +kernel
theorem dX7_reverseRows_20 : decode cX7_reverseRows 20 = .ok (.goto (-18), 3) := by decide +kernel
theorem dX7_reverseRows_23 : decode cX7_reverseRows 23 = .ok (.return_, 1) := by decide +kernel
theorem dX7_turnedX_0 : decode cX7_turnedX 0 = .ok (.aload_n 0, 1) := by decide +kernel
theorem dX7_turnedX_1 : decode cX7_turnedX 1 = .ok (.getfield 27, 3) := by decide +kernel
theorem dX7_turnedX_4 : decode cX7_turnedX 4 = .ok (.ifCond .eq 9, 3) := by decide +kernel
theorem dX7_turnedX_7 : decode cX7_turnedX 7 = .ok (.iconst (-1), 1) := by decide +kernel
theorem dX7_turnedX_8 : decode cX7_turnedX 8 = .ok (.iload_n 1, 1) := by decide +kernel
theorem dX7_turnedX_9 : decode cX7_turnedX 9 = .ok (.isub, 1) := by decide +kernel
theorem dX7_turnedX_10 : decode cX7_turnedX 10 = .ok (.goto 4, 3) := by decide +kernel
theorem dX7_turnedX_13 : decode cX7_turnedX 13 = .ok (.iload_n 1, 1) := by decide +kernel
theorem dX7_turnedX_14 : decode cX7_turnedX 14 = .ok (.istore_n 3, 1) := by decide +kernel
theorem dX7_turnedX_15 : decode cX7_turnedX 15 = .ok (.aload_n 0, 1) := by decide +kernel
theorem dX7_turnedX_16 : decode cX7_turnedX 16 = .ok (.getfield 24, 3) := by decide +kernel
theorem dX7_turnedX_19 : decode cX7_turnedX 19 = .ok (.ifCond .ne 7, 3) := by decide +kernel
theorem dX7_turnedX_22 : decode cX7_turnedX 22 = .ok (.iload_n 3, 1) := by decide +kernel
theorem dX7_turnedX_23 : decode cX7_turnedX 23 = .ok (.goto 32, 3) := by decide +kernel
theorem dX7_turnedX_26 : decode cX7_turnedX 26 = .ok (.aload_n 0, 1) := by decide +kernel
theorem dX7_turnedX_27 : decode cX7_turnedX 27 = .ok (.getfield 24, 3) := by decide +kernel
theorem dX7_turnedX_30 : decode cX7_turnedX 30 = .ok (.iconst 1, 1) := by decide +kernel
theorem dX7_turnedX_31 : decode cX7_turnedX 31 = .ok (.if_icmp .ne 9, 3) := by decide +kernel
theorem dX7_turnedX_34 : decode cX7_turnedX 34 = .ok (.iconst (-1), 1) := by decide +kernel
theorem dX7_turnedX_35 : decode cX7_turnedX 35 = .ok (.iload_n 2, 1) := by decide +kernel
theorem dX7_turnedX_36 : decode cX7_turnedX 36 = .ok (.isub, 1) := by decide +kernel
theorem dX7_turnedX_37 : decode cX7_turnedX 37 = .ok (.goto 18, 3) := by decide +kernel
theorem dX7_turnedX_40 : decode cX7_turnedX 40 = .ok (.aload_n 0, 1) := by decide +kernel
theorem dX7_turnedX_41 : decode cX7_turnedX 41 = .ok (.getfield 24, 3) := by decide +kernel
theorem dX7_turnedX_44 : decode cX7_turnedX 44 = .ok (.iconst 2, 1) := by decide +kernel
theorem dX7_turnedX_45 : decode cX7_turnedX 45 = .ok (.if_icmp .ne 9, 3) := by decide +kernel
theorem dX7_turnedX_48 : decode cX7_turnedX 48 = .ok (.iconst (-1), 1) := by decide +kernel
theorem dX7_turnedX_49 : decode cX7_turnedX 49 = .ok (.iload_n 3, 1) := by decide +kernel
theorem dX7_turnedX_50 : decode cX7_turnedX 50 = .ok (.isub, 1) := by decide +kernel
theorem dX7_turnedX_51 : decode cX7_turnedX 51 = .ok (.goto 4, 3) := by decide +kernel
theorem dX7_turnedX_54 : decode cX7_turnedX 54 = .ok (.iload_n 2, 1) := by decide +kernel
theorem dX7_turnedX_55 : decode cX7_turnedX 55 = .ok (.ireturn, 1) := by decide +kernel
theorem dX7_turnedY_0 : decode cX7_turnedY 0 = .ok (.aload_n 0, 1) := by decide +kernel
theorem dX7_turnedY_1 : decode cX7_turnedY 1 = .ok (.getfield 27, 3) := by decide +kernel
theorem dX7_turnedY_4 : decode cX7_turnedY 4 = .ok (.ifCond .eq 9, 3) := by decide +kernel
theorem dX7_turnedY_7 : decode cX7_turnedY 7 = .ok (.iconst (-1), 1) := by decide +kernel
theorem dX7_turnedY_8 : decode cX7_turnedY 8 = .ok (.iload_n 1, 1) := by decide +kernel
theorem dX7_turnedY_9 : decode cX7_turnedY 9 = .ok (.isub, 1) := by decide +kernel
theorem dX7_turnedY_10 : decode cX7_turnedY 10 = .ok (.goto 4, 3) := by decide +kernel
theorem dX7_turnedY_13 : decode cX7_turnedY 13 = .ok (.iload_n 1, 1) := by decide +kernel
theorem dX7_turnedY_14 : decode cX7_turnedY 14 = .ok (.istore_n 3, 1) := by decide +kernel
theorem dX7_turnedY_15 : decode cX7_turnedY 15 = .ok (.aload_n 0, 1) := by decide +kernel
theorem dX7_turnedY_16 : decode cX7_turnedY 16 = .ok (.getfield 24, 3) := by decide +kernel
theorem dX7_turnedY_19 : decode cX7_turnedY 19 = .ok (.ifCond .ne 7, 3) := by decide +kernel
theorem dX7_turnedY_22 : decode cX7_turnedY 22 = .ok (.iload_n 2, 1) := by decide +kernel
theorem dX7_turnedY_23 : decode cX7_turnedY 23 = .ok (.goto 32, 3) := by decide +kernel
theorem dX7_turnedY_26 : decode cX7_turnedY 26 = .ok (.aload_n 0, 1) := by decide +kernel
theorem dX7_turnedY_27 : decode cX7_turnedY 27 = .ok (.getfield 24, 3) := by decide +kernel
theorem dX7_turnedY_30 : decode cX7_turnedY 30 = .ok (.iconst 1, 1) := by decide +kernel
theorem dX7_turnedY_31 : decode cX7_turnedY 31 = .ok (.if_icmp .ne 7, 3) := by decide +kernel
theorem dX7_turnedY_34 : decode cX7_turnedY 34 = .ok (.iload_n 3, 1) := by decide +kernel
theorem dX7_turnedY_35 : decode cX7_turnedY 35 = .ok (.goto 20, 3) := by decide +kernel
theorem dX7_turnedY_38 : decode cX7_turnedY 38 = .ok (.aload_n 0, 1) := by decide +kernel
theorem dX7_turnedY_39 : decode cX7_turnedY 39 = .ok (.getfield 24, 3) := by decide +kernel
theorem dX7_turnedY_42 : decode cX7_turnedY 42 = .ok (.iconst 2, 1) := by decide +kernel
theorem dX7_turnedY_43 : decode cX7_turnedY 43 = .ok (.if_icmp .ne 9, 3) := by decide +kernel
theorem dX7_turnedY_46 : decode cX7_turnedY 46 = .ok (.iconst (-1), 1) := by decide +kernel
theorem dX7_turnedY_47 : decode cX7_turnedY 47 = .ok (.iload_n 2, 1) := by decide +kernel
theorem dX7_turnedY_48 : decode cX7_turnedY 48 = .ok (.isub, 1) := by decide +kernel
theorem dX7_turnedY_49 : decode cX7_turnedY 49 = .ok (.goto 6, 3) := by decide +kernel
theorem dX7_turnedY_52 : decode cX7_turnedY 52 = .ok (.iconst (-1), 1) := by decide +kernel
theorem dX7_turnedY_53 : decode cX7_turnedY 53 = .ok (.iload_n 3, 1) := by decide +kernel
theorem dX7_turnedY_54 : decode cX7_turnedY 54 = .ok (.isub, 1) := by decide +kernel
theorem dX7_turnedY_55 : decode cX7_turnedY 55 = .ok (.ireturn, 1) := by decide +kernel
theorem dX8_init_0 : decode cX8_init 0 = .ok (.aload_n 0, 1) := by decide +kernel
theorem dX8_init_1 : decode cX8_init 1 = .ok (.invokespecial 3, 3) := by decide +kernel
theorem dX8_init_4 : decode cX8_init 4 = .ok (.aload_n 0, 1) := by decide +kernel
theorem dX8_init_5 : decode cX8_init 5 = .ok (.iconst 0, 1) := by decide +kernel
theorem dX8_init_6 : decode cX8_init 6 = .ok (.putfield 9, 3) := by decide +kernel
theorem dX8_init_9 : decode cX8_init 9 = .ok (.aload_n 0, 1) := by decide +kernel
theorem dX8_init_10 : decode cX8_init 10 = .ok (.iconst 0, 1) := by decide +kernel
theorem dX8_init_11 : decode cX8_init 11 = .ok (.putfield 15, 3) := by decide +kernel
theorem dX8_init_14 : decode cX8_init 14 = .ok (.aload_n 0, 1) := by decide +kernel
theorem dX8_init_15 : decode cX8_init 15 = .ok (.iconst 0, 1) := by decide +kernel
theorem dX8_init_16 : decode cX8_init 16 = .ok (.putfield 19, 3) := by decide +kernel
theorem dX8_init_19 : decode cX8_init 19 = .ok (.aload_n 0, 1) := by decide +kernel
theorem dX8_init_20 : decode cX8_init 20 = .ok (.iconst 0, 1) := by decide +kernel
theorem dX8_init_21 : decode cX8_init 21 = .ok (.newarray .int, 2) := by decide +kernel
theorem dX8_init_23 : decode cX8_init 23 = .ok (.putfield 22, 3) := by decide +kernel
theorem dX8_init_26 : decode cX8_init 26 = .ok (.aload_n 0, 1) := by decide +kernel
theorem dX8_init_27 : decode cX8_init 27 = .ok (.bipush 16, 2) := by decide +kernel
theorem dX8_init_29 : decode cX8_init 29 = .ok (.newarray .int, 2) := by decide +kernel
theorem dX8_init_31 : decode cX8_init 31 = .ok (.putfield 26, 3) := by decide +kernel
theorem dX8_init_34 : decode cX8_init 34 = .ok (.aload_n 0, 1) := by decide +kernel
theorem dX8_init_35 : decode cX8_init 35 = .ok (.bipush 16, 2) := by decide +kernel
theorem dX8_init_37 : decode cX8_init 37 = .ok (.newarray .int, 2) := by decide +kernel
theorem dX8_init_39 : decode cX8_init 39 = .ok (.putfield 29, 3) := by decide +kernel
theorem dX8_init_42 : decode cX8_init 42 = .ok (.aload_n 0, 1) := by decide +kernel
