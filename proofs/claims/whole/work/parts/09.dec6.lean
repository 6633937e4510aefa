theorem dX12_fault__102 : decode cX12_fault_ 102 = .ok (.iload_n 1, 1) := by decide +kernel
theorem dX12_fault__103 : decode cX12_fault_ 103 = .ok (.iaload, 1) := by decide +kernel
theorem dX12_fault__104 : decode cX12_fault_ 104 = .ok (.ireturn, 1) := by decide +kernel
theorem dX12_fault__105 : decode cX12_fault_ 105 = .ok (.aload_n 0, 1) := by decide +kernel
theorem dX12_fault__106 : decode cX12_fault_ 106 = .ok (.getfield 115, 3) := by decide +kernel
theorem dX12_fault__109 : decode cX12_fault_ 109 = .ok (.iload_n 1, 1) := by decide +kernel
theorem dX12_fault__110 : decode cX12_fault_ 110 = .ok (.iaload, 1) := by decide +kernel
theorem dX12_fault__111 : decode cX12_fault_ 111 = .ok (.ireturn, 1) := by decide +kernel
theorem dX12_fault__112 : decode cX12_fault_ 112 = .ok (.aload_n 0, 1) := by decide +kernel
theorem dX12_fault__113 : decode cX12_fault_ 113 = .ok (.bipush (-7), 2) := by decide +kernel
theorem dX12_fault__115 : decode cX12_fault_ 115 = .ok (.invokevirtual 191, 3) := by decide +kernel
theorem dX12_fault__118 : decode cX12_fault_ 118 = .ok (.ireturn, 1) := by decide +kernel
theorem dX12_faults_0 : decode cX12_faults 0 = .ok (.iload_n 1, 1) := by decide +kernel
theorem dX12_faults_1 : decode cX12_faults 1 = .ok (.i2l, 1) := by decide +kernel
theorem dX12_faults_2 : decode cX12_faults 2 = .ok (.lconst 0, 1) := by decide +kernel
theorem dX12_faults_3 : decode cX12_faults 3 = .ok (.aload_n 0, 1) := by decide +kernel
theorem dX12_faults_4 : decode cX12_faults 4 = .ok (.getfield 328, 3) := by decide +kernel
theorem dX12_faults_7 : decode cX12_faults 7 = .ok (.iconst 1, 1) := by decide +kernel
theorem dX12_faults_8 : decode cX12_faults 8 = .ok (.isub, 1) := by decide +kernel
theorem dX12_faults_9 : decode cX12_faults 9 = .ok (.i2l, 1) := by decide +kernel
theorem dX12_faults_10 : decode cX12_faults 10 = .ok (.invokestatic 201, 3) := by decide +kernel
theorem dX12_faults_13 : decode cX12_faults 13 = .ok (.ifCond .ne 10, 3) := by decide +kernel
theorem dX12_faults_16 : decode cX12_faults 16 = .ok (.aload_n 0, 1) := by decide +kernel
theorem dX12_faults_17 : decode cX12_faults 17 = .ok (.bipush (-3), 2) := by decide +kernel
theorem dX12_faults_19 : decode cX12_faults 19 = .ok (.invokevirtual 191, 3) := by decide +kernel
theorem dX12_faults_22 : decode cX12_faults 22 = .ok (.ireturn, 1) := by decide +kernel
theorem dX12_faults_23 : decode cX12_faults 23 = .ok (.aload_n 0, 1) := by decide +kernel
theorem dX12_faults_24 : decode cX12_faults 24 = .ok (.getfield 308, 3) := by decide +kernel
theorem dX12_faults_27 : decode cX12_faults 27 = .ok (.ifCond .ne 10, 3) := by decide +kernel
theorem dX12_faults_30 : decode cX12_faults 30 = .ok (.aload_n 0, 1) := by decide +kernel
theorem dX12_faults_31 : decode cX12_faults 31 = .ok (.bipush (-2), 2) := by decide +kernel
theorem dX12_faults_33 : decode cX12_faults 33 = .ok (.invokevirtual 191, 3) := by decide +kernel
theorem dX12_faults_36 : decode cX12_faults 36 = .ok (.ireturn, 1) := by decide +kernel
theorem dX12_faults_37 : decode cX12_faults 37 = .ok (.iload_n 2, 1) := by decide +kernel
theorem dX12_faults_38 : decode cX12_faults 38 = .ok (.i2l, 1) := by decide +kernel
theorem dX12_faults_39 : decode cX12_faults 39 = .ok (.lconst 0, 1) := by decide +kernel
theorem dX12_faults_40 : decode cX12_faults 40 = .ok (.lconst 1, 1) := by decide +kernel
theorem dX12_faults_41 : decode cX12_faults 41 = .ok (.invokestatic 201, 3) := by decide +kernel
theorem dX12_faults_44 : decode cX12_faults 44 = .ok (.ifCond .ne 10, 3) := by decide +kernel
theorem dX12_faults_47 : decode cX12_faults 47 = .ok (.aload_n 0, 1) := by decide +kernel
theorem dX12_faults_48 : decode cX12_faults 48 = .ok (.bipush (-7), 2) := by decide +kernel
theorem dX12_faults_50 : decode cX12_faults 50 = .ok (.invokevirtual 191, 3) := by decide +kernel
theorem dX12_faults_53 : decode cX12_faults 53 = .ok (.ireturn, 1) := by decide +kernel
theorem dX12_faults_54 : decode cX12_faults 54 = .ok (.iload_n 2, 1) := by decide +kernel
theorem dX12_faults_55 : decode cX12_faults 55 = .ok (.ifCond .ne 12, 3) := by decide +kernel
theorem dX12_faults_58 : decode cX12_faults 58 = .ok (.aload_n 0, 1) := by decide +kernel
theorem dX12_faults_59 : decode cX12_faults 59 = .ok (.getfield 118, 3) := by decide +kernel
theorem dX12_faults_62 : decode cX12_faults 62 = .ok (.iload_n 1, 1) := by decide +kernel
theorem dX12_faults_63 : decode cX12_faults 63 = .ok (.iaload, 1) := by decide +kernel
theorem dX12_faults_64 : decode cX12_faults 64 = .ok (.goto 9, 3) := by decide +kernel
theorem dX12_faults_67 : decode cX12_faults 67 = .ok (.aload_n 0, 1) := by decide +kernel
theorem dX12_faults_68 : decode cX12_faults 68 = .ok (.getfield 121, 3) := by decide +kernel
theorem dX12_faults_71 : decode cX12_faults 71 = .ok (.iload_n 1, 1) := by decide +kernel
theorem dX12_faults_72 : decode cX12_faults 72 = .ok (.iaload, 1) := by decide +kernel
theorem dX12_faults_73 : decode cX12_faults 73 = .ok (.ireturn, 1) := by decide +kernel
theorem dX12_conducts_0 : decode cX12_conducts 0 = .ok (.iload_n 1, 1) := by decide +kernel
theorem dX12_conducts_1 : decode cX12_conducts 1 = .ok (.invokestatic 216, 3) := by decide +kernel
theorem dX12_conducts_4 : decode cX12_conducts 4 = .ok (.ifCond .ne 10, 3) := by decide +kernel
theorem dX12_conducts_7 : decode cX12_conducts 7 = .ok (.aload_n 0, 1) := by decide +kernel
theorem dX12_conducts_8 : decode cX12_conducts 8 = .ok (.bipush (-3), 2) := by decide +kernel
theorem dX12_conducts_10 : decode cX12_conducts 10 = .ok (.invokevirtual 191, 3) := by decide +kernel
theorem dX12_conducts_13 : decode cX12_conducts 13 = .ok (.ireturn, 1) := by decide +kernel
theorem dX12_conducts_14 : decode cX12_conducts 14 = .ok (.aload_n 0, 1) := by decide +kernel
theorem dX12_conducts_15 : decode cX12_conducts 15 = .ok (.getfield 124, 3) := by decide +kernel
theorem dX12_conducts_18 : decode cX12_conducts 18 = .ok (.iload_n 1, 1) := by decide +kernel
theorem dX12_conducts_19 : decode cX12_conducts 19 = .ok (.baload, 1) := by decide +kernel
theorem dX12_conducts_20 : decode cX12_conducts 20 = .ok (.ifCond .eq 7, 3) := by decide +kernel
theorem dX12_conducts_23 : decode cX12_conducts 23 = .ok (.iconst 1, 1) := by decide +kernel
theorem dX12_conducts_24 : decode cX12_conducts 24 = .ok (.goto 4, 3) := by decide +kernel
theorem dX12_conducts_27 : decode cX12_conducts 27 = .ok (.iconst 0, 1) := by decide +kernel
theorem dX12_conducts_28 : decode cX12_conducts 28 = .ok (.istore_n 3, 1) := by decide +kernel
theorem dX12_conducts_29 : decode cX12_conducts 29 = .ok (.aload_n 0, 1) := by decide +kernel
theorem dX12_conducts_30 : decode cX12_conducts 30 = .ok (.getfield 124, 3) := by decide +kernel
theorem dX12_conducts_33 : decode cX12_conducts 33 = .ok (.iload_n 1, 1) := by decide +kernel
theorem dX12_conducts_34 : decode cX12_conducts 34 = .ok (.iload_n 2, 1) := by decide +kernel
theorem dX12_conducts_35 : decode cX12_conducts 35 = .ok (.bastore, 1) := by decide +kernel
theorem dX12_conducts_36 : decode cX12_conducts 36 = .ok (.iload_n 3, 1) := by decide +kernel
theorem dX12_conducts_37 : decode cX12_conducts 37 = .ok (.ireturn, 1) := by decide +kernel
theorem dX12_joint_0 : decode cX12_joint 0 = .ok (.iload_n 1, 1) := by decide +kernel
theorem dX12_joint_1 : decode cX12_joint 1 = .ok (.invokestatic 216, 3) := by decide +kernel
theorem dX12_joint_4 : decode cX12_joint 4 = .ok (.ifCond .eq 17, 3) := by decide +kernel
theorem dX12_joint_7 : decode cX12_joint 7 = .ok (.iload_n 2, 1) := by decide +kernel
theorem dX12_joint_8 : decode cX12_joint 8 = .ok (.invokestatic 216, 3) := by decide +kernel
theorem dX12_joint_11 : decode cX12_joint 11 = .ok (.ifCond .eq 10, 3) := by decide +kernel
theorem dX12_joint_14 : decode cX12_joint 14 = .ok (.iload_n 3, 1) := by decide +kernel
theorem dX12_joint_15 : decode cX12_joint 15 = .ok (.invokestatic 216, 3) := by decide +kernel
theorem dX12_joint_18 : decode cX12_joint 18 = .ok (.ifCond .ne 10, 3) := by decide +kernel
theorem dX12_joint_21 : decode cX12_joint 21 = .ok (.aload_n 0, 1) := by decide +kernel
theorem dX12_joint_22 : decode cX12_joint 22 = .ok (.bipush (-3), 2) := by decide +kernel
theorem dX12_joint_24 : decode cX12_joint 24 = .ok (.invokevirtual 191, 3) := by decide +kernel
theorem dX12_joint_27 : decode cX12_joint 27 = .ok (.ireturn, 1) := by decide +kernel
theorem dX12_joint_28 : decode cX12_joint 28 = .ok (.aload_n 0, 1) := by decide +kernel
theorem dX12_joint_29 : decode cX12_joint 29 = .ok (.getfield 356, 3) := by decide +kernel
theorem dX12_joint_32 : decode cX12_joint 32 = .ok (.bipush 8, 2) := by decide +kernel
theorem dX12_joint_34 : decode cX12_joint 34 = .ok (.if_icmp .ne 10, 3) := by decide +kernel
theorem dX12_joint_37 : decode cX12_joint 37 = .ok (.aload_n 0, 1) := by decide +kernel
theorem dX12_joint_38 : decode cX12_joint 38 = .ok (.bipush (-8), 2) := by decide +kernel
theorem dX12_joint_40 : decode cX12_joint 40 = .ok (.invokevirtual 191, 3) := by decide +kernel
theorem dX12_joint_43 : decode cX12_joint 43 = .ok (.ireturn, 1) := by decide +kernel
theorem dX12_joint_44 : decode cX12_joint 44 = .ok (.aload_n 0, 1) := by decide +kernel
theorem dX12_joint_45 : decode cX12_joint 45 = .ok (.getfield 130, 3) := by decide +kernel
theorem dX12_joint_48 : decode cX12_joint 48 = .ok (.aload_n 0, 1) := by decide +kernel
theorem dX12_joint_49 : decode cX12_joint 49 = .ok (.getfield 356, 3) := by decide +kernel
theorem dX12_joint_52 : decode cX12_joint 52 = .ok (.iload_n 1, 1) := by decide +kernel
theorem dX12_joint_53 : decode cX12_joint 53 = .ok (.iastore, 1) := by decide +kernel
theorem dX12_joint_54 : decode cX12_joint 54 = .ok (.aload_n 0, 1) := by decide +kernel
theorem dX12_joint_55 : decode cX12_joint 55 = .ok (.getfield 133, 3) := by decide +kernel
theorem dX12_joint_58 : decode cX12_joint 58 = .ok (.aload_n 0, 1) := by decide +kernel
theorem dX12_joint_59 : decode cX12_joint 59 = .ok (.getfield 356, 3) := by decide +kernel
theorem dX12_joint_62 : decode cX12_joint 62 = .ok (.iload_n 2, 1) := by decide +kernel
theorem dX12_joint_63 : decode cX12_joint 63 = .ok (.iastore, 1) := by decide +kernel
theorem dX12_joint_64 : decode cX12_joint 64 = .ok (.aload_n 0, 1) := by decide +kernel
theorem dX12_joint_65 : decode cX12_joint 65 = .ok (.getfield 136, 3) := by decide +kernel
theorem dX12_joint_68 : decode cX12_joint 68 = .ok (.aload_n 0, 1) := by decide +kernel
theorem dX12_joint_69 : decode cX12_joint 69 = .ok (.getfield 356, 3) := by decide +kernel
theorem dX12_joint_72 : decode cX12_joint 72 = .ok (.iload_n 3, 1) := by decide +kernel
theorem dX12_joint_73 : decode cX12_joint 73 = .ok (.iastore, 1) := by decide +kernel
theorem dX12_joint_74 : decode cX12_joint 74 = .ok (.aload_n 0, 1) := by decide +kernel
theorem dX12_joint_75 : decode cX12_joint 75 = .ok (.dup, 1) := by decide +kernel
theorem dX12_joint_76 : decode cX12_joint 76 = .ok (.getfield 356, 3) := by decide +kernel
theorem dX12_joint_79 : decode cX12_joint 79 = .ok (.iconst 1, 1) := by decide +kernel
theorem dX12_joint_80 : decode cX12_joint 80 = .ok (.iadd, 1) := by decide +kernel
theorem dX12_joint_81 : decode cX12_joint 81 = .ok (.putfield 356, 3) := by decide +kernel
theorem dX12_joint_84 : decode cX12_joint 84 = .ok (.aload_n 0, 1) := by decide +kernel
theorem dX12_joint_85 : decode cX12_joint 85 = .ok (.getfield 356, 3) := by decide +kernel
theorem dX12_joint_88 : decode cX12_joint 88 = .ok (.ireturn, 1) := by decide +kernel
theorem dX12_gates_0 : decode cX12_gates 0 = .ok (.iload_n 1, 1) := by decide +kernel
theorem dX12_gates_1 : decode cX12_gates 1 = .ok (.invokestatic 216, 3) := by decide +kernel
theorem dX12_gates_4 : decode cX12_gates 4 = .ok (.ifCond .eq 17, 3) := by decide +kernel
theorem dX12_gates_7 : decode cX12_gates 7 = .ok (.iload_n 2, 1) := by decide +kernel
theorem dX12_gates_8 : decode cX12_gates 8 = .ok (.invokestatic 216, 3) := by decide +kernel
theorem dX12_gates_11 : decode cX12_gates 11 = .ok (.ifCond .eq 10, 3) := by decide +kernel
theorem dX12_gates_14 : decode cX12_gates 14 = .ok (.iload_n 3, 1) := by decide +kernel
theorem dX12_gates_15 : decode cX12_gates 15 = .ok (.invokestatic 216, 3) := by decide +kernel
theorem dX12_gates_18 : decode cX12_gates 18 = .ok (.ifCond .ne 10, 3) := by decide +kernel
theorem dX12_gates_21 : decode cX12_gates 21 = .ok (.aload_n 0, 1) := by decide +kernel
theorem dX12_gates_22 : decode cX12_gates 22 = .ok (.bipush (-3), 2) := by decide +kernel
theorem dX12_gates_24 : decode cX12_gates 24 = .ok (.invokevirtual 191, 3) := by decide +kernel
theorem dX12_gates_27 : decode cX12_gates 27 = .ok (.ireturn, 1) := by decide +kernel
theorem dX12_gates_28 : decode cX12_gates 28 = .ok (.aload_n 0, 1) := by decide +kernel
theorem dX12_gates_29 : decode cX12_gates 29 = .ok (.getfield 124, 3) := by decide +kernel
theorem dX12_gates_32 : decode cX12_gates 32 = .ok (.iload_n 3, 1) := by decide +kernel
theorem dX12_gates_33 : decode cX12_gates 33 = .ok (.baload, 1) := by decide +kernel
theorem dX12_gates_34 : decode cX12_gates 34 = .ok (.ifCond .ne 10, 3) := by decide +kernel
theorem dX12_gates_37 : decode cX12_gates 37 = .ok (.aload_n 0, 1) := by decide +kernel
theorem dX12_gates_38 : decode cX12_gates 38 = .ok (.bipush (-7), 2) := by decide +kernel
theorem dX12_gates_40 : decode cX12_gates 40 = .ok (.invokevirtual 191, 3) := by decide +kernel
theorem dX12_gates_43 : decode cX12_gates 43 = .ok (.ireturn, 1) := by decide +kernel
theorem dX12_gates_44 : decode cX12_gates 44 = .ok (.aload_n 0, 1) := by decide +kernel
theorem dX12_gates_45 : decode cX12_gates 45 = .ok (.iload_n 1, 1) := by decide +kernel
theorem dX12_gates_46 : decode cX12_gates 46 = .ok (.putfield 139, 3) := by decide +kernel
theorem dX12_gates_49 : decode cX12_gates 49 = .ok (.aload_n 0, 1) := by decide +kernel
theorem dX12_gates_50 : decode cX12_gates 50 = .ok (.iload_n 2, 1) := by decide +kernel
theorem dX12_gates_51 : decode cX12_gates 51 = .ok (.putfield 359, 3) := by decide +kernel
theorem dX12_gates_54 : decode cX12_gates 54 = .ok (.aload_n 0, 1) := by decide +kernel
theorem dX12_gates_55 : decode cX12_gates 55 = .ok (.iload_n 3, 1) := by decide +kernel
theorem dX12_gates_56 : decode cX12_gates 56 = .ok (.putfield 362, 3) := by decide +kernel
theorem dX12_gates_59 : decode cX12_gates 59 = .ok (.iconst 1, 1) := by decide +kernel
theorem dX12_gates_60 : decode cX12_gates 60 = .ok (.ireturn, 1) := by decide +kernel
theorem dX12_reaches_0 : decode cX12_reaches 0 = .ok (.aload_n 0, 1) := by decide +kernel
theorem dX12_reaches_1 : decode cX12_reaches 1 = .ok (.getfield 64, 3) := by decide +kernel
theorem dX12_reaches_4 : decode cX12_reaches 4 = .ok (.iload_n 1, 1) := by decide +kernel
theorem dX12_reaches_5 : decode cX12_reaches 5 = .ok (.baload, 1) := by decide +kernel
theorem dX12_reaches_6 : decode cX12_reaches 6 = .ok (.ifCond .eq 25, 3) := by decide +kernel
theorem dX12_reaches_9 : decode cX12_reaches 9 = .ok (.aload_n 0, 1) := by decide +kernel
theorem dX12_reaches_10 : decode cX12_reaches 10 = .ok (.getfield 127, 3) := by decide +kernel
theorem dX12_reaches_13 : decode cX12_reaches 13 = .ok (.iload_n 1, 1) := by decide +kernel
theorem dX12_reaches_14 : decode cX12_reaches 14 = .ok (.sipush 4096, 3) := by decide +kernel
theorem dX12_reaches_17 : decode cX12_reaches 17 = .ok (.idiv, 1) := by decide +kernel
theorem dX12_reaches_18 : decode cX12_reaches 18 = .ok (.baload, 1) := by decide +kernel
theorem dX12_reaches_19 : decode cX12_reaches 19 = .ok (.ifCond .eq 12, 3) := by decide +kernel
theorem dX12_reaches_22 : decode cX12_reaches 22 = .ok (.aload_n 0, 1) := by decide +kernel
theorem dX12_reaches_23 : decode cX12_reaches 23 = .ok (.getfield 143, 3) := by decide +kernel
theorem dX12_reaches_26 : decode cX12_reaches 26 = .ok (.iload_n 1, 1) := by decide +kernel
theorem dX12_reaches_27 : decode cX12_reaches 27 = .ok (.iaload, 1) := by decide +kernel
theorem dX12_reaches_28 : decode cX12_reaches 28 = .ok (.ifCond .lt 4, 3) := by decide +kernel
theorem dX12_reaches_31 : decode cX12_reaches 31 = .ok (.return_, 1) := by decide +kernel
theorem dX12_reaches_32 : decode cX12_reaches 32 = .ok (.aload_n 0, 1) := by decide +kernel
theorem dX12_reaches_33 : decode cX12_reaches 33 = .ok (.getfield 143, 3) := by decide +kernel
theorem dX12_reaches_36 : decode cX12_reaches 36 = .ok (.iload_n 1, 1) := by decide +kernel
theorem dX12_reaches_37 : decode cX12_reaches 37 = .ok (.aload_n 0, 1) := by decide +kernel
theorem dX12_reaches_38 : decode cX12_reaches 38 = .ok (.getfield 365, 3) := by decide +kernel
theorem dX12_reaches_41 : decode cX12_reaches 41 = .ok (.iastore, 1) := by decide +kernel
theorem dX12_reaches_42 : decode cX12_reaches 42 = .ok (.aload_n 0, 1) := by decide +kernel
theorem dX12_reaches_43 : decode cX12_reaches 43 = .ok (.getfield 146, 3) := by decide +kernel
theorem dX12_reaches_46 : decode cX12_reaches 46 = .ok (.aload_n 0, 1) := by decide +kernel
theorem dX12_reaches_47 : decode cX12_reaches 47 = .ok (.getfield 368, 3) := by decide +kernel
theorem dX12_reaches_50 : decode cX12_reaches 50 = .ok (.iload_n 1, 1) := by decide +kernel
theorem dX12_reaches_51 : decode cX12_reaches 51 = .ok (.iastore, 1) := by decide +kernel
theorem dX12_reaches_52 : decode cX12_reaches 52 = .ok (.aload_n 0, 1) := by decide +kernel
theorem dX12_reaches_53 : decode cX12_reaches 53 = .ok (.dup, 1) := by decide +kernel
theorem dX12_reaches_54 : decode cX12_reaches 54 = .ok (.getfield 368, 3) := by decide +kernel
theorem dX12_reaches_57 : decode cX12_reaches 57 = .ok (.iconst 1, 1) := by decide +kernel
theorem dX12_reaches_58 : decode cX12_reaches 58 = .ok (.iadd, 1) := by decide +kernel
theorem dX12_reaches_59 : decode cX12_reaches 59 = .ok (.putfield 368, 3) := by decide +kernel
theorem dX12_reaches_62 : decode cX12_reaches 62 = .ok (.return_, 1) := by decide +kernel
theorem dX12_goesOnFrom_0 : decode cX12_goesOnFrom 0 = .ok (.iload_n 1, 1) := by decide +kernel
theorem dX12_goesOnFrom_1 : decode cX12_goesOnFrom 1 = .ok (.sipush 4096, 3) := by decide +kernel
theorem dX12_goesOnFrom_4 : decode cX12_goesOnFrom 4 = .ok (.irem, 1) := by decide +kernel
theorem dX12_goesOnFrom_5 : decode cX12_goesOnFrom 5 = .ok (.istore_n 2, 1) := by decide +kernel
theorem dX12_goesOnFrom_6 : decode cX12_goesOnFrom 6 = .ok (.iload_n 1, 1) := by decide +kernel
theorem dX12_goesOnFrom_7 : decode cX12_goesOnFrom 7 = .ok (.sipush 4096, 3) := by decide +kernel
theorem dX12_goesOnFrom_10 : decode cX12_goesOnFrom 10 = .ok (.idiv, 1) := by decide +kernel
theorem dX12_goesOnFrom_11 : decode cX12_goesOnFrom 11 = .ok (.istore_n 3, 1) := by decide +kernel
theorem dX12_goesOnFrom_12 : decode cX12_goesOnFrom 12 = .ok (.iload_n 2, 1) := by decide +kernel
theorem dX12_goesOnFrom_13 : decode cX12_goesOnFrom 13 = .ok (.bipush 64, 2) := by decide +kernel
theorem dX12_goesOnFrom_15 : decode cX12_goesOnFrom 15 = .ok (.irem, 1) := by decide +kernel
theorem dX12_goesOnFrom_16 : decode cX12_goesOnFrom 16 = .ok (.ifCond .le 10, 3) := by decide +kernel
theorem dX12_goesOnFrom_19 : decode cX12_goesOnFrom 19 = .ok (.aload_n 0, 1) := by decide +kernel
theorem dX12_goesOnFrom_20 : decode cX12_goesOnFrom 20 = .ok (.iload_n 1, 1) := by decide +kernel
theorem dX12_goesOnFrom_21 : decode cX12_goesOnFrom 21 = .ok (.iconst 1, 1) := by decide +kernel
theorem dX12_goesOnFrom_22 : decode cX12_goesOnFrom 22 = .ok (.isub, 1) := by decide +kernel
theorem dX12_goesOnFrom_23 : decode cX12_goesOnFrom 23 = .ok (.invokevirtual 371, 3) := by decide +kernel
theorem dX12_goesOnFrom_26 : decode cX12_goesOnFrom 26 = .ok (.iload_n 2, 1) := by decide +kernel
theorem dX12_goesOnFrom_27 : decode cX12_goesOnFrom 27 = .ok (.bipush 64, 2) := by decide +kernel
theorem dX12_goesOnFrom_29 : decode cX12_goesOnFrom 29 = .ok (.irem, 1) := by decide +kernel
theorem dX12_goesOnFrom_30 : decode cX12_goesOnFrom 30 = .ok (.bipush 63, 2) := by decide +kernel
theorem dX12_goesOnFrom_32 : decode cX12_goesOnFrom 32 = .ok (.if_icmp .ge 10, 3) := by decide +kernel
theorem dX12_goesOnFrom_35 : decode cX12_goesOnFrom 35 = .ok (.aload_n 0, 1) := by decide +kernel
theorem dX12_goesOnFrom_36 : decode cX12_goesOnFrom 36 = .ok (.iload_n 1, 1) := by decide +kernel
theorem dX12_goesOnFrom_37 : decode cX12_goesOnFrom 37 = .ok (.iconst 1, 1) := by decide +kernel
theorem dX12_goesOnFrom_38 : decode cX12_goesOnFrom 38 = .ok (.iadd, 1) := by decide +kernel
theorem dX12_goesOnFrom_39 : decode cX12_goesOnFrom 39 = .ok (.invokevirtual 371, 3) := by decide +kernel
theorem dX12_goesOnFrom_42 : decode cX12_goesOnFrom 42 = .ok (.iload_n 2, 1) := by decide +kernel
theorem dX12_goesOnFrom_43 : decode cX12_goesOnFrom 43 = .ok (.bipush 64, 2) := by decide +kernel
theorem dX12_goesOnFrom_45 : decode cX12_goesOnFrom 45 = .ok (.if_icmp .lt 11, 3) := by decide +kernel
theorem dX12_goesOnFrom_48 : decode cX12_goesOnFrom 48 = .ok (.aload_n 0, 1) := by decide +kernel
theorem dX12_goesOnFrom_49 : decode cX12_goesOnFrom 49 = .ok (.iload_n 1, 1) := by decide +kernel
theorem dX12_goesOnFrom_50 : decode cX12_goesOnFrom 50 = .ok (.bipush 64, 2) := by decide +kernel
theorem dX12_goesOnFrom_52 : decode cX12_goesOnFrom 52 = .ok (.isub, 1) := by decide +kernel
theorem dX12_goesOnFrom_53 : decode cX12_goesOnFrom 53 = .ok (.invokevirtual 371, 3) := by decide +kernel
theorem dX12_goesOnFrom_56 : decode cX12_goesOnFrom 56 = .ok (.iload_n 2, 1) := by decide +kernel
theorem dX12_goesOnFrom_57 : decode cX12_goesOnFrom 57 = .ok (.sipush 4032, 3) := by decide +kernel
theorem dX12_goesOnFrom_60 : decode cX12_goesOnFrom 60 = .ok (.if_icmp .ge 11, 3) := by decide +kernel
theorem dX12_goesOnFrom_63 : decode cX12_goesOnFrom 63 = .ok (.aload_n 0, 1) := by decide +kernel
theorem dX12_goesOnFrom_64 : decode cX12_goesOnFrom 64 = .ok (.iload_n 1, 1) := by decide +kernel
theorem dX12_goesOnFrom_65 : decode cX12_goesOnFrom 65 = .ok (.bipush 64, 2) := by decide +kernel
theorem dX12_goesOnFrom_67 : decode cX12_goesOnFrom 67 = .ok (.iadd, 1) := by decide +kernel
theorem dX12_goesOnFrom_68 : decode cX12_goesOnFrom 68 = .ok (.invokevirtual 371, 3) := by decide +kernel
theorem dX12_goesOnFrom_71 : decode cX12_goesOnFrom 71 = .ok (.iconst 0, 1) := by decide +kernel
theorem dX12_goesOnFrom_72 : decode cX12_goesOnFrom 72 = .ok (.istore 4, 2) := by decide +kernel
theorem dX12_goesOnFrom_74 : decode cX12_goesOnFrom 74 = .ok (.iload 4, 2) := by decide +kernel
theorem dX12_goesOnFrom_76 : decode cX12_goesOnFrom 76 = .ok (.aload_n 0, 1) := by decide +kernel
theorem dX12_goesOnFrom_77 : decode cX12_goesOnFrom 77 = .ok (.getfield 356, 3) := by decide +kernel
theorem dX12_goesOnFrom_80 : decode cX12_goesOnFrom 80 = .ok (.if_icmp .ge 89, 3) := by decide +kernel
theorem dX12_goesOnFrom_83 : decode cX12_goesOnFrom 83 = .ok (.aload_n 0, 1) := by decide +kernel
theorem dX12_goesOnFrom_84 : decode cX12_goesOnFrom 84 = .ok (.getfield 64, 3) := by decide +kernel
theorem dX12_goesOnFrom_87 : decode cX12_goesOnFrom 87 = .ok (.sipush 4096, 3) := by decide +kernel
theorem dX12_goesOnFrom_90 : decode cX12_goesOnFrom 90 = .ok (.aload_n 0, 1) := by decide +kernel
theorem dX12_goesOnFrom_91 : decode cX12_goesOnFrom 91 = .ok (.getfield 133, 3) := by decide +kernel
theorem dX12_goesOnFrom_94 : decode cX12_goesOnFrom 94 = .ok (.iload 4, 2) := by decide +kernel
theorem dX12_goesOnFrom_96 : decode cX12_goesOnFrom 96 = .ok (.iaload, 1) := by decide +kernel
theorem dX12_goesOnFrom_97 : decode cX12_goesOnFrom 97 = .ok (.imul, 1) := by decide +kernel
theorem dX12_goesOnFrom_98 : decode cX12_goesOnFrom 98 = .ok (.iload_n 2, 1) := by decide +kernel
theorem dX12_goesOnFrom_99 : decode cX12_goesOnFrom 99 = .ok (.iadd, 1) := by decide +kernel
theorem dX12_goesOnFrom_100 : decode cX12_goesOnFrom 100 = .ok (.baload, 1) := by decide +kernel
theorem dX12_goesOnFrom_101 : decode cX12_goesOnFrom 101 = .ok (.ifCond .ne 6, 3) := by decide +kernel
theorem dX12_goesOnFrom_104 : decode cX12_goesOnFrom 104 = .ok (.goto 59, 3) := by decide +kernel
theorem dX12_goesOnFrom_107 : decode cX12_goesOnFrom 107 = .ok (.aload_n 0, 1) := by decide +kernel
theorem dX12_goesOnFrom_108 : decode cX12_goesOnFrom 108 = .ok (.getfield 130, 3) := by decide +kernel
theorem dX12_goesOnFrom_111 : decode cX12_goesOnFrom 111 = .ok (.iload 4, 2) := by decide +kernel
theorem dX12_goesOnFrom_113 : decode cX12_goesOnFrom 113 = .ok (.iaload, 1) := by decide +kernel
theorem dX12_goesOnFrom_114 : decode cX12_goesOnFrom 114 = .ok (.iload_n 3, 1) := by decide +kernel
theorem dX12_goesOnFrom_115 : decode cX12_goesOnFrom 115 = .ok (.if_icmp .ne 20, 3) := by decide +kernel
theorem dX12_goesOnFrom_118 : decode cX12_goesOnFrom 118 = .ok (.aload_n 0, 1) := by decide +kernel
theorem dX12_goesOnFrom_119 : decode cX12_goesOnFrom 119 = .ok (.sipush 4096, 3) := by decide +kernel
theorem dX12_goesOnFrom_122 : decode cX12_goesOnFrom 122 = .ok (.aload_n 0, 1) := by decide +kernel
theorem dX12_goesOnFrom_123 : decode cX12_goesOnFrom 123 = .ok (.getfield 136, 3) := by decide +kernel
theorem dX12_goesOnFrom_126 : decode cX12_goesOnFrom 126 = .ok (.iload 4, 2) := by decide +kernel
theorem dX12_goesOnFrom_128 : decode cX12_goesOnFrom 128 = .ok (.iaload, 1) := by decide +kernel
theorem dX12_goesOnFrom_129 : decode cX12_goesOnFrom 129 = .ok (.imul, 1) := by decide +kernel
theorem dX12_goesOnFrom_130 : decode cX12_goesOnFrom 130 = .ok (.iload_n 2, 1) := by decide +kernel
theorem dX12_goesOnFrom_131 : decode cX12_goesOnFrom 131 = .ok (.iadd, 1) := by decide +kernel
theorem dX12_goesOnFrom_132 : decode cX12_goesOnFrom 132 = .ok (.invokevirtual 371, 3) := by decide +kernel
theorem dX12_goesOnFrom_135 : decode cX12_goesOnFrom 135 = .ok (.aload_n 0, 1) := by decide +kernel
theorem dX12_goesOnFrom_136 : decode cX12_goesOnFrom 136 = .ok (.getfield 136, 3) := by decide +kernel
theorem dX12_goesOnFrom_139 : decode cX12_goesOnFrom 139 = .ok (.iload 4, 2) := by decide +kernel
theorem dX12_goesOnFrom_141 : decode cX12_goesOnFrom 141 = .ok (.iaload, 1) := by decide +kernel
theorem dX12_goesOnFrom_142 : decode cX12_goesOnFrom 142 = .ok (.iload_n 3, 1) := by decide +kernel
theorem dX12_goesOnFrom_143 : decode cX12_goesOnFrom 143 = .ok (.if_icmp .ne 20, 3) := by decide +kernel
theorem dX12_goesOnFrom_146 : decode cX12_goesOnFrom 146 = .ok (.aload_n 0, 1) := by decide +kernel
theorem dX12_goesOnFrom_147 : decode cX12_goesOnFrom 147 = .ok (.sipush 4096, 3) := by decide +kernel
theorem dX12_goesOnFrom_150 : decode cX12_goesOnFrom 150 = .ok (.aload_n 0, 1) := by decide +kernel
theorem dX12_goesOnFrom_151 : decode cX12_goesOnFrom 151 = .ok (.getfield 130, 3) := by decide +kernel
theorem dX12_goesOnFrom_154 : decode cX12_goesOnFrom 154 = .ok (.iload 4, 2) := by decide +kernel
theorem dX12_goesOnFrom_156 : decode cX12_goesOnFrom 156 = .ok (.iaload, 1) := by decide +kernel
theorem dX12_goesOnFrom_157 : decode cX12_goesOnFrom 157 = .ok (.imul, 1) := by decide +kernel
theorem dX12_goesOnFrom_158 : decode cX12_goesOnFrom 158 = .ok (.iload_n 2, 1) := by decide +kernel
theorem dX12_goesOnFrom_159 : decode cX12_goesOnFrom 159 = .ok (.iadd, 1) := by decide +kernel
theorem dX12_goesOnFrom_160 : decode cX12_goesOnFrom 160 = .ok (.invokevirtual 371, 3) := by decide +kernel
theorem dX12_goesOnFrom_163 : decode cX12_goesOnFrom 163 = .ok (.iinc 4 1, 3) := by decide +kernel
theorem dX12_goesOnFrom_166 : decode cX12_goesOnFrom 166 = .ok (.goto (-92), 3) := by decide +kernel
theorem dX12_goesOnFrom_169 : decode cX12_goesOnFrom 169 = .ok (.return_, 1) := by decide +kernel
theorem dX12_findNets_0 : decode cX12_findNets 0 = .ok (.iconst 0, 1) := by decide +kernel
theorem dX12_findNets_1 : decode cX12_findNets 1 = .ok (.istore_n 1, 1) := by decide +kernel
theorem dX12_findNets_2 : decode cX12_findNets 2 = .ok (.iload_n 1, 1) := by decide +kernel
theorem dX12_findNets_3 : decode cX12_findNets 3 = .ok (.ldc 63, 2) := by decide +kernel
theorem dX12_findNets_5 : decode cX12_findNets 5 = .ok (.if_icmp .ge 16, 3) := by decide +kernel
theorem dX12_findNets_8 : decode cX12_findNets 8 = .ok (.aload_n 0, 1) := by decide +kernel
theorem dX12_findNets_9 : decode cX12_findNets 9 = .ok (.getfield 143, 3) := by decide +kernel
theorem dX12_findNets_12 : decode cX12_findNets 12 = .ok (.iload_n 1, 1) := by decide +kernel
theorem dX12_findNets_13 : decode cX12_findNets 13 = .ok (.iconst (-1), 1) := by decide +kernel
theorem dX12_findNets_14 : decode cX12_findNets 14 = .ok (.iastore, 1) := by decide +kernel
theorem dX12_findNets_15 : decode cX12_findNets 15 = .ok (.iinc 1 1, 3) := by decide +kernel
theorem dX12_findNets_18 : decode cX12_findNets 18 = .ok (.goto (-16), 3) := by decide +kernel
theorem dX12_findNets_21 : decode cX12_findNets 21 = .ok (.aload_n 0, 1) := by decide +kernel
theorem dX12_findNets_22 : decode cX12_findNets 22 = .ok (.iconst 0, 1) := by decide +kernel
theorem dX12_findNets_23 : decode cX12_findNets 23 = .ok (.putfield 365, 3) := by decide +kernel
theorem dX12_findNets_26 : decode cX12_findNets 26 = .ok (.iconst 0, 1) := by decide +kernel
theorem dX12_findNets_27 : decode cX12_findNets 27 = .ok (.istore_n 1, 1) := by decide +kernel
theorem dX12_findNets_28 : decode cX12_findNets 28 = .ok (.iload_n 1, 1) := by decide +kernel
theorem dX12_findNets_29 : decode cX12_findNets 29 = .ok (.ldc 63, 2) := by decide +kernel
theorem dX12_findNets_31 : decode cX12_findNets 31 = .ok (.if_icmp .ge 89, 3) := by decide +kernel
theorem dX12_findNets_34 : decode cX12_findNets 34 = .ok (.aload_n 0, 1) := by decide +kernel
theorem dX12_findNets_35 : decode cX12_findNets 35 = .ok (.getfield 64, 3) := by decide +kernel
theorem dX12_findNets_38 : decode cX12_findNets 38 = .ok (.iload_n 1, 1) := by decide +kernel
theorem dX12_findNets_39 : decode cX12_findNets 39 = .ok (.baload, 1) := by decide +kernel
theorem dX12_findNets_40 : decode cX12_findNets 40 = .ok (.ifCond .eq 74, 3) := by decide +kernel
theorem dX12_findNets_43 : decode cX12_findNets 43 = .ok (.aload_n 0, 1) := by decide +kernel
theorem dX12_findNets_44 : decode cX12_findNets 44 = .ok (.getfield 127, 3) := by decide +kernel
theorem dX12_findNets_47 : decode cX12_findNets 47 = .ok (.iload_n 1, 1) := by decide +kernel
theorem dX12_findNets_48 : decode cX12_findNets 48 = .ok (.sipush 4096, 3) := by decide +kernel
theorem dX12_findNets_51 : decode cX12_findNets 51 = .ok (.idiv, 1) := by decide +kernel
theorem dX12_findNets_52 : decode cX12_findNets 52 = .ok (.baload, 1) := by decide +kernel
theorem dX12_findNets_53 : decode cX12_findNets 53 = .ok (.ifCond .eq 61, 3) := by decide +kernel
theorem dX12_findNets_56 : decode cX12_findNets 56 = .ok (.aload_n 0, 1) := by decide +kernel
theorem dX12_findNets_57 : decode cX12_findNets 57 = .ok (.getfield 143, 3) := by decide +kernel
theorem dX12_findNets_60 : decode cX12_findNets 60 = .ok (.iload_n 1, 1) := by decide +kernel
theorem dX12_findNets_61 : decode cX12_findNets 61 = .ok (.iaload, 1) := by decide +kernel
theorem dX12_findNets_62 : decode cX12_findNets 62 = .ok (.ifCond .lt 6, 3) := by decide +kernel
theorem dX12_findNets_65 : decode cX12_findNets 65 = .ok (.goto 49, 3) := by decide +kernel
theorem dX12_findNets_68 : decode cX12_findNets 68 = .ok (.aload_n 0, 1) := by decide +kernel
theorem dX12_findNets_69 : decode cX12_findNets 69 = .ok (.iconst 0, 1) := by decide +kernel
theorem dX12_findNets_70 : decode cX12_findNets 70 = .ok (.putfield 368, 3) := by decide +kernel
theorem dX12_findNets_73 : decode cX12_findNets 73 = .ok (.aload_n 0, 1) := by decide +kernel
theorem dX12_findNets_74 : decode cX12_findNets 74 = .ok (.iload_n 1, 1) := by decide +kernel
theorem dX12_findNets_75 : decode cX12_findNets 75 = .ok (.invokevirtual 371, 3) := by decide +kernel
theorem dX12_findNets_78 : decode cX12_findNets 78 = .ok (.iconst 0, 1) := by decide +kernel
theorem dX12_findNets_79 : decode cX12_findNets 79 = .ok (.istore_n 2, 1) := by decide +kernel
theorem dX12_findNets_80 : decode cX12_findNets 80 = .ok (.iload_n 2, 1) := by decide +kernel
theorem dX12_findNets_81 : decode cX12_findNets 81 = .ok (.aload_n 0, 1) := by decide +kernel
theorem dX12_findNets_82 : decode cX12_findNets 82 = .ok (.getfield 368, 3) := by decide +kernel
theorem dX12_findNets_85 : decode cX12_findNets 85 = .ok (.if_icmp .ge 19, 3) := by decide +kernel
theorem dX12_findNets_88 : decode cX12_findNets 88 = .ok (.aload_n 0, 1) := by decide +kernel
theorem dX12_findNets_89 : decode cX12_findNets 89 = .ok (.aload_n 0, 1) := by decide +kernel
theorem dX12_findNets_90 : decode cX12_findNets 90 = .ok (.getfield 146, 3) := by decide +kernel
theorem dX12_findNets_93 : decode cX12_findNets 93 = .ok (.iload_n 2, 1) := by decide +kernel
theorem dX12_findNets_94 : decode cX12_findNets 94 = .ok (.iaload, 1) := by decide +kernel
theorem dX12_findNets_95 : decode cX12_findNets 95 = .ok (.invokevirtual 374, 3) := by decide +kernel
theorem dX12_findNets_98 : decode cX12_findNets 98 = .ok (.iinc 2 1, 3) := by decide +kernel
theorem dX12_findNets_101 : decode cX12_findNets 101 = .ok (.goto (-21), 3) := by decide +kernel
theorem dX12_findNets_104 : decode cX12_findNets 104 = .ok (.aload_n 0, 1) := by decide +kernel
theorem dX12_findNets_105 : decode cX12_findNets 105 = .ok (.dup, 1) := by decide +kernel
theorem dX12_findNets_106 : decode cX12_findNets 106 = .ok (.getfield 365, 3) := by decide +kernel
theorem dX12_findNets_109 : decode cX12_findNets 109 = .ok (.iconst 1, 1) := by decide +kernel
theorem dX12_findNets_110 : decode cX12_findNets 110 = .ok (.iadd, 1) := by decide +kernel
theorem dX12_findNets_111 : decode cX12_findNets 111 = .ok (.putfield 365, 3) := by decide +kernel
theorem dX12_findNets_114 : decode cX12_findNets 114 = .ok (.iinc 1 1, 3) := by decide +kernel
theorem dX12_findNets_117 : decode cX12_findNets 117 = .ok (.goto (-89), 3) := by decide +kernel
theorem dX12_findNets_120 : decode cX12_findNets 120 = .ok (.return_, 1) := by decide +kernel
theorem dX12_ends_0 : decode cX12_ends 0 = .ok (.aload_n 0, 1) := by decide +kernel
theorem dX12_ends_1 : decode cX12_ends 1 = .ok (.getfield 143, 3) := by decide +kernel
theorem dX12_ends_4 : decode cX12_ends 4 = .ok (.iload_n 2, 1) := by decide +kernel
theorem dX12_ends_5 : decode cX12_ends 5 = .ok (.iaload, 1) := by decide +kernel
theorem dX12_ends_6 : decode cX12_ends 6 = .ok (.istore_n 3, 1) := by decide +kernel
theorem dX12_ends_7 : decode cX12_ends 7 = .ok (.iload_n 3, 1) := by decide +kernel
theorem dX12_ends_8 : decode cX12_ends 8 = .ok (.ifCond .lt 23, 3) := by decide +kernel
theorem dX12_ends_11 : decode cX12_ends 11 = .ok (.iload_n 3, 1) := by decide +kernel
theorem dX12_ends_12 : decode cX12_ends 12 = .ok (.aload_n 0, 1) := by decide +kernel
theorem dX12_ends_13 : decode cX12_ends 13 = .ok (.getfield 155, 3) := by decide +kernel
theorem dX12_ends_16 : decode cX12_ends 16 = .ok (.iload_n 1, 1) := by decide +kernel
theorem dX12_ends_17 : decode cX12_ends 17 = .ok (.iaload, 1) := by decide +kernel
theorem dX12_ends_18 : decode cX12_ends 18 = .ok (.if_icmp .eq 13, 3) := by decide +kernel
theorem dX12_ends_21 : decode cX12_ends 21 = .ok (.iload_n 3, 1) := by decide +kernel
theorem dX12_ends_22 : decode cX12_ends 22 = .ok (.aload_n 0, 1) := by decide +kernel
theorem dX12_ends_23 : decode cX12_ends 23 = .ok (.getfield 158, 3) := by decide +kernel
theorem dX12_ends_26 : decode cX12_ends 26 = .ok (.iload_n 1, 1) := by decide +kernel
theorem dX12_ends_27 : decode cX12_ends 27 = .ok (.iaload, 1) := by decide +kernel
theorem dX12_ends_28 : decode cX12_ends 28 = .ok (.if_icmp .ne 4, 3) := by decide +kernel
theorem dX12_ends_31 : decode cX12_ends 31 = .ok (.return_, 1) := by decide +kernel
theorem dX12_ends_32 : decode cX12_ends 32 = .ok (.aload_n 0, 1) := by decide +kernel
theorem dX12_ends_33 : decode cX12_ends 33 = .ok (.getfield 155, 3) := by decide +kernel
theorem dX12_ends_36 : decode cX12_ends 36 = .ok (.iload_n 1, 1) := by decide +kernel
theorem dX12_ends_37 : decode cX12_ends 37 = .ok (.iaload, 1) := by decide +kernel
theorem dX12_ends_38 : decode cX12_ends 38 = .ok (.ifCond .lt 13, 3) := by decide +kernel
theorem dX12_ends_41 : decode cX12_ends 41 = .ok (.iload_n 3, 1) := by decide +kernel
theorem dX12_ends_42 : decode cX12_ends 42 = .ok (.aload_n 0, 1) := by decide +kernel
theorem dX12_ends_43 : decode cX12_ends 43 = .ok (.getfield 155, 3) := by decide +kernel
theorem dX12_ends_46 : decode cX12_ends 46 = .ok (.iload_n 1, 1) := by decide +kernel
theorem dX12_ends_47 : decode cX12_ends 47 = .ok (.iaload, 1) := by decide +kernel
theorem dX12_ends_48 : decode cX12_ends 48 = .ok (.if_icmp .ge 25, 3) := by decide +kernel
theorem dX12_ends_51 : decode cX12_ends 51 = .ok (.aload_n 0, 1) := by decide +kernel
theorem dX12_ends_52 : decode cX12_ends 52 = .ok (.getfield 158, 3) := by decide +kernel
theorem dX12_ends_55 : decode cX12_ends 55 = .ok (.iload_n 1, 1) := by decide +kernel
theorem dX12_ends_56 : decode cX12_ends 56 = .ok (.aload_n 0, 1) := by decide +kernel
theorem dX12_ends_57 : decode cX12_ends 57 = .ok (.getfield 155, 3) := by decide +kernel
theorem dX12_ends_60 : decode cX12_ends 60 = .ok (.iload_n 1, 1) := by decide +kernel
theorem dX12_ends_61 : decode cX12_ends 61 = .ok (.iaload, 1) := by decide +kernel
theorem dX12_ends_62 : decode cX12_ends 62 = .ok (.iastore, 1) := by decide +kernel
theorem dX12_ends_63 : decode cX12_ends 63 = .ok (.aload_n 0, 1) := by decide +kernel
theorem dX12_ends_64 : decode cX12_ends 64 = .ok (.getfield 155, 3) := by decide +kernel
theorem dX12_ends_67 : decode cX12_ends 67 = .ok (.iload_n 1, 1) := by decide +kernel
theorem dX12_ends_68 : decode cX12_ends 68 = .ok (.iload_n 3, 1) := by decide +kernel
theorem dX12_ends_69 : decode cX12_ends 69 = .ok (.iastore, 1) := by decide +kernel
theorem dX12_ends_70 : decode cX12_ends 70 = .ok (.goto 29, 3) := by decide +kernel
theorem dX12_ends_73 : decode cX12_ends 73 = .ok (.aload_n 0, 1) := by decide +kernel
theorem dX12_ends_74 : decode cX12_ends 74 = .ok (.getfield 158, 3) := by decide +kernel
theorem dX12_ends_77 : decode cX12_ends 77 = .ok (.iload_n 1, 1) := by decide +kernel
theorem dX12_ends_78 : decode cX12_ends 78 = .ok (.iaload, 1) := by decide +kernel
theorem dX12_ends_79 : decode cX12_ends 79 = .ok (.ifCond .lt 13, 3) := by decide +kernel
theorem dX12_ends_82 : decode cX12_ends 82 = .ok (.iload_n 3, 1) := by decide +kernel
theorem dX12_ends_83 : decode cX12_ends 83 = .ok (.aload_n 0, 1) := by decide +kernel
theorem dX12_ends_84 : decode cX12_ends 84 = .ok (.getfield 158, 3) := by decide +kernel
theorem dX12_ends_87 : decode cX12_ends 87 = .ok (.iload_n 1, 1) := by decide +kernel
theorem dX12_ends_88 : decode cX12_ends 88 = .ok (.iaload, 1) := by decide +kernel
theorem dX12_ends_89 : decode cX12_ends 89 = .ok (.if_icmp .ge 10, 3) := by decide +kernel
theorem dX12_ends_92 : decode cX12_ends 92 = .ok (.aload_n 0, 1) := by decide +kernel
theorem dX12_ends_93 : decode cX12_ends 93 = .ok (.getfield 158, 3) := by decide +kernel
theorem dX12_ends_96 : decode cX12_ends 96 = .ok (.iload_n 1, 1) := by decide +kernel
theorem dX12_ends_97 : decode cX12_ends 97 = .ok (.iload_n 3, 1) := by decide +kernel
theorem dX12_ends_98 : decode cX12_ends 98 = .ok (.iastore, 1) := by decide +kernel
theorem dX12_ends_99 : decode cX12_ends 99 = .ok (.return_, 1) := by decide +kernel
theorem dX12_findDevices_0 : decode cX12_findDevices 0 = .ok (.aload_n 0, 1) := by decide +kernel
theorem dX12_findDevices_1 : decode cX12_findDevices 1 = .ok (.iconst 0, 1) := by decide +kernel
theorem dX12_findDevices_2 : decode cX12_findDevices 2 = .ok (.putfield 377, 3) := by decide +kernel
theorem dX12_findDevices_5 : decode cX12_findDevices 5 = .ok (.aload_n 0, 1) := by decide +kernel
theorem dX12_findDevices_6 : decode cX12_findDevices 6 = .ok (.getfield 139, 3) := by decide +kernel
theorem dX12_findDevices_9 : decode cX12_findDevices 9 = .ok (.ifCond .ge 4, 3) := by decide +kernel
theorem dX12_findDevices_12 : decode cX12_findDevices 12 = .ok (.return_, 1) := by decide +kernel
theorem dX12_findDevices_13 : decode cX12_findDevices 13 = .ok (.aload_n 0, 1) := by decide +kernel
theorem dX12_findDevices_14 : decode cX12_findDevices 14 = .ok (.sipush 4096, 3) := by decide +kernel
theorem dX12_findDevices_17 : decode cX12_findDevices 17 = .ok (.aload_n 0, 1) := by decide +kernel
theorem dX12_findDevices_18 : decode cX12_findDevices 18 = .ok (.getfield 139, 3) := by decide +kernel
theorem dX12_findDevices_21 : decode cX12_findDevices 21 = .ok (.imul, 1) := by decide +kernel
theorem dX12_findDevices_22 : decode cX12_findDevices 22 = .ok (.aload_n 0, 1) := by decide +kernel
theorem dX12_findDevices_23 : decode cX12_findDevices 23 = .ok (.getfield 359, 3) := by decide +kernel
theorem dX12_findDevices_26 : decode cX12_findDevices 26 = .ok (.invokevirtual 281, 3) := by decide +kernel
theorem dX12_findDevices_29 : decode cX12_findDevices 29 = .ok (.aload_n 0, 1) := by decide +kernel
theorem dX12_findDevices_30 : decode cX12_findDevices 30 = .ok (.aload_n 0, 1) := by decide +kernel
theorem dX12_findDevices_31 : decode cX12_findDevices 31 = .ok (.getfield 291, 3) := by decide +kernel
theorem dX12_findDevices_34 : decode cX12_findDevices 34 = .ok (.putfield 377, 3) := by decide +kernel
theorem dX12_findDevices_37 : decode cX12_findDevices 37 = .ok (.iconst 0, 1) := by decide +kernel
theorem dX12_findDevices_38 : decode cX12_findDevices 38 = .ok (.istore_n 1, 1) := by decide +kernel
theorem dX12_findDevices_39 : decode cX12_findDevices 39 = .ok (.iload_n 1, 1) := by decide +kernel
theorem dX12_findDevices_40 : decode cX12_findDevices 40 = .ok (.aload_n 0, 1) := by decide +kernel
theorem dX12_findDevices_41 : decode cX12_findDevices 41 = .ok (.getfield 377, 3) := by decide +kernel
theorem dX12_findDevices_44 : decode cX12_findDevices 44 = .ok (.if_icmp .ge 77, 3) := by decide +kernel
theorem dX12_findDevices_47 : decode cX12_findDevices 47 = .ok (.aload_n 0, 1) := by decide +kernel
theorem dX12_findDevices_48 : decode cX12_findDevices 48 = .ok (.getfield 149, 3) := by decide +kernel
theorem dX12_findDevices_51 : decode cX12_findDevices 51 = .ok (.iload_n 1, 1) := by decide +kernel
theorem dX12_findDevices_52 : decode cX12_findDevices 52 = .ok (.aload_n 0, 1) := by decide +kernel
theorem dX12_findDevices_53 : decode cX12_findDevices 53 = .ok (.getfield 79, 3) := by decide +kernel
theorem dX12_findDevices_56 : decode cX12_findDevices 56 = .ok (.iload_n 1, 1) := by decide +kernel
theorem dX12_findDevices_57 : decode cX12_findDevices 57 = .ok (.iaload, 1) := by decide +kernel
theorem dX12_findDevices_58 : decode cX12_findDevices 58 = .ok (.iastore, 1) := by decide +kernel
theorem dX12_findDevices_59 : decode cX12_findDevices 59 = .ok (.aload_n 0, 1) := by decide +kernel
theorem dX12_findDevices_60 : decode cX12_findDevices 60 = .ok (.getfield 152, 3) := by decide +kernel
theorem dX12_findDevices_63 : decode cX12_findDevices 63 = .ok (.iload_n 1, 1) := by decide +kernel
theorem dX12_findDevices_64 : decode cX12_findDevices 64 = .ok (.aload_n 0, 1) := by decide +kernel
theorem dX12_findDevices_65 : decode cX12_findDevices 65 = .ok (.getfield 127, 3) := by decide +kernel
theorem dX12_findDevices_68 : decode cX12_findDevices 68 = .ok (.aload_n 0, 1) := by decide +kernel
theorem dX12_findDevices_69 : decode cX12_findDevices 69 = .ok (.getfield 139, 3) := by decide +kernel
theorem dX12_findDevices_72 : decode cX12_findDevices 72 = .ok (.baload, 1) := by decide +kernel
theorem dX12_findDevices_73 : decode cX12_findDevices 73 = .ok (.ifCond .eq 26, 3) := by decide +kernel
theorem dX12_findDevices_76 : decode cX12_findDevices 76 = .ok (.aload_n 0, 1) := by decide +kernel
theorem dX12_findDevices_77 : decode cX12_findDevices 77 = .ok (.getfield 143, 3) := by decide +kernel
theorem dX12_findDevices_80 : decode cX12_findDevices 80 = .ok (.sipush 4096, 3) := by decide +kernel
theorem dX12_findDevices_83 : decode cX12_findDevices 83 = .ok (.aload_n 0, 1) := by decide +kernel
theorem dX12_findDevices_84 : decode cX12_findDevices 84 = .ok (.getfield 139, 3) := by decide +kernel
theorem dX12_findDevices_87 : decode cX12_findDevices 87 = .ok (.imul, 1) := by decide +kernel
theorem dX12_findDevices_88 : decode cX12_findDevices 88 = .ok (.aload_n 0, 1) := by decide +kernel
theorem dX12_findDevices_89 : decode cX12_findDevices 89 = .ok (.getfield 85, 3) := by decide +kernel
theorem dX12_findDevices_92 : decode cX12_findDevices 92 = .ok (.iload_n 1, 1) := by decide +kernel
theorem dX12_findDevices_93 : decode cX12_findDevices 93 = .ok (.iaload, 1) := by decide +kernel
theorem dX12_findDevices_94 : decode cX12_findDevices 94 = .ok (.iadd, 1) := by decide +kernel
theorem dX12_findDevices_95 : decode cX12_findDevices 95 = .ok (.iaload, 1) := by decide +kernel
theorem dX12_findDevices_96 : decode cX12_findDevices 96 = .ok (.goto 4, 3) := by decide +kernel
theorem dX12_findDevices_99 : decode cX12_findDevices 99 = .ok (.iconst (-1), 1) := by decide +kernel
theorem dX12_findDevices_100 : decode cX12_findDevices 100 = .ok (.iastore, 1) := by decide +kernel
theorem dX12_findDevices_101 : decode cX12_findDevices 101 = .ok (.aload_n 0, 1) := by decide +kernel
theorem dX12_findDevices_102 : decode cX12_findDevices 102 = .ok (.getfield 155, 3) := by decide +kernel
theorem dX12_findDevices_105 : decode cX12_findDevices 105 = .ok (.iload_n 1, 1) := by decide +kernel
theorem dX12_findDevices_106 : decode cX12_findDevices 106 = .ok (.iconst (-1), 1) := by decide +kernel
theorem dX12_findDevices_107 : decode cX12_findDevices 107 = .ok (.iastore, 1) := by decide +kernel
theorem dX12_findDevices_108 : decode cX12_findDevices 108 = .ok (.aload_n 0, 1) := by decide +kernel
theorem dX12_findDevices_109 : decode cX12_findDevices 109 = .ok (.getfield 158, 3) := by decide +kernel
theorem dX12_findDevices_112 : decode cX12_findDevices 112 = .ok (.iload_n 1, 1) := by decide +kernel
theorem dX12_findDevices_113 : decode cX12_findDevices 113 = .ok (.iconst (-1), 1) := by decide +kernel
theorem dX12_findDevices_114 : decode cX12_findDevices 114 = .ok (.iastore, 1) := by decide +kernel
theorem dX12_findDevices_115 : decode cX12_findDevices 115 = .ok (.iinc 1 1, 3) := by decide +kernel
theorem dX12_findDevices_118 : decode cX12_findDevices 118 = .ok (.goto (-79), 3) := by decide +kernel
theorem dX12_findDevices_121 : decode cX12_findDevices 121 = .ok (.iconst 0, 1) := by decide +kernel
theorem dX12_findDevices_122 : decode cX12_findDevices 122 = .ok (.istore_n 1, 1) := by decide +kernel
theorem dX12_findDevices_123 : decode cX12_findDevices 123 = .ok (.iload_n 1, 1) := by decide +kernel
theorem dX12_findDevices_124 : decode cX12_findDevices 124 = .ok (.sipush 4096, 3) := by decide +kernel
theorem dX12_findDevices_127 : decode cX12_findDevices 127 = .ok (.if_icmp .ge 126, 3) := by decide +kernel
theorem dX12_findDevices_130 : decode cX12_findDevices 130 = .ok (.aload_n 0, 1) := by decide +kernel
theorem dX12_findDevices_131 : decode cX12_findDevices 131 = .ok (.getfield 76, 3) := by decide +kernel
theorem dX12_findDevices_134 : decode cX12_findDevices 134 = .ok (.iload_n 1, 1) := by decide +kernel
theorem dX12_findDevices_135 : decode cX12_findDevices 135 = .ok (.iaload, 1) := by decide +kernel
theorem dX12_findDevices_136 : decode cX12_findDevices 136 = .ok (.ifCond .ge 6, 3) := by decide +kernel
theorem dX12_findDevices_139 : decode cX12_findDevices 139 = .ok (.goto 108, 3) := by decide +kernel
theorem dX12_findDevices_142 : decode cX12_findDevices 142 = .ok (.sipush 4096, 3) := by decide +kernel
theorem dX12_findDevices_145 : decode cX12_findDevices 145 = .ok (.aload_n 0, 1) := by decide +kernel
theorem dX12_findDevices_146 : decode cX12_findDevices 146 = .ok (.getfield 362, 3) := by decide +kernel
theorem dX12_findDevices_149 : decode cX12_findDevices 149 = .ok (.imul, 1) := by decide +kernel
theorem dX12_findDevices_150 : decode cX12_findDevices 150 = .ok (.iload_n 1, 1) := by decide +kernel
theorem dX12_findDevices_151 : decode cX12_findDevices 151 = .ok (.iadd, 1) := by decide +kernel
theorem dX12_findDevices_152 : decode cX12_findDevices 152 = .ok (.istore_n 2, 1) := by decide +kernel
theorem dX12_findDevices_153 : decode cX12_findDevices 153 = .ok (.aload_n 0, 1) := by decide +kernel
theorem dX12_findDevices_154 : decode cX12_findDevices 154 = .ok (.aload_n 0, 1) := by decide +kernel
theorem dX12_findDevices_155 : decode cX12_findDevices 155 = .ok (.getfield 76, 3) := by decide +kernel
theorem dX12_findDevices_158 : decode cX12_findDevices 158 = .ok (.iload_n 1, 1) := by decide +kernel
theorem dX12_findDevices_159 : decode cX12_findDevices 159 = .ok (.iaload, 1) := by decide +kernel
theorem dX12_findDevices_160 : decode cX12_findDevices 160 = .ok (.iload_n 2, 1) := by decide +kernel
theorem dX12_findDevices_161 : decode cX12_findDevices 161 = .ok (.invokevirtual 380, 3) := by decide +kernel
theorem dX12_findDevices_164 : decode cX12_findDevices 164 = .ok (.iload_n 1, 1) := by decide +kernel
theorem dX12_findDevices_165 : decode cX12_findDevices 165 = .ok (.bipush 64, 2) := by decide +kernel
theorem dX12_findDevices_167 : decode cX12_findDevices 167 = .ok (.irem, 1) := by decide +kernel
theorem dX12_findDevices_168 : decode cX12_findDevices 168 = .ok (.ifCond .le 16, 3) := by decide +kernel
theorem dX12_findDevices_171 : decode cX12_findDevices 171 = .ok (.aload_n 0, 1) := by decide +kernel
theorem dX12_findDevices_172 : decode cX12_findDevices 172 = .ok (.aload_n 0, 1) := by decide +kernel
theorem dX12_findDevices_173 : decode cX12_findDevices 173 = .ok (.getfield 76, 3) := by decide +kernel
theorem dX12_findDevices_176 : decode cX12_findDevices 176 = .ok (.iload_n 1, 1) := by decide +kernel
theorem dX12_findDevices_177 : decode cX12_findDevices 177 = .ok (.iaload, 1) := by decide +kernel
theorem dX12_findDevices_178 : decode cX12_findDevices 178 = .ok (.iload_n 2, 1) := by decide +kernel
theorem dX12_findDevices_179 : decode cX12_findDevices 179 = .ok (.iconst 1, 1) := by decide +kernel
theorem dX12_findDevices_180 : decode cX12_findDevices 180 = .ok (.isub, 1) := by decide +kernel
theorem dX12_findDevices_181 : decode cX12_findDevices 181 = .ok (.invokevirtual 380, 3) := by decide +kernel
theorem dX12_findDevices_184 : decode cX12_findDevices 184 = .ok (.iload_n 1, 1) := by decide +kernel
theorem dX12_findDevices_185 : decode cX12_findDevices 185 = .ok (.bipush 64, 2) := by decide +kernel
theorem dX12_findDevices_187 : decode cX12_findDevices 187 = .ok (.irem, 1) := by decide +kernel
theorem dX12_findDevices_188 : decode cX12_findDevices 188 = .ok (.bipush 63, 2) := by decide +kernel
theorem dX12_findDevices_190 : decode cX12_findDevices 190 = .ok (.if_icmp .ge 16, 3) := by decide +kernel
theorem dX12_findDevices_193 : decode cX12_findDevices 193 = .ok (.aload_n 0, 1) := by decide +kernel
theorem dX12_findDevices_194 : decode cX12_findDevices 194 = .ok (.aload_n 0, 1) := by decide +kernel
theorem dX12_findDevices_195 : decode cX12_findDevices 195 = .ok (.getfield 76, 3) := by decide +kernel
theorem dX12_findDevices_198 : decode cX12_findDevices 198 = .ok (.iload_n 1, 1) := by decide +kernel
theorem dX12_findDevices_199 : decode cX12_findDevices 199 = .ok (.iaload, 1) := by decide +kernel
theorem dX12_findDevices_200 : decode cX12_findDevices 200 = .ok (.iload_n 2, 1) := by decide +kernel
theorem dX12_findDevices_201 : decode cX12_findDevices 201 = .ok (.iconst 1, 1) := by decide +kernel
theorem dX12_findDevices_202 : decode cX12_findDevices 202 = .ok (.iadd, 1) := by decide +kernel
theorem dX12_findDevices_203 : decode cX12_findDevices 203 = .ok (.invokevirtual 380, 3) := by decide +kernel
theorem dX12_findDevices_206 : decode cX12_findDevices 206 = .ok (.iload_n 1, 1) := by decide +kernel
theorem dX12_findDevices_207 : decode cX12_findDevices 207 = .ok (.bipush 64, 2) := by decide +kernel
theorem dX12_findDevices_209 : decode cX12_findDevices 209 = .ok (.if_icmp .lt 17, 3) := by decide +kernel
theorem dX12_findDevices_212 : decode cX12_findDevices 212 = .ok (.aload_n 0, 1) := by decide +kernel
theorem dX12_findDevices_213 : decode cX12_findDevices 213 = .ok (.aload_n 0, 1) := by decide +kernel
theorem dX12_findDevices_214 : decode cX12_findDevices 214 = .ok (.getfield 76, 3) := by decide +kernel
theorem dX12_findDevices_217 : decode cX12_findDevices 217 = .ok (.iload_n 1, 1) := by decide +kernel
theorem dX12_findDevices_218 : decode cX12_findDevices 218 = .ok (.iaload, 1) := by decide +kernel
theorem dX12_findDevices_219 : decode cX12_findDevices 219 = .ok (.iload_n 2, 1) := by decide +kernel
theorem dX12_findDevices_220 : decode cX12_findDevices 220 = .ok (.bipush 64, 2) := by decide +kernel
theorem dX12_findDevices_222 : decode cX12_findDevices 222 = .ok (.isub, 1) := by decide +kernel
theorem dX12_findDevices_223 : decode cX12_findDevices 223 = .ok (.invokevirtual 380, 3) := by decide +kernel
theorem dX12_findDevices_226 : decode cX12_findDevices 226 = .ok (.iload_n 1, 1) := by decide +kernel
theorem dX12_findDevices_227 : decode cX12_findDevices 227 = .ok (.sipush 4032, 3) := by decide +kernel
theorem dX12_findDevices_230 : decode cX12_findDevices 230 = .ok (.if_icmp .ge 17, 3) := by decide +kernel
theorem dX12_findDevices_233 : decode cX12_findDevices 233 = .ok (.aload_n 0, 1) := by decide +kernel
theorem dX12_findDevices_234 : decode cX12_findDevices 234 = .ok (.aload_n 0, 1) := by decide +kernel
theorem dX12_findDevices_235 : decode cX12_findDevices 235 = .ok (.getfield 76, 3) := by decide +kernel
theorem dX12_findDevices_238 : decode cX12_findDevices 238 = .ok (.iload_n 1, 1) := by decide +kernel
theorem dX12_findDevices_239 : decode cX12_findDevices 239 = .ok (.iaload, 1) := by decide +kernel
theorem dX12_findDevices_240 : decode cX12_findDevices 240 = .ok (.iload_n 2, 1) := by decide +kernel
theorem dX12_findDevices_241 : decode cX12_findDevices 241 = .ok (.bipush 64, 2) := by decide +kernel
theorem dX12_findDevices_243 : decode cX12_findDevices 243 = .ok (.iadd, 1) := by decide +kernel
theorem dX12_findDevices_244 : decode cX12_findDevices 244 = .ok (.invokevirtual 380, 3) := by decide +kernel
theorem dX12_findDevices_247 : decode cX12_findDevices 247 = .ok (.iinc 1 1, 3) := by decide +kernel
theorem dX12_findDevices_250 : decode cX12_findDevices 250 = .ok (.goto (-127), 3) := by decide +kernel
theorem dX12_findDevices_253 : decode cX12_findDevices 253 = .ok (.return_, 1) := by decide +kernel
theorem dX12_circuit_0 : decode cX12_circuit 0 = .ok (.aload_n 0, 1) := by decide +kernel
theorem dX12_circuit_1 : decode cX12_circuit 1 = .ok (.getfield 304, 3) := by decide +kernel
theorem dX12_circuit_4 : decode cX12_circuit 4 = .ok (.ifCond .ne 10, 3) := by decide +kernel
theorem dX12_circuit_7 : decode cX12_circuit 7 = .ok (.aload_n 0, 1) := by decide +kernel
theorem dX12_circuit_8 : decode cX12_circuit 8 = .ok (.bipush (-2), 2) := by decide +kernel
theorem dX12_circuit_10 : decode cX12_circuit 10 = .ok (.invokevirtual 191, 3) := by decide +kernel
theorem dX12_circuit_13 : decode cX12_circuit 13 = .ok (.ireturn, 1) := by decide +kernel
theorem dX12_circuit_14 : decode cX12_circuit 14 = .ok (.aload_n 0, 1) := by decide +kernel
theorem dX12_circuit_15 : decode cX12_circuit 15 = .ok (.getfield 139, 3) := by decide +kernel
theorem dX12_circuit_18 : decode cX12_circuit 18 = .ok (.ifCond .lt 22, 3) := by decide +kernel
theorem dX12_circuit_21 : decode cX12_circuit 21 = .ok (.aload_n 0, 1) := by decide +kernel
theorem dX12_circuit_22 : decode cX12_circuit 22 = .ok (.getfield 124, 3) := by decide +kernel
theorem dX12_circuit_25 : decode cX12_circuit 25 = .ok (.aload_n 0, 1) := by decide +kernel
theorem dX12_circuit_26 : decode cX12_circuit 26 = .ok (.getfield 362, 3) := by decide +kernel
theorem dX12_circuit_29 : decode cX12_circuit 29 = .ok (.baload, 1) := by decide +kernel
theorem dX12_circuit_30 : decode cX12_circuit 30 = .ok (.ifCond .ne 10, 3) := by decide +kernel
theorem dX12_circuit_33 : decode cX12_circuit 33 = .ok (.aload_n 0, 1) := by decide +kernel
theorem dX12_circuit_34 : decode cX12_circuit 34 = .ok (.bipush (-7), 2) := by decide +kernel
theorem dX12_circuit_36 : decode cX12_circuit 36 = .ok (.invokevirtual 191, 3) := by decide +kernel
theorem dX12_circuit_39 : decode cX12_circuit 39 = .ok (.ireturn, 1) := by decide +kernel
theorem dX12_circuit_40 : decode cX12_circuit 40 = .ok (.iconst 0, 1) := by decide +kernel
theorem dX12_circuit_41 : decode cX12_circuit 41 = .ok (.istore_n 1, 1) := by decide +kernel
theorem dX12_circuit_42 : decode cX12_circuit 42 = .ok (.iload_n 1, 1) := by decide +kernel
theorem dX12_circuit_43 : decode cX12_circuit 43 = .ok (.bipush 16, 2) := by decide +kernel
theorem dX12_circuit_45 : decode cX12_circuit 45 = .ok (.if_icmp .ge 21, 3) := by decide +kernel
theorem dX12_circuit_48 : decode cX12_circuit 48 = .ok (.aload_n 0, 1) := by decide +kernel
theorem dX12_circuit_49 : decode cX12_circuit 49 = .ok (.getfield 127, 3) := by decide +kernel
theorem dX12_circuit_52 : decode cX12_circuit 52 = .ok (.iload_n 1, 1) := by decide +kernel
theorem dX12_circuit_53 : decode cX12_circuit 53 = .ok (.aload_n 0, 1) := by decide +kernel
theorem dX12_circuit_54 : decode cX12_circuit 54 = .ok (.getfield 124, 3) := by decide +kernel
theorem dX12_circuit_57 : decode cX12_circuit 57 = .ok (.iload_n 1, 1) := by decide +kernel
theorem dX12_circuit_58 : decode cX12_circuit 58 = .ok (.baload, 1) := by decide +kernel
theorem dX12_circuit_59 : decode cX12_circuit 59 = .ok (.bastore, 1) := by decide +kernel
theorem dX12_circuit_60 : decode cX12_circuit 60 = .ok (.iinc 1 1, 3) := by decide +kernel
theorem dX12_circuit_63 : decode cX12_circuit 63 = .ok (.goto (-21), 3) := by decide +kernel
theorem dX12_circuit_66 : decode cX12_circuit 66 = .ok (.aload_n 0, 1) := by decide +kernel
theorem dX12_circuit_67 : decode cX12_circuit 67 = .ok (.invokevirtual 383, 3) := by decide +kernel
theorem dX12_circuit_70 : decode cX12_circuit 70 = .ok (.aload_n 0, 1) := by decide +kernel
theorem dX12_circuit_71 : decode cX12_circuit 71 = .ok (.invokevirtual 386, 3) := by decide +kernel
theorem dX12_circuit_74 : decode cX12_circuit 74 = .ok (.aload_n 0, 1) := by decide +kernel
theorem dX12_circuit_75 : decode cX12_circuit 75 = .ok (.iconst 1, 1) := by decide +kernel
theorem dX12_circuit_76 : decode cX12_circuit 76 = .ok (.putfield 311, 3) := by decide +kernel
theorem dX12_circuit_79 : decode cX12_circuit 79 = .ok (.aload_n 0, 1) := by decide +kernel
theorem dX12_circuit_80 : decode cX12_circuit 80 = .ok (.iconst 0, 1) := by decide +kernel
theorem dX12_circuit_81 : decode cX12_circuit 81 = .ok (.putfield 314, 3) := by decide +kernel
theorem dX12_circuit_84 : decode cX12_circuit 84 = .ok (.aload_n 0, 1) := by decide +kernel
theorem dX12_circuit_85 : decode cX12_circuit 85 = .ok (.getfield 365, 3) := by decide +kernel
theorem dX12_circuit_88 : decode cX12_circuit 88 = .ok (.ireturn, 1) := by decide +kernel
theorem dX12_net_0 : decode cX12_net 0 = .ok (.iload_n 1, 1) := by decide +kernel
theorem dX12_net_1 : decode cX12_net 1 = .ok (.invokestatic 216, 3) := by decide +kernel
theorem dX12_net_4 : decode cX12_net 4 = .ok (.ifCond .eq 10, 3) := by decide +kernel
theorem dX12_net_7 : decode cX12_net 7 = .ok (.iload_n 2, 1) := by decide +kernel
theorem dX12_net_8 : decode cX12_net 8 = .ok (.invokestatic 205, 3) := by decide +kernel
theorem dX12_net_11 : decode cX12_net 11 = .ok (.ifCond .ne 10, 3) := by decide +kernel
theorem dX12_net_14 : decode cX12_net 14 = .ok (.aload_n 0, 1) := by decide +kernel
theorem dX12_net_15 : decode cX12_net 15 = .ok (.bipush (-3), 2) := by decide +kernel
theorem dX12_net_17 : decode cX12_net 17 = .ok (.invokevirtual 191, 3) := by decide +kernel
theorem dX12_net_20 : decode cX12_net 20 = .ok (.ireturn, 1) := by decide +kernel
theorem dX12_net_21 : decode cX12_net 21 = .ok (.aload_n 0, 1) := by decide +kernel
theorem dX12_net_22 : decode cX12_net 22 = .ok (.getfield 311, 3) := by decide +kernel
theorem dX12_net_25 : decode cX12_net 25 = .ok (.ifCond .ne 10, 3) := by decide +kernel
theorem dX12_net_28 : decode cX12_net 28 = .ok (.aload_n 0, 1) := by decide +kernel
theorem dX12_net_29 : decode cX12_net 29 = .ok (.bipush (-2), 2) := by decide +kernel
theorem dX12_net_31 : decode cX12_net 31 = .ok (.invokevirtual 191, 3) := by decide +kernel
theorem dX12_net_34 : decode cX12_net 34 = .ok (.ireturn, 1) := by decide +kernel
theorem dX12_net_35 : decode cX12_net 35 = .ok (.aload_n 0, 1) := by decide +kernel
theorem dX12_net_36 : decode cX12_net 36 = .ok (.getfield 127, 3) := by decide +kernel
theorem dX12_net_39 : decode cX12_net 39 = .ok (.iload_n 1, 1) := by decide +kernel
theorem dX12_net_40 : decode cX12_net 40 = .ok (.baload, 1) := by decide +kernel
theorem dX12_net_41 : decode cX12_net 41 = .ok (.ifCond .eq 18, 3) := by decide +kernel
theorem dX12_net_44 : decode cX12_net 44 = .ok (.aload_n 0, 1) := by decide +kernel
theorem dX12_net_45 : decode cX12_net 45 = .ok (.getfield 143, 3) := by decide +kernel
theorem dX12_net_48 : decode cX12_net 48 = .ok (.sipush 4096, 3) := by decide +kernel
theorem dX12_net_51 : decode cX12_net 51 = .ok (.iload_n 1, 1) := by decide +kernel
theorem dX12_net_52 : decode cX12_net 52 = .ok (.imul, 1) := by decide +kernel
theorem dX12_net_53 : decode cX12_net 53 = .ok (.iload_n 2, 1) := by decide +kernel
theorem dX12_net_54 : decode cX12_net 54 = .ok (.iadd, 1) := by decide +kernel
theorem dX12_net_55 : decode cX12_net 55 = .ok (.iaload, 1) := by decide +kernel
theorem dX12_net_56 : decode cX12_net 56 = .ok (.goto 9, 3) := by decide +kernel
theorem dX12_net_59 : decode cX12_net 59 = .ok (.aload_n 0, 1) := by decide +kernel
theorem dX12_net_60 : decode cX12_net 60 = .ok (.bipush (-7), 2) := by decide +kernel
theorem dX12_net_62 : decode cX12_net 62 = .ok (.invokevirtual 191, 3) := by decide +kernel
theorem dX12_net_65 : decode cX12_net 65 = .ok (.ireturn, 1) := by decide +kernel
theorem dX12_name_0 : decode cX12_name 0 = .ok (.aload_n 0, 1) := by decide +kernel
theorem dX12_name_1 : decode cX12_name 1 = .ok (.getfield 311, 3) := by decide +kernel
theorem dX12_name_4 : decode cX12_name 4 = .ok (.ifCond .ne 10, 3) := by decide +kernel
theorem dX12_name_7 : decode cX12_name 7 = .ok (.aload_n 0, 1) := by decide +kernel
theorem dX12_name_8 : decode cX12_name 8 = .ok (.bipush (-2), 2) := by decide +kernel
theorem dX12_name_10 : decode cX12_name 10 = .ok (.invokevirtual 191, 3) := by decide +kernel
theorem dX12_name_13 : decode cX12_name 13 = .ok (.ireturn, 1) := by decide +kernel
theorem dX12_name_14 : decode cX12_name 14 = .ok (.iload_n 1, 1) := by decide +kernel
theorem dX12_name_15 : decode cX12_name 15 = .ok (.i2l, 1) := by decide +kernel
theorem dX12_name_16 : decode cX12_name 16 = .ok (.lconst 0, 1) := by decide +kernel
theorem dX12_name_17 : decode cX12_name 17 = .ok (.aload_n 0, 1) := by decide +kernel
theorem dX12_name_18 : decode cX12_name 18 = .ok (.getfield 365, 3) := by decide +kernel
theorem dX12_name_21 : decode cX12_name 21 = .ok (.iconst 1, 1) := by decide +kernel
theorem dX12_name_22 : decode cX12_name 22 = .ok (.isub, 1) := by decide +kernel
theorem dX12_name_23 : decode cX12_name 23 = .ok (.i2l, 1) := by decide +kernel
theorem dX12_name_24 : decode cX12_name 24 = .ok (.invokestatic 201, 3) := by decide +kernel
theorem dX12_name_27 : decode cX12_name 27 = .ok (.ifCond .ne 10, 3) := by decide +kernel
theorem dX12_name_30 : decode cX12_name 30 = .ok (.aload_n 0, 1) := by decide +kernel
theorem dX12_name_31 : decode cX12_name 31 = .ok (.bipush (-3), 2) := by decide +kernel
theorem dX12_name_33 : decode cX12_name 33 = .ok (.invokevirtual 191, 3) := by decide +kernel
theorem dX12_name_36 : decode cX12_name 36 = .ok (.ireturn, 1) := by decide +kernel
theorem dX12_name_37 : decode cX12_name 37 = .ok (.iload_n 2, 1) := by decide +kernel
theorem dX12_name_38 : decode cX12_name 38 = .ok (.ifCond .ge 10, 3) := by decide +kernel
theorem dX12_name_41 : decode cX12_name 41 = .ok (.aload_n 0, 1) := by decide +kernel
theorem dX12_name_42 : decode cX12_name 42 = .ok (.bipush (-4), 2) := by decide +kernel
theorem dX12_name_44 : decode cX12_name 44 = .ok (.invokevirtual 191, 3) := by decide +kernel
theorem dX12_name_47 : decode cX12_name 47 = .ok (.ireturn, 1) := by decide +kernel
theorem dX12_name_48 : decode cX12_name 48 = .ok (.iload_n 2, 1) := by decide +kernel
theorem dX12_name_49 : decode cX12_name 49 = .ok (.istore_n 3, 1) := by decide +kernel
theorem dX12_name_50 : decode cX12_name 50 = .ok (.iconst 0, 1) := by decide +kernel
theorem dX12_name_51 : decode cX12_name 51 = .ok (.istore 4, 2) := by decide +kernel
theorem dX12_name_53 : decode cX12_name 53 = .ok (.iload 4, 2) := by decide +kernel
theorem dX12_name_55 : decode cX12_name 55 = .ok (.aload_n 0, 1) := by decide +kernel
theorem dX12_name_56 : decode cX12_name 56 = .ok (.getfield 301, 3) := by decide +kernel
theorem dX12_name_59 : decode cX12_name 59 = .ok (.if_icmp .ge 55, 3) := by decide +kernel
theorem dX12_name_62 : decode cX12_name 62 = .ok (.aload_n 0, 1) := by decide +kernel
theorem dX12_name_63 : decode cX12_name 63 = .ok (.getfield 143, 3) := by decide +kernel
theorem dX12_name_66 : decode cX12_name 66 = .ok (.sipush 4096, 3) := by decide +kernel
theorem dX12_name_69 : decode cX12_name 69 = .ok (.aload_n 0, 1) := by decide +kernel
theorem dX12_name_70 : decode cX12_name 70 = .ok (.getfield 67, 3) := by decide +kernel
theorem dX12_name_73 : decode cX12_name 73 = .ok (.iload 4, 2) := by decide +kernel
theorem dX12_name_75 : decode cX12_name 75 = .ok (.iaload, 1) := by decide +kernel
theorem dX12_name_76 : decode cX12_name 76 = .ok (.imul, 1) := by decide +kernel
theorem dX12_name_77 : decode cX12_name 77 = .ok (.aload_n 0, 1) := by decide +kernel
theorem dX12_name_78 : decode cX12_name 78 = .ok (.getfield 70, 3) := by decide +kernel
theorem dX12_name_81 : decode cX12_name 81 = .ok (.iload 4, 2) := by decide +kernel
theorem dX12_name_83 : decode cX12_name 83 = .ok (.iaload, 1) := by decide +kernel
theorem dX12_name_84 : decode cX12_name 84 = .ok (.iadd, 1) := by decide +kernel
theorem dX12_name_85 : decode cX12_name 85 = .ok (.iaload, 1) := by decide +kernel
theorem dX12_name_86 : decode cX12_name 86 = .ok (.iload_n 1, 1) := by decide +kernel
theorem dX12_name_87 : decode cX12_name 87 = .ok (.if_icmp .eq 6, 3) := by decide +kernel
theorem dX12_name_90 : decode cX12_name 90 = .ok (.goto 18, 3) := by decide +kernel
theorem dX12_name_93 : decode cX12_name 93 = .ok (.iload_n 3, 1) := by decide +kernel
theorem dX12_name_94 : decode cX12_name 94 = .ok (.ifCond .ne 11, 3) := by decide +kernel
theorem dX12_name_97 : decode cX12_name 97 = .ok (.aload_n 0, 1) := by decide +kernel
theorem dX12_name_98 : decode cX12_name 98 = .ok (.getfield 73, 3) := by decide +kernel
theorem dX12_name_101 : decode cX12_name 101 = .ok (.iload 4, 2) := by decide +kernel
theorem dX12_name_103 : decode cX12_name 103 = .ok (.iaload, 1) := by decide +kernel
theorem dX12_name_104 : decode cX12_name 104 = .ok (.ireturn, 1) := by decide +kernel
theorem dX12_name_105 : decode cX12_name 105 = .ok (.iinc 3 (-1), 3) := by decide +kernel
theorem dX12_name_108 : decode cX12_name 108 = .ok (.iinc 4 1, 3) := by decide +kernel
theorem dX12_name_111 : decode cX12_name 111 = .ok (.goto (-58), 3) := by decide +kernel
theorem dX12_name_114 : decode cX12_name 114 = .ok (.iconst (-1), 1) := by decide +kernel
theorem dX12_name_115 : decode cX12_name 115 = .ok (.ireturn, 1) := by decide +kernel
theorem dX12_device_0 : decode cX12_device 0 = .ok (.aload_n 0, 1) := by decide +kernel
theorem dX12_device_1 : decode cX12_device 1 = .ok (.getfield 311, 3) := by decide +kernel
theorem dX12_device_4 : decode cX12_device 4 = .ok (.ifCond .ne 10, 3) := by decide +kernel
theorem dX12_device_7 : decode cX12_device 7 = .ok (.aload_n 0, 1) := by decide +kernel
theorem dX12_device_8 : decode cX12_device 8 = .ok (.bipush (-2), 2) := by decide +kernel
theorem dX12_device_10 : decode cX12_device 10 = .ok (.invokevirtual 191, 3) := by decide +kernel
theorem dX12_device_13 : decode cX12_device 13 = .ok (.ireturn, 1) := by decide +kernel
theorem dX12_device_14 : decode cX12_device 14 = .ok (.iload_n 1, 1) := by decide +kernel
theorem dX12_device_15 : decode cX12_device 15 = .ok (.iconst (-1), 1) := by decide +kernel
theorem dX12_device_16 : decode cX12_device 16 = .ok (.if_icmp .ne 8, 3) := by decide +kernel
theorem dX12_device_19 : decode cX12_device 19 = .ok (.aload_n 0, 1) := by decide +kernel
theorem dX12_device_20 : decode cX12_device 20 = .ok (.getfield 377, 3) := by decide +kernel
theorem dX12_device_23 : decode cX12_device 23 = .ok (.ireturn, 1) := by decide +kernel
theorem dX12_device_24 : decode cX12_device 24 = .ok (.iload_n 1, 1) := by decide +kernel
theorem dX12_device_25 : decode cX12_device 25 = .ok (.i2l, 1) := by decide +kernel
theorem dX12_device_26 : decode cX12_device 26 = .ok (.lconst 0, 1) := by decide +kernel
theorem dX12_device_27 : decode cX12_device 27 = .ok (.aload_n 0, 1) := by decide +kernel
theorem dX12_device_28 : decode cX12_device 28 = .ok (.getfield 377, 3) := by decide +kernel
theorem dX12_device_31 : decode cX12_device 31 = .ok (.iconst 1, 1) := by decide +kernel
theorem dX12_device_32 : decode cX12_device 32 = .ok (.isub, 1) := by decide +kernel
theorem dX12_device_33 : decode cX12_device 33 = .ok (.i2l, 1) := by decide +kernel
theorem dX12_device_34 : decode cX12_device 34 = .ok (.invokestatic 201, 3) := by decide +kernel
theorem dX12_device_37 : decode cX12_device 37 = .ok (.ifCond .ne 10, 3) := by decide +kernel
theorem dX12_device_40 : decode cX12_device 40 = .ok (.aload_n 0, 1) := by decide +kernel
theorem dX12_device_41 : decode cX12_device 41 = .ok (.bipush (-3), 2) := by decide +kernel
theorem dX12_device_43 : decode cX12_device 43 = .ok (.invokevirtual 191, 3) := by decide +kernel
theorem dX12_device_46 : decode cX12_device 46 = .ok (.ireturn, 1) := by decide +kernel
theorem dX12_device_47 : decode cX12_device 47 = .ok (.iload_n 2, 1) := by decide +kernel
theorem dX12_device_48 : decode cX12_device 48 = .ok (.tableswitch 60 0 3 #[32, 39, 46, 53], 32) := by decide +kernel
theorem dX12_device_80 : decode cX12_device 80 = .ok (.aload_n 0, 1) := by decide +kernel
theorem dX12_device_81 : decode cX12_device 81 = .ok (.getfield 149, 3) := by decide +kernel
theorem dX12_device_84 : decode cX12_device 84 = .ok (.iload_n 1, 1) := by decide +kernel
theorem dX12_device_85 : decode cX12_device 85 = .ok (.iaload, 1) := by decide +kernel
theorem dX12_device_86 : decode cX12_device 86 = .ok (.ireturn, 1) := by decide +kernel
theorem dX12_device_87 : decode cX12_device 87 = .ok (.aload_n 0, 1) := by decide +kernel
theorem dX12_device_88 : decode cX12_device 88 = .ok (.getfield 152, 3) := by decide +kernel
theorem dX12_device_91 : decode cX12_device 91 = .ok (.iload_n 1, 1) := by decide +kernel
theorem dX12_device_92 : decode cX12_device 92 = .ok (.iaload, 1) := by decide +kernel
theorem dX12_device_93 : decode cX12_device 93 = .ok (.ireturn, 1) := by decide +kernel
theorem dX12_device_94 : decode cX12_device 94 = .ok (.aload_n 0, 1) := by decide +kernel
theorem dX12_device_95 : decode cX12_device 95 = .ok (.getfield 155, 3) := by decide +kernel
theorem dX12_device_98 : decode cX12_device 98 = .ok (.iload_n 1, 1) := by decide +kernel
theorem dX12_device_99 : decode cX12_device 99 = .ok (.iaload, 1) := by decide +kernel
theorem dX12_device_100 : decode cX12_device 100 = .ok (.ireturn, 1) := by decide +kernel
theorem dX12_device_101 : decode cX12_device 101 = .ok (.aload_n 0, 1) := by decide +kernel
theorem dX12_device_102 : decode cX12_device 102 = .ok (.getfield 158, 3) := by decide +kernel
theorem dX12_device_105 : decode cX12_device 105 = .ok (.iload_n 1, 1) := by decide +kernel
theorem dX12_device_106 : decode cX12_device 106 = .ok (.iaload, 1) := by decide +kernel
theorem dX12_device_107 : decode cX12_device 107 = .ok (.ireturn, 1) := by decide +kernel
theorem dX12_device_108 : decode cX12_device 108 = .ok (.aload_n 0, 1) := by decide +kernel
theorem dX12_device_109 : decode cX12_device 109 = .ok (.bipush (-7), 2) := by decide +kernel
theorem dX12_device_111 : decode cX12_device 111 = .ok (.invokevirtual 191, 3) := by decide +kernel
theorem dX12_device_114 : decode cX12_device 114 = .ok (.ireturn, 1) := by decide +kernel
theorem dX12_wish_0 : decode cX12_wish 0 = .ok (.iload_n 1, 1) := by decide +kernel
theorem dX12_wish_1 : decode cX12_wish 1 = .ok (.i2l, 1) := by decide +kernel
theorem dX12_wish_2 : decode cX12_wish 2 = .ok (.lconst 0, 1) := by decide +kernel
theorem dX12_wish_3 : decode cX12_wish 3 = .ok (.ldc2_w 389, 3) := by decide +kernel
theorem dX12_wish_6 : decode cX12_wish 6 = .ok (.invokestatic 201, 3) := by decide +kernel
theorem dX12_wish_9 : decode cX12_wish 9 = .ok (.ifCond .eq 15, 3) := by decide +kernel
theorem dX12_wish_12 : decode cX12_wish 12 = .ok (.iload_n 2, 1) := by decide +kernel
theorem dX12_wish_13 : decode cX12_wish 13 = .ok (.i2l, 1) := by decide +kernel
theorem dX12_wish_14 : decode cX12_wish 14 = .ok (.lconst 0, 1) := by decide +kernel
theorem dX12_wish_15 : decode cX12_wish 15 = .ok (.ldc2_w 326, 3) := by decide +kernel
theorem dX12_wish_18 : decode cX12_wish 18 = .ok (.invokestatic 201, 3) := by decide +kernel
theorem dX12_wish_21 : decode cX12_wish 21 = .ok (.ifCond .ne 10, 3) := by decide +kernel
theorem dX12_wish_24 : decode cX12_wish 24 = .ok (.aload_n 0, 1) := by decide +kernel
theorem dX12_wish_25 : decode cX12_wish 25 = .ok (.bipush (-7), 2) := by decide +kernel
theorem dX12_wish_27 : decode cX12_wish 27 = .ok (.invokevirtual 191, 3) := by decide +kernel
theorem dX12_wish_30 : decode cX12_wish 30 = .ok (.ireturn, 1) := by decide +kernel
theorem dX12_wish_31 : decode cX12_wish 31 = .ok (.aload_n 0, 1) := by decide +kernel
theorem dX12_wish_32 : decode cX12_wish 32 = .ok (.getfield 391, 3) := by decide +kernel
theorem dX12_wish_35 : decode cX12_wish 35 = .ok (.bipush 12, 2) := by decide +kernel
theorem dX12_wish_37 : decode cX12_wish 37 = .ok (.if_icmp .ne 10, 3) := by decide +kernel
theorem dX12_wish_40 : decode cX12_wish 40 = .ok (.aload_n 0, 1) := by decide +kernel
theorem dX12_wish_41 : decode cX12_wish 41 = .ok (.bipush (-8), 2) := by decide +kernel
theorem dX12_wish_43 : decode cX12_wish 43 = .ok (.invokevirtual 191, 3) := by decide +kernel
theorem dX12_wish_46 : decode cX12_wish 46 = .ok (.ireturn, 1) := by decide +kernel
theorem dX12_wish_47 : decode cX12_wish 47 = .ok (.aload_n 0, 1) := by decide +kernel
theorem dX12_wish_48 : decode cX12_wish 48 = .ok (.getfield 161, 3) := by decide +kernel
theorem dX12_wish_51 : decode cX12_wish 51 = .ok (.aload_n 0, 1) := by decide +kernel
theorem dX12_wish_52 : decode cX12_wish 52 = .ok (.getfield 391, 3) := by decide +kernel
theorem dX12_wish_55 : decode cX12_wish 55 = .ok (.iload_n 1, 1) := by decide +kernel
theorem dX12_wish_56 : decode cX12_wish 56 = .ok (.sipush 576, 3) := by decide +kernel
theorem dX12_wish_59 : decode cX12_wish 59 = .ok (.idiv, 1) := by decide +kernel
theorem dX12_wish_60 : decode cX12_wish 60 = .ok (.iastore, 1) := by decide +kernel
theorem dX12_wish_61 : decode cX12_wish 61 = .ok (.aload_n 0, 1) := by decide +kernel
theorem dX12_wish_62 : decode cX12_wish 62 = .ok (.getfield 164, 3) := by decide +kernel
theorem dX12_wish_65 : decode cX12_wish 65 = .ok (.aload_n 0, 1) := by decide +kernel
theorem dX12_wish_66 : decode cX12_wish 66 = .ok (.getfield 391, 3) := by decide +kernel
theorem dX12_wish_69 : decode cX12_wish 69 = .ok (.iload_n 1, 1) := by decide +kernel
theorem dX12_wish_70 : decode cX12_wish 70 = .ok (.bipush 24, 2) := by decide +kernel
theorem dX12_wish_72 : decode cX12_wish 72 = .ok (.idiv, 1) := by decide +kernel
theorem dX12_wish_73 : decode cX12_wish 73 = .ok (.bipush 24, 2) := by decide +kernel
theorem dX12_wish_75 : decode cX12_wish 75 = .ok (.irem, 1) := by decide +kernel
theorem dX12_wish_76 : decode cX12_wish 76 = .ok (.iastore, 1) := by decide +kernel
theorem dX12_wish_77 : decode cX12_wish 77 = .ok (.aload_n 0, 1) := by decide +kernel
theorem dX12_wish_78 : decode cX12_wish 78 = .ok (.getfield 167, 3) := by decide +kernel
theorem dX12_wish_81 : decode cX12_wish 81 = .ok (.aload_n 0, 1) := by decide +kernel
theorem dX12_wish_82 : decode cX12_wish 82 = .ok (.getfield 391, 3) := by decide +kernel
theorem dX12_wish_85 : decode cX12_wish 85 = .ok (.iload_n 1, 1) := by decide +kernel
theorem dX12_wish_86 : decode cX12_wish 86 = .ok (.bipush 24, 2) := by decide +kernel
theorem dX12_wish_88 : decode cX12_wish 88 = .ok (.irem, 1) := by decide +kernel
theorem dX12_wish_89 : decode cX12_wish 89 = .ok (.iastore, 1) := by decide +kernel
theorem dX12_wish_90 : decode cX12_wish 90 = .ok (.aload_n 0, 1) := by decide +kernel
theorem dX12_wish_91 : decode cX12_wish 91 = .ok (.getfield 170, 3) := by decide +kernel
theorem dX12_wish_94 : decode cX12_wish 94 = .ok (.aload_n 0, 1) := by decide +kernel
theorem dX12_wish_95 : decode cX12_wish 95 = .ok (.getfield 391, 3) := by decide +kernel
theorem dX12_wish_98 : decode cX12_wish 98 = .ok (.iload_n 2, 1) := by decide +kernel
theorem dX12_wish_99 : decode cX12_wish 99 = .ok (.iastore, 1) := by decide +kernel
theorem dX12_wish_100 : decode cX12_wish 100 = .ok (.aload_n 0, 1) := by decide +kernel
theorem dX12_wish_101 : decode cX12_wish 101 = .ok (.dup, 1) := by decide +kernel
theorem dX12_wish_102 : decode cX12_wish 102 = .ok (.getfield 391, 3) := by decide +kernel
theorem dX12_wish_105 : decode cX12_wish 105 = .ok (.iconst 1, 1) := by decide +kernel
theorem dX12_wish_106 : decode cX12_wish 106 = .ok (.iadd, 1) := by decide +kernel
theorem dX12_wish_107 : decode cX12_wish 107 = .ok (.putfield 391, 3) := by decide +kernel
theorem dX12_wish_110 : decode cX12_wish 110 = .ok (.aload_n 0, 1) := by decide +kernel
theorem dX12_wish_111 : decode cX12_wish 111 = .ok (.iconst 0, 1) := by decide +kernel
theorem dX12_wish_112 : decode cX12_wish 112 = .ok (.putfield 314, 3) := by decide +kernel
theorem dX12_wish_115 : decode cX12_wish 115 = .ok (.aload_n 0, 1) := by decide +kernel
theorem dX12_wish_116 : decode cX12_wish 116 = .ok (.getfield 391, 3) := by decide +kernel
theorem dX12_wish_119 : decode cX12_wish 119 = .ok (.iconst 1, 1) := by decide +kernel
theorem dX12_wish_120 : decode cX12_wish 120 = .ok (.isub, 1) := by decide +kernel
theorem dX12_wish_121 : decode cX12_wish 121 = .ok (.ireturn, 1) := by decide +kernel
theorem dX12_unwish_0 : decode cX12_unwish 0 = .ok (.aload_n 0, 1) := by decide +kernel
theorem dX12_unwish_1 : decode cX12_unwish 1 = .ok (.getfield 391, 3) := by decide +kernel
theorem dX12_unwish_4 : decode cX12_unwish 4 = .ok (.istore_n 1, 1) := by decide +kernel
theorem dX12_unwish_5 : decode cX12_unwish 5 = .ok (.aload_n 0, 1) := by decide +kernel
theorem dX12_unwish_6 : decode cX12_unwish 6 = .ok (.iconst 0, 1) := by decide +kernel
theorem dX12_unwish_7 : decode cX12_unwish 7 = .ok (.putfield 391, 3) := by decide +kernel
theorem dX12_unwish_10 : decode cX12_unwish 10 = .ok (.aload_n 0, 1) := by decide +kernel
theorem dX12_unwish_11 : decode cX12_unwish 11 = .ok (.iconst 0, 1) := by decide +kernel
theorem dX12_unwish_12 : decode cX12_unwish 12 = .ok (.putfield 314, 3) := by decide +kernel
theorem dX12_unwish_15 : decode cX12_unwish 15 = .ok (.iload_n 1, 1) := by decide +kernel
theorem dX12_unwish_16 : decode cX12_unwish 16 = .ok (.ireturn, 1) := by decide +kernel
theorem dX12_pairsUpTo_0 : decode cX12_pairsUpTo 0 = .ok (.iconst 0, 1) := by decide +kernel
theorem dX12_pairsUpTo_1 : decode cX12_pairsUpTo 1 = .ok (.istore_n 2, 1) := by decide +kernel
theorem dX12_pairsUpTo_2 : decode cX12_pairsUpTo 2 = .ok (.iload_n 2, 1) := by decide +kernel
theorem dX12_pairsUpTo_3 : decode cX12_pairsUpTo 3 = .ok (.aload_n 0, 1) := by decide +kernel
theorem dX12_pairsUpTo_4 : decode cX12_pairsUpTo 4 = .ok (.getfield 365, 3) := by decide +kernel
theorem dX12_pairsUpTo_7 : decode cX12_pairsUpTo 7 = .ok (.if_icmp .ge 16, 3) := by decide +kernel
theorem dX12_pairsUpTo_10 : decode cX12_pairsUpTo 10 = .ok (.aload_n 0, 1) := by decide +kernel
theorem dX12_pairsUpTo_11 : decode cX12_pairsUpTo 11 = .ok (.getfield 176, 3) := by decide +kernel
theorem dX12_pairsUpTo_14 : decode cX12_pairsUpTo 14 = .ok (.iload_n 2, 1) := by decide +kernel
theorem dX12_pairsUpTo_15 : decode cX12_pairsUpTo 15 = .ok (.iconst (-1), 1) := by decide +kernel
theorem dX12_pairsUpTo_16 : decode cX12_pairsUpTo 16 = .ok (.iastore, 1) := by decide +kernel
theorem dX12_pairsUpTo_17 : decode cX12_pairsUpTo 17 = .ok (.iinc 2 1, 3) := by decide +kernel
theorem dX12_pairsUpTo_20 : decode cX12_pairsUpTo 20 = .ok (.goto (-18), 3) := by decide +kernel
theorem dX12_pairsUpTo_23 : decode cX12_pairsUpTo 23 = .ok (.iconst 0, 1) := by decide +kernel
theorem dX12_pairsUpTo_24 : decode cX12_pairsUpTo 24 = .ok (.istore_n 2, 1) := by decide +kernel
theorem dX12_pairsUpTo_25 : decode cX12_pairsUpTo 25 = .ok (.iload_n 2, 1) := by decide +kernel
theorem dX12_pairsUpTo_26 : decode cX12_pairsUpTo 26 = .ok (.bipush 24, 2) := by decide +kernel
theorem dX12_pairsUpTo_28 : decode cX12_pairsUpTo 28 = .ok (.if_icmp .ge 16, 3) := by decide +kernel
theorem dX12_pairsUpTo_31 : decode cX12_pairsUpTo 31 = .ok (.aload_n 0, 1) := by decide +kernel
theorem dX12_pairsUpTo_32 : decode cX12_pairsUpTo 32 = .ok (.getfield 179, 3) := by decide +kernel
theorem dX12_pairsUpTo_35 : decode cX12_pairsUpTo 35 = .ok (.iload_n 2, 1) := by decide +kernel
theorem dX12_pairsUpTo_36 : decode cX12_pairsUpTo 36 = .ok (.iconst (-1), 1) := by decide +kernel
theorem dX12_pairsUpTo_37 : decode cX12_pairsUpTo 37 = .ok (.iastore, 1) := by decide +kernel
theorem dX12_pairsUpTo_38 : decode cX12_pairsUpTo 38 = .ok (.iinc 2 1, 3) := by decide +kernel
theorem dX12_pairsUpTo_41 : decode cX12_pairsUpTo 41 = .ok (.goto (-16), 3) := by decide +kernel
theorem dX12_pairsUpTo_44 : decode cX12_pairsUpTo 44 = .ok (.iconst 0, 1) := by decide +kernel
theorem dX12_pairsUpTo_45 : decode cX12_pairsUpTo 45 = .ok (.istore_n 2, 1) := by decide +kernel
theorem dX12_pairsUpTo_46 : decode cX12_pairsUpTo 46 = .ok (.iload_n 2, 1) := by decide +kernel
theorem dX12_pairsUpTo_47 : decode cX12_pairsUpTo 47 = .ok (.iload_n 1, 1) := by decide +kernel
theorem dX12_pairsUpTo_48 : decode cX12_pairsUpTo 48 = .ok (.if_icmp .ge 116, 3) := by decide +kernel
theorem dX12_pairsUpTo_51 : decode cX12_pairsUpTo 51 = .ok (.aload_n 0, 1) := by decide +kernel
theorem dX12_pairsUpTo_52 : decode cX12_pairsUpTo 52 = .ok (.getfield 173, 3) := by decide +kernel
theorem dX12_pairsUpTo_55 : decode cX12_pairsUpTo 55 = .ok (.iload_n 2, 1) := by decide +kernel
theorem dX12_pairsUpTo_56 : decode cX12_pairsUpTo 56 = .ok (.iaload, 1) := by decide +kernel
theorem dX12_pairsUpTo_57 : decode cX12_pairsUpTo 57 = .ok (.iconst 2, 1) := by decide +kernel
theorem dX12_pairsUpTo_58 : decode cX12_pairsUpTo 58 = .ok (.idiv, 1) := by decide +kernel
theorem dX12_pairsUpTo_59 : decode cX12_pairsUpTo 59 = .ok (.istore_n 3, 1) := by decide +kernel
theorem dX12_pairsUpTo_60 : decode cX12_pairsUpTo 60 = .ok (.aload_n 0, 1) := by decide +kernel
theorem dX12_pairsUpTo_61 : decode cX12_pairsUpTo 61 = .ok (.getfield 173, 3) := by decide +kernel
theorem dX12_pairsUpTo_64 : decode cX12_pairsUpTo 64 = .ok (.iload_n 2, 1) := by decide +kernel
theorem dX12_pairsUpTo_65 : decode cX12_pairsUpTo 65 = .ok (.iaload, 1) := by decide +kernel
theorem dX12_pairsUpTo_66 : decode cX12_pairsUpTo 66 = .ok (.iconst 2, 1) := by decide +kernel
theorem dX12_pairsUpTo_67 : decode cX12_pairsUpTo 67 = .ok (.irem, 1) := by decide +kernel
theorem dX12_pairsUpTo_68 : decode cX12_pairsUpTo 68 = .ok (.iconst 1, 1) := by decide +kernel
theorem dX12_pairsUpTo_69 : decode cX12_pairsUpTo 69 = .ok (.if_icmp .ne 7, 3) := by decide +kernel
theorem dX12_pairsUpTo_72 : decode cX12_pairsUpTo 72 = .ok (.iconst 1, 1) := by decide +kernel
theorem dX12_pairsUpTo_73 : decode cX12_pairsUpTo 73 = .ok (.goto 4, 3) := by decide +kernel
theorem dX12_pairsUpTo_76 : decode cX12_pairsUpTo 76 = .ok (.iconst 0, 1) := by decide +kernel
theorem dX12_pairsUpTo_77 : decode cX12_pairsUpTo 77 = .ok (.istore 4, 2) := by decide +kernel
theorem dX12_pairsUpTo_79 : decode cX12_pairsUpTo 79 = .ok (.aload_n 0, 1) := by decide +kernel
theorem dX12_pairsUpTo_80 : decode cX12_pairsUpTo 80 = .ok (.aload_n 0, 1) := by decide +kernel
theorem dX12_pairsUpTo_81 : decode cX12_pairsUpTo 81 = .ok (.getfield 152, 3) := by decide +kernel
theorem dX12_pairsUpTo_84 : decode cX12_pairsUpTo 84 = .ok (.iload_n 2, 1) := by decide +kernel
theorem dX12_pairsUpTo_85 : decode cX12_pairsUpTo 85 = .ok (.iaload, 1) := by decide +kernel
theorem dX12_pairsUpTo_86 : decode cX12_pairsUpTo 86 = .ok (.aload_n 0, 1) := by decide +kernel
theorem dX12_pairsUpTo_87 : decode cX12_pairsUpTo 87 = .ok (.getfield 161, 3) := by decide +kernel
theorem dX12_pairsUpTo_90 : decode cX12_pairsUpTo 90 = .ok (.iload_n 3, 1) := by decide +kernel
theorem dX12_pairsUpTo_91 : decode cX12_pairsUpTo 91 = .ok (.iaload, 1) := by decide +kernel
theorem dX12_pairsUpTo_92 : decode cX12_pairsUpTo 92 = .ok (.invokevirtual 394, 3) := by decide +kernel
theorem dX12_pairsUpTo_95 : decode cX12_pairsUpTo 95 = .ok (.pop, 1) := by decide +kernel
theorem dX12_pairsUpTo_96 : decode cX12_pairsUpTo 96 = .ok (.aload_n 0, 1) := by decide +kernel
theorem dX12_pairsUpTo_97 : decode cX12_pairsUpTo 97 = .ok (.aload_n 0, 1) := by decide +kernel
theorem dX12_pairsUpTo_98 : decode cX12_pairsUpTo 98 = .ok (.getfield 155, 3) := by decide +kernel
theorem dX12_pairsUpTo_101 : decode cX12_pairsUpTo 101 = .ok (.iload_n 2, 1) := by decide +kernel
theorem dX12_pairsUpTo_102 : decode cX12_pairsUpTo 102 = .ok (.iaload, 1) := by decide +kernel
theorem dX12_pairsUpTo_103 : decode cX12_pairsUpTo 103 = .ok (.iload 4, 2) := by decide +kernel
theorem dX12_pairsUpTo_105 : decode cX12_pairsUpTo 105 = .ok (.ifCond .eq 12, 3) := by decide +kernel
theorem dX12_pairsUpTo_108 : decode cX12_pairsUpTo 108 = .ok (.aload_n 0, 1) := by decide +kernel
theorem dX12_pairsUpTo_109 : decode cX12_pairsUpTo 109 = .ok (.getfield 167, 3) := by decide +kernel
theorem dX12_pairsUpTo_112 : decode cX12_pairsUpTo 112 = .ok (.iload_n 3, 1) := by decide +kernel
theorem dX12_pairsUpTo_113 : decode cX12_pairsUpTo 113 = .ok (.iaload, 1) := by decide +kernel
theorem dX12_pairsUpTo_114 : decode cX12_pairsUpTo 114 = .ok (.goto 9, 3) := by decide +kernel
theorem dX12_pairsUpTo_117 : decode cX12_pairsUpTo 117 = .ok (.aload_n 0, 1) := by decide +kernel
theorem dX12_pairsUpTo_118 : decode cX12_pairsUpTo 118 = .ok (.getfield 164, 3) := by decide +kernel
theorem dX12_pairsUpTo_121 : decode cX12_pairsUpTo 121 = .ok (.iload_n 3, 1) := by decide +kernel
theorem dX12_pairsUpTo_122 : decode cX12_pairsUpTo 122 = .ok (.iaload, 1) := by decide +kernel
theorem dX12_pairsUpTo_123 : decode cX12_pairsUpTo 123 = .ok (.invokevirtual 394, 3) := by decide +kernel
theorem dX12_pairsUpTo_126 : decode cX12_pairsUpTo 126 = .ok (.pop, 1) := by decide +kernel
theorem dX12_pairsUpTo_127 : decode cX12_pairsUpTo 127 = .ok (.aload_n 0, 1) := by decide +kernel
theorem dX12_pairsUpTo_128 : decode cX12_pairsUpTo 128 = .ok (.aload_n 0, 1) := by decide +kernel
theorem dX12_pairsUpTo_129 : decode cX12_pairsUpTo 129 = .ok (.getfield 158, 3) := by decide +kernel
theorem dX12_pairsUpTo_132 : decode cX12_pairsUpTo 132 = .ok (.iload_n 2, 1) := by decide +kernel
theorem dX12_pairsUpTo_133 : decode cX12_pairsUpTo 133 = .ok (.iaload, 1) := by decide +kernel
theorem dX12_pairsUpTo_134 : decode cX12_pairsUpTo 134 = .ok (.iload 4, 2) := by decide +kernel
theorem dX12_pairsUpTo_136 : decode cX12_pairsUpTo 136 = .ok (.ifCond .eq 12, 3) := by decide +kernel
theorem dX12_pairsUpTo_139 : decode cX12_pairsUpTo 139 = .ok (.aload_n 0, 1) := by decide +kernel
theorem dX12_pairsUpTo_140 : decode cX12_pairsUpTo 140 = .ok (.getfield 164, 3) := by decide +kernel
theorem dX12_pairsUpTo_143 : decode cX12_pairsUpTo 143 = .ok (.iload_n 3, 1) := by decide +kernel
theorem dX12_pairsUpTo_144 : decode cX12_pairsUpTo 144 = .ok (.iaload, 1) := by decide +kernel
theorem dX12_pairsUpTo_145 : decode cX12_pairsUpTo 145 = .ok (.goto 9, 3) := by decide +kernel
theorem dX12_pairsUpTo_148 : decode cX12_pairsUpTo 148 = .ok (.aload_n 0, 1) := by decide +kernel
theorem dX12_pairsUpTo_149 : decode cX12_pairsUpTo 149 = .ok (.getfield 167, 3) := by decide +kernel
theorem dX12_pairsUpTo_152 : decode cX12_pairsUpTo 152 = .ok (.iload_n 3, 1) := by decide +kernel
theorem dX12_pairsUpTo_153 : decode cX12_pairsUpTo 153 = .ok (.iaload, 1) := by decide +kernel
theorem dX12_pairsUpTo_154 : decode cX12_pairsUpTo 154 = .ok (.invokevirtual 394, 3) := by decide +kernel
theorem dX12_pairsUpTo_157 : decode cX12_pairsUpTo 157 = .ok (.pop, 1) := by decide +kernel
theorem dX12_pairsUpTo_158 : decode cX12_pairsUpTo 158 = .ok (.iinc 2 1, 3) := by decide +kernel
theorem dX12_pairsUpTo_161 : decode cX12_pairsUpTo 161 = .ok (.goto (-115), 3) := by decide +kernel
theorem dX12_pairsUpTo_164 : decode cX12_pairsUpTo 164 = .ok (.return_, 1) := by decide +kernel
theorem dX12_pair_0 : decode cX12_pair 0 = .ok (.aload_n 0, 1) := by decide +kernel
theorem dX12_pair_1 : decode cX12_pair 1 = .ok (.getfield 176, 3) := by decide +kernel
theorem dX12_pair_4 : decode cX12_pair 4 = .ok (.iload_n 1, 1) := by decide +kernel
theorem dX12_pair_5 : decode cX12_pair 5 = .ok (.iaload, 1) := by decide +kernel
theorem dX12_pair_6 : decode cX12_pair 6 = .ok (.ifCond .ge 12, 3) := by decide +kernel
theorem dX12_pair_9 : decode cX12_pair 9 = .ok (.aload_n 0, 1) := by decide +kernel
theorem dX12_pair_10 : decode cX12_pair 10 = .ok (.getfield 179, 3) := by decide +kernel
theorem dX12_pair_13 : decode cX12_pair 13 = .ok (.iload_n 2, 1) := by decide +kernel
theorem dX12_pair_14 : decode cX12_pair 14 = .ok (.iaload, 1) := by decide +kernel
theorem dX12_pair_15 : decode cX12_pair 15 = .ok (.ifCond .lt 29, 3) := by decide +kernel
theorem dX12_pair_18 : decode cX12_pair 18 = .ok (.aload_n 0, 1) := by decide +kernel
theorem dX12_pair_19 : decode cX12_pair 19 = .ok (.getfield 176, 3) := by decide +kernel
theorem dX12_pair_22 : decode cX12_pair 22 = .ok (.iload_n 1, 1) := by decide +kernel
theorem dX12_pair_23 : decode cX12_pair 23 = .ok (.iaload, 1) := by decide +kernel
theorem dX12_pair_24 : decode cX12_pair 24 = .ok (.iload_n 2, 1) := by decide +kernel
theorem dX12_pair_25 : decode cX12_pair 25 = .ok (.if_icmp .ne 17, 3) := by decide +kernel
theorem dX12_pair_28 : decode cX12_pair 28 = .ok (.aload_n 0, 1) := by decide +kernel
theorem dX12_pair_29 : decode cX12_pair 29 = .ok (.getfield 179, 3) := by decide +kernel
theorem dX12_pair_32 : decode cX12_pair 32 = .ok (.iload_n 2, 1) := by decide +kernel
theorem dX12_pair_33 : decode cX12_pair 33 = .ok (.iaload, 1) := by decide +kernel
theorem dX12_pair_34 : decode cX12_pair 34 = .ok (.iload_n 1, 1) := by decide +kernel
theorem dX12_pair_35 : decode cX12_pair 35 = .ok (.if_icmp .ne 7, 3) := by decide +kernel
theorem dX12_pair_38 : decode cX12_pair 38 = .ok (.iconst 1, 1) := by decide +kernel
theorem dX12_pair_39 : decode cX12_pair 39 = .ok (.goto 4, 3) := by decide +kernel
theorem dX12_pair_42 : decode cX12_pair 42 = .ok (.iconst 0, 1) := by decide +kernel
theorem dX12_pair_43 : decode cX12_pair 43 = .ok (.ireturn, 1) := by decide +kernel
theorem dX12_pair_44 : decode cX12_pair 44 = .ok (.aload_n 0, 1) := by decide +kernel
theorem dX12_pair_45 : decode cX12_pair 45 = .ok (.getfield 176, 3) := by decide +kernel
theorem dX12_pair_48 : decode cX12_pair 48 = .ok (.iload_n 1, 1) := by decide +kernel
theorem dX12_pair_49 : decode cX12_pair 49 = .ok (.iload_n 2, 1) := by decide +kernel
theorem dX12_pair_50 : decode cX12_pair 50 = .ok (.iastore, 1) := by decide +kernel
theorem dX12_pair_51 : decode cX12_pair 51 = .ok (.aload_n 0, 1) := by decide +kernel
theorem dX12_pair_52 : decode cX12_pair 52 = .ok (.getfield 179, 3) := by decide +kernel
theorem dX12_pair_55 : decode cX12_pair 55 = .ok (.iload_n 2, 1) := by decide +kernel
theorem dX12_pair_56 : decode cX12_pair 56 = .ok (.iload_n 1, 1) := by decide +kernel
theorem dX12_pair_57 : decode cX12_pair 57 = .ok (.iastore, 1) := by decide +kernel
theorem dX12_pair_58 : decode cX12_pair 58 = .ok (.iconst 1, 1) := by decide +kernel
theorem dX12_pair_59 : decode cX12_pair 59 = .ok (.ireturn, 1) := by decide +kernel
theorem dX12_isTaken_0 : decode cX12_isTaken 0 = .ok (.iconst 0, 1) := by decide +kernel
theorem dX12_isTaken_1 : decode cX12_isTaken 1 = .ok (.istore_n 3, 1) := by decide +kernel
theorem dX12_isTaken_2 : decode cX12_isTaken 2 = .ok (.iconst 0, 1) := by decide +kernel
theorem dX12_isTaken_3 : decode cX12_isTaken 3 = .ok (.istore 4, 2) := by decide +kernel
theorem dX12_isTaken_5 : decode cX12_isTaken 5 = .ok (.iload 4, 2) := by decide +kernel
theorem dX12_isTaken_7 : decode cX12_isTaken 7 = .ok (.iload_n 2, 1) := by decide +kernel
theorem dX12_isTaken_8 : decode cX12_isTaken 8 = .ok (.if_icmp .ge 32, 3) := by decide +kernel
theorem dX12_isTaken_11 : decode cX12_isTaken 11 = .ok (.iload_n 3, 1) := by decide +kernel
theorem dX12_isTaken_12 : decode cX12_isTaken 12 = .ok (.ifCond .ne 16, 3) := by decide +kernel
theorem dX12_isTaken_15 : decode cX12_isTaken 15 = .ok (.aload_n 0, 1) := by decide +kernel
theorem dX12_isTaken_16 : decode cX12_isTaken 16 = .ok (.getfield 173, 3) := by decide +kernel
theorem dX12_isTaken_19 : decode cX12_isTaken 19 = .ok (.iload 4, 2) := by decide +kernel
theorem dX12_isTaken_21 : decode cX12_isTaken 21 = .ok (.iaload, 1) := by decide +kernel
theorem dX12_isTaken_22 : decode cX12_isTaken 22 = .ok (.iconst 2, 1) := by decide +kernel
theorem dX12_isTaken_23 : decode cX12_isTaken 23 = .ok (.idiv, 1) := by decide +kernel
theorem dX12_isTaken_24 : decode cX12_isTaken 24 = .ok (.iload_n 1, 1) := by decide +kernel
theorem dX12_isTaken_25 : decode cX12_isTaken 25 = .ok (.if_icmp .ne 7, 3) := by decide +kernel
theorem dX12_isTaken_28 : decode cX12_isTaken 28 = .ok (.iconst 1, 1) := by decide +kernel
theorem dX12_isTaken_29 : decode cX12_isTaken 29 = .ok (.goto 4, 3) := by decide +kernel
theorem dX12_isTaken_32 : decode cX12_isTaken 32 = .ok (.iconst 0, 1) := by decide +kernel
theorem dX12_isTaken_33 : decode cX12_isTaken 33 = .ok (.istore_n 3, 1) := by decide +kernel
theorem dX12_isTaken_34 : decode cX12_isTaken 34 = .ok (.iinc 4 1, 3) := by decide +kernel
theorem dX12_isTaken_37 : decode cX12_isTaken 37 = .ok (.goto (-32), 3) := by decide +kernel
theorem dX12_isTaken_40 : decode cX12_isTaken 40 = .ok (.iload_n 3, 1) := by decide +kernel
theorem dX12_isTaken_41 : decode cX12_isTaken 41 = .ok (.ireturn, 1) := by decide +kernel
theorem dX12_goes_0 : decode cX12_goes 0 = .ok (.iload_n 2, 1) := by decide +kernel
theorem dX12_goes_1 : decode cX12_goes 1 = .ok (.iconst 2, 1) := by decide +kernel
theorem dX12_goes_2 : decode cX12_goes 2 = .ok (.idiv, 1) := by decide +kernel
theorem dX12_goes_3 : decode cX12_goes 3 = .ok (.istore_n 3, 1) := by decide +kernel
theorem dX12_goes_4 : decode cX12_goes 4 = .ok (.iload_n 2, 1) := by decide +kernel
theorem dX12_goes_5 : decode cX12_goes 5 = .ok (.iconst 2, 1) := by decide +kernel
theorem dX12_goes_6 : decode cX12_goes 6 = .ok (.irem, 1) := by decide +kernel
theorem dX12_goes_7 : decode cX12_goes 7 = .ok (.iconst 1, 1) := by decide +kernel
theorem dX12_goes_8 : decode cX12_goes 8 = .ok (.if_icmp .ne 7, 3) := by decide +kernel
theorem dX12_goes_11 : decode cX12_goes 11 = .ok (.iconst 1, 1) := by decide +kernel
theorem dX12_goes_12 : decode cX12_goes 12 = .ok (.goto 4, 3) := by decide +kernel
theorem dX12_goes_15 : decode cX12_goes 15 = .ok (.iconst 0, 1) := by decide +kernel
theorem dX12_goes_16 : decode cX12_goes 16 = .ok (.istore 4, 2) := by decide +kernel
theorem dX12_goes_18 : decode cX12_goes 18 = .ok (.aload_n 0, 1) := by decide +kernel
theorem dX12_goes_19 : decode cX12_goes 19 = .ok (.getfield 170, 3) := by decide +kernel
theorem dX12_goes_22 : decode cX12_goes 22 = .ok (.iload_n 3, 1) := by decide +kernel
theorem dX12_goes_23 : decode cX12_goes 23 = .ok (.iaload, 1) := by decide +kernel
theorem dX12_goes_24 : decode cX12_goes 24 = .ok (.ifCond .eq 20, 3) := by decide +kernel
theorem dX12_goes_27 : decode cX12_goes 27 = .ok (.aload_n 0, 1) := by decide +kernel
theorem dX12_goes_28 : decode cX12_goes 28 = .ok (.getfield 170, 3) := by decide +kernel
theorem dX12_goes_31 : decode cX12_goes 31 = .ok (.iload_n 3, 1) := by decide +kernel
theorem dX12_goes_32 : decode cX12_goes 32 = .ok (.iaload, 1) := by decide +kernel
theorem dX12_goes_33 : decode cX12_goes 33 = .ok (.aload_n 0, 1) := by decide +kernel
theorem dX12_goes_34 : decode cX12_goes 34 = .ok (.getfield 149, 3) := by decide +kernel
theorem dX12_goes_37 : decode cX12_goes 37 = .ok (.iload_n 1, 1) := by decide +kernel
theorem dX12_goes_38 : decode cX12_goes 38 = .ok (.iaload, 1) := by decide +kernel
theorem dX12_goes_39 : decode cX12_goes 39 = .ok (.if_icmp .eq 5, 3) := by decide +kernel
theorem dX12_goes_42 : decode cX12_goes 42 = .ok (.iconst 0, 1) := by decide +kernel
theorem dX12_goes_43 : decode cX12_goes 43 = .ok (.ireturn, 1) := by decide +kernel
theorem dX12_goes_44 : decode cX12_goes 44 = .ok (.aload_n 0, 1) := by decide +kernel
theorem dX12_goes_45 : decode cX12_goes 45 = .ok (.iload_n 1, 1) := by decide +kernel
theorem dX12_goes_46 : decode cX12_goes 46 = .ok (.invokevirtual 397, 3) := by decide +kernel
theorem dX12_goes_49 : decode cX12_goes 49 = .ok (.aload_n 0, 1) := by decide +kernel
theorem dX12_goes_50 : decode cX12_goes 50 = .ok (.aload_n 0, 1) := by decide +kernel
theorem dX12_goes_51 : decode cX12_goes 51 = .ok (.getfield 152, 3) := by decide +kernel
theorem dX12_goes_54 : decode cX12_goes 54 = .ok (.iload_n 1, 1) := by decide +kernel
theorem dX12_goes_55 : decode cX12_goes 55 = .ok (.iaload, 1) := by decide +kernel
theorem dX12_goes_56 : decode cX12_goes 56 = .ok (.aload_n 0, 1) := by decide +kernel
theorem dX12_goes_57 : decode cX12_goes 57 = .ok (.getfield 161, 3) := by decide +kernel
theorem dX12_goes_60 : decode cX12_goes 60 = .ok (.iload_n 3, 1) := by decide +kernel
theorem dX12_goes_61 : decode cX12_goes 61 = .ok (.iaload, 1) := by decide +kernel
theorem dX12_goes_62 : decode cX12_goes 62 = .ok (.invokevirtual 394, 3) := by decide +kernel
theorem dX12_goes_65 : decode cX12_goes 65 = .ok (.ifCond .eq 73, 3) := by decide +kernel
theorem dX12_goes_68 : decode cX12_goes 68 = .ok (.aload_n 0, 1) := by decide +kernel
theorem dX12_goes_69 : decode cX12_goes 69 = .ok (.aload_n 0, 1) := by decide +kernel
theorem dX12_goes_70 : decode cX12_goes 70 = .ok (.getfield 155, 3) := by decide +kernel
theorem dX12_goes_73 : decode cX12_goes 73 = .ok (.iload_n 1, 1) := by decide +kernel
theorem dX12_goes_74 : decode cX12_goes 74 = .ok (.iaload, 1) := by decide +kernel
theorem dX12_goes_75 : decode cX12_goes 75 = .ok (.iload 4, 2) := by decide +kernel
theorem dX12_goes_77 : decode cX12_goes 77 = .ok (.ifCond .eq 12, 3) := by decide +kernel
theorem dX12_goes_80 : decode cX12_goes 80 = .ok (.aload_n 0, 1) := by decide +kernel
theorem dX12_goes_81 : decode cX12_goes 81 = .ok (.getfield 167, 3) := by decide +kernel
theorem dX12_goes_84 : decode cX12_goes 84 = .ok (.iload_n 3, 1) := by decide +kernel
theorem dX12_goes_85 : decode cX12_goes 85 = .ok (.iaload, 1) := by decide +kernel
theorem dX12_goes_86 : decode cX12_goes 86 = .ok (.goto 9, 3) := by decide +kernel
theorem dX12_goes_89 : decode cX12_goes 89 = .ok (.aload_n 0, 1) := by decide +kernel
theorem dX12_goes_90 : decode cX12_goes 90 = .ok (.getfield 164, 3) := by decide +kernel
theorem dX12_goes_93 : decode cX12_goes 93 = .ok (.iload_n 3, 1) := by decide +kernel
theorem dX12_goes_94 : decode cX12_goes 94 = .ok (.iaload, 1) := by decide +kernel
theorem dX12_goes_95 : decode cX12_goes 95 = .ok (.invokevirtual 394, 3) := by decide +kernel
theorem dX12_goes_98 : decode cX12_goes 98 = .ok (.ifCond .eq 40, 3) := by decide +kernel
theorem dX12_goes_101 : decode cX12_goes 101 = .ok (.aload_n 0, 1) := by decide +kernel
theorem dX12_goes_102 : decode cX12_goes 102 = .ok (.aload_n 0, 1) := by decide +kernel
theorem dX12_goes_103 : decode cX12_goes 103 = .ok (.getfield 158, 3) := by decide +kernel
theorem dX12_goes_106 : decode cX12_goes 106 = .ok (.iload_n 1, 1) := by decide +kernel
theorem dX12_goes_107 : decode cX12_goes 107 = .ok (.iaload, 1) := by decide +kernel
theorem dX12_goes_108 : decode cX12_goes 108 = .ok (.iload 4, 2) := by decide +kernel
theorem dX12_goes_110 : decode cX12_goes 110 = .ok (.ifCond .eq 12, 3) := by decide +kernel
theorem dX12_goes_113 : decode cX12_goes 113 = .ok (.aload_n 0, 1) := by decide +kernel
theorem dX12_goes_114 : decode cX12_goes 114 = .ok (.getfield 164, 3) := by decide +kernel
theorem dX12_goes_117 : decode cX12_goes 117 = .ok (.iload_n 3, 1) := by decide +kernel
theorem dX12_goes_118 : decode cX12_goes 118 = .ok (.iaload, 1) := by decide +kernel
theorem dX12_goes_119 : decode cX12_goes 119 = .ok (.goto 9, 3) := by decide +kernel
theorem dX12_goes_122 : decode cX12_goes 122 = .ok (.aload_n 0, 1) := by decide +kernel
theorem dX12_goes_123 : decode cX12_goes 123 = .ok (.getfield 167, 3) := by decide +kernel
theorem dX12_goes_126 : decode cX12_goes 126 = .ok (.iload_n 3, 1) := by decide +kernel
theorem dX12_goes_127 : decode cX12_goes 127 = .ok (.iaload, 1) := by decide +kernel
theorem dX12_goes_128 : decode cX12_goes 128 = .ok (.invokevirtual 394, 3) := by decide +kernel
theorem dX12_goes_131 : decode cX12_goes 131 = .ok (.ifCond .eq 7, 3) := by decide +kernel
theorem dX12_goes_134 : decode cX12_goes 134 = .ok (.iconst 1, 1) := by decide +kernel
theorem dX12_goes_135 : decode cX12_goes 135 = .ok (.goto 4, 3) := by decide +kernel
theorem dX12_goes_138 : decode cX12_goes 138 = .ok (.iconst 0, 1) := by decide +kernel
theorem dX12_goes_139 : decode cX12_goes 139 = .ok (.ireturn, 1) := by decide +kernel
theorem dX12_nextChoice_0 : decode cX12_nextChoice 0 = .ok (.iload_n 2, 1) := by decide +kernel
theorem dX12_nextChoice_1 : decode cX12_nextChoice 1 = .ok (.istore_n 3, 1) := by decide +kernel
theorem dX12_nextChoice_2 : decode cX12_nextChoice 2 = .ok (.iload_n 3, 1) := by decide +kernel
theorem dX12_nextChoice_3 : decode cX12_nextChoice 3 = .ok (.iconst 2, 1) := by decide +kernel
theorem dX12_nextChoice_4 : decode cX12_nextChoice 4 = .ok (.aload_n 0, 1) := by decide +kernel
theorem dX12_nextChoice_5 : decode cX12_nextChoice 5 = .ok (.getfield 391, 3) := by decide +kernel
theorem dX12_nextChoice_8 : decode cX12_nextChoice 8 = .ok (.imul, 1) := by decide +kernel
theorem dX12_nextChoice_9 : decode cX12_nextChoice 9 = .ok (.if_icmp .ge 57, 3) := by decide +kernel
theorem dX12_nextChoice_12 : decode cX12_nextChoice 12 = .ok (.aload_n 0, 1) := by decide +kernel
theorem dX12_nextChoice_13 : decode cX12_nextChoice 13 = .ok (.iload_n 3, 1) := by decide +kernel
theorem dX12_nextChoice_14 : decode cX12_nextChoice 14 = .ok (.iconst 2, 1) := by decide +kernel
theorem dX12_nextChoice_15 : decode cX12_nextChoice 15 = .ok (.idiv, 1) := by decide +kernel
theorem dX12_nextChoice_16 : decode cX12_nextChoice 16 = .ok (.iload_n 1, 1) := by decide +kernel
theorem dX12_nextChoice_17 : decode cX12_nextChoice 17 = .ok (.invokevirtual 400, 3) := by decide +kernel
theorem dX12_nextChoice_20 : decode cX12_nextChoice 20 = .ok (.ifCond .eq 6, 3) := by decide +kernel
theorem dX12_nextChoice_23 : decode cX12_nextChoice 23 = .ok (.goto 37, 3) := by decide +kernel
theorem dX12_nextChoice_26 : decode cX12_nextChoice 26 = .ok (.aload_n 0, 1) := by decide +kernel
theorem dX12_nextChoice_27 : decode cX12_nextChoice 27 = .ok (.getfield 403, 3) := by decide +kernel
theorem dX12_nextChoice_30 : decode cX12_nextChoice 30 = .ok (.sipush 5000, 3) := by decide +kernel
theorem dX12_nextChoice_33 : decode cX12_nextChoice 33 = .ok (.if_icmp .ne 6, 3) := by decide +kernel
theorem dX12_nextChoice_36 : decode cX12_nextChoice 36 = .ok (.bipush (-9), 2) := by decide +kernel
theorem dX12_nextChoice_38 : decode cX12_nextChoice 38 = .ok (.ireturn, 1) := by decide +kernel
theorem dX12_nextChoice_39 : decode cX12_nextChoice 39 = .ok (.aload_n 0, 1) := by decide +kernel
theorem dX12_nextChoice_40 : decode cX12_nextChoice 40 = .ok (.dup, 1) := by decide +kernel
theorem dX12_nextChoice_41 : decode cX12_nextChoice 41 = .ok (.getfield 403, 3) := by decide +kernel
theorem dX12_nextChoice_44 : decode cX12_nextChoice 44 = .ok (.iconst 1, 1) := by decide +kernel
theorem dX12_nextChoice_45 : decode cX12_nextChoice 45 = .ok (.iadd, 1) := by decide +kernel
theorem dX12_nextChoice_46 : decode cX12_nextChoice 46 = .ok (.putfield 403, 3) := by decide +kernel
theorem dX12_nextChoice_49 : decode cX12_nextChoice 49 = .ok (.aload_n 0, 1) := by decide +kernel
theorem dX12_nextChoice_50 : decode cX12_nextChoice 50 = .ok (.iload_n 1, 1) := by decide +kernel
theorem dX12_nextChoice_51 : decode cX12_nextChoice 51 = .ok (.iload_n 3, 1) := by decide +kernel
theorem dX12_nextChoice_52 : decode cX12_nextChoice 52 = .ok (.invokevirtual 406, 3) := by decide +kernel
theorem dX12_nextChoice_55 : decode cX12_nextChoice 55 = .ok (.ifCond .eq 5, 3) := by decide +kernel
theorem dX12_nextChoice_58 : decode cX12_nextChoice 58 = .ok (.iload_n 3, 1) := by decide +kernel
theorem dX12_nextChoice_59 : decode cX12_nextChoice 59 = .ok (.ireturn, 1) := by decide +kernel
theorem dX12_nextChoice_60 : decode cX12_nextChoice 60 = .ok (.iinc 3 1, 3) := by decide +kernel
theorem dX12_nextChoice_63 : decode cX12_nextChoice 63 = .ok (.goto (-61), 3) := by decide +kernel
theorem dX12_nextChoice_66 : decode cX12_nextChoice 66 = .ok (.iconst (-1), 1) := by decide +kernel
theorem dX12_nextChoice_67 : decode cX12_nextChoice 67 = .ok (.ireturn, 1) := by decide +kernel
theorem dX12_isComplete_0 : decode cX12_isComplete 0 = .ok (.aload_n 0, 1) := by decide +kernel
theorem dX12_isComplete_1 : decode cX12_isComplete 1 = .ok (.getfield 377, 3) := by decide +kernel
theorem dX12_isComplete_4 : decode cX12_isComplete 4 = .ok (.aload_n 0, 1) := by decide +kernel
theorem dX12_isComplete_5 : decode cX12_isComplete 5 = .ok (.getfield 391, 3) := by decide +kernel
theorem dX12_isComplete_8 : decode cX12_isComplete 8 = .ok (.if_icmp .ne 7, 3) := by decide +kernel
theorem dX12_isComplete_11 : decode cX12_isComplete 11 = .ok (.iconst 1, 1) := by decide +kernel
theorem dX12_isComplete_12 : decode cX12_isComplete 12 = .ok (.goto 4, 3) := by decide +kernel
theorem dX12_isComplete_15 : decode cX12_isComplete 15 = .ok (.iconst 0, 1) := by decide +kernel
theorem dX12_isComplete_16 : decode cX12_isComplete 16 = .ok (.istore_n 1, 1) := by decide +kernel
theorem dX12_isComplete_17 : decode cX12_isComplete 17 = .ok (.iconst 0, 1) := by decide +kernel
theorem dX12_isComplete_18 : decode cX12_isComplete 18 = .ok (.istore_n 2, 1) := by decide +kernel
theorem dX12_isComplete_19 : decode cX12_isComplete 19 = .ok (.iload_n 2, 1) := by decide +kernel
theorem dX12_isComplete_20 : decode cX12_isComplete 20 = .ok (.aload_n 0, 1) := by decide +kernel
theorem dX12_isComplete_21 : decode cX12_isComplete 21 = .ok (.getfield 377, 3) := by decide +kernel
theorem dX12_isComplete_24 : decode cX12_isComplete 24 = .ok (.if_icmp .ge 37, 3) := by decide +kernel
theorem dX12_isComplete_27 : decode cX12_isComplete 27 = .ok (.iload_n 1, 1) := by decide +kernel
theorem dX12_isComplete_28 : decode cX12_isComplete 28 = .ok (.ifCond .eq 25, 3) := by decide +kernel
theorem dX12_isComplete_31 : decode cX12_isComplete 31 = .ok (.aload_n 0, 1) := by decide +kernel
theorem dX12_isComplete_32 : decode cX12_isComplete 32 = .ok (.getfield 152, 3) := by decide +kernel
theorem dX12_isComplete_35 : decode cX12_isComplete 35 = .ok (.iload_n 2, 1) := by decide +kernel
theorem dX12_isComplete_36 : decode cX12_isComplete 36 = .ok (.iaload, 1) := by decide +kernel
theorem dX12_isComplete_37 : decode cX12_isComplete 37 = .ok (.ifCond .lt 16, 3) := by decide +kernel
theorem dX12_isComplete_40 : decode cX12_isComplete 40 = .ok (.aload_n 0, 1) := by decide +kernel
theorem dX12_isComplete_41 : decode cX12_isComplete 41 = .ok (.getfield 158, 3) := by decide +kernel
theorem dX12_isComplete_44 : decode cX12_isComplete 44 = .ok (.iload_n 2, 1) := by decide +kernel
theorem dX12_isComplete_45 : decode cX12_isComplete 45 = .ok (.iaload, 1) := by decide +kernel
theorem dX12_isComplete_46 : decode cX12_isComplete 46 = .ok (.ifCond .lt 7, 3) := by decide +kernel
theorem dX12_isComplete_49 : decode cX12_isComplete 49 = .ok (.iconst 1, 1) := by decide +kernel
theorem dX12_isComplete_50 : decode cX12_isComplete 50 = .ok (.goto 4, 3) := by decide +kernel
theorem dX12_isComplete_53 : decode cX12_isComplete 53 = .ok (.iconst 0, 1) := by decide +kernel
theorem dX12_isComplete_54 : decode cX12_isComplete 54 = .ok (.istore_n 1, 1) := by decide +kernel
theorem dX12_isComplete_55 : decode cX12_isComplete 55 = .ok (.iinc 2 1, 3) := by decide +kernel
theorem dX12_isComplete_58 : decode cX12_isComplete 58 = .ok (.goto (-39), 3) := by decide +kernel
theorem dX12_isComplete_61 : decode cX12_isComplete 61 = .ok (.iload_n 1, 1) := by decide +kernel
theorem dX12_isComplete_62 : decode cX12_isComplete 62 = .ok (.ireturn, 1) := by decide +kernel
theorem dX12_same_0 : decode cX12_same 0 = .ok (.aload_n 0, 1) := by decide +kernel
theorem dX12_same_1 : decode cX12_same 1 = .ok (.getfield 311, 3) := by decide +kernel
theorem dX12_same_4 : decode cX12_same 4 = .ok (.ifCond .ne 10, 3) := by decide +kernel
theorem dX12_same_7 : decode cX12_same 7 = .ok (.aload_n 0, 1) := by decide +kernel
theorem dX12_same_8 : decode cX12_same 8 = .ok (.bipush (-2), 2) := by decide +kernel
theorem dX12_same_10 : decode cX12_same 10 = .ok (.invokevirtual 191, 3) := by decide +kernel
theorem dX12_same_13 : decode cX12_same 13 = .ok (.ireturn, 1) := by decide +kernel
theorem dX12_same_14 : decode cX12_same 14 = .ok (.aload_n 0, 1) := by decide +kernel
theorem dX12_same_15 : decode cX12_same 15 = .ok (.iconst 0, 1) := by decide +kernel
theorem dX12_same_16 : decode cX12_same 16 = .ok (.putfield 403, 3) := by decide +kernel
theorem dX12_same_19 : decode cX12_same 19 = .ok (.aload_n 0, 1) := by decide +kernel
theorem dX12_same_20 : decode cX12_same 20 = .ok (.invokevirtual 409, 3) := by decide +kernel
theorem dX12_same_23 : decode cX12_same 23 = .ok (.ifCond .ne 5, 3) := by decide +kernel
theorem dX12_same_26 : decode cX12_same 26 = .ok (.iconst 0, 1) := by decide +kernel
theorem dX12_same_27 : decode cX12_same 27 = .ok (.ireturn, 1) := by decide +kernel
theorem dX12_same_28 : decode cX12_same 28 = .ok (.iconst 0, 1) := by decide +kernel
theorem dX12_same_29 : decode cX12_same 29 = .ok (.istore_n 1, 1) := by decide +kernel
theorem dX12_same_30 : decode cX12_same 30 = .ok (.iconst 0, 1) := by decide +kernel
theorem dX12_same_31 : decode cX12_same 31 = .ok (.istore_n 2, 1) := by decide +kernel
theorem dX12_same_32 : decode cX12_same 32 = .ok (.iload_n 1, 1) := by decide +kernel
theorem dX12_same_33 : decode cX12_same 33 = .ok (.aload_n 0, 1) := by decide +kernel
theorem dX12_same_34 : decode cX12_same 34 = .ok (.getfield 377, 3) := by decide +kernel
theorem dX12_same_37 : decode cX12_same 37 = .ok (.if_icmp .ge 68, 3) := by decide +kernel
theorem dX12_same_40 : decode cX12_same 40 = .ok (.aload_n 0, 1) := by decide +kernel
theorem dX12_same_41 : decode cX12_same 41 = .ok (.iload_n 1, 1) := by decide +kernel
theorem dX12_same_42 : decode cX12_same 42 = .ok (.iload_n 2, 1) := by decide +kernel
theorem dX12_same_43 : decode cX12_same 43 = .ok (.invokevirtual 413, 3) := by decide +kernel
theorem dX12_same_46 : decode cX12_same 46 = .ok (.istore_n 3, 1) := by decide +kernel
theorem dX12_same_47 : decode cX12_same 47 = .ok (.iload_n 3, 1) := by decide +kernel
theorem dX12_same_48 : decode cX12_same 48 = .ok (.bipush (-9), 2) := by decide +kernel
theorem dX12_same_50 : decode cX12_same 50 = .ok (.if_icmp .ne 15, 3) := by decide +kernel
theorem dX12_same_53 : decode cX12_same 53 = .ok (.aload_n 0, 1) := by decide +kernel
theorem dX12_same_54 : decode cX12_same 54 = .ok (.iconst 0, 1) := by decide +kernel
theorem dX12_same_55 : decode cX12_same 55 = .ok (.putfield 314, 3) := by decide +kernel
theorem dX12_same_58 : decode cX12_same 58 = .ok (.aload_n 0, 1) := by decide +kernel
theorem dX12_same_59 : decode cX12_same 59 = .ok (.bipush (-9), 2) := by decide +kernel
theorem dX12_same_61 : decode cX12_same 61 = .ok (.invokevirtual 191, 3) := by decide +kernel
theorem dX12_same_64 : decode cX12_same 64 = .ok (.ireturn, 1) := by decide +kernel
theorem dX12_same_65 : decode cX12_same 65 = .ok (.iload_n 3, 1) := by decide +kernel
theorem dX12_same_66 : decode cX12_same 66 = .ok (.ifCond .lt 18, 3) := by decide +kernel
theorem dX12_same_69 : decode cX12_same 69 = .ok (.aload_n 0, 1) := by decide +kernel
theorem dX12_same_70 : decode cX12_same 70 = .ok (.getfield 173, 3) := by decide +kernel
theorem dX12_same_73 : decode cX12_same 73 = .ok (.iload_n 1, 1) := by decide +kernel
theorem dX12_same_74 : decode cX12_same 74 = .ok (.iload_n 3, 1) := by decide +kernel
theorem dX12_same_75 : decode cX12_same 75 = .ok (.iastore, 1) := by decide +kernel
theorem dX12_same_76 : decode cX12_same 76 = .ok (.iinc 1 1, 3) := by decide +kernel
theorem dX12_same_79 : decode cX12_same 79 = .ok (.iconst 0, 1) := by decide +kernel
theorem dX12_same_80 : decode cX12_same 80 = .ok (.istore_n 2, 1) := by decide +kernel
theorem dX12_same_81 : decode cX12_same 81 = .ok (.goto 21, 3) := by decide +kernel
theorem dX12_same_84 : decode cX12_same 84 = .ok (.iinc 1 (-1), 3) := by decide +kernel
theorem dX12_same_87 : decode cX12_same 87 = .ok (.iload_n 1, 1) := by decide +kernel
theorem dX12_same_88 : decode cX12_same 88 = .ok (.ifCond .ge 5, 3) := by decide +kernel
theorem dX12_same_91 : decode cX12_same 91 = .ok (.iconst 0, 1) := by decide +kernel
theorem dX12_same_92 : decode cX12_same 92 = .ok (.ireturn, 1) := by decide +kernel
theorem dX12_same_93 : decode cX12_same 93 = .ok (.aload_n 0, 1) := by decide +kernel
theorem dX12_same_94 : decode cX12_same 94 = .ok (.getfield 173, 3) := by decide +kernel
theorem dX12_same_97 : decode cX12_same 97 = .ok (.iload_n 1, 1) := by decide +kernel
theorem dX12_same_98 : decode cX12_same 98 = .ok (.iaload, 1) := by decide +kernel
theorem dX12_same_99 : decode cX12_same 99 = .ok (.iconst 1, 1) := by decide +kernel
theorem dX12_same_100 : decode cX12_same 100 = .ok (.iadd, 1) := by decide +kernel
theorem dX12_same_101 : decode cX12_same 101 = .ok (.istore_n 2, 1) := by decide +kernel
theorem dX12_same_102 : decode cX12_same 102 = .ok (.goto (-70), 3) := by decide +kernel
theorem dX12_same_105 : decode cX12_same 105 = .ok (.aload_n 0, 1) := by decide +kernel
theorem dX12_same_106 : decode cX12_same 106 = .ok (.aload_n 0, 1) := by decide +kernel
theorem dX12_same_107 : decode cX12_same 107 = .ok (.getfield 377, 3) := by decide +kernel
theorem dX12_same_110 : decode cX12_same 110 = .ok (.invokevirtual 397, 3) := by decide +kernel
theorem dX12_same_113 : decode cX12_same 113 = .ok (.aload_n 0, 1) := by decide +kernel
theorem dX12_same_114 : decode cX12_same 114 = .ok (.iconst 1, 1) := by decide +kernel
theorem dX12_same_115 : decode cX12_same 115 = .ok (.putfield 314, 3) := by decide +kernel
theorem dX12_same_118 : decode cX12_same 118 = .ok (.iconst 0, 1) := by decide +kernel
theorem dX12_same_119 : decode cX12_same 119 = .ok (.istore_n 3, 1) := by decide +kernel
theorem dX12_same_120 : decode cX12_same 120 = .ok (.iload_n 3, 1) := by decide +kernel
theorem dX12_same_121 : decode cX12_same 121 = .ok (.aload_n 0, 1) := by decide +kernel
theorem dX12_same_122 : decode cX12_same 122 = .ok (.getfield 377, 3) := by decide +kernel
theorem dX12_same_125 : decode cX12_same 125 = .ok (.if_icmp .ge 23, 3) := by decide +kernel
theorem dX12_same_128 : decode cX12_same 128 = .ok (.aload_n 0, 1) := by decide +kernel
theorem dX12_same_129 : decode cX12_same 129 = .ok (.getfield 182, 3) := by decide +kernel
theorem dX12_same_132 : decode cX12_same 132 = .ok (.iload_n 3, 1) := by decide +kernel
theorem dX12_same_133 : decode cX12_same 133 = .ok (.aload_n 0, 1) := by decide +kernel
theorem dX12_same_134 : decode cX12_same 134 = .ok (.getfield 173, 3) := by decide +kernel
theorem dX12_same_137 : decode cX12_same 137 = .ok (.iload_n 3, 1) := by decide +kernel
theorem dX12_same_138 : decode cX12_same 138 = .ok (.iaload, 1) := by decide +kernel
theorem dX12_same_139 : decode cX12_same 139 = .ok (.iconst 2, 1) := by decide +kernel
theorem dX12_same_140 : decode cX12_same 140 = .ok (.idiv, 1) := by decide +kernel
theorem dX12_same_141 : decode cX12_same 141 = .ok (.iastore, 1) := by decide +kernel
theorem dX12_same_142 : decode cX12_same 142 = .ok (.iinc 3 1, 3) := by decide +kernel
theorem dX12_same_145 : decode cX12_same 145 = .ok (.goto (-25), 3) := by decide +kernel
theorem dX12_same_148 : decode cX12_same 148 = .ok (.iconst 1, 1) := by decide +kernel
theorem dX12_same_149 : decode cX12_same 149 = .ok (.ireturn, 1) := by decide +kernel
theorem dX12_tries_0 : decode cX12_tries 0 = .ok (.aload_n 0, 1) := by decide +kernel
theorem dX12_tries_1 : decode cX12_tries 1 = .ok (.getfield 403, 3) := by decide +kernel
theorem dX12_tries_4 : decode cX12_tries 4 = .ok (.ireturn, 1) := by decide +kernel
theorem dX12_pair__0 : decode cX12_pair_ 0 = .ok (.aload_n 0, 1) := by decide +kernel
theorem dX12_pair__1 : decode cX12_pair_ 1 = .ok (.getfield 314, 3) := by decide +kernel
theorem dX12_pair__4 : decode cX12_pair_ 4 = .ok (.ifCond .ne 10, 3) := by decide +kernel
theorem dX12_pair__7 : decode cX12_pair_ 7 = .ok (.aload_n 0, 1) := by decide +kernel
theorem dX12_pair__8 : decode cX12_pair_ 8 = .ok (.bipush (-2), 2) := by decide +kernel
theorem dX12_pair__10 : decode cX12_pair_ 10 = .ok (.invokevirtual 191, 3) := by decide +kernel
theorem dX12_pair__13 : decode cX12_pair_ 13 = .ok (.ireturn, 1) := by decide +kernel
theorem dX12_pair__14 : decode cX12_pair_ 14 = .ok (.iload_n 1, 1) := by decide +kernel
theorem dX12_pair__15 : decode cX12_pair_ 15 = .ok (.i2l, 1) := by decide +kernel
theorem dX12_pair__16 : decode cX12_pair_ 16 = .ok (.lconst 0, 1) := by decide +kernel
theorem dX12_pair__17 : decode cX12_pair_ 17 = .ok (.iload_n 2, 1) := by decide +kernel
theorem dX12_pair__18 : decode cX12_pair_ 18 = .ok (.ifCond .eq 10, 3) := by decide +kernel
theorem dX12_pair__21 : decode cX12_pair_ 21 = .ok (.aload_n 0, 1) := by decide +kernel
theorem dX12_pair__22 : decode cX12_pair_ 22 = .ok (.getfield 365, 3) := by decide +kernel
theorem dX12_pair__25 : decode cX12_pair_ 25 = .ok (.goto 7, 3) := by decide +kernel
theorem dX12_pair__28 : decode cX12_pair_ 28 = .ok (.aload_n 0, 1) := by decide +kernel
theorem dX12_pair__29 : decode cX12_pair_ 29 = .ok (.getfield 377, 3) := by decide +kernel
theorem dX12_pair__32 : decode cX12_pair_ 32 = .ok (.iconst 1, 1) := by decide +kernel
theorem dX12_pair__33 : decode cX12_pair_ 33 = .ok (.isub, 1) := by decide +kernel
theorem dX12_pair__34 : decode cX12_pair_ 34 = .ok (.i2l, 1) := by decide +kernel
theorem dX12_pair__35 : decode cX12_pair_ 35 = .ok (.invokestatic 201, 3) := by decide +kernel
theorem dX12_pair__38 : decode cX12_pair_ 38 = .ok (.ifCond .ne 10, 3) := by decide +kernel
theorem dX12_pair__41 : decode cX12_pair_ 41 = .ok (.aload_n 0, 1) := by decide +kernel
theorem dX12_pair__42 : decode cX12_pair_ 42 = .ok (.bipush (-3), 2) := by decide +kernel
theorem dX12_pair__44 : decode cX12_pair_ 44 = .ok (.invokevirtual 191, 3) := by decide +kernel
theorem dX12_pair__47 : decode cX12_pair_ 47 = .ok (.ireturn, 1) := by decide +kernel
theorem dX12_pair__48 : decode cX12_pair_ 48 = .ok (.iload_n 2, 1) := by decide +kernel
theorem dX12_pair__49 : decode cX12_pair_ 49 = .ok (.ifCond .eq 12, 3) := by decide +kernel
theorem dX12_pair__52 : decode cX12_pair_ 52 = .ok (.aload_n 0, 1) := by decide +kernel
theorem dX12_pair__53 : decode cX12_pair_ 53 = .ok (.getfield 176, 3) := by decide +kernel
theorem dX12_pair__56 : decode cX12_pair_ 56 = .ok (.iload_n 1, 1) := by decide +kernel
theorem dX12_pair__57 : decode cX12_pair_ 57 = .ok (.iaload, 1) := by decide +kernel
theorem dX12_pair__58 : decode cX12_pair_ 58 = .ok (.goto 9, 3) := by decide +kernel
theorem dX12_pair__61 : decode cX12_pair_ 61 = .ok (.aload_n 0, 1) := by decide +kernel
theorem dX12_pair__62 : decode cX12_pair_ 62 = .ok (.getfield 182, 3) := by decide +kernel
theorem dX12_pair__65 : decode cX12_pair_ 65 = .ok (.iload_n 1, 1) := by decide +kernel
theorem dX12_pair__66 : decode cX12_pair_ 66 = .ok (.iaload, 1) := by decide +kernel
theorem dX12_pair__67 : decode cX12_pair_ 67 = .ok (.ireturn, 1) := by decide +kernel
