theorem dX0_init_0 : decode cX0_init 0 = .ok (.aload_n 0, 1) := by decide +kernel
theorem dX0_init_1 : decode cX0_init 1 = .ok (.invokespecial 3, 3) := by decide +kernel
theorem dX0_init_4 : decode cX0_init 4 = .ok (.aload_n 0, 1) := by decide +kernel
theorem dX0_init_5 : decode cX0_init 5 = .ok (.aload_n 1, 1) := by decide +kernel
theorem dX0_init_6 : decode cX0_init 6 = .ok (.putfield 9, 3) := by decide +kernel
theorem dX0_init_9 : decode cX0_init 9 = .ok (.aload_n 0, 1) := by decide +kernel
theorem dX0_init_10 : decode cX0_init 10 = .ok (.aload_n 2, 1) := by decide +kernel
theorem dX0_init_11 : decode cX0_init 11 = .ok (.putfield 15, 3) := by decide +kernel
theorem dX0_init_14 : decode cX0_init 14 = .ok (.aload_n 0, 1) := by decide +kernel
theorem dX0_init_15 : decode cX0_init 15 = .ok (.aload_n 3, 1) := by decide +kernel
theorem dX0_init_16 : decode cX0_init 16 = .ok (.putfield 19, 3) := by decide +kernel
theorem dX0_init_19 : decode cX0_init 19 = .ok (.aload_n 0, 1) := by decide +kernel
theorem dX0_init_20 : decode cX0_init 20 = .ok (.bipush 12, 2) := by decide +kernel
theorem dX0_init_22 : decode cX0_init 22 = .ok (.newarray .int, 2) := by decide +kernel
theorem dX0_init_24 : decode cX0_init 24 = .ok (.putfield 23, 3) := by decide +kernel
theorem dX0_init_27 : decode cX0_init 27 = .ok (.aload_n 0, 1) := by decide +kernel
theorem dX0_init_28 : decode cX0_init 28 = .ok (.bipush 12, 2) := by decide +kernel
theorem dX0_init_30 : decode cX0_init 30 = .ok (.newarray .int, 2) := by decide +kernel
theorem dX0_init_32 : decode cX0_init 32 = .ok (.putfield 27, 3) := by decide +kernel
theorem dX0_init_35 : decode cX0_init 35 = .ok (.aload_n 0, 1) := by decide +kernel
theorem dX0_init_36 : decode cX0_init 36 = .ok (.bipush 12, 2) := by decide +kernel
theorem dX0_init_38 : decode cX0_init 38 = .ok (.newarray .boolean, 2) := by decide +kernel
theorem dX0_init_40 : decode cX0_init 40 = .ok (.putfield 30, 3) := by decide +kernel
theorem dX0_init_43 : decode cX0_init 43 = .ok (.return_, 1) := by decide +kernel
theorem dX0_read_0 : decode cX0_read 0 = .ok (.aload_n 0, 1) := by decide +kernel
theorem dX0_read_1 : decode cX0_read 1 = .ok (.iload_n 1, 1) := by decide +kernel
theorem dX0_read_2 : decode cX0_read 2 = .ok (.iload_n 2, 1) := by decide +kernel
theorem dX0_read_3 : decode cX0_read 3 = .ok (.invokevirtual 34, 3) := by decide +kernel
theorem dX0_read_6 : decode cX0_read 6 = .ok (.aload_n 0, 1) := by decide +kernel
theorem dX0_read_7 : decode cX0_read 7 = .ok (.invokevirtual 38, 3) := by decide +kernel
theorem dX0_read_10 : decode cX0_read 10 = .ok (.aload_n 0, 1) := by decide +kernel
theorem dX0_read_11 : decode cX0_read 11 = .ok (.invokevirtual 41, 3) := by decide +kernel
theorem dX0_read_14 : decode cX0_read 14 = .ok (.return_, 1) := by decide +kernel
theorem dX0_isAllMissing_0 : decode cX0_isAllMissing 0 = .ok (.aload_n 0, 1) := by decide +kernel
theorem dX0_isAllMissing_1 : decode cX0_isAllMissing 1 = .ok (.getfield 44, 3) := by decide +kernel
theorem dX0_isAllMissing_4 : decode cX0_isAllMissing 4 = .ok (.ireturn, 1) := by decide +kernel
theorem dX0_told_0 : decode cX0_told 0 = .ok (.aload_n 0, 1) := by decide +kernel
theorem dX0_told_1 : decode cX0_told 1 = .ok (.getfield 15, 3) := by decide +kernel
theorem dX0_told_4 : decode cX0_told 4 = .ok (.iload_n 1, 1) := by decide +kernel
theorem dX0_told_5 : decode cX0_told 5 = .ok (.invokevirtual 48, 3) := by decide +kernel
theorem dX0_told_8 : decode cX0_told 8 = .ok (.ifCond .eq 21, 3) := by decide +kernel
theorem dX0_told_11 : decode cX0_told 11 = .ok (.aload_n 0, 1) := by decide +kernel
theorem dX0_told_12 : decode cX0_told 12 = .ok (.getfield 30, 3) := by decide +kernel
theorem dX0_told_15 : decode cX0_told 15 = .ok (.iload_n 1, 1) := by decide +kernel
theorem dX0_told_16 : decode cX0_told 16 = .ok (.baload, 1) := by decide +kernel
theorem dX0_told_17 : decode cX0_told 17 = .ok (.ifCond .ne 12, 3) := by decide +kernel
theorem dX0_told_20 : decode cX0_told 20 = .ok (.aload_n 0, 1) := by decide +kernel
theorem dX0_told_21 : decode cX0_told 21 = .ok (.getfield 27, 3) := by decide +kernel
theorem dX0_told_24 : decode cX0_told 24 = .ok (.iload_n 1, 1) := by decide +kernel
theorem dX0_told_25 : decode cX0_told 25 = .ok (.iaload, 1) := by decide +kernel
theorem dX0_told_26 : decode cX0_told 26 = .ok (.goto 4, 3) := by decide +kernel
theorem dX0_told_29 : decode cX0_told 29 = .ok (.iconst (-1), 1) := by decide +kernel
theorem dX0_told_30 : decode cX0_told 30 = .ok (.ireturn, 1) := by decide +kernel
theorem dX0_countFaults_0 : decode cX0_countFaults 0 = .ok (.iconst 0, 1) := by decide +kernel
theorem dX0_countFaults_1 : decode cX0_countFaults 1 = .ok (.istore_n 1, 1) := by decide +kernel
theorem dX0_countFaults_2 : decode cX0_countFaults 2 = .ok (.iconst 0, 1) := by decide +kernel
theorem dX0_countFaults_3 : decode cX0_countFaults 3 = .ok (.istore_n 2, 1) := by decide +kernel
theorem dX0_countFaults_4 : decode cX0_countFaults 4 = .ok (.iload_n 2, 1) := by decide +kernel
theorem dX0_countFaults_5 : decode cX0_countFaults 5 = .ok (.aload_n 0, 1) := by decide +kernel
theorem dX0_countFaults_6 : decode cX0_countFaults 6 = .ok (.getfield 15, 3) := by decide +kernel
theorem dX0_countFaults_9 : decode cX0_countFaults 9 = .ok (.invokevirtual 54, 3) := by decide +kernel
theorem dX0_countFaults_12 : decode cX0_countFaults 12 = .ok (.if_icmp .ge 38, 3) := by decide +kernel
theorem dX0_countFaults_15 : decode cX0_countFaults 15 = .ok (.iload_n 2, 1) := by decide +kernel
theorem dX0_countFaults_16 : decode cX0_countFaults 16 = .ok (.bipush 12, 2) := by decide +kernel
theorem dX0_countFaults_18 : decode cX0_countFaults 18 = .ok (.if_icmp .ge 32, 3) := by decide +kernel
theorem dX0_countFaults_21 : decode cX0_countFaults 21 = .ok (.aload_n 0, 1) := by decide +kernel
theorem dX0_countFaults_22 : decode cX0_countFaults 22 = .ok (.getfield 23, 3) := by decide +kernel
theorem dX0_countFaults_25 : decode cX0_countFaults 25 = .ok (.iload_n 2, 1) := by decide +kernel
theorem dX0_countFaults_26 : decode cX0_countFaults 26 = .ok (.iaload, 1) := by decide +kernel
theorem dX0_countFaults_27 : decode cX0_countFaults 27 = .ok (.iconst (-1), 1) := by decide +kernel
theorem dX0_countFaults_28 : decode cX0_countFaults 28 = .ok (.if_icmp .eq 16, 3) := by decide +kernel
theorem dX0_countFaults_31 : decode cX0_countFaults 31 = .ok (.aload_n 0, 1) := by decide +kernel
theorem dX0_countFaults_32 : decode cX0_countFaults 32 = .ok (.getfield 27, 3) := by decide +kernel
theorem dX0_countFaults_35 : decode cX0_countFaults 35 = .ok (.iload_n 2, 1) := by decide +kernel
theorem dX0_countFaults_36 : decode cX0_countFaults 36 = .ok (.iaload, 1) := by decide +kernel
theorem dX0_countFaults_37 : decode cX0_countFaults 37 = .ok (.iconst (-1), 1) := by decide +kernel
theorem dX0_countFaults_38 : decode cX0_countFaults 38 = .ok (.if_icmp .ne 6, 3) := by decide +kernel
theorem dX0_countFaults_41 : decode cX0_countFaults 41 = .ok (.iinc 1 1, 3) := by decide +kernel
theorem dX0_countFaults_44 : decode cX0_countFaults 44 = .ok (.iinc 2 1, 3) := by decide +kernel
theorem dX0_countFaults_47 : decode cX0_countFaults 47 = .ok (.goto (-43), 3) := by decide +kernel
theorem dX0_countFaults_50 : decode cX0_countFaults 50 = .ok (.iload_n 1, 1) := by decide +kernel
theorem dX0_countFaults_51 : decode cX0_countFaults 51 = .ok (.ireturn, 1) := by decide +kernel
theorem dX0_differsFrom_0 : decode cX0_differsFrom 0 = .ok (.aload_n 0, 1) := by decide +kernel
theorem dX0_differsFrom_1 : decode cX0_differsFrom 1 = .ok (.getfield 44, 3) := by decide +kernel
theorem dX0_differsFrom_4 : decode cX0_differsFrom 4 = .ok (.aload_n 1, 1) := by decide +kernel
theorem dX0_differsFrom_5 : decode cX0_differsFrom 5 = .ok (.invokevirtual 58, 3) := by decide +kernel
theorem dX0_differsFrom_8 : decode cX0_differsFrom 8 = .ok (.if_icmp .eq 7, 3) := by decide +kernel
theorem dX0_differsFrom_11 : decode cX0_differsFrom 11 = .ok (.iconst 1, 1) := by decide +kernel
theorem dX0_differsFrom_12 : decode cX0_differsFrom 12 = .ok (.goto 4, 3) := by decide +kernel
theorem dX0_differsFrom_15 : decode cX0_differsFrom 15 = .ok (.iconst 0, 1) := by decide +kernel
theorem dX0_differsFrom_16 : decode cX0_differsFrom 16 = .ok (.istore_n 2, 1) := by decide +kernel
theorem dX0_differsFrom_17 : decode cX0_differsFrom 17 = .ok (.iconst 0, 1) := by decide +kernel
theorem dX0_differsFrom_18 : decode cX0_differsFrom 18 = .ok (.istore_n 3, 1) := by decide +kernel
theorem dX0_differsFrom_19 : decode cX0_differsFrom 19 = .ok (.iload_n 3, 1) := by decide +kernel
theorem dX0_differsFrom_20 : decode cX0_differsFrom 20 = .ok (.aload_n 0, 1) := by decide +kernel
theorem dX0_differsFrom_21 : decode cX0_differsFrom 21 = .ok (.getfield 15, 3) := by decide +kernel
theorem dX0_differsFrom_24 : decode cX0_differsFrom 24 = .ok (.invokevirtual 54, 3) := by decide +kernel
theorem dX0_differsFrom_27 : decode cX0_differsFrom 27 = .ok (.if_icmp .ge 32, 3) := by decide +kernel
theorem dX0_differsFrom_30 : decode cX0_differsFrom 30 = .ok (.iload_n 2, 1) := by decide +kernel
theorem dX0_differsFrom_31 : decode cX0_differsFrom 31 = .ok (.ifCond .ne 16, 3) := by decide +kernel
theorem dX0_differsFrom_34 : decode cX0_differsFrom 34 = .ok (.aload_n 0, 1) := by decide +kernel
theorem dX0_differsFrom_35 : decode cX0_differsFrom 35 = .ok (.iload_n 3, 1) := by decide +kernel
theorem dX0_differsFrom_36 : decode cX0_differsFrom 36 = .ok (.invokevirtual 62, 3) := by decide +kernel
theorem dX0_differsFrom_39 : decode cX0_differsFrom 39 = .ok (.aload_n 1, 1) := by decide +kernel
theorem dX0_differsFrom_40 : decode cX0_differsFrom 40 = .ok (.iload_n 3, 1) := by decide +kernel
theorem dX0_differsFrom_41 : decode cX0_differsFrom 41 = .ok (.invokevirtual 62, 3) := by decide +kernel
theorem dX0_differsFrom_44 : decode cX0_differsFrom 44 = .ok (.if_icmp .eq 7, 3) := by decide +kernel
theorem dX0_differsFrom_47 : decode cX0_differsFrom 47 = .ok (.iconst 1, 1) := by decide +kernel
theorem dX0_differsFrom_48 : decode cX0_differsFrom 48 = .ok (.goto 4, 3) := by decide +kernel
theorem dX0_differsFrom_51 : decode cX0_differsFrom 51 = .ok (.iconst 0, 1) := by decide +kernel
theorem dX0_differsFrom_52 : decode cX0_differsFrom 52 = .ok (.istore_n 2, 1) := by decide +kernel
theorem dX0_differsFrom_53 : decode cX0_differsFrom 53 = .ok (.iinc 3 1, 3) := by decide +kernel
theorem dX0_differsFrom_56 : decode cX0_differsFrom 56 = .ok (.goto (-37), 3) := by decide +kernel
theorem dX0_differsFrom_59 : decode cX0_differsFrom 59 = .ok (.iload_n 2, 1) := by decide +kernel
theorem dX0_differsFrom_60 : decode cX0_differsFrom 60 = .ok (.ireturn, 1) := by decide +kernel
theorem dX0_readValues_0 : decode cX0_readValues 0 = .ok (.iconst 0, 1) := by decide +kernel
theorem dX0_readValues_1 : decode cX0_readValues 1 = .ok (.istore_n 3, 1) := by decide +kernel
theorem dX0_readValues_2 : decode cX0_readValues 2 = .ok (.iload_n 3, 1) := by decide +kernel
theorem dX0_readValues_3 : decode cX0_readValues 3 = .ok (.aload_n 0, 1) := by decide +kernel
theorem dX0_readValues_4 : decode cX0_readValues 4 = .ok (.getfield 15, 3) := by decide +kernel
theorem dX0_readValues_7 : decode cX0_readValues 7 = .ok (.invokevirtual 54, 3) := by decide +kernel
theorem dX0_readValues_10 : decode cX0_readValues 10 = .ok (.if_icmp .ge 134, 3) := by decide +kernel
theorem dX0_readValues_13 : decode cX0_readValues 13 = .ok (.iload_n 3, 1) := by decide +kernel
theorem dX0_readValues_14 : decode cX0_readValues 14 = .ok (.bipush 12, 2) := by decide +kernel
theorem dX0_readValues_16 : decode cX0_readValues 16 = .ok (.if_icmp .ge 128, 3) := by decide +kernel
theorem dX0_readValues_19 : decode cX0_readValues 19 = .ok (.aload_n 0, 1) := by decide +kernel
theorem dX0_readValues_20 : decode cX0_readValues 20 = .ok (.getfield 15, 3) := by decide +kernel
theorem dX0_readValues_23 : decode cX0_readValues 23 = .ok (.iload_n 3, 1) := by decide +kernel
theorem dX0_readValues_24 : decode cX0_readValues 24 = .ok (.invokevirtual 66, 3) := by decide +kernel
theorem dX0_readValues_27 : decode cX0_readValues 27 = .ok (.istore 4, 2) := by decide +kernel
theorem dX0_readValues_29 : decode cX0_readValues 29 = .ok (.aload_n 0, 1) := by decide +kernel
theorem dX0_readValues_30 : decode cX0_readValues 30 = .ok (.getfield 15, 3) := by decide +kernel
theorem dX0_readValues_33 : decode cX0_readValues 33 = .ok (.iload 4, 2) := by decide +kernel
theorem dX0_readValues_35 : decode cX0_readValues 35 = .ok (.invokevirtual 48, 3) := by decide +kernel
theorem dX0_readValues_38 : decode cX0_readValues 38 = .ok (.ifCond .eq 13, 3) := by decide +kernel
theorem dX0_readValues_41 : decode cX0_readValues 41 = .ok (.aload_n 0, 1) := by decide +kernel
theorem dX0_readValues_42 : decode cX0_readValues 42 = .ok (.getfield 27, 3) := by decide +kernel
theorem dX0_readValues_45 : decode cX0_readValues 45 = .ok (.iload 4, 2) := by decide +kernel
theorem dX0_readValues_47 : decode cX0_readValues 47 = .ok (.iaload, 1) := by decide +kernel
theorem dX0_readValues_48 : decode cX0_readValues 48 = .ok (.goto 4, 3) := by decide +kernel
theorem dX0_readValues_51 : decode cX0_readValues 51 = .ok (.iload_n 1, 1) := by decide +kernel
theorem dX0_readValues_52 : decode cX0_readValues 52 = .ok (.istore 5, 2) := by decide +kernel
theorem dX0_readValues_54 : decode cX0_readValues 54 = .ok (.iload_n 2, 1) := by decide +kernel
theorem dX0_readValues_55 : decode cX0_readValues 55 = .ok (.aload_n 0, 1) := by decide +kernel
theorem dX0_readValues_56 : decode cX0_readValues 56 = .ok (.getfield 19, 3) := by decide +kernel
theorem dX0_readValues_59 : decode cX0_readValues 59 = .ok (.iload_n 3, 1) := by decide +kernel
theorem dX0_readValues_60 : decode cX0_readValues 60 = .ok (.invokevirtual 69, 3) := by decide +kernel
theorem dX0_readValues_63 : decode cX0_readValues 63 = .ok (.invokestatic 74, 3) := by decide +kernel
theorem dX0_readValues_66 : decode cX0_readValues 66 = .ok (.iand, 1) := by decide +kernel
theorem dX0_readValues_67 : decode cX0_readValues 67 = .ok (.ifCond .eq 7, 3) := by decide +kernel
theorem dX0_readValues_70 : decode cX0_readValues 70 = .ok (.iconst 1, 1) := by decide +kernel
theorem dX0_readValues_71 : decode cX0_readValues 71 = .ok (.goto 4, 3) := by decide +kernel
theorem dX0_readValues_74 : decode cX0_readValues 74 = .ok (.iconst 0, 1) := by decide +kernel
theorem dX0_readValues_75 : decode cX0_readValues 75 = .ok (.istore 6, 2) := by decide +kernel
theorem dX0_readValues_77 : decode cX0_readValues 77 = .ok (.aload_n 0, 1) := by decide +kernel
theorem dX0_readValues_78 : decode cX0_readValues 78 = .ok (.getfield 23, 3) := by decide +kernel
theorem dX0_readValues_81 : decode cX0_readValues 81 = .ok (.iload_n 3, 1) := by decide +kernel
theorem dX0_readValues_82 : decode cX0_readValues 82 = .ok (.iload 5, 2) := by decide +kernel
theorem dX0_readValues_84 : decode cX0_readValues 84 = .ok (.iastore, 1) := by decide +kernel
theorem dX0_readValues_85 : decode cX0_readValues 85 = .ok (.aload_n 0, 1) := by decide +kernel
theorem dX0_readValues_86 : decode cX0_readValues 86 = .ok (.getfield 27, 3) := by decide +kernel
theorem dX0_readValues_89 : decode cX0_readValues 89 = .ok (.iload_n 3, 1) := by decide +kernel
theorem dX0_readValues_90 : decode cX0_readValues 90 = .ok (.iload 6, 2) := by decide +kernel
theorem dX0_readValues_92 : decode cX0_readValues 92 = .ok (.ifCond .eq 7, 3) := by decide +kernel
theorem dX0_readValues_95 : decode cX0_readValues 95 = .ok (.iconst (-1), 1) := by decide +kernel
theorem dX0_readValues_96 : decode cX0_readValues 96 = .ok (.goto 20, 3) := by decide +kernel
theorem dX0_readValues_99 : decode cX0_readValues 99 = .ok (.aload_n 0, 1) := by decide +kernel
theorem dX0_readValues_100 : decode cX0_readValues 100 = .ok (.getfield 9, 3) := by decide +kernel
theorem dX0_readValues_103 : decode cX0_readValues 103 = .ok (.aload_n 0, 1) := by decide +kernel
theorem dX0_readValues_104 : decode cX0_readValues 104 = .ok (.getfield 15, 3) := by decide +kernel
theorem dX0_readValues_107 : decode cX0_readValues 107 = .ok (.iload_n 3, 1) := by decide +kernel
theorem dX0_readValues_108 : decode cX0_readValues 108 = .ok (.invokevirtual 77, 3) := by decide +kernel
theorem dX0_readValues_111 : decode cX0_readValues 111 = .ok (.iload 5, 2) := by decide +kernel
theorem dX0_readValues_113 : decode cX0_readValues 113 = .ok (.invokevirtual 80, 3) := by decide +kernel
theorem dX0_readValues_116 : decode cX0_readValues 116 = .ok (.iastore, 1) := by decide +kernel
theorem dX0_readValues_117 : decode cX0_readValues 117 = .ok (.aload_n 0, 1) := by decide +kernel
theorem dX0_readValues_118 : decode cX0_readValues 118 = .ok (.getfield 30, 3) := by decide +kernel
theorem dX0_readValues_121 : decode cX0_readValues 121 = .ok (.iload_n 3, 1) := by decide +kernel
theorem dX0_readValues_122 : decode cX0_readValues 122 = .ok (.aload_n 0, 1) := by decide +kernel
theorem dX0_readValues_123 : decode cX0_readValues 123 = .ok (.getfield 27, 3) := by decide +kernel
theorem dX0_readValues_126 : decode cX0_readValues 126 = .ok (.iload_n 3, 1) := by decide +kernel
theorem dX0_readValues_127 : decode cX0_readValues 127 = .ok (.iaload, 1) := by decide +kernel
theorem dX0_readValues_128 : decode cX0_readValues 128 = .ok (.iconst (-1), 1) := by decide +kernel
theorem dX0_readValues_129 : decode cX0_readValues 129 = .ok (.if_icmp .ne 7, 3) := by decide +kernel
theorem dX0_readValues_132 : decode cX0_readValues 132 = .ok (.iconst 1, 1) := by decide +kernel
theorem dX0_readValues_133 : decode cX0_readValues 133 = .ok (.goto 4, 3) := by decide +kernel
theorem dX0_readValues_136 : decode cX0_readValues 136 = .ok (.iconst 0, 1) := by decide +kernel
theorem dX0_readValues_137 : decode cX0_readValues 137 = .ok (.bastore, 1) := by decide +kernel
theorem dX0_readValues_138 : decode cX0_readValues 138 = .ok (.iinc 3 1, 3) := by decide +kernel
theorem dX0_readValues_141 : decode cX0_readValues 141 = .ok (.goto (-139), 3) := by decide +kernel
theorem dX0_readValues_144 : decode cX0_readValues 144 = .ok (.return_, 1) := by decide +kernel
theorem dX0_letMissingClimb_0 : decode cX0_letMissingClimb 0 = .ok (.aload_n 0, 1) := by decide +kernel
theorem dX0_letMissingClimb_1 : decode cX0_letMissingClimb 1 = .ok (.iconst 0, 1) := by decide +kernel
theorem dX0_letMissingClimb_2 : decode cX0_letMissingClimb 2 = .ok (.putfield 44, 3) := by decide +kernel
theorem dX0_letMissingClimb_5 : decode cX0_letMissingClimb 5 = .ok (.aload_n 0, 1) := by decide +kernel
theorem dX0_letMissingClimb_6 : decode cX0_letMissingClimb 6 = .ok (.getfield 15, 3) := by decide +kernel
theorem dX0_letMissingClimb_9 : decode cX0_letMissingClimb 9 = .ok (.invokevirtual 54, 3) := by decide +kernel
theorem dX0_letMissingClimb_12 : decode cX0_letMissingClimb 12 = .ok (.bipush 12, 2) := by decide +kernel
theorem dX0_letMissingClimb_14 : decode cX0_letMissingClimb 14 = .ok (.invokestatic 86, 3) := by decide +kernel
theorem dX0_letMissingClimb_17 : decode cX0_letMissingClimb 17 = .ok (.iconst 1, 1) := by decide +kernel
theorem dX0_letMissingClimb_18 : decode cX0_letMissingClimb 18 = .ok (.isub, 1) := by decide +kernel
theorem dX0_letMissingClimb_19 : decode cX0_letMissingClimb 19 = .ok (.istore_n 1, 1) := by decide +kernel
theorem dX0_letMissingClimb_20 : decode cX0_letMissingClimb 20 = .ok (.iload_n 1, 1) := by decide +kernel
theorem dX0_letMissingClimb_21 : decode cX0_letMissingClimb 21 = .ok (.ifCond .lt 71, 3) := by decide +kernel
theorem dX0_letMissingClimb_24 : decode cX0_letMissingClimb 24 = .ok (.aload_n 0, 1) := by decide +kernel
theorem dX0_letMissingClimb_25 : decode cX0_letMissingClimb 25 = .ok (.getfield 30, 3) := by decide +kernel
theorem dX0_letMissingClimb_28 : decode cX0_letMissingClimb 28 = .ok (.iload_n 1, 1) := by decide +kernel
theorem dX0_letMissingClimb_29 : decode cX0_letMissingClimb 29 = .ok (.baload, 1) := by decide +kernel
theorem dX0_letMissingClimb_30 : decode cX0_letMissingClimb 30 = .ok (.ifCond .eq 56, 3) := by decide +kernel
theorem dX0_letMissingClimb_33 : decode cX0_letMissingClimb 33 = .ok (.aload_n 0, 1) := by decide +kernel
theorem dX0_letMissingClimb_34 : decode cX0_letMissingClimb 34 = .ok (.getfield 9, 3) := by decide +kernel
theorem dX0_letMissingClimb_37 : decode cX0_letMissingClimb 37 = .ok (.aload_n 0, 1) := by decide +kernel
theorem dX0_letMissingClimb_38 : decode cX0_letMissingClimb 38 = .ok (.getfield 15, 3) := by decide +kernel
theorem dX0_letMissingClimb_41 : decode cX0_letMissingClimb 41 = .ok (.iload_n 1, 1) := by decide +kernel
theorem dX0_letMissingClimb_42 : decode cX0_letMissingClimb 42 = .ok (.invokevirtual 77, 3) := by decide +kernel
theorem dX0_letMissingClimb_45 : decode cX0_letMissingClimb 45 = .ok (.invokevirtual 91, 3) := by decide +kernel
theorem dX0_letMissingClimb_48 : decode cX0_letMissingClimb 48 = .ok (.ifCond .eq 38, 3) := by decide +kernel
theorem dX0_letMissingClimb_51 : decode cX0_letMissingClimb 51 = .ok (.aload_n 0, 1) := by decide +kernel
theorem dX0_letMissingClimb_52 : decode cX0_letMissingClimb 52 = .ok (.getfield 15, 3) := by decide +kernel
theorem dX0_letMissingClimb_55 : decode cX0_letMissingClimb 55 = .ok (.iload_n 1, 1) := by decide +kernel
theorem dX0_letMissingClimb_56 : decode cX0_letMissingClimb 56 = .ok (.invokevirtual 66, 3) := by decide +kernel
theorem dX0_letMissingClimb_59 : decode cX0_letMissingClimb 59 = .ok (.istore_n 2, 1) := by decide +kernel
theorem dX0_letMissingClimb_60 : decode cX0_letMissingClimb 60 = .ok (.aload_n 0, 1) := by decide +kernel
theorem dX0_letMissingClimb_61 : decode cX0_letMissingClimb 61 = .ok (.getfield 15, 3) := by decide +kernel
theorem dX0_letMissingClimb_64 : decode cX0_letMissingClimb 64 = .ok (.iload_n 2, 1) := by decide +kernel
theorem dX0_letMissingClimb_65 : decode cX0_letMissingClimb 65 = .ok (.invokevirtual 48, 3) := by decide +kernel
theorem dX0_letMissingClimb_68 : decode cX0_letMissingClimb 68 = .ok (.ifCond .eq 13, 3) := by decide +kernel
theorem dX0_letMissingClimb_71 : decode cX0_letMissingClimb 71 = .ok (.aload_n 0, 1) := by decide +kernel
theorem dX0_letMissingClimb_72 : decode cX0_letMissingClimb 72 = .ok (.getfield 30, 3) := by decide +kernel
theorem dX0_letMissingClimb_75 : decode cX0_letMissingClimb 75 = .ok (.iload_n 2, 1) := by decide +kernel
theorem dX0_letMissingClimb_76 : decode cX0_letMissingClimb 76 = .ok (.iconst 1, 1) := by decide +kernel
theorem dX0_letMissingClimb_77 : decode cX0_letMissingClimb 77 = .ok (.bastore, 1) := by decide +kernel
theorem dX0_letMissingClimb_78 : decode cX0_letMissingClimb 78 = .ok (.goto 8, 3) := by decide +kernel
theorem dX0_letMissingClimb_81 : decode cX0_letMissingClimb 81 = .ok (.aload_n 0, 1) := by decide +kernel
theorem dX0_letMissingClimb_82 : decode cX0_letMissingClimb 82 = .ok (.iconst 1, 1) := by decide +kernel
theorem dX0_letMissingClimb_83 : decode cX0_letMissingClimb 83 = .ok (.putfield 44, 3) := by decide +kernel
theorem dX0_letMissingClimb_86 : decode cX0_letMissingClimb 86 = .ok (.iinc 1 (-1), 3) := by decide +kernel
theorem dX0_letMissingClimb_89 : decode cX0_letMissingClimb 89 = .ok (.goto (-69), 3) := by decide +kernel
theorem dX0_letMissingClimb_92 : decode cX0_letMissingClimb 92 = .ok (.return_, 1) := by decide +kernel
theorem dX0_letMissingFall_0 : decode cX0_letMissingFall 0 = .ok (.iconst 0, 1) := by decide +kernel
theorem dX0_letMissingFall_1 : decode cX0_letMissingFall 1 = .ok (.istore_n 1, 1) := by decide +kernel
theorem dX0_letMissingFall_2 : decode cX0_letMissingFall 2 = .ok (.iload_n 1, 1) := by decide +kernel
theorem dX0_letMissingFall_3 : decode cX0_letMissingFall 3 = .ok (.aload_n 0, 1) := by decide +kernel
theorem dX0_letMissingFall_4 : decode cX0_letMissingFall 4 = .ok (.getfield 15, 3) := by decide +kernel
theorem dX0_letMissingFall_7 : decode cX0_letMissingFall 7 = .ok (.invokevirtual 54, 3) := by decide +kernel
theorem dX0_letMissingFall_10 : decode cX0_letMissingFall 10 = .ok (.if_icmp .ge 71, 3) := by decide +kernel
theorem dX0_letMissingFall_13 : decode cX0_letMissingFall 13 = .ok (.iload_n 1, 1) := by decide +kernel
theorem dX0_letMissingFall_14 : decode cX0_letMissingFall 14 = .ok (.bipush 12, 2) := by decide +kernel
theorem dX0_letMissingFall_16 : decode cX0_letMissingFall 16 = .ok (.if_icmp .ge 65, 3) := by decide +kernel
theorem dX0_letMissingFall_19 : decode cX0_letMissingFall 19 = .ok (.aload_n 0, 1) := by decide +kernel
theorem dX0_letMissingFall_20 : decode cX0_letMissingFall 20 = .ok (.getfield 15, 3) := by decide +kernel
theorem dX0_letMissingFall_23 : decode cX0_letMissingFall 23 = .ok (.iload_n 1, 1) := by decide +kernel
theorem dX0_letMissingFall_24 : decode cX0_letMissingFall 24 = .ok (.invokevirtual 66, 3) := by decide +kernel
theorem dX0_letMissingFall_27 : decode cX0_letMissingFall 27 = .ok (.istore_n 2, 1) := by decide +kernel
theorem dX0_letMissingFall_28 : decode cX0_letMissingFall 28 = .ok (.aload_n 0, 1) := by decide +kernel
theorem dX0_letMissingFall_29 : decode cX0_letMissingFall 29 = .ok (.getfield 30, 3) := by decide +kernel
theorem dX0_letMissingFall_32 : decode cX0_letMissingFall 32 = .ok (.iload_n 1, 1) := by decide +kernel
theorem dX0_letMissingFall_33 : decode cX0_letMissingFall 33 = .ok (.aload_n 0, 1) := by decide +kernel
theorem dX0_letMissingFall_34 : decode cX0_letMissingFall 34 = .ok (.getfield 30, 3) := by decide +kernel
theorem dX0_letMissingFall_37 : decode cX0_letMissingFall 37 = .ok (.iload_n 1, 1) := by decide +kernel
theorem dX0_letMissingFall_38 : decode cX0_letMissingFall 38 = .ok (.baload, 1) := by decide +kernel
theorem dX0_letMissingFall_39 : decode cX0_letMissingFall 39 = .ok (.ifCond .ne 30, 3) := by decide +kernel
theorem dX0_letMissingFall_42 : decode cX0_letMissingFall 42 = .ok (.aload_n 0, 1) := by decide +kernel
theorem dX0_letMissingFall_43 : decode cX0_letMissingFall 43 = .ok (.getfield 44, 3) := by decide +kernel
theorem dX0_letMissingFall_46 : decode cX0_letMissingFall 46 = .ok (.ifCond .ne 23, 3) := by decide +kernel
theorem dX0_letMissingFall_49 : decode cX0_letMissingFall 49 = .ok (.aload_n 0, 1) := by decide +kernel
theorem dX0_letMissingFall_50 : decode cX0_letMissingFall 50 = .ok (.getfield 15, 3) := by decide +kernel
theorem dX0_letMissingFall_53 : decode cX0_letMissingFall 53 = .ok (.iload_n 2, 1) := by decide +kernel
theorem dX0_letMissingFall_54 : decode cX0_letMissingFall 54 = .ok (.invokevirtual 48, 3) := by decide +kernel
theorem dX0_letMissingFall_57 : decode cX0_letMissingFall 57 = .ok (.ifCond .eq 16, 3) := by decide +kernel
theorem dX0_letMissingFall_60 : decode cX0_letMissingFall 60 = .ok (.aload_n 0, 1) := by decide +kernel
theorem dX0_letMissingFall_61 : decode cX0_letMissingFall 61 = .ok (.getfield 30, 3) := by decide +kernel
theorem dX0_letMissingFall_64 : decode cX0_letMissingFall 64 = .ok (.iload_n 2, 1) := by decide +kernel
theorem dX0_letMissingFall_65 : decode cX0_letMissingFall 65 = .ok (.baload, 1) := by decide +kernel
theorem dX0_letMissingFall_66 : decode cX0_letMissingFall 66 = .ok (.ifCond .eq 7, 3) := by decide +kernel
theorem dX0_letMissingFall_69 : decode cX0_letMissingFall 69 = .ok (.iconst 1, 1) := by decide +kernel
theorem dX0_letMissingFall_70 : decode cX0_letMissingFall 70 = .ok (.goto 4, 3) := by decide +kernel
theorem dX0_letMissingFall_73 : decode cX0_letMissingFall 73 = .ok (.iconst 0, 1) := by decide +kernel
theorem dX0_letMissingFall_74 : decode cX0_letMissingFall 74 = .ok (.bastore, 1) := by decide +kernel
theorem dX0_letMissingFall_75 : decode cX0_letMissingFall 75 = .ok (.iinc 1 1, 3) := by decide +kernel
theorem dX0_letMissingFall_78 : decode cX0_letMissingFall 78 = .ok (.goto (-76), 3) := by decide +kernel
theorem dX0_letMissingFall_81 : decode cX0_letMissingFall 81 = .ok (.return_, 1) := by decide +kernel
theorem dX1_init_0 : decode cX1_init 0 = .ok (.aload_n 0, 1) := by decide +kernel
theorem dX1_init_1 : decode cX1_init 1 = .ok (.invokespecial 3, 3) := by decide +kernel
theorem dX1_init_4 : decode cX1_init 4 = .ok (.aload_n 0, 1) := by decide +kernel
theorem dX1_init_5 : decode cX1_init 5 = .ok (.iconst 4, 1) := by decide +kernel
theorem dX1_init_6 : decode cX1_init 6 = .ok (.newarray .int, 2) := by decide +kernel
theorem dX1_init_8 : decode cX1_init 8 = .ok (.putfield 9, 3) := by decide +kernel
theorem dX1_init_11 : decode cX1_init 11 = .ok (.aload_n 0, 1) := by decide +kernel
theorem dX1_init_12 : decode cX1_init 12 = .ok (.bipush 32, 2) := by decide +kernel
theorem dX1_init_14 : decode cX1_init 14 = .ok (.newarray .int, 2) := by decide +kernel
theorem dX1_init_16 : decode cX1_init 16 = .ok (.putfield 15, 3) := by decide +kernel
theorem dX1_init_19 : decode cX1_init 19 = .ok (.aload_n 0, 1) := by decide +kernel
theorem dX1_init_20 : decode cX1_init 20 = .ok (.bipush 32, 2) := by decide +kernel
theorem dX1_init_22 : decode cX1_init 22 = .ok (.newarray .boolean, 2) := by decide +kernel
theorem dX1_init_24 : decode cX1_init 24 = .ok (.putfield 18, 3) := by decide +kernel
theorem dX1_init_27 : decode cX1_init 27 = .ok (.aload_n 0, 1) := by decide +kernel
theorem dX1_init_28 : decode cX1_init 28 = .ok (.bipush 32, 2) := by decide +kernel
theorem dX1_init_30 : decode cX1_init 30 = .ok (.newarray .int, 2) := by decide +kernel
theorem dX1_init_32 : decode cX1_init 32 = .ok (.putfield 22, 3) := by decide +kernel
theorem dX1_init_35 : decode cX1_init 35 = .ok (.aload_n 0, 1) := by decide +kernel
theorem dX1_init_36 : decode cX1_init 36 = .ok (.sipush 640, 3) := by decide +kernel
theorem dX1_init_39 : decode cX1_init 39 = .ok (.newarray .int, 2) := by decide +kernel
theorem dX1_init_41 : decode cX1_init 41 = .ok (.putfield 25, 3) := by decide +kernel
theorem dX1_init_44 : decode cX1_init 44 = .ok (.aload_n 0, 1) := by decide +kernel
theorem dX1_init_45 : decode cX1_init 45 = .ok (.getfield 15, 3) := by decide +kernel
theorem dX1_init_48 : decode cX1_init 48 = .ok (.iconst (-1), 1) := by decide +kernel
theorem dX1_init_49 : decode cX1_init 49 = .ok (.invokestatic 28, 3) := by decide +kernel
theorem dX1_init_52 : decode cX1_init 52 = .ok (.aload_n 0, 1) := by decide +kernel
theorem dX1_init_53 : decode cX1_init 53 = .ok (.getfield 25, 3) := by decide +kernel
theorem dX1_init_56 : decode cX1_init 56 = .ok (.iconst (-1), 1) := by decide +kernel
theorem dX1_init_57 : decode cX1_init 57 = .ok (.invokestatic 28, 3) := by decide +kernel
theorem dX1_init_60 : decode cX1_init 60 = .ok (.return_, 1) := by decide +kernel
theorem dX1_fieldsOf_0 : decode cX1_fieldsOf 0 = .ok (.iload_n 1, 1) := by decide +kernel
theorem dX1_fieldsOf_1 : decode cX1_fieldsOf 1 = .ok (.invokestatic 34, 3) := by decide +kernel
theorem dX1_fieldsOf_4 : decode cX1_fieldsOf 4 = .ok (.ifCond .eq 12, 3) := by decide +kernel
theorem dX1_fieldsOf_7 : decode cX1_fieldsOf 7 = .ok (.aload_n 0, 1) := by decide +kernel
theorem dX1_fieldsOf_8 : decode cX1_fieldsOf 8 = .ok (.getfield 9, 3) := by decide +kernel
theorem dX1_fieldsOf_11 : decode cX1_fieldsOf 11 = .ok (.iload_n 1, 1) := by decide +kernel
theorem dX1_fieldsOf_12 : decode cX1_fieldsOf 12 = .ok (.iaload, 1) := by decide +kernel
theorem dX1_fieldsOf_13 : decode cX1_fieldsOf 13 = .ok (.goto 4, 3) := by decide +kernel
theorem dX1_fieldsOf_16 : decode cX1_fieldsOf 16 = .ok (.iconst 0, 1) := by decide +kernel
theorem dX1_fieldsOf_17 : decode cX1_fieldsOf 17 = .ok (.ireturn, 1) := by decide +kernel
theorem dX1_append_0 : decode cX1_append 0 = .ok (.aload_n 0, 1) := by decide +kernel
theorem dX1_append_1 : decode cX1_append 1 = .ok (.iload_n 1, 1) := by decide +kernel
theorem dX1_append_2 : decode cX1_append 2 = .ok (.invokevirtual 38, 3) := by decide +kernel
theorem dX1_append_5 : decode cX1_append 5 = .ok (.istore 4, 2) := by decide +kernel
theorem dX1_append_7 : decode cX1_append 7 = .ok (.iload_n 1, 1) := by decide +kernel
theorem dX1_append_8 : decode cX1_append 8 = .ok (.iload 4, 2) := by decide +kernel
theorem dX1_append_10 : decode cX1_append 10 = .ok (.invokestatic 42, 3) := by decide +kernel
theorem dX1_append_13 : decode cX1_append 13 = .ok (.istore 5, 2) := by decide +kernel
theorem dX1_append_15 : decode cX1_append 15 = .ok (.iload_n 1, 1) := by decide +kernel
theorem dX1_append_16 : decode cX1_append 16 = .ok (.invokestatic 34, 3) := by decide +kernel
theorem dX1_append_19 : decode cX1_append 19 = .ok (.ifCond .eq 18, 3) := by decide +kernel
theorem dX1_append_22 : decode cX1_append 22 = .ok (.iload 4, 2) := by decide +kernel
theorem dX1_append_24 : decode cX1_append 24 = .ok (.bipush 8, 2) := by decide +kernel
theorem dX1_append_26 : decode cX1_append 26 = .ok (.if_icmp .ge 11, 3) := by decide +kernel
theorem dX1_append_29 : decode cX1_append 29 = .ok (.iload 5, 2) := by decide +kernel
theorem dX1_append_31 : decode cX1_append 31 = .ok (.invokestatic 46, 3) := by decide +kernel
theorem dX1_append_34 : decode cX1_append 34 = .ok (.ifCond .ne 5, 3) := by decide +kernel
theorem dX1_append_37 : decode cX1_append 37 = .ok (.iconst (-1), 1) := by decide +kernel
theorem dX1_append_38 : decode cX1_append 38 = .ok (.ireturn, 1) := by decide +kernel
theorem dX1_append_39 : decode cX1_append 39 = .ok (.aload_n 0, 1) := by decide +kernel
theorem dX1_append_40 : decode cX1_append 40 = .ok (.getfield 15, 3) := by decide +kernel
theorem dX1_append_43 : decode cX1_append 43 = .ok (.iload 5, 2) := by decide +kernel
theorem dX1_append_45 : decode cX1_append 45 = .ok (.iload_n 2, 1) := by decide +kernel
theorem dX1_append_46 : decode cX1_append 46 = .ok (.iastore, 1) := by decide +kernel
theorem dX1_append_47 : decode cX1_append 47 = .ok (.aload_n 0, 1) := by decide +kernel
theorem dX1_append_48 : decode cX1_append 48 = .ok (.getfield 18, 3) := by decide +kernel
theorem dX1_append_51 : decode cX1_append 51 = .ok (.iload 5, 2) := by decide +kernel
theorem dX1_append_53 : decode cX1_append 53 = .ok (.iload_n 3, 1) := by decide +kernel
theorem dX1_append_54 : decode cX1_append 54 = .ok (.bastore, 1) := by decide +kernel
theorem dX1_append_55 : decode cX1_append 55 = .ok (.aload_n 0, 1) := by decide +kernel
theorem dX1_append_56 : decode cX1_append 56 = .ok (.getfield 9, 3) := by decide +kernel
theorem dX1_append_59 : decode cX1_append 59 = .ok (.iload_n 1, 1) := by decide +kernel
theorem dX1_append_60 : decode cX1_append 60 = .ok (.iload 4, 2) := by decide +kernel
theorem dX1_append_62 : decode cX1_append 62 = .ok (.iconst 1, 1) := by decide +kernel
theorem dX1_append_63 : decode cX1_append 63 = .ok (.iadd, 1) := by decide +kernel
theorem dX1_append_64 : decode cX1_append 64 = .ok (.iastore, 1) := by decide +kernel
theorem dX1_append_65 : decode cX1_append 65 = .ok (.iload 4, 2) := by decide +kernel
theorem dX1_append_67 : decode cX1_append 67 = .ok (.ireturn, 1) := by decide +kernel
theorem dX1_leadsOf_0 : decode cX1_leadsOf 0 = .ok (.iload_n 1, 1) := by decide +kernel
theorem dX1_leadsOf_1 : decode cX1_leadsOf 1 = .ok (.invokestatic 46, 3) := by decide +kernel
theorem dX1_leadsOf_4 : decode cX1_leadsOf 4 = .ok (.ifCond .eq 12, 3) := by decide +kernel
theorem dX1_leadsOf_7 : decode cX1_leadsOf 7 = .ok (.aload_n 0, 1) := by decide +kernel
theorem dX1_leadsOf_8 : decode cX1_leadsOf 8 = .ok (.getfield 15, 3) := by decide +kernel
theorem dX1_leadsOf_11 : decode cX1_leadsOf 11 = .ok (.iload_n 1, 1) := by decide +kernel
theorem dX1_leadsOf_12 : decode cX1_leadsOf 12 = .ok (.iaload, 1) := by decide +kernel
theorem dX1_leadsOf_13 : decode cX1_leadsOf 13 = .ok (.goto 4, 3) := by decide +kernel
theorem dX1_leadsOf_16 : decode cX1_leadsOf 16 = .ok (.iconst (-1), 1) := by decide +kernel
theorem dX1_leadsOf_17 : decode cX1_leadsOf 17 = .ok (.ireturn, 1) := by decide +kernel
theorem dX1_isRequired_0 : decode cX1_isRequired 0 = .ok (.iload_n 1, 1) := by decide +kernel
theorem dX1_isRequired_1 : decode cX1_isRequired 1 = .ok (.invokestatic 46, 3) := by decide +kernel
theorem dX1_isRequired_4 : decode cX1_isRequired 4 = .ok (.ifCond .eq 16, 3) := by decide +kernel
theorem dX1_isRequired_7 : decode cX1_isRequired 7 = .ok (.aload_n 0, 1) := by decide +kernel
theorem dX1_isRequired_8 : decode cX1_isRequired 8 = .ok (.getfield 18, 3) := by decide +kernel
theorem dX1_isRequired_11 : decode cX1_isRequired 11 = .ok (.iload_n 1, 1) := by decide +kernel
theorem dX1_isRequired_12 : decode cX1_isRequired 12 = .ok (.baload, 1) := by decide +kernel
theorem dX1_isRequired_13 : decode cX1_isRequired 13 = .ok (.ifCond .eq 7, 3) := by decide +kernel
theorem dX1_isRequired_16 : decode cX1_isRequired 16 = .ok (.iconst 1, 1) := by decide +kernel
theorem dX1_isRequired_17 : decode cX1_isRequired 17 = .ok (.goto 4, 3) := by decide +kernel
theorem dX1_isRequired_20 : decode cX1_isRequired 20 = .ok (.iconst 0, 1) := by decide +kernel
theorem dX1_isRequired_21 : decode cX1_isRequired 21 = .ok (.ireturn, 1) := by decide +kernel
theorem dX1_ownersOf_0 : decode cX1_ownersOf 0 = .ok (.iload_n 1, 1) := by decide +kernel
theorem dX1_ownersOf_1 : decode cX1_ownersOf 1 = .ok (.invokestatic 46, 3) := by decide +kernel
theorem dX1_ownersOf_4 : decode cX1_ownersOf 4 = .ok (.ifCond .eq 12, 3) := by decide +kernel
theorem dX1_ownersOf_7 : decode cX1_ownersOf 7 = .ok (.aload_n 0, 1) := by decide +kernel
theorem dX1_ownersOf_8 : decode cX1_ownersOf 8 = .ok (.getfield 22, 3) := by decide +kernel
theorem dX1_ownersOf_11 : decode cX1_ownersOf 11 = .ok (.iload_n 1, 1) := by decide +kernel
theorem dX1_ownersOf_12 : decode cX1_ownersOf 12 = .ok (.iaload, 1) := by decide +kernel
theorem dX1_ownersOf_13 : decode cX1_ownersOf 13 = .ok (.goto 4, 3) := by decide +kernel
theorem dX1_ownersOf_16 : decode cX1_ownersOf 16 = .ok (.iconst 0, 1) := by decide +kernel
theorem dX1_ownersOf_17 : decode cX1_ownersOf 17 = .ok (.ireturn, 1) := by decide +kernel
theorem dX1_putOwner_0 : decode cX1_putOwner 0 = .ok (.iload_n 1, 1) := by decide +kernel
theorem dX1_putOwner_1 : decode cX1_putOwner 1 = .ok (.invokestatic 46, 3) := by decide +kernel
theorem dX1_putOwner_4 : decode cX1_putOwner 4 = .ok (.ifCond .ne 5, 3) := by decide +kernel
theorem dX1_putOwner_7 : decode cX1_putOwner 7 = .ok (.iconst 0, 1) := by decide +kernel
theorem dX1_putOwner_8 : decode cX1_putOwner 8 = .ok (.ireturn, 1) := by decide +kernel
theorem dX1_putOwner_9 : decode cX1_putOwner 9 = .ok (.aload_n 0, 1) := by decide +kernel
theorem dX1_putOwner_10 : decode cX1_putOwner 10 = .ok (.getfield 22, 3) := by decide +kernel
theorem dX1_putOwner_13 : decode cX1_putOwner 13 = .ok (.iload_n 1, 1) := by decide +kernel
theorem dX1_putOwner_14 : decode cX1_putOwner 14 = .ok (.iaload, 1) := by decide +kernel
theorem dX1_putOwner_15 : decode cX1_putOwner 15 = .ok (.iload_n 2, 1) := by decide +kernel
theorem dX1_putOwner_16 : decode cX1_putOwner 16 = .ok (.invokestatic 49, 3) := by decide +kernel
theorem dX1_putOwner_19 : decode cX1_putOwner 19 = .ok (.iand, 1) := by decide +kernel
theorem dX1_putOwner_20 : decode cX1_putOwner 20 = .ok (.ifCond .eq 7, 3) := by decide +kernel
theorem dX1_putOwner_23 : decode cX1_putOwner 23 = .ok (.iconst 1, 1) := by decide +kernel
theorem dX1_putOwner_24 : decode cX1_putOwner 24 = .ok (.goto 4, 3) := by decide +kernel
theorem dX1_putOwner_27 : decode cX1_putOwner 27 = .ok (.iconst 0, 1) := by decide +kernel
theorem dX1_putOwner_28 : decode cX1_putOwner 28 = .ok (.istore 4, 2) := by decide +kernel
theorem dX1_putOwner_30 : decode cX1_putOwner 30 = .ok (.aload_n 0, 1) := by decide +kernel
theorem dX1_putOwner_31 : decode cX1_putOwner 31 = .ok (.getfield 22, 3) := by decide +kernel
theorem dX1_putOwner_34 : decode cX1_putOwner 34 = .ok (.iload_n 1, 1) := by decide +kernel
theorem dX1_putOwner_35 : decode cX1_putOwner 35 = .ok (.iload_n 3, 1) := by decide +kernel
theorem dX1_putOwner_36 : decode cX1_putOwner 36 = .ok (.ifCond .eq 17, 3) := by decide +kernel
theorem dX1_putOwner_39 : decode cX1_putOwner 39 = .ok (.aload_n 0, 1) := by decide +kernel
theorem dX1_putOwner_40 : decode cX1_putOwner 40 = .ok (.getfield 22, 3) := by decide +kernel
theorem dX1_putOwner_43 : decode cX1_putOwner 43 = .ok (.iload_n 1, 1) := by decide +kernel
theorem dX1_putOwner_44 : decode cX1_putOwner 44 = .ok (.iaload, 1) := by decide +kernel
theorem dX1_putOwner_45 : decode cX1_putOwner 45 = .ok (.iload_n 2, 1) := by decide +kernel
theorem dX1_putOwner_46 : decode cX1_putOwner 46 = .ok (.invokestatic 49, 3) := by decide +kernel
theorem dX1_putOwner_49 : decode cX1_putOwner 49 = .ok (.ior, 1) := by decide +kernel
theorem dX1_putOwner_50 : decode cX1_putOwner 50 = .ok (.goto 16, 3) := by decide +kernel
theorem dX1_putOwner_53 : decode cX1_putOwner 53 = .ok (.aload_n 0, 1) := by decide +kernel
theorem dX1_putOwner_54 : decode cX1_putOwner 54 = .ok (.getfield 22, 3) := by decide +kernel
theorem dX1_putOwner_57 : decode cX1_putOwner 57 = .ok (.iload_n 1, 1) := by decide +kernel
theorem dX1_putOwner_58 : decode cX1_putOwner 58 = .ok (.iaload, 1) := by decide +kernel
theorem dX1_putOwner_59 : decode cX1_putOwner 59 = .ok (.iload_n 2, 1) := by decide +kernel
theorem dX1_putOwner_60 : decode cX1_putOwner 60 = .ok (.invokestatic 49, 3) := by decide +kernel
theorem dX1_putOwner_63 : decode cX1_putOwner 63 = .ok (.iconst (-1), 1) := by decide +kernel
theorem dX1_putOwner_64 : decode cX1_putOwner 64 = .ok (.ixor, 1) := by decide +kernel
theorem dX1_putOwner_65 : decode cX1_putOwner 65 = .ok (.iand, 1) := by decide +kernel
theorem dX1_putOwner_66 : decode cX1_putOwner 66 = .ok (.iastore, 1) := by decide +kernel
theorem dX1_putOwner_67 : decode cX1_putOwner 67 = .ok (.iload 4, 2) := by decide +kernel
theorem dX1_putOwner_69 : decode cX1_putOwner 69 = .ok (.ireturn, 1) := by decide +kernel
theorem dX1_takes_0 : decode cX1_takes 0 = .ok (.aload_n 0, 1) := by decide +kernel
theorem dX1_takes_1 : decode cX1_takes 1 = .ok (.iload_n 1, 1) := by decide +kernel
theorem dX1_takes_2 : decode cX1_takes 2 = .ok (.invokevirtual 52, 3) := by decide +kernel
theorem dX1_takes_5 : decode cX1_takes 5 = .ok (.iconst (-1), 1) := by decide +kernel
theorem dX1_takes_6 : decode cX1_takes 6 = .ok (.if_icmp .ne 8, 3) := by decide +kernel
theorem dX1_takes_9 : decode cX1_takes 9 = .ok (.bipush 100, 2) := by decide +kernel
theorem dX1_takes_11 : decode cX1_takes 11 = .ok (.goto 5, 3) := by decide +kernel
theorem dX1_takes_14 : decode cX1_takes 14 = .ok (.bipush 20, 2) := by decide +kernel
theorem dX1_takes_16 : decode cX1_takes 16 = .ok (.istore_n 3, 1) := by decide +kernel
theorem dX1_takes_17 : decode cX1_takes 17 = .ok (.iload_n 2, 1) := by decide +kernel
theorem dX1_takes_18 : decode cX1_takes 18 = .ok (.iconst (-1), 1) := by decide +kernel
theorem dX1_takes_19 : decode cX1_takes 19 = .ok (.if_icmp .eq 12, 3) := by decide +kernel
theorem dX1_takes_22 : decode cX1_takes 22 = .ok (.iload_n 2, 1) := by decide +kernel
theorem dX1_takes_23 : decode cX1_takes 23 = .ok (.ifCond .lt 12, 3) := by decide +kernel
theorem dX1_takes_26 : decode cX1_takes 26 = .ok (.iload_n 2, 1) := by decide +kernel
theorem dX1_takes_27 : decode cX1_takes 27 = .ok (.iload_n 3, 1) := by decide +kernel
theorem dX1_takes_28 : decode cX1_takes 28 = .ok (.if_icmp .ge 7, 3) := by decide +kernel
theorem dX1_takes_31 : decode cX1_takes 31 = .ok (.iconst 1, 1) := by decide +kernel
theorem dX1_takes_32 : decode cX1_takes 32 = .ok (.goto 4, 3) := by decide +kernel
theorem dX1_takes_35 : decode cX1_takes 35 = .ok (.iconst 0, 1) := by decide +kernel
theorem dX1_takes_36 : decode cX1_takes 36 = .ok (.ireturn, 1) := by decide +kernel
theorem dX1_valueOf_0 : decode cX1_valueOf 0 = .ok (.iload_n 1, 1) := by decide +kernel
theorem dX1_valueOf_1 : decode cX1_valueOf 1 = .ok (.invokestatic 46, 3) := by decide +kernel
theorem dX1_valueOf_4 : decode cX1_valueOf 4 = .ok (.ifCond .eq 24, 3) := by decide +kernel
theorem dX1_valueOf_7 : decode cX1_valueOf 7 = .ok (.iload_n 2, 1) := by decide +kernel
theorem dX1_valueOf_8 : decode cX1_valueOf 8 = .ok (.invokestatic 55, 3) := by decide +kernel
theorem dX1_valueOf_11 : decode cX1_valueOf 11 = .ok (.ifCond .eq 17, 3) := by decide +kernel
theorem dX1_valueOf_14 : decode cX1_valueOf 14 = .ok (.aload_n 0, 1) := by decide +kernel
theorem dX1_valueOf_15 : decode cX1_valueOf 15 = .ok (.getfield 25, 3) := by decide +kernel
theorem dX1_valueOf_18 : decode cX1_valueOf 18 = .ok (.iload_n 1, 1) := by decide +kernel
theorem dX1_valueOf_19 : decode cX1_valueOf 19 = .ok (.bipush 20, 2) := by decide +kernel
theorem dX1_valueOf_21 : decode cX1_valueOf 21 = .ok (.imul, 1) := by decide +kernel
theorem dX1_valueOf_22 : decode cX1_valueOf 22 = .ok (.iload_n 2, 1) := by decide +kernel
theorem dX1_valueOf_23 : decode cX1_valueOf 23 = .ok (.iadd, 1) := by decide +kernel
theorem dX1_valueOf_24 : decode cX1_valueOf 24 = .ok (.iaload, 1) := by decide +kernel
theorem dX1_valueOf_25 : decode cX1_valueOf 25 = .ok (.goto 4, 3) := by decide +kernel
theorem dX1_valueOf_28 : decode cX1_valueOf 28 = .ok (.iconst (-1), 1) := by decide +kernel
theorem dX1_valueOf_29 : decode cX1_valueOf 29 = .ok (.ireturn, 1) := by decide +kernel
theorem dX1_putValue_0 : decode cX1_putValue 0 = .ok (.aload_n 0, 1) := by decide +kernel
theorem dX1_putValue_1 : decode cX1_putValue 1 = .ok (.iload_n 1, 1) := by decide +kernel
theorem dX1_putValue_2 : decode cX1_putValue 2 = .ok (.iload_n 2, 1) := by decide +kernel
theorem dX1_putValue_3 : decode cX1_putValue 3 = .ok (.invokevirtual 58, 3) := by decide +kernel
theorem dX1_putValue_6 : decode cX1_putValue 6 = .ok (.istore 4, 2) := by decide +kernel
theorem dX1_putValue_8 : decode cX1_putValue 8 = .ok (.iload_n 1, 1) := by decide +kernel
theorem dX1_putValue_9 : decode cX1_putValue 9 = .ok (.invokestatic 46, 3) := by decide +kernel
theorem dX1_putValue_12 : decode cX1_putValue 12 = .ok (.ifCond .eq 22, 3) := by decide +kernel
theorem dX1_putValue_15 : decode cX1_putValue 15 = .ok (.iload_n 2, 1) := by decide +kernel
theorem dX1_putValue_16 : decode cX1_putValue 16 = .ok (.invokestatic 55, 3) := by decide +kernel
theorem dX1_putValue_19 : decode cX1_putValue 19 = .ok (.ifCond .eq 15, 3) := by decide +kernel
theorem dX1_putValue_22 : decode cX1_putValue 22 = .ok (.aload_n 0, 1) := by decide +kernel
theorem dX1_putValue_23 : decode cX1_putValue 23 = .ok (.getfield 25, 3) := by decide +kernel
theorem dX1_putValue_26 : decode cX1_putValue 26 = .ok (.iload_n 1, 1) := by decide +kernel
theorem dX1_putValue_27 : decode cX1_putValue 27 = .ok (.bipush 20, 2) := by decide +kernel
theorem dX1_putValue_29 : decode cX1_putValue 29 = .ok (.imul, 1) := by decide +kernel
theorem dX1_putValue_30 : decode cX1_putValue 30 = .ok (.iload_n 2, 1) := by decide +kernel
theorem dX1_putValue_31 : decode cX1_putValue 31 = .ok (.iadd, 1) := by decide +kernel
theorem dX1_putValue_32 : decode cX1_putValue 32 = .ok (.iload_n 3, 1) := by decide +kernel
theorem dX1_putValue_33 : decode cX1_putValue 33 = .ok (.iastore, 1) := by decide +kernel
theorem dX1_putValue_34 : decode cX1_putValue 34 = .ok (.iload 4, 2) := by decide +kernel
theorem dX1_putValue_36 : decode cX1_putValue 36 = .ok (.ireturn, 1) := by decide +kernel
theorem dX1_failures_0 : decode cX1_failures 0 = .ok (.aload_n 0, 1) := by decide +kernel
theorem dX1_failures_1 : decode cX1_failures 1 = .ok (.getfield 61, 3) := by decide +kernel
theorem dX1_failures_4 : decode cX1_failures 4 = .ok (.ireturn, 1) := by decide +kernel
theorem dX1_putFailed_0 : decode cX1_putFailed 0 = .ok (.aload_n 0, 1) := by decide +kernel
theorem dX1_putFailed_1 : decode cX1_putFailed 1 = .ok (.getfield 61, 3) := by decide +kernel
theorem dX1_putFailed_4 : decode cX1_putFailed 4 = .ok (.iload_n 1, 1) := by decide +kernel
theorem dX1_putFailed_5 : decode cX1_putFailed 5 = .ok (.invokestatic 49, 3) := by decide +kernel
theorem dX1_putFailed_8 : decode cX1_putFailed 8 = .ok (.iand, 1) := by decide +kernel
theorem dX1_putFailed_9 : decode cX1_putFailed 9 = .ok (.ifCond .eq 7, 3) := by decide +kernel
theorem dX1_putFailed_12 : decode cX1_putFailed 12 = .ok (.iconst 1, 1) := by decide +kernel
theorem dX1_putFailed_13 : decode cX1_putFailed 13 = .ok (.goto 4, 3) := by decide +kernel
theorem dX1_putFailed_16 : decode cX1_putFailed 16 = .ok (.iconst 0, 1) := by decide +kernel
theorem dX1_putFailed_17 : decode cX1_putFailed 17 = .ok (.istore_n 3, 1) := by decide +kernel
theorem dX1_putFailed_18 : decode cX1_putFailed 18 = .ok (.aload_n 0, 1) := by decide +kernel
theorem dX1_putFailed_19 : decode cX1_putFailed 19 = .ok (.iload_n 2, 1) := by decide +kernel
theorem dX1_putFailed_20 : decode cX1_putFailed 20 = .ok (.ifCond .eq 15, 3) := by decide +kernel
theorem dX1_putFailed_23 : decode cX1_putFailed 23 = .ok (.aload_n 0, 1) := by decide +kernel
theorem dX1_putFailed_24 : decode cX1_putFailed 24 = .ok (.getfield 61, 3) := by decide +kernel
theorem dX1_putFailed_27 : decode cX1_putFailed 27 = .ok (.iload_n 1, 1) := by decide +kernel
theorem dX1_putFailed_28 : decode cX1_putFailed 28 = .ok (.invokestatic 49, 3) := by decide +kernel
theorem dX1_putFailed_31 : decode cX1_putFailed 31 = .ok (.ior, 1) := by decide +kernel
theorem dX1_putFailed_32 : decode cX1_putFailed 32 = .ok (.goto 14, 3) := by decide +kernel
theorem dX1_putFailed_35 : decode cX1_putFailed 35 = .ok (.aload_n 0, 1) := by decide +kernel
theorem dX1_putFailed_36 : decode cX1_putFailed 36 = .ok (.getfield 61, 3) := by decide +kernel
theorem dX1_putFailed_39 : decode cX1_putFailed 39 = .ok (.iload_n 1, 1) := by decide +kernel
theorem dX1_putFailed_40 : decode cX1_putFailed 40 = .ok (.invokestatic 49, 3) := by decide +kernel
theorem dX1_putFailed_43 : decode cX1_putFailed 43 = .ok (.iconst (-1), 1) := by decide +kernel
theorem dX1_putFailed_44 : decode cX1_putFailed 44 = .ok (.ixor, 1) := by decide +kernel
theorem dX1_putFailed_45 : decode cX1_putFailed 45 = .ok (.iand, 1) := by decide +kernel
theorem dX1_putFailed_46 : decode cX1_putFailed 46 = .ok (.putfield 61, 3) := by decide +kernel
theorem dX1_putFailed_49 : decode cX1_putFailed 49 = .ok (.iload_n 3, 1) := by decide +kernel
theorem dX1_putFailed_50 : decode cX1_putFailed 50 = .ok (.ireturn, 1) := by decide +kernel
theorem dX2_init_0 : decode cX2_init 0 = .ok (.aload_n 0, 1) := by decide +kernel
theorem dX2_init_1 : decode cX2_init 1 = .ok (.invokespecial 3, 3) := by decide +kernel
theorem dX2_init_4 : decode cX2_init 4 = .ok (.aload_n 0, 1) := by decide +kernel
theorem dX2_init_5 : decode cX2_init 5 = .ok (.aload_n 1, 1) := by decide +kernel
theorem dX2_init_6 : decode cX2_init 6 = .ok (.putfield 9, 3) := by decide +kernel
theorem dX2_init_9 : decode cX2_init 9 = .ok (.aload_n 0, 1) := by decide +kernel
theorem dX2_init_10 : decode cX2_init 10 = .ok (.aload_n 2, 1) := by decide +kernel
theorem dX2_init_11 : decode cX2_init 11 = .ok (.putfield 15, 3) := by decide +kernel
theorem dX2_init_14 : decode cX2_init 14 = .ok (.aload_n 0, 1) := by decide +kernel
theorem dX2_init_15 : decode cX2_init 15 = .ok (.bipush 12, 2) := by decide +kernel
theorem dX2_init_17 : decode cX2_init 17 = .ok (.newarray .int, 2) := by decide +kernel
theorem dX2_init_19 : decode cX2_init 19 = .ok (.putfield 19, 3) := by decide +kernel
theorem dX2_init_22 : decode cX2_init 22 = .ok (.aload_n 0, 1) := by decide +kernel
theorem dX2_init_23 : decode cX2_init 23 = .ok (.bipush 12, 2) := by decide +kernel
theorem dX2_init_25 : decode cX2_init 25 = .ok (.newarray .int, 2) := by decide +kernel
theorem dX2_init_27 : decode cX2_init 27 = .ok (.putfield 23, 3) := by decide +kernel
theorem dX2_init_30 : decode cX2_init 30 = .ok (.aload_n 0, 1) := by decide +kernel
theorem dX2_init_31 : decode cX2_init 31 = .ok (.bipush 48, 2) := by decide +kernel
theorem dX2_init_33 : decode cX2_init 33 = .ok (.newarray .int, 2) := by decide +kernel
theorem dX2_init_35 : decode cX2_init 35 = .ok (.putfield 26, 3) := by decide +kernel
theorem dX2_init_38 : decode cX2_init 38 = .ok (.aload_n 0, 1) := by decide +kernel
theorem dX2_init_39 : decode cX2_init 39 = .ok (.bipush 12, 2) := by decide +kernel
theorem dX2_init_41 : decode cX2_init 41 = .ok (.newarray .int, 2) := by decide +kernel
theorem dX2_init_43 : decode cX2_init 43 = .ok (.putfield 29, 3) := by decide +kernel
theorem dX2_init_46 : decode cX2_init 46 = .ok (.return_, 1) := by decide +kernel
theorem dX2_forget_0 : decode cX2_forget 0 = .ok (.aload_n 0, 1) := by decide +kernel
theorem dX2_forget_1 : decode cX2_forget 1 = .ok (.iconst 0, 1) := by decide +kernel
theorem dX2_forget_2 : decode cX2_forget 2 = .ok (.putfield 32, 3) := by decide +kernel
theorem dX2_forget_5 : decode cX2_forget 5 = .ok (.return_, 1) := by decide +kernel
theorem dX2_find_0 : decode cX2_find 0 = .ok (.aload_n 0, 1) := by decide +kernel
theorem dX2_find_1 : decode cX2_find 1 = .ok (.getfield 32, 3) := by decide +kernel
theorem dX2_find_4 : decode cX2_find 4 = .ok (.ifCond .ne 41, 3) := by decide +kernel
theorem dX2_find_7 : decode cX2_find 7 = .ok (.aload_n 0, 1) := by decide +kernel
theorem dX2_find_8 : decode cX2_find 8 = .ok (.aload_n 0, 1) := by decide +kernel
theorem dX2_find_9 : decode cX2_find 9 = .ok (.invokevirtual 36, 3) := by decide +kernel
theorem dX2_find_12 : decode cX2_find 12 = .ok (.putfield 40, 3) := by decide +kernel
theorem dX2_find_15 : decode cX2_find 15 = .ok (.aload_n 0, 1) := by decide +kernel
theorem dX2_find_16 : decode cX2_find 16 = .ok (.getfield 40, 3) := by decide +kernel
theorem dX2_find_19 : decode cX2_find 19 = .ok (.ifCond .eq 21, 3) := by decide +kernel
theorem dX2_find_22 : decode cX2_find 22 = .ok (.aload_n 0, 1) := by decide +kernel
theorem dX2_find_23 : decode cX2_find 23 = .ok (.invokevirtual 43, 3) := by decide +kernel
theorem dX2_find_26 : decode cX2_find 26 = .ok (.aload_n 0, 1) := by decide +kernel
theorem dX2_find_27 : decode cX2_find 27 = .ok (.aload_n 0, 1) := by decide +kernel
theorem dX2_find_28 : decode cX2_find 28 = .ok (.iconst (-1), 1) := by decide +kernel
theorem dX2_find_29 : decode cX2_find 29 = .ok (.iconst (-1), 1) := by decide +kernel
theorem dX2_find_30 : decode cX2_find 30 = .ok (.invokevirtual 46, 3) := by decide +kernel
theorem dX2_find_33 : decode cX2_find 33 = .ok (.putfield 50, 3) := by decide +kernel
theorem dX2_find_36 : decode cX2_find 36 = .ok (.aload_n 0, 1) := by decide +kernel
theorem dX2_find_37 : decode cX2_find 37 = .ok (.invokevirtual 54, 3) := by decide +kernel
theorem dX2_find_40 : decode cX2_find 40 = .ok (.aload_n 0, 1) := by decide +kernel
theorem dX2_find_41 : decode cX2_find 41 = .ok (.iconst 1, 1) := by decide +kernel
theorem dX2_find_42 : decode cX2_find 42 = .ok (.putfield 32, 3) := by decide +kernel
theorem dX2_find_45 : decode cX2_find 45 = .ok (.aload_n 0, 1) := by decide +kernel
theorem dX2_find_46 : decode cX2_find 46 = .ok (.getfield 40, 3) := by decide +kernel
theorem dX2_find_49 : decode cX2_find 49 = .ok (.ireturn, 1) := by decide +kernel
theorem dX2_length_0 : decode cX2_length 0 = .ok (.aload_n 0, 1) := by decide +kernel
theorem dX2_length_1 : decode cX2_length 1 = .ok (.getfield 50, 3) := by decide +kernel
theorem dX2_length_4 : decode cX2_length 4 = .ok (.ireturn, 1) := by decide +kernel
theorem dX2_serviceOf_0 : decode cX2_serviceOf 0 = .ok (.aload_n 0, 1) := by decide +kernel
theorem dX2_serviceOf_1 : decode cX2_serviceOf 1 = .ok (.getfield 15, 3) := by decide +kernel
theorem dX2_serviceOf_4 : decode cX2_serviceOf 4 = .ok (.iload_n 1, 1) := by decide +kernel
theorem dX2_serviceOf_5 : decode cX2_serviceOf 5 = .ok (.invokevirtual 57, 3) := by decide +kernel
theorem dX2_serviceOf_8 : decode cX2_serviceOf 8 = .ok (.ifCond .eq 12, 3) := by decide +kernel
theorem dX2_serviceOf_11 : decode cX2_serviceOf 11 = .ok (.aload_n 0, 1) := by decide +kernel
theorem dX2_serviceOf_12 : decode cX2_serviceOf 12 = .ok (.getfield 29, 3) := by decide +kernel
theorem dX2_serviceOf_15 : decode cX2_serviceOf 15 = .ok (.iload_n 1, 1) := by decide +kernel
theorem dX2_serviceOf_16 : decode cX2_serviceOf 16 = .ok (.iaload, 1) := by decide +kernel
theorem dX2_serviceOf_17 : decode cX2_serviceOf 17 = .ok (.goto 4, 3) := by decide +kernel
theorem dX2_serviceOf_20 : decode cX2_serviceOf 20 = .ok (.iconst (-1), 1) := by decide +kernel
theorem dX2_serviceOf_21 : decode cX2_serviceOf 21 = .ok (.ireturn, 1) := by decide +kernel
theorem dX2_openChoices_0 : decode cX2_openChoices 0 = .ok (.iconst 1, 1) := by decide +kernel
theorem dX2_openChoices_1 : decode cX2_openChoices 1 = .ok (.istore_n 1, 1) := by decide +kernel
theorem dX2_openChoices_2 : decode cX2_openChoices 2 = .ok (.aload_n 0, 1) := by decide +kernel
theorem dX2_openChoices_3 : decode cX2_openChoices 3 = .ok (.aload_n 0, 1) := by decide +kernel
theorem dX2_openChoices_4 : decode cX2_openChoices 4 = .ok (.getfield 15, 3) := by decide +kernel
theorem dX2_openChoices_7 : decode cX2_openChoices 7 = .ok (.invokevirtual 63, 3) := by decide +kernel
theorem dX2_openChoices_10 : decode cX2_openChoices 10 = .ok (.bipush 12, 2) := by decide +kernel
theorem dX2_openChoices_12 : decode cX2_openChoices 12 = .ok (.invokestatic 67, 3) := by decide +kernel
theorem dX2_openChoices_15 : decode cX2_openChoices 15 = .ok (.putfield 72, 3) := by decide +kernel
theorem dX2_openChoices_18 : decode cX2_openChoices 18 = .ok (.iconst 0, 1) := by decide +kernel
theorem dX2_openChoices_19 : decode cX2_openChoices 19 = .ok (.istore_n 2, 1) := by decide +kernel
theorem dX2_openChoices_20 : decode cX2_openChoices 20 = .ok (.iload_n 2, 1) := by decide +kernel
theorem dX2_openChoices_21 : decode cX2_openChoices 21 = .ok (.aload_n 0, 1) := by decide +kernel
theorem dX2_openChoices_22 : decode cX2_openChoices 22 = .ok (.getfield 72, 3) := by decide +kernel
theorem dX2_openChoices_25 : decode cX2_openChoices 25 = .ok (.if_icmp .ge 63, 3) := by decide +kernel
theorem dX2_openChoices_28 : decode cX2_openChoices 28 = .ok (.aload_n 0, 1) := by decide +kernel
theorem dX2_openChoices_29 : decode cX2_openChoices 29 = .ok (.getfield 19, 3) := by decide +kernel
theorem dX2_openChoices_32 : decode cX2_openChoices 32 = .ok (.iload_n 2, 1) := by decide +kernel
theorem dX2_openChoices_33 : decode cX2_openChoices 33 = .ok (.aload_n 0, 1) := by decide +kernel
theorem dX2_openChoices_34 : decode cX2_openChoices 34 = .ok (.getfield 15, 3) := by decide +kernel
theorem dX2_openChoices_37 : decode cX2_openChoices 37 = .ok (.iload_n 2, 1) := by decide +kernel
theorem dX2_openChoices_38 : decode cX2_openChoices 38 = .ok (.invokevirtual 75, 3) := by decide +kernel
theorem dX2_openChoices_41 : decode cX2_openChoices 41 = .ok (.iastore, 1) := by decide +kernel
theorem dX2_openChoices_42 : decode cX2_openChoices 42 = .ok (.aload_n 0, 1) := by decide +kernel
theorem dX2_openChoices_43 : decode cX2_openChoices 43 = .ok (.getfield 23, 3) := by decide +kernel
theorem dX2_openChoices_46 : decode cX2_openChoices 46 = .ok (.iload_n 2, 1) := by decide +kernel
theorem dX2_openChoices_47 : decode cX2_openChoices 47 = .ok (.aload_n 0, 1) := by decide +kernel
theorem dX2_openChoices_48 : decode cX2_openChoices 48 = .ok (.getfield 9, 3) := by decide +kernel
theorem dX2_openChoices_51 : decode cX2_openChoices 51 = .ok (.aload_n 0, 1) := by decide +kernel
theorem dX2_openChoices_52 : decode cX2_openChoices 52 = .ok (.getfield 15, 3) := by decide +kernel
theorem dX2_openChoices_55 : decode cX2_openChoices 55 = .ok (.iload_n 2, 1) := by decide +kernel
theorem dX2_openChoices_56 : decode cX2_openChoices 56 = .ok (.invokevirtual 79, 3) := by decide +kernel
theorem dX2_openChoices_59 : decode cX2_openChoices 59 = .ok (.invokevirtual 82, 3) := by decide +kernel
theorem dX2_openChoices_62 : decode cX2_openChoices 62 = .ok (.iastore, 1) := by decide +kernel
theorem dX2_openChoices_63 : decode cX2_openChoices 63 = .ok (.iload_n 1, 1) := by decide +kernel
theorem dX2_openChoices_64 : decode cX2_openChoices 64 = .ok (.ifCond .eq 16, 3) := by decide +kernel
theorem dX2_openChoices_67 : decode cX2_openChoices 67 = .ok (.aload_n 0, 1) := by decide +kernel
theorem dX2_openChoices_68 : decode cX2_openChoices 68 = .ok (.getfield 23, 3) := by decide +kernel
theorem dX2_openChoices_71 : decode cX2_openChoices 71 = .ok (.iload_n 2, 1) := by decide +kernel
theorem dX2_openChoices_72 : decode cX2_openChoices 72 = .ok (.iaload, 1) := by decide +kernel
theorem dX2_openChoices_73 : decode cX2_openChoices 73 = .ok (.ifCond .eq 7, 3) := by decide +kernel
theorem dX2_openChoices_76 : decode cX2_openChoices 76 = .ok (.iconst 1, 1) := by decide +kernel
theorem dX2_openChoices_77 : decode cX2_openChoices 77 = .ok (.goto 4, 3) := by decide +kernel
theorem dX2_openChoices_80 : decode cX2_openChoices 80 = .ok (.iconst 0, 1) := by decide +kernel
theorem dX2_openChoices_81 : decode cX2_openChoices 81 = .ok (.istore_n 1, 1) := by decide +kernel
theorem dX2_openChoices_82 : decode cX2_openChoices 82 = .ok (.iinc 2 1, 3) := by decide +kernel
theorem dX2_openChoices_85 : decode cX2_openChoices 85 = .ok (.goto (-65), 3) := by decide +kernel
theorem dX2_openChoices_88 : decode cX2_openChoices 88 = .ok (.iload_n 1, 1) := by decide +kernel
theorem dX2_openChoices_89 : decode cX2_openChoices 89 = .ok (.ireturn, 1) := by decide +kernel
theorem dX2_countHopsBelow_0 : decode cX2_countHopsBelow 0 = .ok (.aload_n 0, 1) := by decide +kernel
theorem dX2_countHopsBelow_1 : decode cX2_countHopsBelow 1 = .ok (.getfield 72, 3) := by decide +kernel
theorem dX2_countHopsBelow_4 : decode cX2_countHopsBelow 4 = .ok (.iconst 1, 1) := by decide +kernel
theorem dX2_countHopsBelow_5 : decode cX2_countHopsBelow 5 = .ok (.isub, 1) := by decide +kernel
theorem dX2_countHopsBelow_6 : decode cX2_countHopsBelow 6 = .ok (.istore_n 1, 1) := by decide +kernel
theorem dX2_countHopsBelow_7 : decode cX2_countHopsBelow 7 = .ok (.iload_n 1, 1) := by decide +kernel
theorem dX2_countHopsBelow_8 : decode cX2_countHopsBelow 8 = .ok (.ifCond .lt 38, 3) := by decide +kernel
theorem dX2_countHopsBelow_11 : decode cX2_countHopsBelow 11 = .ok (.iconst 0, 1) := by decide +kernel
theorem dX2_countHopsBelow_12 : decode cX2_countHopsBelow 12 = .ok (.istore_n 2, 1) := by decide +kernel
theorem dX2_countHopsBelow_13 : decode cX2_countHopsBelow 13 = .ok (.iload_n 2, 1) := by decide +kernel
theorem dX2_countHopsBelow_14 : decode cX2_countHopsBelow 14 = .ok (.iconst 4, 1) := by decide +kernel
theorem dX2_countHopsBelow_15 : decode cX2_countHopsBelow 15 = .ok (.if_icmp .ge 25, 3) := by decide +kernel
theorem dX2_countHopsBelow_18 : decode cX2_countHopsBelow 18 = .ok (.aload_n 0, 1) := by decide +kernel
theorem dX2_countHopsBelow_19 : decode cX2_countHopsBelow 19 = .ok (.getfield 26, 3) := by decide +kernel
theorem dX2_countHopsBelow_22 : decode cX2_countHopsBelow 22 = .ok (.iload_n 1, 1) := by decide +kernel
theorem dX2_countHopsBelow_23 : decode cX2_countHopsBelow 23 = .ok (.iconst 4, 1) := by decide +kernel
theorem dX2_countHopsBelow_24 : decode cX2_countHopsBelow 24 = .ok (.imul, 1) := by decide +kernel
theorem dX2_countHopsBelow_25 : decode cX2_countHopsBelow 25 = .ok (.iload_n 2, 1) := by decide +kernel
theorem dX2_countHopsBelow_26 : decode cX2_countHopsBelow 26 = .ok (.iadd, 1) := by decide +kernel
theorem dX2_countHopsBelow_27 : decode cX2_countHopsBelow 27 = .ok (.aload_n 0, 1) := by decide +kernel
theorem dX2_countHopsBelow_28 : decode cX2_countHopsBelow 28 = .ok (.iload_n 1, 1) := by decide +kernel
theorem dX2_countHopsBelow_29 : decode cX2_countHopsBelow 29 = .ok (.iload_n 2, 1) := by decide +kernel
theorem dX2_countHopsBelow_30 : decode cX2_countHopsBelow 30 = .ok (.invokevirtual 46, 3) := by decide +kernel
theorem dX2_countHopsBelow_33 : decode cX2_countHopsBelow 33 = .ok (.iastore, 1) := by decide +kernel
theorem dX2_countHopsBelow_34 : decode cX2_countHopsBelow 34 = .ok (.iinc 2 1, 3) := by decide +kernel
theorem dX2_countHopsBelow_37 : decode cX2_countHopsBelow 37 = .ok (.goto (-24), 3) := by decide +kernel
theorem dX2_countHopsBelow_40 : decode cX2_countHopsBelow 40 = .ok (.iinc 1 (-1), 3) := by decide +kernel
theorem dX2_countHopsBelow_43 : decode cX2_countHopsBelow 43 = .ok (.goto (-36), 3) := by decide +kernel
theorem dX2_countHopsBelow_46 : decode cX2_countHopsBelow 46 = .ok (.return_, 1) := by decide +kernel
theorem dX2_chooseServices_0 : decode cX2_chooseServices 0 = .ok (.iconst 0, 1) := by decide +kernel
theorem dX2_chooseServices_1 : decode cX2_chooseServices 1 = .ok (.istore_n 1, 1) := by decide +kernel
theorem dX2_chooseServices_2 : decode cX2_chooseServices 2 = .ok (.iload_n 1, 1) := by decide +kernel
theorem dX2_chooseServices_3 : decode cX2_chooseServices 3 = .ok (.aload_n 0, 1) := by decide +kernel
theorem dX2_chooseServices_4 : decode cX2_chooseServices 4 = .ok (.getfield 72, 3) := by decide +kernel
theorem dX2_chooseServices_7 : decode cX2_chooseServices 7 = .ok (.if_icmp .ge 107, 3) := by decide +kernel
theorem dX2_chooseServices_10 : decode cX2_chooseServices 10 = .ok (.aload_n 0, 1) := by decide +kernel
theorem dX2_chooseServices_11 : decode cX2_chooseServices 11 = .ok (.aload_n 0, 1) := by decide +kernel
theorem dX2_chooseServices_12 : decode cX2_chooseServices 12 = .ok (.getfield 19, 3) := by decide +kernel
theorem dX2_chooseServices_15 : decode cX2_chooseServices 15 = .ok (.iload_n 1, 1) := by decide +kernel
theorem dX2_chooseServices_16 : decode cX2_chooseServices 16 = .ok (.iaload, 1) := by decide +kernel
theorem dX2_chooseServices_17 : decode cX2_chooseServices 17 = .ok (.invokevirtual 87, 3) := by decide +kernel
theorem dX2_chooseServices_20 : decode cX2_chooseServices 20 = .ok (.istore_n 2, 1) := by decide +kernel
theorem dX2_chooseServices_21 : decode cX2_chooseServices 21 = .ok (.aload_n 0, 1) := by decide +kernel
theorem dX2_chooseServices_22 : decode cX2_chooseServices 22 = .ok (.aload_n 0, 1) := by decide +kernel
theorem dX2_chooseServices_23 : decode cX2_chooseServices 23 = .ok (.getfield 19, 3) := by decide +kernel
theorem dX2_chooseServices_26 : decode cX2_chooseServices 26 = .ok (.iload_n 1, 1) := by decide +kernel
theorem dX2_chooseServices_27 : decode cX2_chooseServices 27 = .ok (.iaload, 1) := by decide +kernel
theorem dX2_chooseServices_28 : decode cX2_chooseServices 28 = .ok (.iload_n 2, 1) := by decide +kernel
theorem dX2_chooseServices_29 : decode cX2_chooseServices 29 = .ok (.invokevirtual 46, 3) := by decide +kernel
theorem dX2_chooseServices_32 : decode cX2_chooseServices 32 = .ok (.istore_n 3, 1) := by decide +kernel
theorem dX2_chooseServices_33 : decode cX2_chooseServices 33 = .ok (.aload_n 0, 1) := by decide +kernel
theorem dX2_chooseServices_34 : decode cX2_chooseServices 34 = .ok (.getfield 23, 3) := by decide +kernel
theorem dX2_chooseServices_37 : decode cX2_chooseServices 37 = .ok (.iload_n 1, 1) := by decide +kernel
theorem dX2_chooseServices_38 : decode cX2_chooseServices 38 = .ok (.iaload, 1) := by decide +kernel
theorem dX2_chooseServices_39 : decode cX2_chooseServices 39 = .ok (.istore 4, 2) := by decide +kernel
theorem dX2_chooseServices_41 : decode cX2_chooseServices 41 = .ok (.iconst 0, 1) := by decide +kernel
theorem dX2_chooseServices_42 : decode cX2_chooseServices 42 = .ok (.istore 5, 2) := by decide +kernel
theorem dX2_chooseServices_44 : decode cX2_chooseServices 44 = .ok (.iconst 0, 1) := by decide +kernel
theorem dX2_chooseServices_45 : decode cX2_chooseServices 45 = .ok (.istore 6, 2) := by decide +kernel
theorem dX2_chooseServices_47 : decode cX2_chooseServices 47 = .ok (.iload 6, 2) := by decide +kernel
theorem dX2_chooseServices_49 : decode cX2_chooseServices 49 = .ok (.iconst 4, 1) := by decide +kernel
theorem dX2_chooseServices_50 : decode cX2_chooseServices 50 = .ok (.if_icmp .ge 58, 3) := by decide +kernel
theorem dX2_chooseServices_53 : decode cX2_chooseServices 53 = .ok (.iload 5, 2) := by decide +kernel
theorem dX2_chooseServices_55 : decode cX2_chooseServices 55 = .ok (.ifCond .ne 53, 3) := by decide +kernel
theorem dX2_chooseServices_58 : decode cX2_chooseServices 58 = .ok (.aload_n 0, 1) := by decide +kernel
theorem dX2_chooseServices_59 : decode cX2_chooseServices 59 = .ok (.getfield 23, 3) := by decide +kernel
theorem dX2_chooseServices_62 : decode cX2_chooseServices 62 = .ok (.iload_n 1, 1) := by decide +kernel
theorem dX2_chooseServices_63 : decode cX2_chooseServices 63 = .ok (.iload 4, 2) := by decide +kernel
theorem dX2_chooseServices_65 : decode cX2_chooseServices 65 = .ok (.iload 6, 2) := by decide +kernel
theorem dX2_chooseServices_67 : decode cX2_chooseServices 67 = .ok (.invokestatic 90, 3) := by decide +kernel
theorem dX2_chooseServices_70 : decode cX2_chooseServices 70 = .ok (.iand, 1) := by decide +kernel
theorem dX2_chooseServices_71 : decode cX2_chooseServices 71 = .ok (.iastore, 1) := by decide +kernel
theorem dX2_chooseServices_72 : decode cX2_chooseServices 72 = .ok (.aload_n 0, 1) := by decide +kernel
theorem dX2_chooseServices_73 : decode cX2_chooseServices 73 = .ok (.aload_n 0, 1) := by decide +kernel
theorem dX2_chooseServices_74 : decode cX2_chooseServices 74 = .ok (.getfield 19, 3) := by decide +kernel
theorem dX2_chooseServices_77 : decode cX2_chooseServices 77 = .ok (.iload_n 1, 1) := by decide +kernel
theorem dX2_chooseServices_78 : decode cX2_chooseServices 78 = .ok (.iaload, 1) := by decide +kernel
theorem dX2_chooseServices_79 : decode cX2_chooseServices 79 = .ok (.iload_n 2, 1) := by decide +kernel
theorem dX2_chooseServices_80 : decode cX2_chooseServices 80 = .ok (.invokevirtual 46, 3) := by decide +kernel
theorem dX2_chooseServices_83 : decode cX2_chooseServices 83 = .ok (.iload_n 3, 1) := by decide +kernel
theorem dX2_chooseServices_84 : decode cX2_chooseServices 84 = .ok (.if_icmp .ne 7, 3) := by decide +kernel
theorem dX2_chooseServices_87 : decode cX2_chooseServices 87 = .ok (.iconst 1, 1) := by decide +kernel
theorem dX2_chooseServices_88 : decode cX2_chooseServices 88 = .ok (.goto 4, 3) := by decide +kernel
theorem dX2_chooseServices_91 : decode cX2_chooseServices 91 = .ok (.iconst 0, 1) := by decide +kernel
theorem dX2_chooseServices_92 : decode cX2_chooseServices 92 = .ok (.istore 5, 2) := by decide +kernel
theorem dX2_chooseServices_94 : decode cX2_chooseServices 94 = .ok (.aload_n 0, 1) := by decide +kernel
theorem dX2_chooseServices_95 : decode cX2_chooseServices 95 = .ok (.getfield 29, 3) := by decide +kernel
theorem dX2_chooseServices_98 : decode cX2_chooseServices 98 = .ok (.iload_n 1, 1) := by decide +kernel
theorem dX2_chooseServices_99 : decode cX2_chooseServices 99 = .ok (.iload 6, 2) := by decide +kernel
theorem dX2_chooseServices_101 : decode cX2_chooseServices 101 = .ok (.iastore, 1) := by decide +kernel
theorem dX2_chooseServices_102 : decode cX2_chooseServices 102 = .ok (.iinc 6 1, 3) := by decide +kernel
theorem dX2_chooseServices_105 : decode cX2_chooseServices 105 = .ok (.goto (-58), 3) := by decide +kernel
theorem dX2_chooseServices_108 : decode cX2_chooseServices 108 = .ok (.iinc 1 1, 3) := by decide +kernel
theorem dX2_chooseServices_111 : decode cX2_chooseServices 111 = .ok (.goto (-109), 3) := by decide +kernel
theorem dX2_chooseServices_114 : decode cX2_chooseServices 114 = .ok (.return_, 1) := by decide +kernel
theorem dX2_hopsAt_0 : decode cX2_hopsAt 0 = .ok (.sipush 1000, 3) := by decide +kernel
theorem dX2_hopsAt_3 : decode cX2_hopsAt 3 = .ok (.istore_n 3, 1) := by decide +kernel
theorem dX2_hopsAt_4 : decode cX2_hopsAt 4 = .ok (.iconst 0, 1) := by decide +kernel
theorem dX2_hopsAt_5 : decode cX2_hopsAt 5 = .ok (.istore 4, 2) := by decide +kernel
theorem dX2_hopsAt_7 : decode cX2_hopsAt 7 = .ok (.iload 4, 2) := by decide +kernel
theorem dX2_hopsAt_9 : decode cX2_hopsAt 9 = .ok (.bipush 16, 2) := by decide +kernel
theorem dX2_hopsAt_11 : decode cX2_hopsAt 11 = .ok (.if_icmp .ge 42, 3) := by decide +kernel
theorem dX2_hopsAt_14 : decode cX2_hopsAt 14 = .ok (.iload_n 3, 1) := by decide +kernel
theorem dX2_hopsAt_15 : decode cX2_hopsAt 15 = .ok (.ifCond .le 38, 3) := by decide +kernel
theorem dX2_hopsAt_18 : decode cX2_hopsAt 18 = .ok (.iload 4, 2) := by decide +kernel
theorem dX2_hopsAt_20 : decode cX2_hopsAt 20 = .ok (.iload_n 2, 1) := by decide +kernel
theorem dX2_hopsAt_21 : decode cX2_hopsAt 21 = .ok (.invokestatic 90, 3) := by decide +kernel
theorem dX2_hopsAt_24 : decode cX2_hopsAt 24 = .ok (.iconst (-1), 1) := by decide +kernel
theorem dX2_hopsAt_25 : decode cX2_hopsAt 25 = .ok (.ixor, 1) := by decide +kernel
theorem dX2_hopsAt_26 : decode cX2_hopsAt 26 = .ok (.iand, 1) := by decide +kernel
theorem dX2_hopsAt_27 : decode cX2_hopsAt 27 = .ok (.invokestatic 93, 3) := by decide +kernel
theorem dX2_hopsAt_30 : decode cX2_hopsAt 30 = .ok (.aload_n 0, 1) := by decide +kernel
theorem dX2_hopsAt_31 : decode cX2_hopsAt 31 = .ok (.iload_n 1, 1) := by decide +kernel
theorem dX2_hopsAt_32 : decode cX2_hopsAt 32 = .ok (.iload 4, 2) := by decide +kernel
theorem dX2_hopsAt_34 : decode cX2_hopsAt 34 = .ok (.invokevirtual 98, 3) := by decide +kernel
theorem dX2_hopsAt_37 : decode cX2_hopsAt 37 = .ok (.iadd, 1) := by decide +kernel
theorem dX2_hopsAt_38 : decode cX2_hopsAt 38 = .ok (.istore 5, 2) := by decide +kernel
theorem dX2_hopsAt_40 : decode cX2_hopsAt 40 = .ok (.iload_n 3, 1) := by decide +kernel
theorem dX2_hopsAt_41 : decode cX2_hopsAt 41 = .ok (.iload 5, 2) := by decide +kernel
theorem dX2_hopsAt_43 : decode cX2_hopsAt 43 = .ok (.invokestatic 67, 3) := by decide +kernel
theorem dX2_hopsAt_46 : decode cX2_hopsAt 46 = .ok (.istore_n 3, 1) := by decide +kernel
theorem dX2_hopsAt_47 : decode cX2_hopsAt 47 = .ok (.iinc 4 1, 3) := by decide +kernel
theorem dX2_hopsAt_50 : decode cX2_hopsAt 50 = .ok (.goto (-43), 3) := by decide +kernel
theorem dX2_hopsAt_53 : decode cX2_hopsAt 53 = .ok (.iload_n 3, 1) := by decide +kernel
theorem dX2_hopsAt_54 : decode cX2_hopsAt 54 = .ok (.ireturn, 1) := by decide +kernel
theorem dX2_hopsUnder_0 : decode cX2_hopsUnder 0 = .ok (.iconst 0, 1) := by decide +kernel
theorem dX2_hopsUnder_1 : decode cX2_hopsUnder 1 = .ok (.istore_n 3, 1) := by decide +kernel
theorem dX2_hopsUnder_2 : decode cX2_hopsUnder 2 = .ok (.iconst 0, 1) := by decide +kernel
theorem dX2_hopsUnder_3 : decode cX2_hopsUnder 3 = .ok (.istore 4, 2) := by decide +kernel
theorem dX2_hopsUnder_5 : decode cX2_hopsUnder 5 = .ok (.iload 4, 2) := by decide +kernel
theorem dX2_hopsUnder_7 : decode cX2_hopsUnder 7 = .ok (.aload_n 0, 1) := by decide +kernel
theorem dX2_hopsUnder_8 : decode cX2_hopsUnder 8 = .ok (.getfield 72, 3) := by decide +kernel
theorem dX2_hopsUnder_11 : decode cX2_hopsUnder 11 = .ok (.if_icmp .ge 82, 3) := by decide +kernel
theorem dX2_hopsUnder_14 : decode cX2_hopsUnder 14 = .ok (.aload_n 0, 1) := by decide +kernel
theorem dX2_hopsUnder_15 : decode cX2_hopsUnder 15 = .ok (.getfield 19, 3) := by decide +kernel
theorem dX2_hopsUnder_18 : decode cX2_hopsUnder 18 = .ok (.iload 4, 2) := by decide +kernel
theorem dX2_hopsUnder_20 : decode cX2_hopsUnder 20 = .ok (.iaload, 1) := by decide +kernel
theorem dX2_hopsUnder_21 : decode cX2_hopsUnder 21 = .ok (.iload_n 1, 1) := by decide +kernel
theorem dX2_hopsUnder_22 : decode cX2_hopsUnder 22 = .ok (.if_icmp .ne 65, 3) := by decide +kernel
theorem dX2_hopsUnder_25 : decode cX2_hopsUnder 25 = .ok (.sipush 1000, 3) := by decide +kernel
theorem dX2_hopsUnder_28 : decode cX2_hopsUnder 28 = .ok (.istore 5, 2) := by decide +kernel
theorem dX2_hopsUnder_30 : decode cX2_hopsUnder 30 = .ok (.iconst 0, 1) := by decide +kernel
theorem dX2_hopsUnder_31 : decode cX2_hopsUnder 31 = .ok (.istore 6, 2) := by decide +kernel
theorem dX2_hopsUnder_33 : decode cX2_hopsUnder 33 = .ok (.iload 6, 2) := by decide +kernel
theorem dX2_hopsUnder_35 : decode cX2_hopsUnder 35 = .ok (.iconst 4, 1) := by decide +kernel
theorem dX2_hopsUnder_36 : decode cX2_hopsUnder 36 = .ok (.if_icmp .ge 46, 3) := by decide +kernel
theorem dX2_hopsUnder_39 : decode cX2_hopsUnder 39 = .ok (.iload_n 2, 1) := by decide +kernel
theorem dX2_hopsUnder_40 : decode cX2_hopsUnder 40 = .ok (.aload_n 0, 1) := by decide +kernel
theorem dX2_hopsUnder_41 : decode cX2_hopsUnder 41 = .ok (.getfield 23, 3) := by decide +kernel
theorem dX2_hopsUnder_44 : decode cX2_hopsUnder 44 = .ok (.iload 4, 2) := by decide +kernel
theorem dX2_hopsUnder_46 : decode cX2_hopsUnder 46 = .ok (.iaload, 1) := by decide +kernel
theorem dX2_hopsUnder_47 : decode cX2_hopsUnder 47 = .ok (.iand, 1) := by decide +kernel
theorem dX2_hopsUnder_48 : decode cX2_hopsUnder 48 = .ok (.iload 6, 2) := by decide +kernel
theorem dX2_hopsUnder_50 : decode cX2_hopsUnder 50 = .ok (.invokestatic 90, 3) := by decide +kernel
theorem dX2_hopsUnder_53 : decode cX2_hopsUnder 53 = .ok (.iand, 1) := by decide +kernel
theorem dX2_hopsUnder_54 : decode cX2_hopsUnder 54 = .ok (.ifCond .eq 22, 3) := by decide +kernel
theorem dX2_hopsUnder_57 : decode cX2_hopsUnder 57 = .ok (.iload 5, 2) := by decide +kernel
theorem dX2_hopsUnder_59 : decode cX2_hopsUnder 59 = .ok (.aload_n 0, 1) := by decide +kernel
theorem dX2_hopsUnder_60 : decode cX2_hopsUnder 60 = .ok (.getfield 26, 3) := by decide +kernel
theorem dX2_hopsUnder_63 : decode cX2_hopsUnder 63 = .ok (.iload 4, 2) := by decide +kernel
theorem dX2_hopsUnder_65 : decode cX2_hopsUnder 65 = .ok (.iconst 4, 1) := by decide +kernel
theorem dX2_hopsUnder_66 : decode cX2_hopsUnder 66 = .ok (.imul, 1) := by decide +kernel
theorem dX2_hopsUnder_67 : decode cX2_hopsUnder 67 = .ok (.iload 6, 2) := by decide +kernel
theorem dX2_hopsUnder_69 : decode cX2_hopsUnder 69 = .ok (.iadd, 1) := by decide +kernel
theorem dX2_hopsUnder_70 : decode cX2_hopsUnder 70 = .ok (.iaload, 1) := by decide +kernel
theorem dX2_hopsUnder_71 : decode cX2_hopsUnder 71 = .ok (.invokestatic 67, 3) := by decide +kernel
theorem dX2_hopsUnder_74 : decode cX2_hopsUnder 74 = .ok (.istore 5, 2) := by decide +kernel
theorem dX2_hopsUnder_76 : decode cX2_hopsUnder 76 = .ok (.iinc 6 1, 3) := by decide +kernel
theorem dX2_hopsUnder_79 : decode cX2_hopsUnder 79 = .ok (.goto (-46), 3) := by decide +kernel
theorem dX2_hopsUnder_82 : decode cX2_hopsUnder 82 = .ok (.iload_n 3, 1) := by decide +kernel
theorem dX2_hopsUnder_83 : decode cX2_hopsUnder 83 = .ok (.iload 5, 2) := by decide +kernel
theorem dX2_hopsUnder_85 : decode cX2_hopsUnder 85 = .ok (.iadd, 1) := by decide +kernel
theorem dX2_hopsUnder_86 : decode cX2_hopsUnder 86 = .ok (.istore_n 3, 1) := by decide +kernel
theorem dX2_hopsUnder_87 : decode cX2_hopsUnder 87 = .ok (.iinc 4 1, 3) := by decide +kernel
theorem dX2_hopsUnder_90 : decode cX2_hopsUnder 90 = .ok (.goto (-85), 3) := by decide +kernel
theorem dX2_hopsUnder_93 : decode cX2_hopsUnder 93 = .ok (.iload_n 3, 1) := by decide +kernel
theorem dX2_hopsUnder_94 : decode cX2_hopsUnder 94 = .ok (.ireturn, 1) := by decide +kernel
theorem dX3_init_0 : decode cX3_init 0 = .ok (.aload_n 0, 1) := by decide +kernel
theorem dX3_init_1 : decode cX3_init 1 = .ok (.invokespecial 3, 3) := by decide +kernel
theorem dX3_init_4 : decode cX3_init 4 = .ok (.aload_n 0, 1) := by decide +kernel
theorem dX3_init_5 : decode cX3_init 5 = .ok (.bipush 12, 2) := by decide +kernel
theorem dX3_init_7 : decode cX3_init 7 = .ok (.newarray .int, 2) := by decide +kernel
theorem dX3_init_9 : decode cX3_init 9 = .ok (.putfield 9, 3) := by decide +kernel
theorem dX3_init_12 : decode cX3_init 12 = .ok (.aload_n 0, 1) := by decide +kernel
theorem dX3_init_13 : decode cX3_init 13 = .ok (.bipush 12, 2) := by decide +kernel
theorem dX3_init_15 : decode cX3_init 15 = .ok (.newarray .int, 2) := by decide +kernel
theorem dX3_init_17 : decode cX3_init 17 = .ok (.putfield 15, 3) := by decide +kernel
theorem dX3_init_20 : decode cX3_init 20 = .ok (.return_, 1) := by decide +kernel
theorem dX3_restart_0 : decode cX3_restart 0 = .ok (.aload_n 0, 1) := by decide +kernel
theorem dX3_restart_1 : decode cX3_restart 1 = .ok (.getfield 18, 3) := by decide +kernel
theorem dX3_restart_4 : decode cX3_restart 4 = .ok (.istore_n 2, 1) := by decide +kernel
theorem dX3_restart_5 : decode cX3_restart 5 = .ok (.aload_n 0, 1) := by decide +kernel
theorem dX3_restart_6 : decode cX3_restart 6 = .ok (.iload_n 1, 1) := by decide +kernel
theorem dX3_restart_7 : decode cX3_restart 7 = .ok (.putfield 22, 3) := by decide +kernel
theorem dX3_restart_10 : decode cX3_restart 10 = .ok (.aload_n 0, 1) := by decide +kernel
theorem dX3_restart_11 : decode cX3_restart 11 = .ok (.iconst 0, 1) := by decide +kernel
theorem dX3_restart_12 : decode cX3_restart 12 = .ok (.putfield 18, 3) := by decide +kernel
theorem dX3_restart_15 : decode cX3_restart 15 = .ok (.iload_n 2, 1) := by decide +kernel
theorem dX3_restart_16 : decode cX3_restart 16 = .ok (.ireturn, 1) := by decide +kernel
theorem dX3_type_0 : decode cX3_type 0 = .ok (.aload_n 0, 1) := by decide +kernel
theorem dX3_type_1 : decode cX3_type 1 = .ok (.getfield 22, 3) := by decide +kernel
theorem dX3_type_4 : decode cX3_type 4 = .ok (.ireturn, 1) := by decide +kernel
theorem dX3_size_0 : decode cX3_size 0 = .ok (.aload_n 0, 1) := by decide +kernel
theorem dX3_size_1 : decode cX3_size 1 = .ok (.getfield 18, 3) := by decide +kernel
theorem dX3_size_4 : decode cX3_size 4 = .ok (.ireturn, 1) := by decide +kernel
theorem dX3_has_0 : decode cX3_has 0 = .ok (.iload_n 1, 1) := by decide +kernel
theorem dX3_has_1 : decode cX3_has 1 = .ok (.ifCond .lt 21, 3) := by decide +kernel
theorem dX3_has_4 : decode cX3_has 4 = .ok (.iload_n 1, 1) := by decide +kernel
theorem dX3_has_5 : decode cX3_has 5 = .ok (.aload_n 0, 1) := by decide +kernel
theorem dX3_has_6 : decode cX3_has 6 = .ok (.getfield 18, 3) := by decide +kernel
theorem dX3_has_9 : decode cX3_has 9 = .ok (.if_icmp .ge 13, 3) := by decide +kernel
theorem dX3_has_12 : decode cX3_has 12 = .ok (.iload_n 1, 1) := by decide +kernel
theorem dX3_has_13 : decode cX3_has 13 = .ok (.bipush 12, 2) := by decide +kernel
theorem dX3_has_15 : decode cX3_has 15 = .ok (.if_icmp .ge 7, 3) := by decide +kernel
theorem dX3_has_18 : decode cX3_has 18 = .ok (.iconst 1, 1) := by decide +kernel
theorem dX3_has_19 : decode cX3_has 19 = .ok (.goto 4, 3) := by decide +kernel
theorem dX3_has_22 : decode cX3_has 22 = .ok (.iconst 0, 1) := by decide +kernel
theorem dX3_has_23 : decode cX3_has 23 = .ok (.ireturn, 1) := by decide +kernel
theorem dX3_aboveOf_0 : decode cX3_aboveOf 0 = .ok (.aload_n 0, 1) := by decide +kernel
theorem dX3_aboveOf_1 : decode cX3_aboveOf 1 = .ok (.iload_n 1, 1) := by decide +kernel
theorem dX3_aboveOf_2 : decode cX3_aboveOf 2 = .ok (.invokevirtual 25, 3) := by decide +kernel
theorem dX3_aboveOf_5 : decode cX3_aboveOf 5 = .ok (.ifCond .eq 12, 3) := by decide +kernel
theorem dX3_aboveOf_8 : decode cX3_aboveOf 8 = .ok (.aload_n 0, 1) := by decide +kernel
theorem dX3_aboveOf_9 : decode cX3_aboveOf 9 = .ok (.getfield 9, 3) := by decide +kernel
theorem dX3_aboveOf_12 : decode cX3_aboveOf 12 = .ok (.iload_n 1, 1) := by decide +kernel
theorem dX3_aboveOf_13 : decode cX3_aboveOf 13 = .ok (.iaload, 1) := by decide +kernel
theorem dX3_aboveOf_14 : decode cX3_aboveOf 14 = .ok (.goto 4, 3) := by decide +kernel
theorem dX3_aboveOf_17 : decode cX3_aboveOf 17 = .ok (.iconst (-1), 1) := by decide +kernel
theorem dX3_aboveOf_18 : decode cX3_aboveOf 18 = .ok (.ireturn, 1) := by decide +kernel
theorem dX3_slotAt_0 : decode cX3_slotAt 0 = .ok (.aload_n 0, 1) := by decide +kernel
theorem dX3_slotAt_1 : decode cX3_slotAt 1 = .ok (.iload_n 1, 1) := by decide +kernel
theorem dX3_slotAt_2 : decode cX3_slotAt 2 = .ok (.invokevirtual 25, 3) := by decide +kernel
theorem dX3_slotAt_5 : decode cX3_slotAt 5 = .ok (.ifCond .eq 12, 3) := by decide +kernel
theorem dX3_slotAt_8 : decode cX3_slotAt 8 = .ok (.aload_n 0, 1) := by decide +kernel
theorem dX3_slotAt_9 : decode cX3_slotAt 9 = .ok (.getfield 15, 3) := by decide +kernel
theorem dX3_slotAt_12 : decode cX3_slotAt 12 = .ok (.iload_n 1, 1) := by decide +kernel
theorem dX3_slotAt_13 : decode cX3_slotAt 13 = .ok (.iaload, 1) := by decide +kernel
theorem dX3_slotAt_14 : decode cX3_slotAt 14 = .ok (.goto 4, 3) := by decide +kernel
theorem dX3_slotAt_17 : decode cX3_slotAt 17 = .ok (.iconst (-1), 1) := by decide +kernel
theorem dX3_slotAt_18 : decode cX3_slotAt 18 = .ok (.ireturn, 1) := by decide +kernel
theorem dX3_hasRoom_0 : decode cX3_hasRoom 0 = .ok (.iconst 0, 1) := by decide +kernel
theorem dX3_hasRoom_1 : decode cX3_hasRoom 1 = .ok (.istore_n 3, 1) := by decide +kernel
theorem dX3_hasRoom_2 : decode cX3_hasRoom 2 = .ok (.iconst 0, 1) := by decide +kernel
theorem dX3_hasRoom_3 : decode cX3_hasRoom 3 = .ok (.istore 4, 2) := by decide +kernel
theorem dX3_hasRoom_5 : decode cX3_hasRoom 5 = .ok (.iload 4, 2) := by decide +kernel
theorem dX3_hasRoom_7 : decode cX3_hasRoom 7 = .ok (.aload_n 0, 1) := by decide +kernel
theorem dX3_hasRoom_8 : decode cX3_hasRoom 8 = .ok (.getfield 18, 3) := by decide +kernel
theorem dX3_hasRoom_11 : decode cX3_hasRoom 11 = .ok (.if_icmp .ge 34, 3) := by decide +kernel
theorem dX3_hasRoom_14 : decode cX3_hasRoom 14 = .ok (.aload_n 0, 1) := by decide +kernel
theorem dX3_hasRoom_15 : decode cX3_hasRoom 15 = .ok (.iload 4, 2) := by decide +kernel
theorem dX3_hasRoom_17 : decode cX3_hasRoom 17 = .ok (.invokevirtual 29, 3) := by decide +kernel
theorem dX3_hasRoom_20 : decode cX3_hasRoom 20 = .ok (.iload_n 1, 1) := by decide +kernel
theorem dX3_hasRoom_21 : decode cX3_hasRoom 21 = .ok (.if_icmp .ne 18, 3) := by decide +kernel
theorem dX3_hasRoom_24 : decode cX3_hasRoom 24 = .ok (.iinc 3 1, 3) := by decide +kernel
theorem dX3_hasRoom_27 : decode cX3_hasRoom 27 = .ok (.aload_n 0, 1) := by decide +kernel
theorem dX3_hasRoom_28 : decode cX3_hasRoom 28 = .ok (.iload 4, 2) := by decide +kernel
theorem dX3_hasRoom_30 : decode cX3_hasRoom 30 = .ok (.invokevirtual 33, 3) := by decide +kernel
theorem dX3_hasRoom_33 : decode cX3_hasRoom 33 = .ok (.iload_n 2, 1) := by decide +kernel
theorem dX3_hasRoom_34 : decode cX3_hasRoom 34 = .ok (.if_icmp .ne 5, 3) := by decide +kernel
theorem dX3_hasRoom_37 : decode cX3_hasRoom 37 = .ok (.iconst 0, 1) := by decide +kernel
theorem dX3_hasRoom_38 : decode cX3_hasRoom 38 = .ok (.ireturn, 1) := by decide +kernel
theorem dX3_hasRoom_39 : decode cX3_hasRoom 39 = .ok (.iinc 4 1, 3) := by decide +kernel
theorem dX3_hasRoom_42 : decode cX3_hasRoom 42 = .ok (.goto (-37), 3) := by decide +kernel
theorem dX3_hasRoom_45 : decode cX3_hasRoom 45 = .ok (.aload_n 0, 1) := by decide +kernel
theorem dX3_hasRoom_46 : decode cX3_hasRoom 46 = .ok (.getfield 18, 3) := by decide +kernel
theorem dX3_hasRoom_49 : decode cX3_hasRoom 49 = .ok (.bipush 12, 2) := by decide +kernel
theorem dX3_hasRoom_51 : decode cX3_hasRoom 51 = .ok (.if_icmp .ge 12, 3) := by decide +kernel
theorem dX3_hasRoom_54 : decode cX3_hasRoom 54 = .ok (.iload_n 3, 1) := by decide +kernel
theorem dX3_hasRoom_55 : decode cX3_hasRoom 55 = .ok (.iconst 4, 1) := by decide +kernel
theorem dX3_hasRoom_56 : decode cX3_hasRoom 56 = .ok (.if_icmp .ge 7, 3) := by decide +kernel
theorem dX3_hasRoom_59 : decode cX3_hasRoom 59 = .ok (.iconst 1, 1) := by decide +kernel
theorem dX3_hasRoom_60 : decode cX3_hasRoom 60 = .ok (.goto 4, 3) := by decide +kernel
theorem dX3_hasRoom_63 : decode cX3_hasRoom 63 = .ok (.iconst 0, 1) := by decide +kernel
theorem dX3_hasRoom_64 : decode cX3_hasRoom 64 = .ok (.ireturn, 1) := by decide +kernel
theorem dX3_append_0 : decode cX3_append 0 = .ok (.aload_n 0, 1) := by decide +kernel
theorem dX3_append_1 : decode cX3_append 1 = .ok (.getfield 18, 3) := by decide +kernel
theorem dX3_append_4 : decode cX3_append 4 = .ok (.ifCond .lt 12, 3) := by decide +kernel
theorem dX3_append_7 : decode cX3_append 7 = .ok (.aload_n 0, 1) := by decide +kernel
theorem dX3_append_8 : decode cX3_append 8 = .ok (.getfield 18, 3) := by decide +kernel
theorem dX3_append_11 : decode cX3_append 11 = .ok (.bipush 12, 2) := by decide +kernel
theorem dX3_append_13 : decode cX3_append 13 = .ok (.if_icmp .lt 5, 3) := by decide +kernel
theorem dX3_append_16 : decode cX3_append 16 = .ok (.iconst (-1), 1) := by decide +kernel
theorem dX3_append_17 : decode cX3_append 17 = .ok (.ireturn, 1) := by decide +kernel
theorem dX3_append_18 : decode cX3_append 18 = .ok (.aload_n 0, 1) := by decide +kernel
theorem dX3_append_19 : decode cX3_append 19 = .ok (.getfield 18, 3) := by decide +kernel
theorem dX3_append_22 : decode cX3_append 22 = .ok (.istore_n 3, 1) := by decide +kernel
theorem dX3_append_23 : decode cX3_append 23 = .ok (.aload_n 0, 1) := by decide +kernel
theorem dX3_append_24 : decode cX3_append 24 = .ok (.getfield 9, 3) := by decide +kernel
theorem dX3_append_27 : decode cX3_append 27 = .ok (.iload_n 3, 1) := by decide +kernel
theorem dX3_append_28 : decode cX3_append 28 = .ok (.iload_n 1, 1) := by decide +kernel
theorem dX3_append_29 : decode cX3_append 29 = .ok (.iastore, 1) := by decide +kernel
theorem dX3_append_30 : decode cX3_append 30 = .ok (.aload_n 0, 1) := by decide +kernel
theorem dX3_append_31 : decode cX3_append 31 = .ok (.getfield 15, 3) := by decide +kernel
theorem dX3_append_34 : decode cX3_append 34 = .ok (.iload_n 3, 1) := by decide +kernel
theorem dX3_append_35 : decode cX3_append 35 = .ok (.iload_n 2, 1) := by decide +kernel
theorem dX3_append_36 : decode cX3_append 36 = .ok (.iastore, 1) := by decide +kernel
theorem dX3_append_37 : decode cX3_append 37 = .ok (.aload_n 0, 1) := by decide +kernel
theorem dX3_append_38 : decode cX3_append 38 = .ok (.iload_n 3, 1) := by decide +kernel
theorem dX3_append_39 : decode cX3_append 39 = .ok (.iconst 1, 1) := by decide +kernel
theorem dX3_append_40 : decode cX3_append 40 = .ok (.iadd, 1) := by decide +kernel
theorem dX3_append_41 : decode cX3_append 41 = .ok (.putfield 18, 3) := by decide +kernel
theorem dX3_append_44 : decode cX3_append 44 = .ok (.iload_n 3, 1) := by decide +kernel
theorem dX3_append_45 : decode cX3_append 45 = .ok (.ireturn, 1) := by decide +kernel
theorem dX4_init_0 : decode cX4_init 0 = .ok (.aload_n 0, 1) := by decide +kernel
theorem dX4_init_1 : decode cX4_init 1 = .ok (.invokespecial 3, 3) := by decide +kernel
theorem dX4_init_4 : decode cX4_init 4 = .ok (.new 9, 3) := by decide +kernel
theorem dX4_init_7 : decode cX4_init 7 = .ok (.dup, 1) := by decide +kernel
theorem dX4_init_8 : decode cX4_init 8 = .ok (.invokespecial 11, 3) := by decide +kernel
theorem dX4_init_11 : decode cX4_init 11 = .ok (.astore_n 1, 1) := by decide +kernel
theorem dX4_init_12 : decode cX4_init 12 = .ok (.new 12, 3) := by decide +kernel
theorem dX4_init_15 : decode cX4_init 15 = .ok (.dup, 1) := by decide +kernel
theorem dX4_init_16 : decode cX4_init 16 = .ok (.invokespecial 14, 3) := by decide +kernel
theorem dX4_init_19 : decode cX4_init 19 = .ok (.astore_n 2, 1) := by decide +kernel
theorem dX4_init_20 : decode cX4_init 20 = .ok (.new 15, 3) := by decide +kernel
theorem dX4_init_23 : decode cX4_init 23 = .ok (.dup, 1) := by decide +kernel
theorem dX4_init_24 : decode cX4_init 24 = .ok (.aload_n 1, 1) := by decide +kernel
theorem dX4_init_25 : decode cX4_init 25 = .ok (.aload_n 2, 1) := by decide +kernel
theorem dX4_init_26 : decode cX4_init 26 = .ok (.invokespecial 17, 3) := by decide +kernel
theorem dX4_init_29 : decode cX4_init 29 = .ok (.astore_n 3, 1) := by decide +kernel
theorem dX4_init_30 : decode cX4_init 30 = .ok (.aload_n 0, 1) := by decide +kernel
theorem dX4_init_31 : decode cX4_init 31 = .ok (.aload_n 1, 1) := by decide +kernel
theorem dX4_init_32 : decode cX4_init 32 = .ok (.putfield 20, 3) := by decide +kernel
theorem dX4_init_35 : decode cX4_init 35 = .ok (.aload_n 0, 1) := by decide +kernel
theorem dX4_init_36 : decode cX4_init 36 = .ok (.aload_n 2, 1) := by decide +kernel
theorem dX4_init_37 : decode cX4_init 37 = .ok (.putfield 24, 3) := by decide +kernel
theorem dX4_init_40 : decode cX4_init 40 = .ok (.aload_n 0, 1) := by decide +kernel
theorem dX4_init_41 : decode cX4_init 41 = .ok (.aload_n 3, 1) := by decide +kernel
theorem dX4_init_42 : decode cX4_init 42 = .ok (.putfield 28, 3) := by decide +kernel
theorem dX4_init_45 : decode cX4_init 45 = .ok (.aload_n 0, 1) := by decide +kernel
theorem dX4_init_46 : decode cX4_init 46 = .ok (.new 32, 3) := by decide +kernel
theorem dX4_init_49 : decode cX4_init 49 = .ok (.dup, 1) := by decide +kernel
theorem dX4_init_50 : decode cX4_init 50 = .ok (.aload_n 1, 1) := by decide +kernel
theorem dX4_init_51 : decode cX4_init 51 = .ok (.aload_n 2, 1) := by decide +kernel
theorem dX4_init_52 : decode cX4_init 52 = .ok (.aload_n 3, 1) := by decide +kernel
theorem dX4_init_53 : decode cX4_init 53 = .ok (.invokespecial 34, 3) := by decide +kernel
theorem dX4_init_56 : decode cX4_init 56 = .ok (.putfield 37, 3) := by decide +kernel
theorem dX4_init_59 : decode cX4_init 59 = .ok (.aload_n 0, 1) := by decide +kernel
theorem dX4_init_60 : decode cX4_init 60 = .ok (.new 32, 3) := by decide +kernel
theorem dX4_init_63 : decode cX4_init 63 = .ok (.dup, 1) := by decide +kernel
theorem dX4_init_64 : decode cX4_init 64 = .ok (.aload_n 1, 1) := by decide +kernel
theorem dX4_init_65 : decode cX4_init 65 = .ok (.aload_n 2, 1) := by decide +kernel
theorem dX4_init_66 : decode cX4_init 66 = .ok (.aload_n 3, 1) := by decide +kernel
theorem dX4_init_67 : decode cX4_init 67 = .ok (.invokespecial 34, 3) := by decide +kernel
theorem dX4_init_70 : decode cX4_init 70 = .ok (.putfield 41, 3) := by decide +kernel
theorem dX4_init_73 : decode cX4_init 73 = .ok (.return_, 1) := by decide +kernel
theorem dX4_addField_0 : decode cX4_addField 0 = .ok (.iload_n 1, 1) := by decide +kernel
theorem dX4_addField_1 : decode cX4_addField 1 = .ok (.invokestatic 44, 3) := by decide +kernel
theorem dX4_addField_4 : decode cX4_addField 4 = .ok (.iload_n 2, 1) := by decide +kernel
theorem dX4_addField_5 : decode cX4_addField 5 = .ok (.iconst (-1), 1) := by decide +kernel
theorem dX4_addField_6 : decode cX4_addField 6 = .ok (.if_icmp .eq 20, 3) := by decide +kernel
theorem dX4_addField_9 : decode cX4_addField 9 = .ok (.iload_n 2, 1) := by decide +kernel
theorem dX4_addField_10 : decode cX4_addField 10 = .ok (.invokestatic 48, 3) := by decide +kernel
theorem dX4_addField_13 : decode cX4_addField 13 = .ok (.ifCond .ne 13, 3) := by decide +kernel
theorem dX4_addField_16 : decode cX4_addField 16 = .ok (.new 52, 3) := by decide +kernel
theorem dX4_addField_19 : decode cX4_addField 19 = .ok (.dup, 1) := by decide +kernel
theorem dX4_addField_20 : decode cX4_addField 20 = .ok (.ldc 54, 2) := by decide +kernel
theorem dX4_addField_22 : decode cX4_addField 22 = .ok (.invokespecial 56, 3) := by decide +kernel
theorem dX4_addField_25 : decode cX4_addField 25 = .ok (.athrow, 1) := by decide +kernel
theorem dX4_addField_26 : decode cX4_addField 26 = .ok (.aload_n 0, 1) := by decide +kernel
theorem dX4_addField_27 : decode cX4_addField 27 = .ok (.getfield 20, 3) := by decide +kernel
theorem dX4_addField_30 : decode cX4_addField 30 = .ok (.iload_n 1, 1) := by decide +kernel
theorem dX4_addField_31 : decode cX4_addField 31 = .ok (.invokevirtual 59, 3) := by decide +kernel
theorem dX4_addField_34 : decode cX4_addField 34 = .ok (.bipush 8, 2) := by decide +kernel
theorem dX4_addField_36 : decode cX4_addField 36 = .ok (.if_icmp .lt 13, 3) := by decide +kernel
theorem dX4_addField_39 : decode cX4_addField 39 = .ok (.new 63, 3) := by decide +kernel
theorem dX4_addField_42 : decode cX4_addField 42 = .ok (.dup, 1) := by decide +kernel
theorem dX4_addField_43 : decode cX4_addField 43 = .ok (.ldc 65, 2) := by decide +kernel
theorem dX4_addField_45 : decode cX4_addField 45 = .ok (.invokespecial 67, 3) := by decide +kernel
theorem dX4_addField_48 : decode cX4_addField 48 = .ok (.athrow, 1) := by decide +kernel
theorem dX4_addField_49 : decode cX4_addField 49 = .ok (.aload_n 0, 1) := by decide +kernel
theorem dX4_addField_50 : decode cX4_addField 50 = .ok (.getfield 20, 3) := by decide +kernel
theorem dX4_addField_53 : decode cX4_addField 53 = .ok (.iload_n 1, 1) := by decide +kernel
theorem dX4_addField_54 : decode cX4_addField 54 = .ok (.iload_n 2, 1) := by decide +kernel
theorem dX4_addField_55 : decode cX4_addField 55 = .ok (.iload_n 3, 1) := by decide +kernel
theorem dX4_addField_56 : decode cX4_addField 56 = .ok (.invokevirtual 68, 3) := by decide +kernel
theorem dX4_addField_59 : decode cX4_addField 59 = .ok (.ireturn, 1) := by decide +kernel
theorem dX4_own_0 : decode cX4_own 0 = .ok (.iload_n 1, 1) := by decide +kernel
theorem dX4_own_1 : decode cX4_own 1 = .ok (.invokestatic 72, 3) := by decide +kernel
theorem dX4_own_4 : decode cX4_own 4 = .ok (.iload_n 2, 1) := by decide +kernel
theorem dX4_own_5 : decode cX4_own 5 = .ok (.invokestatic 44, 3) := by decide +kernel
theorem dX4_own_8 : decode cX4_own 8 = .ok (.aload_n 0, 1) := by decide +kernel
theorem dX4_own_9 : decode cX4_own 9 = .ok (.iload_n 2, 1) := by decide +kernel
theorem dX4_own_10 : decode cX4_own 10 = .ok (.iload_n 3, 1) := by decide +kernel
theorem dX4_own_11 : decode cX4_own 11 = .ok (.invokevirtual 75, 3) := by decide +kernel
theorem dX4_own_14 : decode cX4_own 14 = .ok (.aload_n 0, 1) := by decide +kernel
theorem dX4_own_15 : decode cX4_own 15 = .ok (.getfield 28, 3) := by decide +kernel
theorem dX4_own_18 : decode cX4_own 18 = .ok (.invokevirtual 79, 3) := by decide +kernel
theorem dX4_own_21 : decode cX4_own 21 = .ok (.aload_n 0, 1) := by decide +kernel
theorem dX4_own_22 : decode cX4_own 22 = .ok (.getfield 20, 3) := by decide +kernel
theorem dX4_own_25 : decode cX4_own 25 = .ok (.iload_n 2, 1) := by decide +kernel
theorem dX4_own_26 : decode cX4_own 26 = .ok (.iload_n 3, 1) := by decide +kernel
theorem dX4_own_27 : decode cX4_own 27 = .ok (.invokestatic 82, 3) := by decide +kernel
theorem dX4_own_30 : decode cX4_own 30 = .ok (.iload_n 1, 1) := by decide +kernel
theorem dX4_own_31 : decode cX4_own 31 = .ok (.iload 4, 2) := by decide +kernel
theorem dX4_own_33 : decode cX4_own 33 = .ok (.invokevirtual 86, 3) := by decide +kernel
theorem dX4_own_36 : decode cX4_own 36 = .ok (.ireturn, 1) := by decide +kernel
theorem dX4_set_0 : decode cX4_set 0 = .ok (.iload_n 1, 1) := by decide +kernel
theorem dX4_set_1 : decode cX4_set 1 = .ok (.invokestatic 44, 3) := by decide +kernel
theorem dX4_set_4 : decode cX4_set 4 = .ok (.iload_n 2, 1) := by decide +kernel
theorem dX4_set_5 : decode cX4_set 5 = .ok (.invokestatic 90, 3) := by decide +kernel
theorem dX4_set_8 : decode cX4_set 8 = .ok (.aload_n 0, 1) := by decide +kernel
theorem dX4_set_9 : decode cX4_set 9 = .ok (.iload_n 1, 1) := by decide +kernel
theorem dX4_set_10 : decode cX4_set 10 = .ok (.iload_n 3, 1) := by decide +kernel
theorem dX4_set_11 : decode cX4_set 11 = .ok (.invokevirtual 75, 3) := by decide +kernel
theorem dX4_set_14 : decode cX4_set 14 = .ok (.iload_n 1, 1) := by decide +kernel
theorem dX4_set_15 : decode cX4_set 15 = .ok (.iload_n 3, 1) := by decide +kernel
theorem dX4_set_16 : decode cX4_set 16 = .ok (.invokestatic 82, 3) := by decide +kernel
theorem dX4_set_19 : decode cX4_set 19 = .ok (.istore 5, 2) := by decide +kernel
theorem dX4_set_21 : decode cX4_set 21 = .ok (.aload_n 0, 1) := by decide +kernel
theorem dX4_set_22 : decode cX4_set 22 = .ok (.getfield 20, 3) := by decide +kernel
theorem dX4_set_25 : decode cX4_set 25 = .ok (.iload 5, 2) := by decide +kernel
theorem dX4_set_27 : decode cX4_set 27 = .ok (.iload 4, 2) := by decide +kernel
theorem dX4_set_29 : decode cX4_set 29 = .ok (.invokevirtual 93, 3) := by decide +kernel
theorem dX4_set_32 : decode cX4_set 32 = .ok (.ifCond .ne 13, 3) := by decide +kernel
theorem dX4_set_35 : decode cX4_set 35 = .ok (.new 52, 3) := by decide +kernel
theorem dX4_set_38 : decode cX4_set 38 = .ok (.dup, 1) := by decide +kernel
theorem dX4_set_39 : decode cX4_set 39 = .ok (.ldc 97, 2) := by decide +kernel
theorem dX4_set_41 : decode cX4_set 41 = .ok (.invokespecial 56, 3) := by decide +kernel
theorem dX4_set_44 : decode cX4_set 44 = .ok (.athrow, 1) := by decide +kernel
theorem dX4_set_45 : decode cX4_set 45 = .ok (.aload_n 0, 1) := by decide +kernel
theorem dX4_set_46 : decode cX4_set 46 = .ok (.getfield 20, 3) := by decide +kernel
theorem dX4_set_49 : decode cX4_set 49 = .ok (.iload 5, 2) := by decide +kernel
theorem dX4_set_51 : decode cX4_set 51 = .ok (.iload_n 2, 1) := by decide +kernel
theorem dX4_set_52 : decode cX4_set 52 = .ok (.iload 4, 2) := by decide +kernel
theorem dX4_set_54 : decode cX4_set 54 = .ok (.invokevirtual 99, 3) := by decide +kernel
theorem dX4_set_57 : decode cX4_set 57 = .ok (.ireturn, 1) := by decide +kernel
theorem dX4_fail_0 : decode cX4_fail 0 = .ok (.iload_n 1, 1) := by decide +kernel
theorem dX4_fail_1 : decode cX4_fail 1 = .ok (.invokestatic 72, 3) := by decide +kernel
theorem dX4_fail_4 : decode cX4_fail 4 = .ok (.aload_n 0, 1) := by decide +kernel
theorem dX4_fail_5 : decode cX4_fail 5 = .ok (.getfield 20, 3) := by decide +kernel
theorem dX4_fail_8 : decode cX4_fail 8 = .ok (.iload_n 1, 1) := by decide +kernel
theorem dX4_fail_9 : decode cX4_fail 9 = .ok (.iload_n 2, 1) := by decide +kernel
theorem dX4_fail_10 : decode cX4_fail 10 = .ok (.invokevirtual 103, 3) := by decide +kernel
theorem dX4_fail_13 : decode cX4_fail 13 = .ok (.ireturn, 1) := by decide +kernel
theorem dX4_begin_0 : decode cX4_begin 0 = .ok (.iload_n 1, 1) := by decide +kernel
theorem dX4_begin_1 : decode cX4_begin 1 = .ok (.invokestatic 44, 3) := by decide +kernel
theorem dX4_begin_4 : decode cX4_begin 4 = .ok (.aload_n 0, 1) := by decide +kernel
theorem dX4_begin_5 : decode cX4_begin 5 = .ok (.getfield 28, 3) := by decide +kernel
theorem dX4_begin_8 : decode cX4_begin 8 = .ok (.invokevirtual 79, 3) := by decide +kernel
theorem dX4_begin_11 : decode cX4_begin 11 = .ok (.aload_n 0, 1) := by decide +kernel
theorem dX4_begin_12 : decode cX4_begin 12 = .ok (.getfield 24, 3) := by decide +kernel
theorem dX4_begin_15 : decode cX4_begin 15 = .ok (.iload_n 1, 1) := by decide +kernel
theorem dX4_begin_16 : decode cX4_begin 16 = .ok (.invokevirtual 107, 3) := by decide +kernel
theorem dX4_begin_19 : decode cX4_begin 19 = .ok (.ireturn, 1) := by decide +kernel
theorem dX4_node_0 : decode cX4_node 0 = .ok (.iload_n 1, 1) := by decide +kernel
theorem dX4_node_1 : decode cX4_node 1 = .ok (.iconst (-1), 1) := by decide +kernel
theorem dX4_node_2 : decode cX4_node 2 = .ok (.if_icmp .eq 8, 3) := by decide +kernel
theorem dX4_node_5 : decode cX4_node 5 = .ok (.aload_n 0, 1) := by decide +kernel
theorem dX4_node_6 : decode cX4_node 6 = .ok (.iload_n 1, 1) := by decide +kernel
theorem dX4_node_7 : decode cX4_node 7 = .ok (.invokevirtual 110, 3) := by decide +kernel
theorem dX4_node_10 : decode cX4_node 10 = .ok (.aload_n 0, 1) := by decide +kernel
theorem dX4_node_11 : decode cX4_node 11 = .ok (.iload_n 1, 1) := by decide +kernel
theorem dX4_node_12 : decode cX4_node 12 = .ok (.invokevirtual 113, 3) := by decide +kernel
theorem dX4_node_15 : decode cX4_node 15 = .ok (.istore_n 3, 1) := by decide +kernel
theorem dX4_node_16 : decode cX4_node 16 = .ok (.iload_n 3, 1) := by decide +kernel
theorem dX4_node_17 : decode cX4_node 17 = .ok (.iconst (-1), 1) := by decide +kernel
theorem dX4_node_18 : decode cX4_node 18 = .ok (.if_icmp .ne 13, 3) := by decide +kernel
theorem dX4_node_21 : decode cX4_node 21 = .ok (.new 63, 3) := by decide +kernel
theorem dX4_node_24 : decode cX4_node 24 = .ok (.dup, 1) := by decide +kernel
theorem dX4_node_25 : decode cX4_node 25 = .ok (.ldc 116, 2) := by decide +kernel
theorem dX4_node_27 : decode cX4_node 27 = .ok (.invokespecial 67, 3) := by decide +kernel
theorem dX4_node_30 : decode cX4_node 30 = .ok (.athrow, 1) := by decide +kernel
theorem dX4_node_31 : decode cX4_node 31 = .ok (.aload_n 0, 1) := by decide +kernel
theorem dX4_node_32 : decode cX4_node 32 = .ok (.iload_n 3, 1) := by decide +kernel
theorem dX4_node_33 : decode cX4_node 33 = .ok (.iload_n 2, 1) := by decide +kernel
theorem dX4_node_34 : decode cX4_node 34 = .ok (.invokevirtual 75, 3) := by decide +kernel
theorem dX4_node_37 : decode cX4_node 37 = .ok (.iload_n 3, 1) := by decide +kernel
theorem dX4_node_38 : decode cX4_node 38 = .ok (.iload_n 2, 1) := by decide +kernel
theorem dX4_node_39 : decode cX4_node 39 = .ok (.invokestatic 82, 3) := by decide +kernel
theorem dX4_node_42 : decode cX4_node 42 = .ok (.istore 4, 2) := by decide +kernel
theorem dX4_node_44 : decode cX4_node 44 = .ok (.aload_n 0, 1) := by decide +kernel
theorem dX4_node_45 : decode cX4_node 45 = .ok (.getfield 24, 3) := by decide +kernel
theorem dX4_node_48 : decode cX4_node 48 = .ok (.iload_n 1, 1) := by decide +kernel
theorem dX4_node_49 : decode cX4_node 49 = .ok (.iload 4, 2) := by decide +kernel
theorem dX4_node_51 : decode cX4_node 51 = .ok (.invokevirtual 118, 3) := by decide +kernel
theorem dX4_node_54 : decode cX4_node 54 = .ok (.ifCond .ne 13, 3) := by decide +kernel
theorem dX4_node_57 : decode cX4_node 57 = .ok (.new 63, 3) := by decide +kernel
theorem dX4_node_60 : decode cX4_node 60 = .ok (.dup, 1) := by decide +kernel
theorem dX4_node_61 : decode cX4_node 61 = .ok (.ldc 121, 2) := by decide +kernel
theorem dX4_node_63 : decode cX4_node 63 = .ok (.invokespecial 67, 3) := by decide +kernel
theorem dX4_node_66 : decode cX4_node 66 = .ok (.athrow, 1) := by decide +kernel
theorem dX4_node_67 : decode cX4_node 67 = .ok (.aload_n 0, 1) := by decide +kernel
theorem dX4_node_68 : decode cX4_node 68 = .ok (.getfield 28, 3) := by decide +kernel
theorem dX4_node_71 : decode cX4_node 71 = .ok (.invokevirtual 79, 3) := by decide +kernel
theorem dX4_node_74 : decode cX4_node 74 = .ok (.aload_n 0, 1) := by decide +kernel
theorem dX4_node_75 : decode cX4_node 75 = .ok (.getfield 24, 3) := by decide +kernel
theorem dX4_node_78 : decode cX4_node 78 = .ok (.iload_n 1, 1) := by decide +kernel
theorem dX4_node_79 : decode cX4_node 79 = .ok (.iload 4, 2) := by decide +kernel
theorem dX4_node_81 : decode cX4_node 81 = .ok (.invokevirtual 123, 3) := by decide +kernel
theorem dX4_node_84 : decode cX4_node 84 = .ok (.ireturn, 1) := by decide +kernel
theorem dX4_nodes_0 : decode cX4_nodes 0 = .ok (.aload_n 0, 1) := by decide +kernel
theorem dX4_nodes_1 : decode cX4_nodes 1 = .ok (.getfield 24, 3) := by decide +kernel
theorem dX4_nodes_4 : decode cX4_nodes 4 = .ok (.invokevirtual 125, 3) := by decide +kernel
theorem dX4_nodes_7 : decode cX4_nodes 7 = .ok (.ireturn, 1) := by decide +kernel
theorem dX4_typeOf_0 : decode cX4_typeOf 0 = .ok (.aload_n 0, 1) := by decide +kernel
theorem dX4_typeOf_1 : decode cX4_typeOf 1 = .ok (.iload_n 1, 1) := by decide +kernel
theorem dX4_typeOf_2 : decode cX4_typeOf 2 = .ok (.invokevirtual 110, 3) := by decide +kernel
theorem dX4_typeOf_5 : decode cX4_typeOf 5 = .ok (.aload_n 0, 1) := by decide +kernel
theorem dX4_typeOf_6 : decode cX4_typeOf 6 = .ok (.getfield 24, 3) := by decide +kernel
theorem dX4_typeOf_9 : decode cX4_typeOf 9 = .ok (.iload_n 1, 1) := by decide +kernel
theorem dX4_typeOf_10 : decode cX4_typeOf 10 = .ok (.invokevirtual 129, 3) := by decide +kernel
theorem dX4_typeOf_13 : decode cX4_typeOf 13 = .ok (.bipush 8, 2) := by decide +kernel
theorem dX4_typeOf_15 : decode cX4_typeOf 15 = .ok (.idiv, 1) := by decide +kernel
theorem dX4_typeOf_16 : decode cX4_typeOf 16 = .ok (.ireturn, 1) := by decide +kernel
theorem dX4_hops_0 : decode cX4_hops 0 = .ok (.aload_n 0, 1) := by decide +kernel
theorem dX4_hops_1 : decode cX4_hops 1 = .ok (.invokevirtual 132, 3) := by decide +kernel
theorem dX4_hops_4 : decode cX4_hops 4 = .ok (.aload_n 0, 1) := by decide +kernel
theorem dX4_hops_5 : decode cX4_hops 5 = .ok (.getfield 28, 3) := by decide +kernel
theorem dX4_hops_8 : decode cX4_hops 8 = .ok (.invokevirtual 135, 3) := by decide +kernel
theorem dX4_hops_11 : decode cX4_hops 11 = .ok (.ireturn, 1) := by decide +kernel
theorem dX4_takenFrom_0 : decode cX4_takenFrom 0 = .ok (.aload_n 0, 1) := by decide +kernel
theorem dX4_takenFrom_1 : decode cX4_takenFrom 1 = .ok (.iload_n 1, 1) := by decide +kernel
theorem dX4_takenFrom_2 : decode cX4_takenFrom 2 = .ok (.invokevirtual 110, 3) := by decide +kernel
theorem dX4_takenFrom_5 : decode cX4_takenFrom 5 = .ok (.aload_n 0, 1) := by decide +kernel
theorem dX4_takenFrom_6 : decode cX4_takenFrom 6 = .ok (.invokevirtual 132, 3) := by decide +kernel
theorem dX4_takenFrom_9 : decode cX4_takenFrom 9 = .ok (.aload_n 0, 1) := by decide +kernel
theorem dX4_takenFrom_10 : decode cX4_takenFrom 10 = .ok (.getfield 28, 3) := by decide +kernel
theorem dX4_takenFrom_13 : decode cX4_takenFrom 13 = .ok (.iload_n 1, 1) := by decide +kernel
theorem dX4_takenFrom_14 : decode cX4_takenFrom 14 = .ok (.invokevirtual 138, 3) := by decide +kernel
theorem dX4_takenFrom_17 : decode cX4_takenFrom 17 = .ok (.ireturn, 1) := by decide +kernel
theorem dX4_used_0 : decode cX4_used 0 = .ok (.aload_n 0, 1) := by decide +kernel
theorem dX4_used_1 : decode cX4_used 1 = .ok (.invokevirtual 132, 3) := by decide +kernel
theorem dX4_used_4 : decode cX4_used 4 = .ok (.iconst 0, 1) := by decide +kernel
theorem dX4_used_5 : decode cX4_used 5 = .ok (.istore_n 1, 1) := by decide +kernel
theorem dX4_used_6 : decode cX4_used 6 = .ok (.iconst 0, 1) := by decide +kernel
theorem dX4_used_7 : decode cX4_used 7 = .ok (.istore_n 2, 1) := by decide +kernel
theorem dX4_used_8 : decode cX4_used 8 = .ok (.iload_n 2, 1) := by decide +kernel
theorem dX4_used_9 : decode cX4_used 9 = .ok (.aload_n 0, 1) := by decide +kernel
theorem dX4_used_10 : decode cX4_used 10 = .ok (.getfield 24, 3) := by decide +kernel
theorem dX4_used_13 : decode cX4_used 13 = .ok (.invokevirtual 125, 3) := by decide +kernel
theorem dX4_used_16 : decode cX4_used 16 = .ok (.if_icmp .ge 23, 3) := by decide +kernel
theorem dX4_used_19 : decode cX4_used 19 = .ok (.iload_n 1, 1) := by decide +kernel
theorem dX4_used_20 : decode cX4_used 20 = .ok (.aload_n 0, 1) := by decide +kernel
theorem dX4_used_21 : decode cX4_used 21 = .ok (.getfield 28, 3) := by decide +kernel
theorem dX4_used_24 : decode cX4_used 24 = .ok (.iload_n 2, 1) := by decide +kernel
theorem dX4_used_25 : decode cX4_used 25 = .ok (.invokevirtual 138, 3) := by decide +kernel
theorem dX4_used_28 : decode cX4_used 28 = .ok (.invokestatic 141, 3) := by decide +kernel
theorem dX4_used_31 : decode cX4_used 31 = .ok (.ior, 1) := by decide +kernel
theorem dX4_used_32 : decode cX4_used 32 = .ok (.istore_n 1, 1) := by decide +kernel
theorem dX4_used_33 : decode cX4_used 33 = .ok (.iinc 2 1, 3) := by decide +kernel
theorem dX4_used_36 : decode cX4_used 36 = .ok (.goto (-28), 3) := by decide +kernel
theorem dX4_used_39 : decode cX4_used 39 = .ok (.iload_n 1, 1) := by decide +kernel
theorem dX4_used_40 : decode cX4_used 40 = .ok (.ireturn, 1) := by decide +kernel
theorem dX4_value_0 : decode cX4_value 0 = .ok (.iload_n 1, 1) := by decide +kernel
theorem dX4_value_1 : decode cX4_value 1 = .ok (.invokestatic 90, 3) := by decide +kernel
theorem dX4_value_4 : decode cX4_value 4 = .ok (.aload_n 0, 1) := by decide +kernel
theorem dX4_value_5 : decode cX4_value 5 = .ok (.iload_n 2, 1) := by decide +kernel
theorem dX4_value_6 : decode cX4_value 6 = .ok (.invokevirtual 110, 3) := by decide +kernel
theorem dX4_value_9 : decode cX4_value 9 = .ok (.aload_n 0, 1) := by decide +kernel
theorem dX4_value_10 : decode cX4_value 10 = .ok (.invokevirtual 132, 3) := by decide +kernel
theorem dX4_value_13 : decode cX4_value 13 = .ok (.aload_n 0, 1) := by decide +kernel
theorem dX4_value_14 : decode cX4_value 14 = .ok (.getfield 37, 3) := by decide +kernel
theorem dX4_value_17 : decode cX4_value 17 = .ok (.iload_n 1, 1) := by decide +kernel
theorem dX4_value_18 : decode cX4_value 18 = .ok (.aload_n 0, 1) := by decide +kernel
theorem dX4_value_19 : decode cX4_value 19 = .ok (.getfield 20, 3) := by decide +kernel
theorem dX4_value_22 : decode cX4_value 22 = .ok (.invokevirtual 144, 3) := by decide +kernel
theorem dX4_value_25 : decode cX4_value 25 = .ok (.invokevirtual 147, 3) := by decide +kernel
theorem dX4_value_28 : decode cX4_value 28 = .ok (.aload_n 0, 1) := by decide +kernel
theorem dX4_value_29 : decode cX4_value 29 = .ok (.getfield 37, 3) := by decide +kernel
theorem dX4_value_32 : decode cX4_value 32 = .ok (.iload_n 2, 1) := by decide +kernel
theorem dX4_value_33 : decode cX4_value 33 = .ok (.invokevirtual 150, 3) := by decide +kernel
theorem dX4_value_36 : decode cX4_value 36 = .ok (.ireturn, 1) := by decide +kernel
theorem dX4_isMissing_0 : decode cX4_isMissing 0 = .ok (.iload_n 1, 1) := by decide +kernel
theorem dX4_isMissing_1 : decode cX4_isMissing 1 = .ok (.invokestatic 90, 3) := by decide +kernel
theorem dX4_isMissing_4 : decode cX4_isMissing 4 = .ok (.aload_n 0, 1) := by decide +kernel
theorem dX4_isMissing_5 : decode cX4_isMissing 5 = .ok (.invokevirtual 132, 3) := by decide +kernel
theorem dX4_isMissing_8 : decode cX4_isMissing 8 = .ok (.aload_n 0, 1) := by decide +kernel
theorem dX4_isMissing_9 : decode cX4_isMissing 9 = .ok (.getfield 37, 3) := by decide +kernel
theorem dX4_isMissing_12 : decode cX4_isMissing 12 = .ok (.iload_n 1, 1) := by decide +kernel
theorem dX4_isMissing_13 : decode cX4_isMissing 13 = .ok (.aload_n 0, 1) := by decide +kernel
theorem dX4_isMissing_14 : decode cX4_isMissing 14 = .ok (.getfield 20, 3) := by decide +kernel
theorem dX4_isMissing_17 : decode cX4_isMissing 17 = .ok (.invokevirtual 144, 3) := by decide +kernel
theorem dX4_isMissing_20 : decode cX4_isMissing 20 = .ok (.invokevirtual 147, 3) := by decide +kernel
theorem dX4_isMissing_23 : decode cX4_isMissing 23 = .ok (.aload_n 0, 1) := by decide +kernel
theorem dX4_isMissing_24 : decode cX4_isMissing 24 = .ok (.getfield 37, 3) := by decide +kernel
theorem dX4_isMissing_27 : decode cX4_isMissing 27 = .ok (.invokevirtual 153, 3) := by decide +kernel
theorem dX4_isMissing_30 : decode cX4_isMissing 30 = .ok (.ireturn, 1) := by decide +kernel
theorem dX4_faults_0 : decode cX4_faults 0 = .ok (.iload_n 1, 1) := by decide +kernel
theorem dX4_faults_1 : decode cX4_faults 1 = .ok (.invokestatic 90, 3) := by decide +kernel
theorem dX4_faults_4 : decode cX4_faults 4 = .ok (.aload_n 0, 1) := by decide +kernel
theorem dX4_faults_5 : decode cX4_faults 5 = .ok (.invokevirtual 132, 3) := by decide +kernel
theorem dX4_faults_8 : decode cX4_faults 8 = .ok (.aload_n 0, 1) := by decide +kernel
theorem dX4_faults_9 : decode cX4_faults 9 = .ok (.getfield 37, 3) := by decide +kernel
theorem dX4_faults_12 : decode cX4_faults 12 = .ok (.iload_n 1, 1) := by decide +kernel
theorem dX4_faults_13 : decode cX4_faults 13 = .ok (.aload_n 0, 1) := by decide +kernel
theorem dX4_faults_14 : decode cX4_faults 14 = .ok (.getfield 20, 3) := by decide +kernel
theorem dX4_faults_17 : decode cX4_faults 17 = .ok (.invokevirtual 144, 3) := by decide +kernel
theorem dX4_faults_20 : decode cX4_faults 20 = .ok (.invokevirtual 147, 3) := by decide +kernel
theorem dX4_faults_23 : decode cX4_faults 23 = .ok (.aload_n 0, 1) := by decide +kernel
theorem dX4_faults_24 : decode cX4_faults 24 = .ok (.getfield 37, 3) := by decide +kernel
theorem dX4_faults_27 : decode cX4_faults 27 = .ok (.invokevirtual 157, 3) := by decide +kernel
theorem dX4_faults_30 : decode cX4_faults 30 = .ok (.ireturn, 1) := by decide +kernel
theorem dX4_loaded_0 : decode cX4_loaded 0 = .ok (.iload_n 2, 1) := by decide +kernel
theorem dX4_loaded_1 : decode cX4_loaded 1 = .ok (.invokestatic 90, 3) := by decide +kernel
theorem dX4_loaded_4 : decode cX4_loaded 4 = .ok (.iload_n 3, 1) := by decide +kernel
theorem dX4_loaded_5 : decode cX4_loaded 5 = .ok (.invokestatic 90, 3) := by decide +kernel
theorem dX4_loaded_8 : decode cX4_loaded 8 = .ok (.iload_n 3, 1) := by decide +kernel
theorem dX4_loaded_9 : decode cX4_loaded 9 = .ok (.iload_n 2, 1) := by decide +kernel
theorem dX4_loaded_10 : decode cX4_loaded 10 = .ok (.if_icmp .ge 13, 3) := by decide +kernel
theorem dX4_loaded_13 : decode cX4_loaded 13 = .ok (.new 52, 3) := by decide +kernel
theorem dX4_loaded_16 : decode cX4_loaded 16 = .ok (.dup, 1) := by decide +kernel
theorem dX4_loaded_17 : decode cX4_loaded 17 = .ok (.ldc 160, 2) := by decide +kernel
theorem dX4_loaded_19 : decode cX4_loaded 19 = .ok (.invokespecial 56, 3) := by decide +kernel
theorem dX4_loaded_22 : decode cX4_loaded 22 = .ok (.athrow, 1) := by decide +kernel
theorem dX4_loaded_23 : decode cX4_loaded 23 = .ok (.aload_n 0, 1) := by decide +kernel
theorem dX4_loaded_24 : decode cX4_loaded 24 = .ok (.iload_n 1, 1) := by decide +kernel
theorem dX4_loaded_25 : decode cX4_loaded 25 = .ok (.invokevirtual 110, 3) := by decide +kernel
theorem dX4_loaded_28 : decode cX4_loaded 28 = .ok (.aload_n 0, 1) := by decide +kernel
theorem dX4_loaded_29 : decode cX4_loaded 29 = .ok (.iload_n 1, 1) := by decide +kernel
theorem dX4_loaded_30 : decode cX4_loaded 30 = .ok (.invokevirtual 113, 3) := by decide +kernel
theorem dX4_loaded_33 : decode cX4_loaded 33 = .ok (.iconst (-1), 1) := by decide +kernel
theorem dX4_loaded_34 : decode cX4_loaded 34 = .ok (.if_icmp .ne 13, 3) := by decide +kernel
theorem dX4_loaded_37 : decode cX4_loaded 37 = .ok (.new 63, 3) := by decide +kernel
theorem dX4_loaded_40 : decode cX4_loaded 40 = .ok (.dup, 1) := by decide +kernel
theorem dX4_loaded_41 : decode cX4_loaded 41 = .ok (.ldc 162, 2) := by decide +kernel
theorem dX4_loaded_43 : decode cX4_loaded 43 = .ok (.invokespecial 67, 3) := by decide +kernel
theorem dX4_loaded_46 : decode cX4_loaded 46 = .ok (.athrow, 1) := by decide +kernel
theorem dX4_loaded_47 : decode cX4_loaded 47 = .ok (.aload_n 0, 1) := by decide +kernel
theorem dX4_loaded_48 : decode cX4_loaded 48 = .ok (.invokevirtual 132, 3) := by decide +kernel
theorem dX4_loaded_51 : decode cX4_loaded 51 = .ok (.iconst 0, 1) := by decide +kernel
theorem dX4_loaded_52 : decode cX4_loaded 52 = .ok (.istore 4, 2) := by decide +kernel
theorem dX4_loaded_54 : decode cX4_loaded 54 = .ok (.iload_n 2, 1) := by decide +kernel
theorem dX4_loaded_55 : decode cX4_loaded 55 = .ok (.istore 5, 2) := by decide +kernel
theorem dX4_loaded_57 : decode cX4_loaded 57 = .ok (.iload 5, 2) := by decide +kernel
theorem dX4_loaded_59 : decode cX4_loaded 59 = .ok (.iload_n 3, 1) := by decide +kernel
theorem dX4_loaded_60 : decode cX4_loaded 60 = .ok (.if_icmp .gt 41, 3) := by decide +kernel
theorem dX4_loaded_63 : decode cX4_loaded 63 = .ok (.aload_n 0, 1) := by decide +kernel
theorem dX4_loaded_64 : decode cX4_loaded 64 = .ok (.getfield 37, 3) := by decide +kernel
theorem dX4_loaded_67 : decode cX4_loaded 67 = .ok (.iload 5, 2) := by decide +kernel
theorem dX4_loaded_69 : decode cX4_loaded 69 = .ok (.aload_n 0, 1) := by decide +kernel
theorem dX4_loaded_70 : decode cX4_loaded 70 = .ok (.getfield 20, 3) := by decide +kernel
theorem dX4_loaded_73 : decode cX4_loaded 73 = .ok (.invokevirtual 144, 3) := by decide +kernel
theorem dX4_loaded_76 : decode cX4_loaded 76 = .ok (.invokevirtual 147, 3) := by decide +kernel
theorem dX4_loaded_79 : decode cX4_loaded 79 = .ok (.iload 4, 2) := by decide +kernel
theorem dX4_loaded_81 : decode cX4_loaded 81 = .ok (.aload_n 0, 1) := by decide +kernel
theorem dX4_loaded_82 : decode cX4_loaded 82 = .ok (.getfield 37, 3) := by decide +kernel
theorem dX4_loaded_85 : decode cX4_loaded 85 = .ok (.iload_n 1, 1) := by decide +kernel
theorem dX4_loaded_86 : decode cX4_loaded 86 = .ok (.invokevirtual 150, 3) := by decide +kernel
theorem dX4_loaded_89 : decode cX4_loaded 89 = .ok (.invokestatic 141, 3) := by decide +kernel
theorem dX4_loaded_92 : decode cX4_loaded 92 = .ok (.ior, 1) := by decide +kernel
theorem dX4_loaded_93 : decode cX4_loaded 93 = .ok (.istore 4, 2) := by decide +kernel
theorem dX4_loaded_95 : decode cX4_loaded 95 = .ok (.iinc 5 1, 3) := by decide +kernel
theorem dX4_loaded_98 : decode cX4_loaded 98 = .ok (.goto (-41), 3) := by decide +kernel
theorem dX4_loaded_101 : decode cX4_loaded 101 = .ok (.iload 4, 2) := by decide +kernel
theorem dX4_loaded_103 : decode cX4_loaded 103 = .ok (.invokestatic 164, 3) := by decide +kernel
theorem dX4_loaded_106 : decode cX4_loaded 106 = .ok (.ireturn, 1) := by decide +kernel
theorem dX4_harmed_0 : decode cX4_harmed 0 = .ok (.aload_n 0, 1) := by decide +kernel
theorem dX4_harmed_1 : decode cX4_harmed 1 = .ok (.invokevirtual 132, 3) := by decide +kernel
theorem dX4_harmed_4 : decode cX4_harmed 4 = .ok (.iconst 0, 1) := by decide +kernel
theorem dX4_harmed_5 : decode cX4_harmed 5 = .ok (.istore_n 1, 1) := by decide +kernel
theorem dX4_harmed_6 : decode cX4_harmed 6 = .ok (.iconst 0, 1) := by decide +kernel
theorem dX4_harmed_7 : decode cX4_harmed 7 = .ok (.istore_n 2, 1) := by decide +kernel
theorem dX4_harmed_8 : decode cX4_harmed 8 = .ok (.iload_n 2, 1) := by decide +kernel
theorem dX4_harmed_9 : decode cX4_harmed 9 = .ok (.bipush 20, 2) := by decide +kernel
theorem dX4_harmed_11 : decode cX4_harmed 11 = .ok (.if_icmp .ge 50, 3) := by decide +kernel
theorem dX4_harmed_14 : decode cX4_harmed 14 = .ok (.aload_n 0, 1) := by decide +kernel
theorem dX4_harmed_15 : decode cX4_harmed 15 = .ok (.getfield 37, 3) := by decide +kernel
theorem dX4_harmed_18 : decode cX4_harmed 18 = .ok (.iload_n 2, 1) := by decide +kernel
theorem dX4_harmed_19 : decode cX4_harmed 19 = .ok (.aload_n 0, 1) := by decide +kernel
theorem dX4_harmed_20 : decode cX4_harmed 20 = .ok (.getfield 20, 3) := by decide +kernel
theorem dX4_harmed_23 : decode cX4_harmed 23 = .ok (.invokevirtual 144, 3) := by decide +kernel
theorem dX4_harmed_26 : decode cX4_harmed 26 = .ok (.invokevirtual 147, 3) := by decide +kernel
theorem dX4_harmed_29 : decode cX4_harmed 29 = .ok (.aload_n 0, 1) := by decide +kernel
theorem dX4_harmed_30 : decode cX4_harmed 30 = .ok (.getfield 41, 3) := by decide +kernel
theorem dX4_harmed_33 : decode cX4_harmed 33 = .ok (.iload_n 2, 1) := by decide +kernel
theorem dX4_harmed_34 : decode cX4_harmed 34 = .ok (.iconst 0, 1) := by decide +kernel
theorem dX4_harmed_35 : decode cX4_harmed 35 = .ok (.invokevirtual 147, 3) := by decide +kernel
theorem dX4_harmed_38 : decode cX4_harmed 38 = .ok (.aload_n 0, 1) := by decide +kernel
theorem dX4_harmed_39 : decode cX4_harmed 39 = .ok (.getfield 37, 3) := by decide +kernel
theorem dX4_harmed_42 : decode cX4_harmed 42 = .ok (.aload_n 0, 1) := by decide +kernel
theorem dX4_harmed_43 : decode cX4_harmed 43 = .ok (.getfield 41, 3) := by decide +kernel
theorem dX4_harmed_46 : decode cX4_harmed 46 = .ok (.invokevirtual 169, 3) := by decide +kernel
theorem dX4_harmed_49 : decode cX4_harmed 49 = .ok (.ifCond .eq 6, 3) := by decide +kernel
theorem dX4_harmed_52 : decode cX4_harmed 52 = .ok (.iinc 1 1, 3) := by decide +kernel
theorem dX4_harmed_55 : decode cX4_harmed 55 = .ok (.iinc 2 1, 3) := by decide +kernel
theorem dX4_harmed_58 : decode cX4_harmed 58 = .ok (.goto (-50), 3) := by decide +kernel
theorem dX4_harmed_61 : decode cX4_harmed 61 = .ok (.iload_n 1, 1) := by decide +kernel
theorem dX4_harmed_62 : decode cX4_harmed 62 = .ok (.ireturn, 1) := by decide +kernel
theorem dX4_least_0 : decode cX4_least 0 = .ok (.aload_n 0, 1) := by decide +kernel
theorem dX4_least_1 : decode cX4_least 1 = .ok (.iload_n 1, 1) := by decide +kernel
theorem dX4_least_2 : decode cX4_least 2 = .ok (.invokevirtual 110, 3) := by decide +kernel
theorem dX4_least_5 : decode cX4_least 5 = .ok (.aload_n 0, 1) := by decide +kernel
theorem dX4_least_6 : decode cX4_least 6 = .ok (.invokevirtual 132, 3) := by decide +kernel
theorem dX4_least_9 : decode cX4_least 9 = .ok (.iconst (-1), 1) := by decide +kernel
theorem dX4_least_10 : decode cX4_least 10 = .ok (.istore_n 2, 1) := by decide +kernel
theorem dX4_least_11 : decode cX4_least 11 = .ok (.iconst (-1), 1) := by decide +kernel
theorem dX4_least_12 : decode cX4_least 12 = .ok (.istore_n 3, 1) := by decide +kernel
theorem dX4_least_13 : decode cX4_least 13 = .ok (.iconst 0, 1) := by decide +kernel
theorem dX4_least_14 : decode cX4_least 14 = .ok (.istore 4, 2) := by decide +kernel
theorem dX4_least_16 : decode cX4_least 16 = .ok (.iload 4, 2) := by decide +kernel
theorem dX4_least_18 : decode cX4_least 18 = .ok (.bipush 20, 2) := by decide +kernel
theorem dX4_least_20 : decode cX4_least 20 = .ok (.if_icmp .ge 58, 3) := by decide +kernel
theorem dX4_least_23 : decode cX4_least 23 = .ok (.aload_n 0, 1) := by decide +kernel
theorem dX4_least_24 : decode cX4_least 24 = .ok (.getfield 37, 3) := by decide +kernel
theorem dX4_least_27 : decode cX4_least 27 = .ok (.iload 4, 2) := by decide +kernel
theorem dX4_least_29 : decode cX4_least 29 = .ok (.aload_n 0, 1) := by decide +kernel
theorem dX4_least_30 : decode cX4_least 30 = .ok (.getfield 20, 3) := by decide +kernel
theorem dX4_least_33 : decode cX4_least 33 = .ok (.invokevirtual 144, 3) := by decide +kernel
theorem dX4_least_36 : decode cX4_least 36 = .ok (.invokevirtual 147, 3) := by decide +kernel
theorem dX4_least_39 : decode cX4_least 39 = .ok (.aload_n 0, 1) := by decide +kernel
theorem dX4_least_40 : decode cX4_least 40 = .ok (.getfield 37, 3) := by decide +kernel
theorem dX4_least_43 : decode cX4_least 43 = .ok (.iload_n 1, 1) := by decide +kernel
theorem dX4_least_44 : decode cX4_least 44 = .ok (.invokevirtual 150, 3) := by decide +kernel
theorem dX4_least_47 : decode cX4_least 47 = .ok (.istore 5, 2) := by decide +kernel
theorem dX4_least_49 : decode cX4_least 49 = .ok (.iload 5, 2) := by decide +kernel
theorem dX4_least_51 : decode cX4_least 51 = .ok (.iconst (-1), 1) := by decide +kernel
theorem dX4_least_52 : decode cX4_least 52 = .ok (.if_icmp .eq 20, 3) := by decide +kernel
theorem dX4_least_55 : decode cX4_least 55 = .ok (.iload_n 2, 1) := by decide +kernel
theorem dX4_least_56 : decode cX4_least 56 = .ok (.iconst (-1), 1) := by decide +kernel
theorem dX4_least_57 : decode cX4_least 57 = .ok (.if_icmp .eq 9, 3) := by decide +kernel
theorem dX4_least_60 : decode cX4_least 60 = .ok (.iload 5, 2) := by decide +kernel
theorem dX4_least_62 : decode cX4_least 62 = .ok (.iload_n 3, 1) := by decide +kernel
theorem dX4_least_63 : decode cX4_least 63 = .ok (.if_icmp .ge 9, 3) := by decide +kernel
theorem dX4_least_66 : decode cX4_least 66 = .ok (.iload 4, 2) := by decide +kernel
theorem dX4_least_68 : decode cX4_least 68 = .ok (.istore_n 2, 1) := by decide +kernel
theorem dX4_least_69 : decode cX4_least 69 = .ok (.iload 5, 2) := by decide +kernel
theorem dX4_least_71 : decode cX4_least 71 = .ok (.istore_n 3, 1) := by decide +kernel
theorem dX4_least_72 : decode cX4_least 72 = .ok (.iinc 4 1, 3) := by decide +kernel
theorem dX4_least_75 : decode cX4_least 75 = .ok (.goto (-59), 3) := by decide +kernel
theorem dX4_least_78 : decode cX4_least 78 = .ok (.iload_n 2, 1) := by decide +kernel
theorem dX4_least_79 : decode cX4_least 79 = .ok (.iconst (-1), 1) := by decide +kernel
theorem dX4_least_80 : decode cX4_least 80 = .ok (.if_icmp .ne 13, 3) := by decide +kernel
theorem dX4_least_83 : decode cX4_least 83 = .ok (.new 173, 3) := by decide +kernel
theorem dX4_least_86 : decode cX4_least 86 = .ok (.dup, 1) := by decide +kernel
theorem dX4_least_87 : decode cX4_least 87 = .ok (.ldc 175, 2) := by decide +kernel
theorem dX4_least_89 : decode cX4_least 89 = .ok (.invokespecial 177, 3) := by decide +kernel
theorem dX4_least_92 : decode cX4_least 92 = .ok (.athrow, 1) := by decide +kernel
theorem dX4_least_93 : decode cX4_least 93 = .ok (.iload_n 2, 1) := by decide +kernel
theorem dX4_least_94 : decode cX4_least 94 = .ok (.ireturn, 1) := by decide +kernel
theorem dX4_isService_0 : decode cX4_isService 0 = .ok (.iload_n 0, 1) := by decide +kernel
theorem dX4_isService_1 : decode cX4_isService 1 = .ok (.ifCond .lt 12, 3) := by decide +kernel
theorem dX4_isService_4 : decode cX4_isService 4 = .ok (.iload_n 0, 1) := by decide +kernel
theorem dX4_isService_5 : decode cX4_isService 5 = .ok (.iconst 4, 1) := by decide +kernel
theorem dX4_isService_6 : decode cX4_isService 6 = .ok (.if_icmp .ge 7, 3) := by decide +kernel
theorem dX4_isService_9 : decode cX4_isService 9 = .ok (.iconst 1, 1) := by decide +kernel
theorem dX4_isService_10 : decode cX4_isService 10 = .ok (.goto 4, 3) := by decide +kernel
theorem dX4_isService_13 : decode cX4_isService 13 = .ok (.iconst 0, 1) := by decide +kernel
theorem dX4_isService_14 : decode cX4_isService 14 = .ok (.ireturn, 1) := by decide +kernel
theorem dX4_isType_0 : decode cX4_isType 0 = .ok (.iload_n 0, 1) := by decide +kernel
theorem dX4_isType_1 : decode cX4_isType 1 = .ok (.ifCond .lt 12, 3) := by decide +kernel
theorem dX4_isType_4 : decode cX4_isType 4 = .ok (.iload_n 0, 1) := by decide +kernel
theorem dX4_isType_5 : decode cX4_isType 5 = .ok (.iconst 4, 1) := by decide +kernel
theorem dX4_isType_6 : decode cX4_isType 6 = .ok (.if_icmp .ge 7, 3) := by decide +kernel
theorem dX4_isType_9 : decode cX4_isType 9 = .ok (.iconst 1, 1) := by decide +kernel
theorem dX4_isType_10 : decode cX4_isType 10 = .ok (.goto 4, 3) := by decide +kernel
theorem dX4_isType_13 : decode cX4_isType 13 = .ok (.iconst 0, 1) := by decide +kernel
theorem dX4_isType_14 : decode cX4_isType 14 = .ok (.ireturn, 1) := by decide +kernel
theorem dX4_isKey_0 : decode cX4_isKey 0 = .ok (.iload_n 0, 1) := by decide +kernel
theorem dX4_isKey_1 : decode cX4_isKey 1 = .ok (.ifCond .lt 13, 3) := by decide +kernel
theorem dX4_isKey_4 : decode cX4_isKey 4 = .ok (.iload_n 0, 1) := by decide +kernel
theorem dX4_isKey_5 : decode cX4_isKey 5 = .ok (.bipush 20, 2) := by decide +kernel
theorem dX4_isKey_7 : decode cX4_isKey 7 = .ok (.if_icmp .ge 7, 3) := by decide +kernel
theorem dX4_isKey_10 : decode cX4_isKey 10 = .ok (.iconst 1, 1) := by decide +kernel
theorem dX4_isKey_11 : decode cX4_isKey 11 = .ok (.goto 4, 3) := by decide +kernel
theorem dX4_isKey_14 : decode cX4_isKey 14 = .ok (.iconst 0, 1) := by decide +kernel
theorem dX4_isKey_15 : decode cX4_isKey 15 = .ok (.ireturn, 1) := by decide +kernel
theorem dX4_isSlot_0 : decode cX4_isSlot 0 = .ok (.iload_n 0, 1) := by decide +kernel
theorem dX4_isSlot_1 : decode cX4_isSlot 1 = .ok (.ifCond .lt 13, 3) := by decide +kernel
theorem dX4_isSlot_4 : decode cX4_isSlot 4 = .ok (.iload_n 0, 1) := by decide +kernel
theorem dX4_isSlot_5 : decode cX4_isSlot 5 = .ok (.bipush 32, 2) := by decide +kernel
theorem dX4_isSlot_7 : decode cX4_isSlot 7 = .ok (.if_icmp .ge 7, 3) := by decide +kernel
theorem dX4_isSlot_10 : decode cX4_isSlot 10 = .ok (.iconst 1, 1) := by decide +kernel
theorem dX4_isSlot_11 : decode cX4_isSlot 11 = .ok (.goto 4, 3) := by decide +kernel
theorem dX4_isSlot_14 : decode cX4_isSlot 14 = .ok (.iconst 0, 1) := by decide +kernel
theorem dX4_isSlot_15 : decode cX4_isSlot 15 = .ok (.ireturn, 1) := by decide +kernel
theorem dX4_slotOf_0 : decode cX4_slotOf 0 = .ok (.iload_n 0, 1) := by decide +kernel
theorem dX4_slotOf_1 : decode cX4_slotOf 1 = .ok (.bipush 8, 2) := by decide +kernel
theorem dX4_slotOf_3 : decode cX4_slotOf 3 = .ok (.imul, 1) := by decide +kernel
theorem dX4_slotOf_4 : decode cX4_slotOf 4 = .ok (.iload_n 1, 1) := by decide +kernel
theorem dX4_slotOf_5 : decode cX4_slotOf 5 = .ok (.iadd, 1) := by decide +kernel
theorem dX4_slotOf_6 : decode cX4_slotOf 6 = .ok (.ireturn, 1) := by decide +kernel
theorem dX4_bit_0 : decode cX4_bit 0 = .ok (.iload_n 0, 1) := by decide +kernel
theorem dX4_bit_1 : decode cX4_bit 1 = .ok (.ifCond .ge 7, 3) := by decide +kernel
theorem dX4_bit_4 : decode cX4_bit 4 = .ok (.iconst 0, 1) := by decide +kernel
theorem dX4_bit_5 : decode cX4_bit 5 = .ok (.goto 6, 3) := by decide +kernel
theorem dX4_bit_8 : decode cX4_bit 8 = .ok (.iconst 1, 1) := by decide +kernel
theorem dX4_bit_9 : decode cX4_bit 9 = .ok (.iload_n 0, 1) := by decide +kernel
theorem dX4_bit_10 : decode cX4_bit 10 = .ok (.ishl, 1) := by decide +kernel
theorem dX4_bit_11 : decode cX4_bit 11 = .ok (.ireturn, 1) := by decide +kernel
theorem dX4_checkService_0 : decode cX4_checkService 0 = .ok (.iload_n 0, 1) := by decide +kernel
theorem dX4_checkService_1 : decode cX4_checkService 1 = .ok (.invokestatic 178, 3) := by decide +kernel
theorem dX4_checkService_4 : decode cX4_checkService 4 = .ok (.ifCond .ne 13, 3) := by decide +kernel
theorem dX4_checkService_7 : decode cX4_checkService 7 = .ok (.new 52, 3) := by decide +kernel
theorem dX4_checkService_10 : decode cX4_checkService 10 = .ok (.dup, 1) := by decide +kernel
theorem dX4_checkService_11 : decode cX4_checkService 11 = .ok (.ldc 181, 2) := by decide +kernel
theorem dX4_checkService_13 : decode cX4_checkService 13 = .ok (.invokespecial 56, 3) := by decide +kernel
theorem dX4_checkService_16 : decode cX4_checkService 16 = .ok (.athrow, 1) := by decide +kernel
theorem dX4_checkService_17 : decode cX4_checkService 17 = .ok (.return_, 1) := by decide +kernel
theorem dX4_checkType_0 : decode cX4_checkType 0 = .ok (.iload_n 0, 1) := by decide +kernel
theorem dX4_checkType_1 : decode cX4_checkType 1 = .ok (.invokestatic 48, 3) := by decide +kernel
theorem dX4_checkType_4 : decode cX4_checkType 4 = .ok (.ifCond .ne 13, 3) := by decide +kernel
theorem dX4_checkType_7 : decode cX4_checkType 7 = .ok (.new 52, 3) := by decide +kernel
theorem dX4_checkType_10 : decode cX4_checkType 10 = .ok (.dup, 1) := by decide +kernel
theorem dX4_checkType_11 : decode cX4_checkType 11 = .ok (.ldc 183, 2) := by decide +kernel
theorem dX4_checkType_13 : decode cX4_checkType 13 = .ok (.invokespecial 56, 3) := by decide +kernel
theorem dX4_checkType_16 : decode cX4_checkType 16 = .ok (.athrow, 1) := by decide +kernel
theorem dX4_checkType_17 : decode cX4_checkType 17 = .ok (.return_, 1) := by decide +kernel
theorem dX4_checkKey_0 : decode cX4_checkKey 0 = .ok (.iload_n 0, 1) := by decide +kernel
theorem dX4_checkKey_1 : decode cX4_checkKey 1 = .ok (.invokestatic 185, 3) := by decide +kernel
theorem dX4_checkKey_4 : decode cX4_checkKey 4 = .ok (.ifCond .ne 13, 3) := by decide +kernel
theorem dX4_checkKey_7 : decode cX4_checkKey 7 = .ok (.new 52, 3) := by decide +kernel
theorem dX4_checkKey_10 : decode cX4_checkKey 10 = .ok (.dup, 1) := by decide +kernel
theorem dX4_checkKey_11 : decode cX4_checkKey 11 = .ok (.ldc 188, 2) := by decide +kernel
theorem dX4_checkKey_13 : decode cX4_checkKey 13 = .ok (.invokespecial 56, 3) := by decide +kernel
theorem dX4_checkKey_16 : decode cX4_checkKey 16 = .ok (.athrow, 1) := by decide +kernel
theorem dX4_checkKey_17 : decode cX4_checkKey 17 = .ok (.return_, 1) := by decide +kernel
theorem dX4_checkField_0 : decode cX4_checkField 0 = .ok (.iload_n 2, 1) := by decide +kernel
theorem dX4_checkField_1 : decode cX4_checkField 1 = .ok (.ifCond .lt 15, 3) := by decide +kernel
theorem dX4_checkField_4 : decode cX4_checkField 4 = .ok (.iload_n 2, 1) := by decide +kernel
theorem dX4_checkField_5 : decode cX4_checkField 5 = .ok (.aload_n 0, 1) := by decide +kernel
theorem dX4_checkField_6 : decode cX4_checkField 6 = .ok (.getfield 20, 3) := by decide +kernel
theorem dX4_checkField_9 : decode cX4_checkField 9 = .ok (.iload_n 1, 1) := by decide +kernel
theorem dX4_checkField_10 : decode cX4_checkField 10 = .ok (.invokevirtual 59, 3) := by decide +kernel
theorem dX4_checkField_13 : decode cX4_checkField 13 = .ok (.if_icmp .lt 13, 3) := by decide +kernel
theorem dX4_checkField_16 : decode cX4_checkField 16 = .ok (.new 190, 3) := by decide +kernel
theorem dX4_checkField_19 : decode cX4_checkField 19 = .ok (.dup, 1) := by decide +kernel
theorem dX4_checkField_20 : decode cX4_checkField 20 = .ok (.ldc 192, 2) := by decide +kernel
theorem dX4_checkField_22 : decode cX4_checkField 22 = .ok (.invokespecial 194, 3) := by decide +kernel
theorem dX4_checkField_25 : decode cX4_checkField 25 = .ok (.athrow, 1) := by decide +kernel
theorem dX4_checkField_26 : decode cX4_checkField 26 = .ok (.return_, 1) := by decide +kernel
theorem dX4_checkNode_0 : decode cX4_checkNode 0 = .ok (.aload_n 0, 1) := by decide +kernel
theorem dX4_checkNode_1 : decode cX4_checkNode 1 = .ok (.getfield 24, 3) := by decide +kernel
theorem dX4_checkNode_4 : decode cX4_checkNode 4 = .ok (.iload_n 1, 1) := by decide +kernel
theorem dX4_checkNode_5 : decode cX4_checkNode 5 = .ok (.invokevirtual 195, 3) := by decide +kernel
theorem dX4_checkNode_8 : decode cX4_checkNode 8 = .ok (.ifCond .ne 13, 3) := by decide +kernel
theorem dX4_checkNode_11 : decode cX4_checkNode 11 = .ok (.new 190, 3) := by decide +kernel
theorem dX4_checkNode_14 : decode cX4_checkNode 14 = .ok (.dup, 1) := by decide +kernel
theorem dX4_checkNode_15 : decode cX4_checkNode 15 = .ok (.ldc 198, 2) := by decide +kernel
theorem dX4_checkNode_17 : decode cX4_checkNode 17 = .ok (.invokespecial 194, 3) := by decide +kernel
theorem dX4_checkNode_20 : decode cX4_checkNode 20 = .ok (.athrow, 1) := by decide +kernel
theorem dX4_checkNode_21 : decode cX4_checkNode 21 = .ok (.return_, 1) := by decide +kernel
theorem dX4_checkPlan_0 : decode cX4_checkPlan 0 = .ok (.aload_n 0, 1) := by decide +kernel
theorem dX4_checkPlan_1 : decode cX4_checkPlan 1 = .ok (.getfield 28, 3) := by decide +kernel
theorem dX4_checkPlan_4 : decode cX4_checkPlan 4 = .ok (.invokevirtual 200, 3) := by decide +kernel
theorem dX4_checkPlan_7 : decode cX4_checkPlan 7 = .ok (.ifCond .ne 13, 3) := by decide +kernel
theorem dX4_checkPlan_10 : decode cX4_checkPlan 10 = .ok (.new 63, 3) := by decide +kernel
theorem dX4_checkPlan_13 : decode cX4_checkPlan 13 = .ok (.dup, 1) := by decide +kernel
theorem dX4_checkPlan_14 : decode cX4_checkPlan 14 = .ok (.ldc 203, 2) := by decide +kernel
theorem dX4_checkPlan_16 : decode cX4_checkPlan 16 = .ok (.invokespecial 67, 3) := by decide +kernel
theorem dX4_checkPlan_19 : decode cX4_checkPlan 19 = .ok (.athrow, 1) := by decide +kernel
theorem dX4_checkPlan_20 : decode cX4_checkPlan 20 = .ok (.return_, 1) := by decide +kernel
theorem dX4_typeAt_0 : decode cX4_typeAt 0 = .ok (.iload_n 1, 1) := by decide +kernel
theorem dX4_typeAt_1 : decode cX4_typeAt 1 = .ok (.iconst (-1), 1) := by decide +kernel
theorem dX4_typeAt_2 : decode cX4_typeAt 2 = .ok (.if_icmp .ne 13, 3) := by decide +kernel
theorem dX4_typeAt_5 : decode cX4_typeAt 5 = .ok (.aload_n 0, 1) := by decide +kernel
theorem dX4_typeAt_6 : decode cX4_typeAt 6 = .ok (.getfield 24, 3) := by decide +kernel
theorem dX4_typeAt_9 : decode cX4_typeAt 9 = .ok (.invokevirtual 205, 3) := by decide +kernel
theorem dX4_typeAt_12 : decode cX4_typeAt 12 = .ok (.goto 18, 3) := by decide +kernel
theorem dX4_typeAt_15 : decode cX4_typeAt 15 = .ok (.aload_n 0, 1) := by decide +kernel
theorem dX4_typeAt_16 : decode cX4_typeAt 16 = .ok (.getfield 20, 3) := by decide +kernel
theorem dX4_typeAt_19 : decode cX4_typeAt 19 = .ok (.aload_n 0, 1) := by decide +kernel
theorem dX4_typeAt_20 : decode cX4_typeAt 20 = .ok (.getfield 24, 3) := by decide +kernel
theorem dX4_typeAt_23 : decode cX4_typeAt 23 = .ok (.iload_n 1, 1) := by decide +kernel
theorem dX4_typeAt_24 : decode cX4_typeAt 24 = .ok (.invokevirtual 129, 3) := by decide +kernel
theorem dX4_typeAt_27 : decode cX4_typeAt 27 = .ok (.invokevirtual 208, 3) := by decide +kernel
theorem dX4_typeAt_30 : decode cX4_typeAt 30 = .ok (.ireturn, 1) := by decide +kernel
theorem dJ6_bitCount_0f7a4_0 : decode cJ6_bitCount_0f7a4 0 = .ok (.iload_n 0, 1) := by decide +kernel
theorem dJ6_bitCount_0f7a4_1 : decode cJ6_bitCount_0f7a4 1 = .ok (.iload_n 0, 1) := by decide +kernel
theorem dJ6_bitCount_0f7a4_2 : decode cJ6_bitCount_0f7a4 2 = .ok (.iconst 1, 1) := by decide +kernel
theorem dJ6_bitCount_0f7a4_3 : decode cJ6_bitCount_0f7a4 3 = .ok (.iushr, 1) := by decide +kernel
theorem dJ6_bitCount_0f7a4_4 : decode cJ6_bitCount_0f7a4 4 = .ok (.ldc_w 265, 3) := by decide +kernel
theorem dJ6_bitCount_0f7a4_7 : decode cJ6_bitCount_0f7a4 7 = .ok (.iand, 1) := by decide +kernel
theorem dJ6_bitCount_0f7a4_8 : decode cJ6_bitCount_0f7a4 8 = .ok (.isub, 1) := by decide +kernel
theorem dJ6_bitCount_0f7a4_9 : decode cJ6_bitCount_0f7a4 9 = .ok (.istore_n 0, 1) := by decide +kernel
theorem dJ6_bitCount_0f7a4_10 : decode cJ6_bitCount_0f7a4 10 = .ok (.iload_n 0, 1) := by decide +kernel
theorem dJ6_bitCount_0f7a4_11 : decode cJ6_bitCount_0f7a4 11 = .ok (.ldc_w 266, 3) := by decide +kernel
theorem dJ6_bitCount_0f7a4_14 : decode cJ6_bitCount_0f7a4 14 = .ok (.iand, 1) := by decide +kernel
theorem dJ6_bitCount_0f7a4_15 : decode cJ6_bitCount_0f7a4 15 = .ok (.iload_n 0, 1) := by decide +kernel
theorem dJ6_bitCount_0f7a4_16 : decode cJ6_bitCount_0f7a4 16 = .ok (.iconst 2, 1) := by decide +kernel
theorem dJ6_bitCount_0f7a4_17 : decode cJ6_bitCount_0f7a4 17 = .ok (.iushr, 1) := by decide +kernel
theorem dJ6_bitCount_0f7a4_18 : decode cJ6_bitCount_0f7a4 18 = .ok (.ldc_w 266, 3) := by decide +kernel
theorem dJ6_bitCount_0f7a4_21 : decode cJ6_bitCount_0f7a4 21 = .ok (.iand, 1) := by decide +kernel
theorem dJ6_bitCount_0f7a4_22 : decode cJ6_bitCount_0f7a4 22 = .ok (.iadd, 1) := by decide +kernel
theorem dJ6_bitCount_0f7a4_23 : decode cJ6_bitCount_0f7a4 23 = .ok (.istore_n 0, 1) := by decide +kernel
theorem dJ6_bitCount_0f7a4_24 : decode cJ6_bitCount_0f7a4 24 = .ok (.iload_n 0, 1) := by decide +kernel
theorem dJ6_bitCount_0f7a4_25 : decode cJ6_bitCount_0f7a4 25 = .ok (.iload_n 0, 1) := by decide +kernel
theorem dJ6_bitCount_0f7a4_26 : decode cJ6_bitCount_0f7a4 26 = .ok (.iconst 4, 1) := by decide +kernel
theorem dJ6_bitCount_0f7a4_27 : decode cJ6_bitCount_0f7a4 27 = .ok (.iushr, 1) := by decide +kernel
theorem dJ6_bitCount_0f7a4_28 : decode cJ6_bitCount_0f7a4 28 = .ok (.iadd, 1) := by decide +kernel
theorem dJ6_bitCount_0f7a4_29 : decode cJ6_bitCount_0f7a4 29 = .ok (.ldc_w 267, 3) := by decide +kernel
theorem dJ6_bitCount_0f7a4_32 : decode cJ6_bitCount_0f7a4 32 = .ok (.iand, 1) := by decide +kernel
theorem dJ6_bitCount_0f7a4_33 : decode cJ6_bitCount_0f7a4 33 = .ok (.istore_n 0, 1) := by decide +kernel
theorem dJ6_bitCount_0f7a4_34 : decode cJ6_bitCount_0f7a4 34 = .ok (.iload_n 0, 1) := by decide +kernel
theorem dJ6_bitCount_0f7a4_35 : decode cJ6_bitCount_0f7a4 35 = .ok (.iload_n 0, 1) := by decide +kernel
theorem dJ6_bitCount_0f7a4_36 : decode cJ6_bitCount_0f7a4 36 = .ok (.bipush 8, 2) := by decide +kernel
theorem dJ6_bitCount_0f7a4_38 : decode cJ6_bitCount_0f7a4 38 = .ok (.iushr, 1) := by decide +kernel
theorem dJ6_bitCount_0f7a4_39 : decode cJ6_bitCount_0f7a4 39 = .ok (.iadd, 1) := by decide +kernel
theorem dJ6_bitCount_0f7a4_40 : decode cJ6_bitCount_0f7a4 40 = .ok (.istore_n 0, 1) := by decide +kernel
theorem dJ6_bitCount_0f7a4_41 : decode cJ6_bitCount_0f7a4 41 = .ok (.iload_n 0, 1) := by decide +kernel
theorem dJ6_bitCount_0f7a4_42 : decode cJ6_bitCount_0f7a4 42 = .ok (.iload_n 0, 1) := by decide +kernel
theorem dJ6_bitCount_0f7a4_43 : decode cJ6_bitCount_0f7a4 43 = .ok (.bipush 16, 2) := by decide +kernel
theorem dJ6_bitCount_0f7a4_45 : decode cJ6_bitCount_0f7a4 45 = .ok (.iushr, 1) := by decide +kernel
theorem dJ6_bitCount_0f7a4_46 : decode cJ6_bitCount_0f7a4 46 = .ok (.iadd, 1) := by decide +kernel
theorem dJ6_bitCount_0f7a4_47 : decode cJ6_bitCount_0f7a4 47 = .ok (.istore_n 0, 1) := by decide +kernel
theorem dJ6_bitCount_0f7a4_48 : decode cJ6_bitCount_0f7a4 48 = .ok (.iload_n 0, 1) := by decide +kernel
theorem dJ6_bitCount_0f7a4_49 : decode cJ6_bitCount_0f7a4 49 = .ok (.bipush 63, 2) := by decide +kernel
theorem dJ6_bitCount_0f7a4_51 : decode cJ6_bitCount_0f7a4 51 = .ok (.iand, 1) := by decide +kernel
theorem dJ6_bitCount_0f7a4_52 : decode cJ6_bitCount_0f7a4 52 = .ok (.ireturn, 1) := by decide +kernel
theorem dJ9_min_7cf53_0 : decode cJ9_min_7cf53 0 = .ok (.iload_n 0, 1) := by decide +kernel
theorem dJ9_min_7cf53_1 : decode cJ9_min_7cf53 1 = .ok (.iload_n 1, 1) := by decide +kernel
theorem dJ9_min_7cf53_2 : decode cJ9_min_7cf53 2 = .ok (.if_icmp .gt 7, 3) := by decide +kernel
theorem dJ9_min_7cf53_5 : decode cJ9_min_7cf53 5 = .ok (.iload_n 0, 1) := by decide +kernel
theorem dJ9_min_7cf53_6 : decode cJ9_min_7cf53 6 = .ok (.goto 4, 3) := by decide +kernel
theorem dJ9_min_7cf53_9 : decode cJ9_min_7cf53 9 = .ok (.iload_n 1, 1) := by decide +kernel
theorem dJ9_min_7cf53_10 : decode cJ9_min_7cf53 10 = .ok (.ireturn, 1) := by decide +kernel
theorem dJ7_fill_53178_0 : decode cJ7_fill_53178 0 = .ok (.iconst 0, 1) := by decide +kernel
theorem dJ7_fill_53178_1 : decode cJ7_fill_53178 1 = .ok (.istore_n 2, 1) := by decide +kernel
theorem dJ7_fill_53178_2 : decode cJ7_fill_53178 2 = .ok (.aload_n 0, 1) := by decide +kernel
theorem dJ7_fill_53178_3 : decode cJ7_fill_53178 3 = .ok (.arraylength, 1) := by decide +kernel
theorem dJ7_fill_53178_4 : decode cJ7_fill_53178 4 = .ok (.istore_n 3, 1) := by decide +kernel
theorem dJ7_fill_53178_5 : decode cJ7_fill_53178 5 = .ok (.iload_n 2, 1) := by decide +kernel
theorem dJ7_fill_53178_6 : decode cJ7_fill_53178 6 = .ok (.iload_n 3, 1) := by decide +kernel
theorem dJ7_fill_53178_7 : decode cJ7_fill_53178 7 = .ok (.if_icmp .ge 13, 3) := by decide +kernel
theorem dJ7_fill_53178_10 : decode cJ7_fill_53178 10 = .ok (.aload_n 0, 1) := by decide +kernel
theorem dJ7_fill_53178_11 : decode cJ7_fill_53178 11 = .ok (.iload_n 2, 1) := by decide +kernel
theorem dJ7_fill_53178_12 : decode cJ7_fill_53178 12 = .ok (.iload_n 1, 1) := by decide +kernel
theorem dJ7_fill_53178_13 : decode cJ7_fill_53178 13 = .ok (.iastore, 1) := by decide +kernel
theorem dJ7_fill_53178_14 : decode cJ7_fill_53178 14 = .ok (.iinc 2 1, 3) := by decide +kernel
theorem dJ7_fill_53178_17 : decode cJ7_fill_53178 17 = .ok (.goto (-12), 3) := by decide +kernel
theorem dJ7_fill_53178_20 : decode cJ7_fill_53178 20 = .ok (.return_, 1) := by decide +kernel
