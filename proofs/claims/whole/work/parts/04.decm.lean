theorem dX5_init_0 : decode cX5_init 0 = .ok (.aload_n 0, 1) := by decide +kernel
theorem dX5_init_1 : decode cX5_init 1 = .ok (.invokespecial 1, 3) := by decide +kernel
theorem dX5_init_4 : decode cX5_init 4 = .ok (.aload_n 0, 1) := by decide +kernel
theorem dX5_init_5 : decode cX5_init 5 = .ok (.iconst 4, 1) := by decide +kernel
theorem dX5_init_6 : decode cX5_init 6 = .ok (.newarray .int, 2) := by decide +kernel
theorem dX5_init_8 : decode cX5_init 8 = .ok (.putfield 7, 3) := by decide +kernel
theorem dX5_init_11 : decode cX5_init 11 = .ok (.aload_n 0, 1) := by decide +kernel
theorem dX5_init_12 : decode cX5_init 12 = .ok (.bipush 32, 2) := by decide +kernel
theorem dX5_init_14 : decode cX5_init 14 = .ok (.newarray .int, 2) := by decide +kernel
theorem dX5_init_16 : decode cX5_init 16 = .ok (.putfield 13, 3) := by decide +kernel
theorem dX5_init_19 : decode cX5_init 19 = .ok (.aload_n 0, 1) := by decide +kernel
theorem dX5_init_20 : decode cX5_init 20 = .ok (.bipush 32, 2) := by decide +kernel
theorem dX5_init_22 : decode cX5_init 22 = .ok (.newarray .boolean, 2) := by decide +kernel
theorem dX5_init_24 : decode cX5_init 24 = .ok (.putfield 16, 3) := by decide +kernel
theorem dX5_init_27 : decode cX5_init 27 = .ok (.aload_n 0, 1) := by decide +kernel
theorem dX5_init_28 : decode cX5_init 28 = .ok (.bipush 32, 2) := by decide +kernel
theorem dX5_init_30 : decode cX5_init 30 = .ok (.newarray .int, 2) := by decide +kernel
theorem dX5_init_32 : decode cX5_init 32 = .ok (.putfield 20, 3) := by decide +kernel
theorem dX5_init_35 : decode cX5_init 35 = .ok (.aload_n 0, 1) := by decide +kernel
theorem dX5_init_36 : decode cX5_init 36 = .ok (.sipush 640, 3) := by decide +kernel
theorem dX5_init_39 : decode cX5_init 39 = .ok (.newarray .int, 2) := by decide +kernel
theorem dX5_init_41 : decode cX5_init 41 = .ok (.putfield 23, 3) := by decide +kernel
theorem dX5_init_44 : decode cX5_init 44 = .ok (.aload_n 0, 1) := by decide +kernel
theorem dX5_init_45 : decode cX5_init 45 = .ok (.bipush 12, 2) := by decide +kernel
theorem dX5_init_47 : decode cX5_init 47 = .ok (.newarray .int, 2) := by decide +kernel
theorem dX5_init_49 : decode cX5_init 49 = .ok (.putfield 26, 3) := by decide +kernel
theorem dX5_init_52 : decode cX5_init 52 = .ok (.aload_n 0, 1) := by decide +kernel
theorem dX5_init_53 : decode cX5_init 53 = .ok (.bipush 12, 2) := by decide +kernel
theorem dX5_init_55 : decode cX5_init 55 = .ok (.newarray .int, 2) := by decide +kernel
theorem dX5_init_57 : decode cX5_init 57 = .ok (.putfield 29, 3) := by decide +kernel
theorem dX5_init_60 : decode cX5_init 60 = .ok (.aload_n 0, 1) := by decide +kernel
theorem dX5_init_61 : decode cX5_init 61 = .ok (.bipush 12, 2) := by decide +kernel
theorem dX5_init_63 : decode cX5_init 63 = .ok (.newarray .int, 2) := by decide +kernel
theorem dX5_init_65 : decode cX5_init 65 = .ok (.putfield 32, 3) := by decide +kernel
theorem dX5_init_68 : decode cX5_init 68 = .ok (.aload_n 0, 1) := by decide +kernel
theorem dX5_init_69 : decode cX5_init 69 = .ok (.bipush 12, 2) := by decide +kernel
theorem dX5_init_71 : decode cX5_init 71 = .ok (.newarray .int, 2) := by decide +kernel
theorem dX5_init_73 : decode cX5_init 73 = .ok (.putfield 35, 3) := by decide +kernel
theorem dX5_init_76 : decode cX5_init 76 = .ok (.aload_n 0, 1) := by decide +kernel
theorem dX5_init_77 : decode cX5_init 77 = .ok (.bipush 48, 2) := by decide +kernel
theorem dX5_init_79 : decode cX5_init 79 = .ok (.newarray .int, 2) := by decide +kernel
theorem dX5_init_81 : decode cX5_init 81 = .ok (.putfield 38, 3) := by decide +kernel
theorem dX5_init_84 : decode cX5_init 84 = .ok (.aload_n 0, 1) := by decide +kernel
theorem dX5_init_85 : decode cX5_init 85 = .ok (.bipush 12, 2) := by decide +kernel
theorem dX5_init_87 : decode cX5_init 87 = .ok (.newarray .int, 2) := by decide +kernel
theorem dX5_init_89 : decode cX5_init 89 = .ok (.putfield 41, 3) := by decide +kernel
theorem dX5_init_92 : decode cX5_init 92 = .ok (.aload_n 0, 1) := by decide +kernel
theorem dX5_init_93 : decode cX5_init 93 = .ok (.bipush 12, 2) := by decide +kernel
theorem dX5_init_95 : decode cX5_init 95 = .ok (.newarray .int, 2) := by decide +kernel
theorem dX5_init_97 : decode cX5_init 97 = .ok (.putfield 44, 3) := by decide +kernel
theorem dX5_init_100 : decode cX5_init 100 = .ok (.aload_n 0, 1) := by decide +kernel
theorem dX5_init_101 : decode cX5_init 101 = .ok (.bipush 12, 2) := by decide +kernel
theorem dX5_init_103 : decode cX5_init 103 = .ok (.newarray .boolean, 2) := by decide +kernel
theorem dX5_init_105 : decode cX5_init 105 = .ok (.putfield 47, 3) := by decide +kernel
theorem dX5_init_108 : decode cX5_init 108 = .ok (.aload_n 0, 1) := by decide +kernel
theorem dX5_init_109 : decode cX5_init 109 = .ok (.bipush 12, 2) := by decide +kernel
theorem dX5_init_111 : decode cX5_init 111 = .ok (.newarray .int, 2) := by decide +kernel
theorem dX5_init_113 : decode cX5_init 113 = .ok (.putfield 50, 3) := by decide +kernel
theorem dX5_init_116 : decode cX5_init 116 = .ok (.aload_n 0, 1) := by decide +kernel
theorem dX5_init_117 : decode cX5_init 117 = .ok (.bipush 12, 2) := by decide +kernel
theorem dX5_init_119 : decode cX5_init 119 = .ok (.newarray .int, 2) := by decide +kernel
theorem dX5_init_121 : decode cX5_init 121 = .ok (.putfield 53, 3) := by decide +kernel
theorem dX5_init_124 : decode cX5_init 124 = .ok (.return_, 1) := by decide +kernel
theorem dX5_thrown_0 : decode cX5_thrown 0 = .ok (.aload_n 0, 1) := by decide +kernel
theorem dX5_thrown_1 : decode cX5_thrown 1 = .ok (.getfield 56, 3) := by decide +kernel
theorem dX5_thrown_4 : decode cX5_thrown 4 = .ok (.ireturn, 1) := by decide +kernel
theorem dX5_in_0 : decode cX5_in 0 = .ok (.iload_n 0, 1) := by decide +kernel
theorem dX5_in_1 : decode cX5_in 1 = .ok (.iload_n 1, 1) := by decide +kernel
theorem dX5_in_2 : decode cX5_in 2 = .ok (.if_icmp .lt 12, 3) := by decide +kernel
theorem dX5_in_5 : decode cX5_in 5 = .ok (.iload_n 0, 1) := by decide +kernel
theorem dX5_in_6 : decode cX5_in 6 = .ok (.iload_n 2, 1) := by decide +kernel
theorem dX5_in_7 : decode cX5_in 7 = .ok (.if_icmp .gt 7, 3) := by decide +kernel
theorem dX5_in_10 : decode cX5_in 10 = .ok (.iconst 1, 1) := by decide +kernel
theorem dX5_in_11 : decode cX5_in 11 = .ok (.goto 4, 3) := by decide +kernel
theorem dX5_in_14 : decode cX5_in 14 = .ok (.iconst 0, 1) := by decide +kernel
theorem dX5_in_15 : decode cX5_in 15 = .ok (.ireturn, 1) := by decide +kernel
theorem dX5_isType_0 : decode cX5_isType 0 = .ok (.iload_n 0, 1) := by decide +kernel
theorem dX5_isType_1 : decode cX5_isType 1 = .ok (.iconst 0, 1) := by decide +kernel
theorem dX5_isType_2 : decode cX5_isType 2 = .ok (.iconst 3, 1) := by decide +kernel
theorem dX5_isType_3 : decode cX5_isType 3 = .ok (.invokestatic 60, 3) := by decide +kernel
theorem dX5_isType_6 : decode cX5_isType 6 = .ok (.ireturn, 1) := by decide +kernel
theorem dX5_isService_0 : decode cX5_isService 0 = .ok (.iload_n 0, 1) := by decide +kernel
theorem dX5_isService_1 : decode cX5_isService 1 = .ok (.iconst 0, 1) := by decide +kernel
theorem dX5_isService_2 : decode cX5_isService 2 = .ok (.iconst 3, 1) := by decide +kernel
theorem dX5_isService_3 : decode cX5_isService 3 = .ok (.invokestatic 60, 3) := by decide +kernel
theorem dX5_isService_6 : decode cX5_isService 6 = .ok (.ireturn, 1) := by decide +kernel
theorem dX5_isKey_0 : decode cX5_isKey 0 = .ok (.iload_n 0, 1) := by decide +kernel
theorem dX5_isKey_1 : decode cX5_isKey 1 = .ok (.iconst 0, 1) := by decide +kernel
theorem dX5_isKey_2 : decode cX5_isKey 2 = .ok (.bipush 19, 2) := by decide +kernel
theorem dX5_isKey_4 : decode cX5_isKey 4 = .ok (.invokestatic 60, 3) := by decide +kernel
theorem dX5_isKey_7 : decode cX5_isKey 7 = .ok (.ireturn, 1) := by decide +kernel
theorem dX5_isField_0 : decode cX5_isField 0 = .ok (.iload_n 2, 1) := by decide +kernel
theorem dX5_isField_1 : decode cX5_isField 1 = .ok (.iconst 0, 1) := by decide +kernel
theorem dX5_isField_2 : decode cX5_isField 2 = .ok (.aload_n 0, 1) := by decide +kernel
theorem dX5_isField_3 : decode cX5_isField 3 = .ok (.getfield 7, 3) := by decide +kernel
theorem dX5_isField_6 : decode cX5_isField 6 = .ok (.iload_n 1, 1) := by decide +kernel
theorem dX5_isField_7 : decode cX5_isField 7 = .ok (.iaload, 1) := by decide +kernel
theorem dX5_isField_8 : decode cX5_isField 8 = .ok (.iconst 1, 1) := by decide +kernel
theorem dX5_isField_9 : decode cX5_isField 9 = .ok (.isub, 1) := by decide +kernel
theorem dX5_isField_10 : decode cX5_isField 10 = .ok (.invokestatic 60, 3) := by decide +kernel
theorem dX5_isField_13 : decode cX5_isField 13 = .ok (.ireturn, 1) := by decide +kernel
theorem dX5_addField_0 : decode cX5_addField 0 = .ok (.aload_n 0, 1) := by decide +kernel
theorem dX5_addField_1 : decode cX5_addField 1 = .ok (.iload_n 1, 1) := by decide +kernel
theorem dX5_addField_2 : decode cX5_addField 2 = .ok (.invokestatic 64, 3) := by decide +kernel
theorem dX5_addField_5 : decode cX5_addField 5 = .ok (.ifCond .eq 12, 3) := by decide +kernel
theorem dX5_addField_8 : decode cX5_addField 8 = .ok (.iload_n 2, 1) := by decide +kernel
theorem dX5_addField_9 : decode cX5_addField 9 = .ok (.iconst (-1), 1) := by decide +kernel
theorem dX5_addField_10 : decode cX5_addField 10 = .ok (.iconst 3, 1) := by decide +kernel
theorem dX5_addField_11 : decode cX5_addField 11 = .ok (.invokestatic 60, 3) := by decide +kernel
theorem dX5_addField_14 : decode cX5_addField 14 = .ok (.ifCond .ne 7, 3) := by decide +kernel
theorem dX5_addField_17 : decode cX5_addField 17 = .ok (.iconst 1, 1) := by decide +kernel
theorem dX5_addField_18 : decode cX5_addField 18 = .ok (.goto 19, 3) := by decide +kernel
theorem dX5_addField_21 : decode cX5_addField 21 = .ok (.aload_n 0, 1) := by decide +kernel
theorem dX5_addField_22 : decode cX5_addField 22 = .ok (.getfield 7, 3) := by decide +kernel
theorem dX5_addField_25 : decode cX5_addField 25 = .ok (.iload_n 1, 1) := by decide +kernel
theorem dX5_addField_26 : decode cX5_addField 26 = .ok (.iaload, 1) := by decide +kernel
theorem dX5_addField_27 : decode cX5_addField 27 = .ok (.bipush 8, 2) := by decide +kernel
theorem dX5_addField_29 : decode cX5_addField 29 = .ok (.if_icmp .ne 7, 3) := by decide +kernel
theorem dX5_addField_32 : decode cX5_addField 32 = .ok (.iconst 2, 1) := by decide +kernel
theorem dX5_addField_33 : decode cX5_addField 33 = .ok (.goto 4, 3) := by decide +kernel
theorem dX5_addField_36 : decode cX5_addField 36 = .ok (.iconst 0, 1) := by decide +kernel
theorem dX5_addField_37 : decode cX5_addField 37 = .ok (.putfield 56, 3) := by decide +kernel
theorem dX5_addField_40 : decode cX5_addField 40 = .ok (.aload_n 0, 1) := by decide +kernel
theorem dX5_addField_41 : decode cX5_addField 41 = .ok (.getfield 56, 3) := by decide +kernel
theorem dX5_addField_44 : decode cX5_addField 44 = .ok (.ifCond .le 5, 3) := by decide +kernel
theorem dX5_addField_47 : decode cX5_addField 47 = .ok (.iconst 0, 1) := by decide +kernel
theorem dX5_addField_48 : decode cX5_addField 48 = .ok (.ireturn, 1) := by decide +kernel
theorem dX5_addField_49 : decode cX5_addField 49 = .ok (.aload_n 0, 1) := by decide +kernel
theorem dX5_addField_50 : decode cX5_addField 50 = .ok (.getfield 7, 3) := by decide +kernel
theorem dX5_addField_53 : decode cX5_addField 53 = .ok (.iload_n 1, 1) := by decide +kernel
theorem dX5_addField_54 : decode cX5_addField 54 = .ok (.iaload, 1) := by decide +kernel
theorem dX5_addField_55 : decode cX5_addField 55 = .ok (.istore 4, 2) := by decide +kernel
theorem dX5_addField_57 : decode cX5_addField 57 = .ok (.aload_n 0, 1) := by decide +kernel
theorem dX5_addField_58 : decode cX5_addField 58 = .ok (.getfield 13, 3) := by decide +kernel
theorem dX5_addField_61 : decode cX5_addField 61 = .ok (.bipush 8, 2) := by decide +kernel
theorem dX5_addField_63 : decode cX5_addField 63 = .ok (.iload_n 1, 1) := by decide +kernel
theorem dX5_addField_64 : decode cX5_addField 64 = .ok (.imul, 1) := by decide +kernel
theorem dX5_addField_65 : decode cX5_addField 65 = .ok (.iload 4, 2) := by decide +kernel
theorem dX5_addField_67 : decode cX5_addField 67 = .ok (.iadd, 1) := by decide +kernel
theorem dX5_addField_68 : decode cX5_addField 68 = .ok (.iload_n 2, 1) := by decide +kernel
theorem dX5_addField_69 : decode cX5_addField 69 = .ok (.iastore, 1) := by decide +kernel
theorem dX5_addField_70 : decode cX5_addField 70 = .ok (.aload_n 0, 1) := by decide +kernel
theorem dX5_addField_71 : decode cX5_addField 71 = .ok (.getfield 16, 3) := by decide +kernel
theorem dX5_addField_74 : decode cX5_addField 74 = .ok (.bipush 8, 2) := by decide +kernel
theorem dX5_addField_76 : decode cX5_addField 76 = .ok (.iload_n 1, 1) := by decide +kernel
theorem dX5_addField_77 : decode cX5_addField 77 = .ok (.imul, 1) := by decide +kernel
theorem dX5_addField_78 : decode cX5_addField 78 = .ok (.iload 4, 2) := by decide +kernel
theorem dX5_addField_80 : decode cX5_addField 80 = .ok (.iadd, 1) := by decide +kernel
theorem dX5_addField_81 : decode cX5_addField 81 = .ok (.iload_n 3, 1) := by decide +kernel
theorem dX5_addField_82 : decode cX5_addField 82 = .ok (.bastore, 1) := by decide +kernel
theorem dX5_addField_83 : decode cX5_addField 83 = .ok (.aload_n 0, 1) := by decide +kernel
theorem dX5_addField_84 : decode cX5_addField 84 = .ok (.getfield 7, 3) := by decide +kernel
theorem dX5_addField_87 : decode cX5_addField 87 = .ok (.iload_n 1, 1) := by decide +kernel
theorem dX5_addField_88 : decode cX5_addField 88 = .ok (.dup2, 1) := by decide +kernel
theorem dX5_addField_89 : decode cX5_addField 89 = .ok (.iaload, 1) := by decide +kernel
theorem dX5_addField_90 : decode cX5_addField 90 = .ok (.iconst 1, 1) := by decide +kernel
theorem dX5_addField_91 : decode cX5_addField 91 = .ok (.iadd, 1) := by decide +kernel
theorem dX5_addField_92 : decode cX5_addField 92 = .ok (.iastore, 1) := by decide +kernel
theorem dX5_addField_93 : decode cX5_addField 93 = .ok (.iload 4, 2) := by decide +kernel
theorem dX5_addField_95 : decode cX5_addField 95 = .ok (.ireturn, 1) := by decide +kernel
theorem dX5_own_0 : decode cX5_own 0 = .ok (.aload_n 0, 1) := by decide +kernel
theorem dX5_own_1 : decode cX5_own 1 = .ok (.iload_n 1, 1) := by decide +kernel
theorem dX5_own_2 : decode cX5_own 2 = .ok (.invokestatic 68, 3) := by decide +kernel
theorem dX5_own_5 : decode cX5_own 5 = .ok (.ifCond .eq 10, 3) := by decide +kernel
theorem dX5_own_8 : decode cX5_own 8 = .ok (.iload_n 2, 1) := by decide +kernel
theorem dX5_own_9 : decode cX5_own 9 = .ok (.invokestatic 64, 3) := by decide +kernel
theorem dX5_own_12 : decode cX5_own 12 = .ok (.ifCond .ne 7, 3) := by decide +kernel
theorem dX5_own_15 : decode cX5_own 15 = .ok (.iconst 1, 1) := by decide +kernel
theorem dX5_own_16 : decode cX5_own 16 = .ok (.goto 17, 3) := by decide +kernel
theorem dX5_own_19 : decode cX5_own 19 = .ok (.aload_n 0, 1) := by decide +kernel
theorem dX5_own_20 : decode cX5_own 20 = .ok (.iload_n 2, 1) := by decide +kernel
theorem dX5_own_21 : decode cX5_own 21 = .ok (.iload_n 3, 1) := by decide +kernel
theorem dX5_own_22 : decode cX5_own 22 = .ok (.invokevirtual 71, 3) := by decide +kernel
theorem dX5_own_25 : decode cX5_own 25 = .ok (.ifCond .eq 7, 3) := by decide +kernel
theorem dX5_own_28 : decode cX5_own 28 = .ok (.iconst 0, 1) := by decide +kernel
theorem dX5_own_29 : decode cX5_own 29 = .ok (.goto 4, 3) := by decide +kernel
theorem dX5_own_32 : decode cX5_own 32 = .ok (.iconst 2, 1) := by decide +kernel
theorem dX5_own_33 : decode cX5_own 33 = .ok (.putfield 56, 3) := by decide +kernel
theorem dX5_own_36 : decode cX5_own 36 = .ok (.aload_n 0, 1) := by decide +kernel
theorem dX5_own_37 : decode cX5_own 37 = .ok (.getfield 56, 3) := by decide +kernel
theorem dX5_own_40 : decode cX5_own 40 = .ok (.ifCond .le 5, 3) := by decide +kernel
theorem dX5_own_43 : decode cX5_own 43 = .ok (.iconst 0, 1) := by decide +kernel
theorem dX5_own_44 : decode cX5_own 44 = .ok (.ireturn, 1) := by decide +kernel
theorem dX5_own_45 : decode cX5_own 45 = .ok (.bipush 8, 2) := by decide +kernel
theorem dX5_own_47 : decode cX5_own 47 = .ok (.iload_n 2, 1) := by decide +kernel
theorem dX5_own_48 : decode cX5_own 48 = .ok (.imul, 1) := by decide +kernel
theorem dX5_own_49 : decode cX5_own 49 = .ok (.iload_n 3, 1) := by decide +kernel
theorem dX5_own_50 : decode cX5_own 50 = .ok (.iadd, 1) := by decide +kernel
theorem dX5_own_51 : decode cX5_own 51 = .ok (.istore 5, 2) := by decide +kernel
theorem dX5_own_53 : decode cX5_own 53 = .ok (.aload_n 0, 1) := by decide +kernel
theorem dX5_own_54 : decode cX5_own 54 = .ok (.getfield 20, 3) := by decide +kernel
theorem dX5_own_57 : decode cX5_own 57 = .ok (.iload 5, 2) := by decide +kernel
theorem dX5_own_59 : decode cX5_own 59 = .ok (.iaload, 1) := by decide +kernel
theorem dX5_own_60 : decode cX5_own 60 = .ok (.istore 6, 2) := by decide +kernel
theorem dX5_own_62 : decode cX5_own 62 = .ok (.aload_n 0, 1) := by decide +kernel
theorem dX5_own_63 : decode cX5_own 63 = .ok (.getfield 20, 3) := by decide +kernel
theorem dX5_own_66 : decode cX5_own 66 = .ok (.iload 5, 2) := by decide +kernel
theorem dX5_own_68 : decode cX5_own 68 = .ok (.iload 4, 2) := by decide +kernel
theorem dX5_own_70 : decode cX5_own 70 = .ok (.ifCond .eq 12, 3) := by decide +kernel
theorem dX5_own_73 : decode cX5_own 73 = .ok (.iload 6, 2) := by decide +kernel
theorem dX5_own_75 : decode cX5_own 75 = .ok (.iconst 1, 1) := by decide +kernel
theorem dX5_own_76 : decode cX5_own 76 = .ok (.iload_n 1, 1) := by decide +kernel
theorem dX5_own_77 : decode cX5_own 77 = .ok (.ishl, 1) := by decide +kernel
theorem dX5_own_78 : decode cX5_own 78 = .ok (.ior, 1) := by decide +kernel
theorem dX5_own_79 : decode cX5_own 79 = .ok (.goto 11, 3) := by decide +kernel
theorem dX5_own_82 : decode cX5_own 82 = .ok (.iload 6, 2) := by decide +kernel
theorem dX5_own_84 : decode cX5_own 84 = .ok (.iconst 1, 1) := by decide +kernel
theorem dX5_own_85 : decode cX5_own 85 = .ok (.iload_n 1, 1) := by decide +kernel
theorem dX5_own_86 : decode cX5_own 86 = .ok (.ishl, 1) := by decide +kernel
theorem dX5_own_87 : decode cX5_own 87 = .ok (.iconst (-1), 1) := by decide +kernel
theorem dX5_own_88 : decode cX5_own 88 = .ok (.ixor, 1) := by decide +kernel
theorem dX5_own_89 : decode cX5_own 89 = .ok (.iand, 1) := by decide +kernel
theorem dX5_own_90 : decode cX5_own 90 = .ok (.iastore, 1) := by decide +kernel
theorem dX5_own_91 : decode cX5_own 91 = .ok (.iload 6, 2) := by decide +kernel
theorem dX5_own_93 : decode cX5_own 93 = .ok (.iload_n 1, 1) := by decide +kernel
theorem dX5_own_94 : decode cX5_own 94 = .ok (.ishr, 1) := by decide +kernel
theorem dX5_own_95 : decode cX5_own 95 = .ok (.iconst 1, 1) := by decide +kernel
theorem dX5_own_96 : decode cX5_own 96 = .ok (.iand, 1) := by decide +kernel
theorem dX5_own_97 : decode cX5_own 97 = .ok (.iconst 1, 1) := by decide +kernel
theorem dX5_own_98 : decode cX5_own 98 = .ok (.if_icmp .ne 7, 3) := by decide +kernel
theorem dX5_own_101 : decode cX5_own 101 = .ok (.iconst 1, 1) := by decide +kernel
theorem dX5_own_102 : decode cX5_own 102 = .ok (.goto 4, 3) := by decide +kernel
theorem dX5_own_105 : decode cX5_own 105 = .ok (.iconst 0, 1) := by decide +kernel
theorem dX5_own_106 : decode cX5_own 106 = .ok (.ireturn, 1) := by decide +kernel
theorem dX5_set_0 : decode cX5_set 0 = .ok (.aload_n 0, 1) := by decide +kernel
theorem dX5_set_1 : decode cX5_set 1 = .ok (.iload_n 1, 1) := by decide +kernel
theorem dX5_set_2 : decode cX5_set 2 = .ok (.invokestatic 64, 3) := by decide +kernel
theorem dX5_set_5 : decode cX5_set 5 = .ok (.ifCond .eq 14, 3) := by decide +kernel
theorem dX5_set_8 : decode cX5_set 8 = .ok (.iload_n 2, 1) := by decide +kernel
theorem dX5_set_9 : decode cX5_set 9 = .ok (.invokestatic 75, 3) := by decide +kernel
theorem dX5_set_12 : decode cX5_set 12 = .ok (.ifCond .eq 7, 3) := by decide +kernel
theorem dX5_set_15 : decode cX5_set 15 = .ok (.iconst 0, 1) := by decide +kernel
theorem dX5_set_16 : decode cX5_set 16 = .ok (.goto 4, 3) := by decide +kernel
theorem dX5_set_19 : decode cX5_set 19 = .ok (.iconst 1, 1) := by decide +kernel
theorem dX5_set_20 : decode cX5_set 20 = .ok (.putfield 56, 3) := by decide +kernel
theorem dX5_set_23 : decode cX5_set 23 = .ok (.aload_n 0, 1) := by decide +kernel
theorem dX5_set_24 : decode cX5_set 24 = .ok (.getfield 56, 3) := by decide +kernel
theorem dX5_set_27 : decode cX5_set 27 = .ok (.ifCond .ne 17, 3) := by decide +kernel
theorem dX5_set_30 : decode cX5_set 30 = .ok (.aload_n 0, 1) := by decide +kernel
theorem dX5_set_31 : decode cX5_set 31 = .ok (.iload_n 1, 1) := by decide +kernel
theorem dX5_set_32 : decode cX5_set 32 = .ok (.iload_n 3, 1) := by decide +kernel
theorem dX5_set_33 : decode cX5_set 33 = .ok (.invokevirtual 71, 3) := by decide +kernel
theorem dX5_set_36 : decode cX5_set 36 = .ok (.ifCond .ne 8, 3) := by decide +kernel
theorem dX5_set_39 : decode cX5_set 39 = .ok (.aload_n 0, 1) := by decide +kernel
theorem dX5_set_40 : decode cX5_set 40 = .ok (.iconst 2, 1) := by decide +kernel
theorem dX5_set_41 : decode cX5_set 41 = .ok (.putfield 56, 3) := by decide +kernel
theorem dX5_set_44 : decode cX5_set 44 = .ok (.aload_n 0, 1) := by decide +kernel
theorem dX5_set_45 : decode cX5_set 45 = .ok (.getfield 56, 3) := by decide +kernel
theorem dX5_set_48 : decode cX5_set 48 = .ok (.ifCond .ne 47, 3) := by decide +kernel
theorem dX5_set_51 : decode cX5_set 51 = .ok (.aload_n 0, 1) := by decide +kernel
theorem dX5_set_52 : decode cX5_set 52 = .ok (.getfield 13, 3) := by decide +kernel
theorem dX5_set_55 : decode cX5_set 55 = .ok (.bipush 8, 2) := by decide +kernel
theorem dX5_set_57 : decode cX5_set 57 = .ok (.iload_n 1, 1) := by decide +kernel
theorem dX5_set_58 : decode cX5_set 58 = .ok (.imul, 1) := by decide +kernel
theorem dX5_set_59 : decode cX5_set 59 = .ok (.iload_n 3, 1) := by decide +kernel
theorem dX5_set_60 : decode cX5_set 60 = .ok (.iadd, 1) := by decide +kernel
theorem dX5_set_61 : decode cX5_set 61 = .ok (.iaload, 1) := by decide +kernel
theorem dX5_set_62 : decode cX5_set 62 = .ok (.iconst (-1), 1) := by decide +kernel
theorem dX5_set_63 : decode cX5_set 63 = .ok (.if_icmp .ne 8, 3) := by decide +kernel
theorem dX5_set_66 : decode cX5_set 66 = .ok (.bipush 99, 2) := by decide +kernel
theorem dX5_set_68 : decode cX5_set 68 = .ok (.goto 5, 3) := by decide +kernel
theorem dX5_set_71 : decode cX5_set 71 = .ok (.bipush 19, 2) := by decide +kernel
theorem dX5_set_73 : decode cX5_set 73 = .ok (.istore 5, 2) := by decide +kernel
theorem dX5_set_75 : decode cX5_set 75 = .ok (.aload_n 0, 1) := by decide +kernel
theorem dX5_set_76 : decode cX5_set 76 = .ok (.iload 4, 2) := by decide +kernel
theorem dX5_set_78 : decode cX5_set 78 = .ok (.iconst (-1), 1) := by decide +kernel
theorem dX5_set_79 : decode cX5_set 79 = .ok (.iload 5, 2) := by decide +kernel
theorem dX5_set_81 : decode cX5_set 81 = .ok (.invokestatic 60, 3) := by decide +kernel
theorem dX5_set_84 : decode cX5_set 84 = .ok (.ifCond .eq 7, 3) := by decide +kernel
theorem dX5_set_87 : decode cX5_set 87 = .ok (.iconst 0, 1) := by decide +kernel
theorem dX5_set_88 : decode cX5_set 88 = .ok (.goto 4, 3) := by decide +kernel
theorem dX5_set_91 : decode cX5_set 91 = .ok (.iconst 1, 1) := by decide +kernel
theorem dX5_set_92 : decode cX5_set 92 = .ok (.putfield 56, 3) := by decide +kernel
theorem dX5_set_95 : decode cX5_set 95 = .ok (.aload_n 0, 1) := by decide +kernel
theorem dX5_set_96 : decode cX5_set 96 = .ok (.getfield 56, 3) := by decide +kernel
theorem dX5_set_99 : decode cX5_set 99 = .ok (.ifCond .le 5, 3) := by decide +kernel
theorem dX5_set_102 : decode cX5_set 102 = .ok (.iconst 0, 1) := by decide +kernel
theorem dX5_set_103 : decode cX5_set 103 = .ok (.ireturn, 1) := by decide +kernel
theorem dX5_set_104 : decode cX5_set 104 = .ok (.sipush 160, 3) := by decide +kernel
theorem dX5_set_107 : decode cX5_set 107 = .ok (.iload_n 1, 1) := by decide +kernel
theorem dX5_set_108 : decode cX5_set 108 = .ok (.imul, 1) := by decide +kernel
theorem dX5_set_109 : decode cX5_set 109 = .ok (.bipush 8, 2) := by decide +kernel
theorem dX5_set_111 : decode cX5_set 111 = .ok (.iload_n 2, 1) := by decide +kernel
theorem dX5_set_112 : decode cX5_set 112 = .ok (.imul, 1) := by decide +kernel
theorem dX5_set_113 : decode cX5_set 113 = .ok (.iadd, 1) := by decide +kernel
theorem dX5_set_114 : decode cX5_set 114 = .ok (.iload_n 3, 1) := by decide +kernel
theorem dX5_set_115 : decode cX5_set 115 = .ok (.iadd, 1) := by decide +kernel
theorem dX5_set_116 : decode cX5_set 116 = .ok (.istore 5, 2) := by decide +kernel
theorem dX5_set_118 : decode cX5_set 118 = .ok (.aload_n 0, 1) := by decide +kernel
theorem dX5_set_119 : decode cX5_set 119 = .ok (.getfield 23, 3) := by decide +kernel
theorem dX5_set_122 : decode cX5_set 122 = .ok (.iload 5, 2) := by decide +kernel
theorem dX5_set_124 : decode cX5_set 124 = .ok (.iaload, 1) := by decide +kernel
theorem dX5_set_125 : decode cX5_set 125 = .ok (.iconst 1, 1) := by decide +kernel
theorem dX5_set_126 : decode cX5_set 126 = .ok (.isub, 1) := by decide +kernel
theorem dX5_set_127 : decode cX5_set 127 = .ok (.istore 6, 2) := by decide +kernel
theorem dX5_set_129 : decode cX5_set 129 = .ok (.aload_n 0, 1) := by decide +kernel
theorem dX5_set_130 : decode cX5_set 130 = .ok (.getfield 23, 3) := by decide +kernel
theorem dX5_set_133 : decode cX5_set 133 = .ok (.iload 5, 2) := by decide +kernel
theorem dX5_set_135 : decode cX5_set 135 = .ok (.iload 4, 2) := by decide +kernel
theorem dX5_set_137 : decode cX5_set 137 = .ok (.iconst 1, 1) := by decide +kernel
theorem dX5_set_138 : decode cX5_set 138 = .ok (.iadd, 1) := by decide +kernel
theorem dX5_set_139 : decode cX5_set 139 = .ok (.iastore, 1) := by decide +kernel
theorem dX5_set_140 : decode cX5_set 140 = .ok (.iload 6, 2) := by decide +kernel
theorem dX5_set_142 : decode cX5_set 142 = .ok (.ireturn, 1) := by decide +kernel
theorem dX5_fail_0 : decode cX5_fail 0 = .ok (.aload_n 0, 1) := by decide +kernel
theorem dX5_fail_1 : decode cX5_fail 1 = .ok (.iload_n 1, 1) := by decide +kernel
theorem dX5_fail_2 : decode cX5_fail 2 = .ok (.invokestatic 68, 3) := by decide +kernel
theorem dX5_fail_5 : decode cX5_fail 5 = .ok (.ifCond .eq 7, 3) := by decide +kernel
theorem dX5_fail_8 : decode cX5_fail 8 = .ok (.iconst 0, 1) := by decide +kernel
theorem dX5_fail_9 : decode cX5_fail 9 = .ok (.goto 4, 3) := by decide +kernel
theorem dX5_fail_12 : decode cX5_fail 12 = .ok (.iconst 1, 1) := by decide +kernel
theorem dX5_fail_13 : decode cX5_fail 13 = .ok (.putfield 56, 3) := by decide +kernel
theorem dX5_fail_16 : decode cX5_fail 16 = .ok (.aload_n 0, 1) := by decide +kernel
theorem dX5_fail_17 : decode cX5_fail 17 = .ok (.getfield 56, 3) := by decide +kernel
theorem dX5_fail_20 : decode cX5_fail 20 = .ok (.ifCond .le 5, 3) := by decide +kernel
theorem dX5_fail_23 : decode cX5_fail 23 = .ok (.iconst 0, 1) := by decide +kernel
theorem dX5_fail_24 : decode cX5_fail 24 = .ok (.ireturn, 1) := by decide +kernel
theorem dX5_fail_25 : decode cX5_fail 25 = .ok (.aload_n 0, 1) := by decide +kernel
theorem dX5_fail_26 : decode cX5_fail 26 = .ok (.getfield 78, 3) := by decide +kernel
theorem dX5_fail_29 : decode cX5_fail 29 = .ok (.istore_n 3, 1) := by decide +kernel
theorem dX5_fail_30 : decode cX5_fail 30 = .ok (.aload_n 0, 1) := by decide +kernel
theorem dX5_fail_31 : decode cX5_fail 31 = .ok (.iload_n 2, 1) := by decide +kernel
theorem dX5_fail_32 : decode cX5_fail 32 = .ok (.ifCond .eq 11, 3) := by decide +kernel
theorem dX5_fail_35 : decode cX5_fail 35 = .ok (.iload_n 3, 1) := by decide +kernel
theorem dX5_fail_36 : decode cX5_fail 36 = .ok (.iconst 1, 1) := by decide +kernel
theorem dX5_fail_37 : decode cX5_fail 37 = .ok (.iload_n 1, 1) := by decide +kernel
theorem dX5_fail_38 : decode cX5_fail 38 = .ok (.ishl, 1) := by decide +kernel
theorem dX5_fail_39 : decode cX5_fail 39 = .ok (.ior, 1) := by decide +kernel
theorem dX5_fail_40 : decode cX5_fail 40 = .ok (.goto 10, 3) := by decide +kernel
theorem dX5_fail_43 : decode cX5_fail 43 = .ok (.iload_n 3, 1) := by decide +kernel
theorem dX5_fail_44 : decode cX5_fail 44 = .ok (.iconst 1, 1) := by decide +kernel
theorem dX5_fail_45 : decode cX5_fail 45 = .ok (.iload_n 1, 1) := by decide +kernel
theorem dX5_fail_46 : decode cX5_fail 46 = .ok (.ishl, 1) := by decide +kernel
theorem dX5_fail_47 : decode cX5_fail 47 = .ok (.iconst (-1), 1) := by decide +kernel
theorem dX5_fail_48 : decode cX5_fail 48 = .ok (.ixor, 1) := by decide +kernel
theorem dX5_fail_49 : decode cX5_fail 49 = .ok (.iand, 1) := by decide +kernel
theorem dX5_fail_50 : decode cX5_fail 50 = .ok (.putfield 78, 3) := by decide +kernel
theorem dX5_fail_53 : decode cX5_fail 53 = .ok (.iload_n 3, 1) := by decide +kernel
theorem dX5_fail_54 : decode cX5_fail 54 = .ok (.iload_n 1, 1) := by decide +kernel
theorem dX5_fail_55 : decode cX5_fail 55 = .ok (.ishr, 1) := by decide +kernel
theorem dX5_fail_56 : decode cX5_fail 56 = .ok (.iconst 1, 1) := by decide +kernel
theorem dX5_fail_57 : decode cX5_fail 57 = .ok (.iand, 1) := by decide +kernel
theorem dX5_fail_58 : decode cX5_fail 58 = .ok (.iconst 1, 1) := by decide +kernel
theorem dX5_fail_59 : decode cX5_fail 59 = .ok (.if_icmp .ne 7, 3) := by decide +kernel
theorem dX5_fail_62 : decode cX5_fail 62 = .ok (.iconst 1, 1) := by decide +kernel
theorem dX5_fail_63 : decode cX5_fail 63 = .ok (.goto 4, 3) := by decide +kernel
theorem dX5_fail_66 : decode cX5_fail 66 = .ok (.iconst 0, 1) := by decide +kernel
theorem dX5_fail_67 : decode cX5_fail 67 = .ok (.ireturn, 1) := by decide +kernel
theorem dX5_begin_0 : decode cX5_begin 0 = .ok (.aload_n 0, 1) := by decide +kernel
theorem dX5_begin_1 : decode cX5_begin 1 = .ok (.iload_n 1, 1) := by decide +kernel
theorem dX5_begin_2 : decode cX5_begin 2 = .ok (.invokestatic 64, 3) := by decide +kernel
theorem dX5_begin_5 : decode cX5_begin 5 = .ok (.ifCond .eq 7, 3) := by decide +kernel
theorem dX5_begin_8 : decode cX5_begin 8 = .ok (.iconst 0, 1) := by decide +kernel
theorem dX5_begin_9 : decode cX5_begin 9 = .ok (.goto 4, 3) := by decide +kernel
theorem dX5_begin_12 : decode cX5_begin 12 = .ok (.iconst 1, 1) := by decide +kernel
theorem dX5_begin_13 : decode cX5_begin 13 = .ok (.putfield 56, 3) := by decide +kernel
theorem dX5_begin_16 : decode cX5_begin 16 = .ok (.aload_n 0, 1) := by decide +kernel
theorem dX5_begin_17 : decode cX5_begin 17 = .ok (.getfield 56, 3) := by decide +kernel
theorem dX5_begin_20 : decode cX5_begin 20 = .ok (.ifCond .le 5, 3) := by decide +kernel
theorem dX5_begin_23 : decode cX5_begin 23 = .ok (.iconst 0, 1) := by decide +kernel
theorem dX5_begin_24 : decode cX5_begin 24 = .ok (.ireturn, 1) := by decide +kernel
theorem dX5_begin_25 : decode cX5_begin 25 = .ok (.aload_n 0, 1) := by decide +kernel
theorem dX5_begin_26 : decode cX5_begin 26 = .ok (.getfield 81, 3) := by decide +kernel
theorem dX5_begin_29 : decode cX5_begin 29 = .ok (.istore_n 2, 1) := by decide +kernel
theorem dX5_begin_30 : decode cX5_begin 30 = .ok (.aload_n 0, 1) := by decide +kernel
theorem dX5_begin_31 : decode cX5_begin 31 = .ok (.iconst 0, 1) := by decide +kernel
theorem dX5_begin_32 : decode cX5_begin 32 = .ok (.putfield 81, 3) := by decide +kernel
theorem dX5_begin_35 : decode cX5_begin 35 = .ok (.aload_n 0, 1) := by decide +kernel
theorem dX5_begin_36 : decode cX5_begin 36 = .ok (.iload_n 1, 1) := by decide +kernel
theorem dX5_begin_37 : decode cX5_begin 37 = .ok (.putfield 84, 3) := by decide +kernel
theorem dX5_begin_40 : decode cX5_begin 40 = .ok (.iload_n 2, 1) := by decide +kernel
theorem dX5_begin_41 : decode cX5_begin 41 = .ok (.ireturn, 1) := by decide +kernel
theorem dX5_isNode_0 : decode cX5_isNode 0 = .ok (.iload_n 1, 1) := by decide +kernel
theorem dX5_isNode_1 : decode cX5_isNode 1 = .ok (.iconst 0, 1) := by decide +kernel
theorem dX5_isNode_2 : decode cX5_isNode 2 = .ok (.aload_n 0, 1) := by decide +kernel
theorem dX5_isNode_3 : decode cX5_isNode 3 = .ok (.getfield 81, 3) := by decide +kernel
theorem dX5_isNode_6 : decode cX5_isNode 6 = .ok (.iconst 1, 1) := by decide +kernel
theorem dX5_isNode_7 : decode cX5_isNode 7 = .ok (.isub, 1) := by decide +kernel
theorem dX5_isNode_8 : decode cX5_isNode 8 = .ok (.invokestatic 60, 3) := by decide +kernel
theorem dX5_isNode_11 : decode cX5_isNode 11 = .ok (.ireturn, 1) := by decide +kernel
theorem dX5_fieldOf_0 : decode cX5_fieldOf 0 = .ok (.bipush 8, 2) := by decide +kernel
theorem dX5_fieldOf_2 : decode cX5_fieldOf 2 = .ok (.aload_n 0, 1) := by decide +kernel
theorem dX5_fieldOf_3 : decode cX5_fieldOf 3 = .ok (.getfield 32, 3) := by decide +kernel
theorem dX5_fieldOf_6 : decode cX5_fieldOf 6 = .ok (.iload_n 1, 1) := by decide +kernel
theorem dX5_fieldOf_7 : decode cX5_fieldOf 7 = .ok (.iaload, 1) := by decide +kernel
theorem dX5_fieldOf_8 : decode cX5_fieldOf 8 = .ok (.imul, 1) := by decide +kernel
theorem dX5_fieldOf_9 : decode cX5_fieldOf 9 = .ok (.aload_n 0, 1) := by decide +kernel
theorem dX5_fieldOf_10 : decode cX5_fieldOf 10 = .ok (.getfield 29, 3) := by decide +kernel
theorem dX5_fieldOf_13 : decode cX5_fieldOf 13 = .ok (.iload_n 1, 1) := by decide +kernel
theorem dX5_fieldOf_14 : decode cX5_fieldOf 14 = .ok (.iaload, 1) := by decide +kernel
theorem dX5_fieldOf_15 : decode cX5_fieldOf 15 = .ok (.iadd, 1) := by decide +kernel
theorem dX5_fieldOf_16 : decode cX5_fieldOf 16 = .ok (.ireturn, 1) := by decide +kernel
theorem dX5_node_0 : decode cX5_node 0 = .ok (.aload_n 0, 1) := by decide +kernel
theorem dX5_node_1 : decode cX5_node 1 = .ok (.iload_n 1, 1) := by decide +kernel
theorem dX5_node_2 : decode cX5_node 2 = .ok (.iconst (-1), 1) := by decide +kernel
theorem dX5_node_3 : decode cX5_node 3 = .ok (.if_icmp .eq 11, 3) := by decide +kernel
theorem dX5_node_6 : decode cX5_node 6 = .ok (.aload_n 0, 1) := by decide +kernel
theorem dX5_node_7 : decode cX5_node 7 = .ok (.iload_n 1, 1) := by decide +kernel
theorem dX5_node_8 : decode cX5_node 8 = .ok (.invokevirtual 87, 3) := by decide +kernel
theorem dX5_node_11 : decode cX5_node 11 = .ok (.ifCond .eq 7, 3) := by decide +kernel
theorem dX5_node_14 : decode cX5_node 14 = .ok (.iconst 0, 1) := by decide +kernel
theorem dX5_node_15 : decode cX5_node 15 = .ok (.goto 4, 3) := by decide +kernel
theorem dX5_node_18 : decode cX5_node 18 = .ok (.iconst 1, 1) := by decide +kernel
theorem dX5_node_19 : decode cX5_node 19 = .ok (.putfield 56, 3) := by decide +kernel
theorem dX5_node_22 : decode cX5_node 22 = .ok (.aload_n 0, 1) := by decide +kernel
theorem dX5_node_23 : decode cX5_node 23 = .ok (.getfield 56, 3) := by decide +kernel
theorem dX5_node_26 : decode cX5_node 26 = .ok (.ifCond .le 5, 3) := by decide +kernel
theorem dX5_node_29 : decode cX5_node 29 = .ok (.iconst 0, 1) := by decide +kernel
theorem dX5_node_30 : decode cX5_node 30 = .ok (.ireturn, 1) := by decide +kernel
theorem dX5_node_31 : decode cX5_node 31 = .ok (.iload_n 1, 1) := by decide +kernel
theorem dX5_node_32 : decode cX5_node 32 = .ok (.iconst (-1), 1) := by decide +kernel
theorem dX5_node_33 : decode cX5_node 33 = .ok (.if_icmp .ne 10, 3) := by decide +kernel
theorem dX5_node_36 : decode cX5_node 36 = .ok (.aload_n 0, 1) := by decide +kernel
theorem dX5_node_37 : decode cX5_node 37 = .ok (.getfield 84, 3) := by decide +kernel
theorem dX5_node_40 : decode cX5_node 40 = .ok (.goto 13, 3) := by decide +kernel
theorem dX5_node_43 : decode cX5_node 43 = .ok (.aload_n 0, 1) := by decide +kernel
theorem dX5_node_44 : decode cX5_node 44 = .ok (.getfield 13, 3) := by decide +kernel
theorem dX5_node_47 : decode cX5_node 47 = .ok (.aload_n 0, 1) := by decide +kernel
theorem dX5_node_48 : decode cX5_node 48 = .ok (.iload_n 1, 1) := by decide +kernel
theorem dX5_node_49 : decode cX5_node 49 = .ok (.invokevirtual 90, 3) := by decide +kernel
theorem dX5_node_52 : decode cX5_node 52 = .ok (.iaload, 1) := by decide +kernel
theorem dX5_node_53 : decode cX5_node 53 = .ok (.istore_n 3, 1) := by decide +kernel
theorem dX5_node_54 : decode cX5_node 54 = .ok (.aload_n 0, 1) := by decide +kernel
theorem dX5_node_55 : decode cX5_node 55 = .ok (.iload_n 3, 1) := by decide +kernel
theorem dX5_node_56 : decode cX5_node 56 = .ok (.iconst (-1), 1) := by decide +kernel
theorem dX5_node_57 : decode cX5_node 57 = .ok (.if_icmp .ne 7, 3) := by decide +kernel
theorem dX5_node_60 : decode cX5_node 60 = .ok (.iconst 2, 1) := by decide +kernel
theorem dX5_node_61 : decode cX5_node 61 = .ok (.goto 17, 3) := by decide +kernel
theorem dX5_node_64 : decode cX5_node 64 = .ok (.aload_n 0, 1) := by decide +kernel
theorem dX5_node_65 : decode cX5_node 65 = .ok (.iload_n 3, 1) := by decide +kernel
theorem dX5_node_66 : decode cX5_node 66 = .ok (.iload_n 2, 1) := by decide +kernel
theorem dX5_node_67 : decode cX5_node 67 = .ok (.invokevirtual 71, 3) := by decide +kernel
theorem dX5_node_70 : decode cX5_node 70 = .ok (.ifCond .eq 7, 3) := by decide +kernel
theorem dX5_node_73 : decode cX5_node 73 = .ok (.iconst 0, 1) := by decide +kernel
theorem dX5_node_74 : decode cX5_node 74 = .ok (.goto 4, 3) := by decide +kernel
theorem dX5_node_77 : decode cX5_node 77 = .ok (.iconst 1, 1) := by decide +kernel
theorem dX5_node_78 : decode cX5_node 78 = .ok (.putfield 56, 3) := by decide +kernel
theorem dX5_node_81 : decode cX5_node 81 = .ok (.iconst 0, 1) := by decide +kernel
theorem dX5_node_82 : decode cX5_node 82 = .ok (.istore 4, 2) := by decide +kernel
theorem dX5_node_84 : decode cX5_node 84 = .ok (.iconst 0, 1) := by decide +kernel
theorem dX5_node_85 : decode cX5_node 85 = .ok (.istore 5, 2) := by decide +kernel
theorem dX5_node_87 : decode cX5_node 87 = .ok (.iconst 0, 1) := by decide +kernel
theorem dX5_node_88 : decode cX5_node 88 = .ok (.istore 6, 2) := by decide +kernel
theorem dX5_node_90 : decode cX5_node 90 = .ok (.iload 6, 2) := by decide +kernel
theorem dX5_node_92 : decode cX5_node 92 = .ok (.aload_n 0, 1) := by decide +kernel
theorem dX5_node_93 : decode cX5_node 93 = .ok (.getfield 81, 3) := by decide +kernel
theorem dX5_node_96 : decode cX5_node 96 = .ok (.if_icmp .ge 64, 3) := by decide +kernel
theorem dX5_node_99 : decode cX5_node 99 = .ok (.iload 4, 2) := by decide +kernel
theorem dX5_node_101 : decode cX5_node 101 = .ok (.aload_n 0, 1) := by decide +kernel
theorem dX5_node_102 : decode cX5_node 102 = .ok (.getfield 26, 3) := by decide +kernel
theorem dX5_node_105 : decode cX5_node 105 = .ok (.iload 6, 2) := by decide +kernel
theorem dX5_node_107 : decode cX5_node 107 = .ok (.iaload, 1) := by decide +kernel
theorem dX5_node_108 : decode cX5_node 108 = .ok (.iload_n 1, 1) := by decide +kernel
theorem dX5_node_109 : decode cX5_node 109 = .ok (.if_icmp .ne 7, 3) := by decide +kernel
theorem dX5_node_112 : decode cX5_node 112 = .ok (.iconst 1, 1) := by decide +kernel
theorem dX5_node_113 : decode cX5_node 113 = .ok (.goto 4, 3) := by decide +kernel
theorem dX5_node_116 : decode cX5_node 116 = .ok (.iconst 0, 1) := by decide +kernel
theorem dX5_node_117 : decode cX5_node 117 = .ok (.iadd, 1) := by decide +kernel
theorem dX5_node_118 : decode cX5_node 118 = .ok (.istore 4, 2) := by decide +kernel
theorem dX5_node_120 : decode cX5_node 120 = .ok (.iload 5, 2) := by decide +kernel
theorem dX5_node_122 : decode cX5_node 122 = .ok (.ifCond .ne 25, 3) := by decide +kernel
theorem dX5_node_125 : decode cX5_node 125 = .ok (.aload_n 0, 1) := by decide +kernel
theorem dX5_node_126 : decode cX5_node 126 = .ok (.getfield 26, 3) := by decide +kernel
theorem dX5_node_129 : decode cX5_node 129 = .ok (.iload 6, 2) := by decide +kernel
theorem dX5_node_131 : decode cX5_node 131 = .ok (.iaload, 1) := by decide +kernel
theorem dX5_node_132 : decode cX5_node 132 = .ok (.iload_n 1, 1) := by decide +kernel
theorem dX5_node_133 : decode cX5_node 133 = .ok (.if_icmp .ne 18, 3) := by decide +kernel
theorem dX5_node_136 : decode cX5_node 136 = .ok (.aload_n 0, 1) := by decide +kernel
theorem dX5_node_137 : decode cX5_node 137 = .ok (.getfield 29, 3) := by decide +kernel
theorem dX5_node_140 : decode cX5_node 140 = .ok (.iload 6, 2) := by decide +kernel
theorem dX5_node_142 : decode cX5_node 142 = .ok (.iaload, 1) := by decide +kernel
theorem dX5_node_143 : decode cX5_node 143 = .ok (.iload_n 2, 1) := by decide +kernel
theorem dX5_node_144 : decode cX5_node 144 = .ok (.if_icmp .ne 7, 3) := by decide +kernel
theorem dX5_node_147 : decode cX5_node 147 = .ok (.iconst 1, 1) := by decide +kernel
theorem dX5_node_148 : decode cX5_node 148 = .ok (.goto 4, 3) := by decide +kernel
theorem dX5_node_151 : decode cX5_node 151 = .ok (.iconst 0, 1) := by decide +kernel
theorem dX5_node_152 : decode cX5_node 152 = .ok (.istore 5, 2) := by decide +kernel
theorem dX5_node_154 : decode cX5_node 154 = .ok (.iinc 6 1, 3) := by decide +kernel
theorem dX5_node_157 : decode cX5_node 157 = .ok (.goto (-67), 3) := by decide +kernel
theorem dX5_node_160 : decode cX5_node 160 = .ok (.aload_n 0, 1) := by decide +kernel
theorem dX5_node_161 : decode cX5_node 161 = .ok (.getfield 56, 3) := by decide +kernel
theorem dX5_node_164 : decode cX5_node 164 = .ok (.ifCond .ne 28, 3) := by decide +kernel
theorem dX5_node_167 : decode cX5_node 167 = .ok (.aload_n 0, 1) := by decide +kernel
theorem dX5_node_168 : decode cX5_node 168 = .ok (.getfield 81, 3) := by decide +kernel
theorem dX5_node_171 : decode cX5_node 171 = .ok (.bipush 12, 2) := by decide +kernel
theorem dX5_node_173 : decode cX5_node 173 = .ok (.if_icmp .eq 14, 3) := by decide +kernel
theorem dX5_node_176 : decode cX5_node 176 = .ok (.iload 4, 2) := by decide +kernel
theorem dX5_node_178 : decode cX5_node 178 = .ok (.iconst 4, 1) := by decide +kernel
theorem dX5_node_179 : decode cX5_node 179 = .ok (.if_icmp .eq 8, 3) := by decide +kernel
theorem dX5_node_182 : decode cX5_node 182 = .ok (.iload 5, 2) := by decide +kernel
theorem dX5_node_184 : decode cX5_node 184 = .ok (.ifCond .eq 8, 3) := by decide +kernel
theorem dX5_node_187 : decode cX5_node 187 = .ok (.aload_n 0, 1) := by decide +kernel
theorem dX5_node_188 : decode cX5_node 188 = .ok (.iconst 2, 1) := by decide +kernel
theorem dX5_node_189 : decode cX5_node 189 = .ok (.putfield 56, 3) := by decide +kernel
theorem dX5_node_192 : decode cX5_node 192 = .ok (.aload_n 0, 1) := by decide +kernel
theorem dX5_node_193 : decode cX5_node 193 = .ok (.getfield 56, 3) := by decide +kernel
theorem dX5_node_196 : decode cX5_node 196 = .ok (.ifCond .le 5, 3) := by decide +kernel
theorem dX5_node_199 : decode cX5_node 199 = .ok (.iconst 0, 1) := by decide +kernel
theorem dX5_node_200 : decode cX5_node 200 = .ok (.ireturn, 1) := by decide +kernel
theorem dX5_node_201 : decode cX5_node 201 = .ok (.aload_n 0, 1) := by decide +kernel
theorem dX5_node_202 : decode cX5_node 202 = .ok (.getfield 26, 3) := by decide +kernel
theorem dX5_node_205 : decode cX5_node 205 = .ok (.aload_n 0, 1) := by decide +kernel
theorem dX5_node_206 : decode cX5_node 206 = .ok (.getfield 81, 3) := by decide +kernel
theorem dX5_node_209 : decode cX5_node 209 = .ok (.iload_n 1, 1) := by decide +kernel
theorem dX5_node_210 : decode cX5_node 210 = .ok (.iastore, 1) := by decide +kernel
theorem dX5_node_211 : decode cX5_node 211 = .ok (.aload_n 0, 1) := by decide +kernel
theorem dX5_node_212 : decode cX5_node 212 = .ok (.getfield 29, 3) := by decide +kernel
theorem dX5_node_215 : decode cX5_node 215 = .ok (.aload_n 0, 1) := by decide +kernel
theorem dX5_node_216 : decode cX5_node 216 = .ok (.getfield 81, 3) := by decide +kernel
theorem dX5_node_219 : decode cX5_node 219 = .ok (.iload_n 2, 1) := by decide +kernel
theorem dX5_node_220 : decode cX5_node 220 = .ok (.iastore, 1) := by decide +kernel
theorem dX5_node_221 : decode cX5_node 221 = .ok (.aload_n 0, 1) := by decide +kernel
theorem dX5_node_222 : decode cX5_node 222 = .ok (.getfield 32, 3) := by decide +kernel
theorem dX5_node_225 : decode cX5_node 225 = .ok (.aload_n 0, 1) := by decide +kernel
theorem dX5_node_226 : decode cX5_node 226 = .ok (.getfield 81, 3) := by decide +kernel
theorem dX5_node_229 : decode cX5_node 229 = .ok (.iload_n 3, 1) := by decide +kernel
theorem dX5_node_230 : decode cX5_node 230 = .ok (.iastore, 1) := by decide +kernel
theorem dX5_node_231 : decode cX5_node 231 = .ok (.aload_n 0, 1) := by decide +kernel
theorem dX5_node_232 : decode cX5_node 232 = .ok (.dup, 1) := by decide +kernel
theorem dX5_node_233 : decode cX5_node 233 = .ok (.getfield 81, 3) := by decide +kernel
theorem dX5_node_236 : decode cX5_node 236 = .ok (.iconst 1, 1) := by decide +kernel
theorem dX5_node_237 : decode cX5_node 237 = .ok (.iadd, 1) := by decide +kernel
theorem dX5_node_238 : decode cX5_node 238 = .ok (.putfield 81, 3) := by decide +kernel
theorem dX5_node_241 : decode cX5_node 241 = .ok (.aload_n 0, 1) := by decide +kernel
theorem dX5_node_242 : decode cX5_node 242 = .ok (.getfield 81, 3) := by decide +kernel
theorem dX5_node_245 : decode cX5_node 245 = .ok (.iconst 1, 1) := by decide +kernel
theorem dX5_node_246 : decode cX5_node 246 = .ok (.isub, 1) := by decide +kernel
theorem dX5_node_247 : decode cX5_node 247 = .ok (.ireturn, 1) := by decide +kernel
theorem dX5_nodes_0 : decode cX5_nodes 0 = .ok (.aload_n 0, 1) := by decide +kernel
theorem dX5_nodes_1 : decode cX5_nodes 1 = .ok (.iconst 0, 1) := by decide +kernel
theorem dX5_nodes_2 : decode cX5_nodes 2 = .ok (.putfield 56, 3) := by decide +kernel
theorem dX5_nodes_5 : decode cX5_nodes 5 = .ok (.aload_n 0, 1) := by decide +kernel
theorem dX5_nodes_6 : decode cX5_nodes 6 = .ok (.getfield 81, 3) := by decide +kernel
theorem dX5_nodes_9 : decode cX5_nodes 9 = .ok (.ireturn, 1) := by decide +kernel
theorem dX5_typeOf_0 : decode cX5_typeOf 0 = .ok (.aload_n 0, 1) := by decide +kernel
theorem dX5_typeOf_1 : decode cX5_typeOf 1 = .ok (.aload_n 0, 1) := by decide +kernel
theorem dX5_typeOf_2 : decode cX5_typeOf 2 = .ok (.iload_n 1, 1) := by decide +kernel
theorem dX5_typeOf_3 : decode cX5_typeOf 3 = .ok (.invokevirtual 87, 3) := by decide +kernel
theorem dX5_typeOf_6 : decode cX5_typeOf 6 = .ok (.ifCond .eq 7, 3) := by decide +kernel
theorem dX5_typeOf_9 : decode cX5_typeOf 9 = .ok (.iconst 0, 1) := by decide +kernel
theorem dX5_typeOf_10 : decode cX5_typeOf 10 = .ok (.goto 4, 3) := by decide +kernel
theorem dX5_typeOf_13 : decode cX5_typeOf 13 = .ok (.iconst 1, 1) := by decide +kernel
theorem dX5_typeOf_14 : decode cX5_typeOf 14 = .ok (.putfield 56, 3) := by decide +kernel
theorem dX5_typeOf_17 : decode cX5_typeOf 17 = .ok (.aload_n 0, 1) := by decide +kernel
theorem dX5_typeOf_18 : decode cX5_typeOf 18 = .ok (.getfield 56, 3) := by decide +kernel
theorem dX5_typeOf_21 : decode cX5_typeOf 21 = .ok (.ifCond .le 7, 3) := by decide +kernel
theorem dX5_typeOf_24 : decode cX5_typeOf 24 = .ok (.iconst 0, 1) := by decide +kernel
theorem dX5_typeOf_25 : decode cX5_typeOf 25 = .ok (.goto 9, 3) := by decide +kernel
theorem dX5_typeOf_28 : decode cX5_typeOf 28 = .ok (.aload_n 0, 1) := by decide +kernel
theorem dX5_typeOf_29 : decode cX5_typeOf 29 = .ok (.getfield 32, 3) := by decide +kernel
theorem dX5_typeOf_32 : decode cX5_typeOf 32 = .ok (.iload_n 1, 1) := by decide +kernel
theorem dX5_typeOf_33 : decode cX5_typeOf 33 = .ok (.iaload, 1) := by decide +kernel
theorem dX5_typeOf_34 : decode cX5_typeOf 34 = .ok (.ireturn, 1) := by decide +kernel
theorem dX5_manyOf_0 : decode cX5_manyOf 0 = .ok (.iconst 0, 1) := by decide +kernel
theorem dX5_manyOf_1 : decode cX5_manyOf 1 = .ok (.istore_n 1, 1) := by decide +kernel
theorem dX5_manyOf_2 : decode cX5_manyOf 2 = .ok (.iconst 0, 1) := by decide +kernel
theorem dX5_manyOf_3 : decode cX5_manyOf 3 = .ok (.istore_n 2, 1) := by decide +kernel
theorem dX5_manyOf_4 : decode cX5_manyOf 4 = .ok (.iload_n 2, 1) := by decide +kernel
theorem dX5_manyOf_5 : decode cX5_manyOf 5 = .ok (.iconst 4, 1) := by decide +kernel
theorem dX5_manyOf_6 : decode cX5_manyOf 6 = .ok (.if_icmp .ge 17, 3) := by decide +kernel
theorem dX5_manyOf_9 : decode cX5_manyOf 9 = .ok (.iload_n 1, 1) := by decide +kernel
theorem dX5_manyOf_10 : decode cX5_manyOf 10 = .ok (.iload_n 0, 1) := by decide +kernel
theorem dX5_manyOf_11 : decode cX5_manyOf 11 = .ok (.iload_n 2, 1) := by decide +kernel
theorem dX5_manyOf_12 : decode cX5_manyOf 12 = .ok (.ishr, 1) := by decide +kernel
theorem dX5_manyOf_13 : decode cX5_manyOf 13 = .ok (.iconst 1, 1) := by decide +kernel
theorem dX5_manyOf_14 : decode cX5_manyOf 14 = .ok (.iand, 1) := by decide +kernel
theorem dX5_manyOf_15 : decode cX5_manyOf 15 = .ok (.iadd, 1) := by decide +kernel
theorem dX5_manyOf_16 : decode cX5_manyOf 16 = .ok (.istore_n 1, 1) := by decide +kernel
theorem dX5_manyOf_17 : decode cX5_manyOf 17 = .ok (.iinc 2 1, 3) := by decide +kernel
theorem dX5_manyOf_20 : decode cX5_manyOf 20 = .ok (.goto (-16), 3) := by decide +kernel
theorem dX5_manyOf_23 : decode cX5_manyOf 23 = .ok (.iload_n 1, 1) := by decide +kernel
theorem dX5_manyOf_24 : decode cX5_manyOf 24 = .ok (.ireturn, 1) := by decide +kernel
theorem dX5_fewestBy_0 : decode cX5_fewestBy 0 = .ok (.sipush 1000, 3) := by decide +kernel
theorem dX5_fewestBy_3 : decode cX5_fewestBy 3 = .ok (.istore_n 3, 1) := by decide +kernel
theorem dX5_fewestBy_4 : decode cX5_fewestBy 4 = .ok (.iconst 0, 1) := by decide +kernel
theorem dX5_fewestBy_5 : decode cX5_fewestBy 5 = .ok (.istore 4, 2) := by decide +kernel
theorem dX5_fewestBy_7 : decode cX5_fewestBy 7 = .ok (.iload 4, 2) := by decide +kernel
theorem dX5_fewestBy_9 : decode cX5_fewestBy 9 = .ok (.iconst 4, 1) := by decide +kernel
theorem dX5_fewestBy_10 : decode cX5_fewestBy 10 = .ok (.if_icmp .ge 68, 3) := by decide +kernel
theorem dX5_fewestBy_13 : decode cX5_fewestBy 13 = .ok (.iload_n 2, 1) := by decide +kernel
theorem dX5_fewestBy_14 : decode cX5_fewestBy 14 = .ok (.aload_n 0, 1) := by decide +kernel
theorem dX5_fewestBy_15 : decode cX5_fewestBy 15 = .ok (.getfield 35, 3) := by decide +kernel
theorem dX5_fewestBy_18 : decode cX5_fewestBy 18 = .ok (.iload_n 1, 1) := by decide +kernel
theorem dX5_fewestBy_19 : decode cX5_fewestBy 19 = .ok (.iaload, 1) := by decide +kernel
theorem dX5_fewestBy_20 : decode cX5_fewestBy 20 = .ok (.iand, 1) := by decide +kernel
theorem dX5_fewestBy_21 : decode cX5_fewestBy 21 = .ok (.iconst 1, 1) := by decide +kernel
theorem dX5_fewestBy_22 : decode cX5_fewestBy 22 = .ok (.iload 4, 2) := by decide +kernel
theorem dX5_fewestBy_24 : decode cX5_fewestBy 24 = .ok (.ishl, 1) := by decide +kernel
theorem dX5_fewestBy_25 : decode cX5_fewestBy 25 = .ok (.iand, 1) := by decide +kernel
theorem dX5_fewestBy_26 : decode cX5_fewestBy 26 = .ok (.ifCond .eq 22, 3) := by decide +kernel
theorem dX5_fewestBy_29 : decode cX5_fewestBy 29 = .ok (.aload_n 0, 1) := by decide +kernel
theorem dX5_fewestBy_30 : decode cX5_fewestBy 30 = .ok (.getfield 38, 3) := by decide +kernel
theorem dX5_fewestBy_33 : decode cX5_fewestBy 33 = .ok (.iconst 4, 1) := by decide +kernel
theorem dX5_fewestBy_34 : decode cX5_fewestBy 34 = .ok (.iload_n 1, 1) := by decide +kernel
theorem dX5_fewestBy_35 : decode cX5_fewestBy 35 = .ok (.imul, 1) := by decide +kernel
theorem dX5_fewestBy_36 : decode cX5_fewestBy 36 = .ok (.iload 4, 2) := by decide +kernel
theorem dX5_fewestBy_38 : decode cX5_fewestBy 38 = .ok (.iadd, 1) := by decide +kernel
theorem dX5_fewestBy_39 : decode cX5_fewestBy 39 = .ok (.iaload, 1) := by decide +kernel
theorem dX5_fewestBy_40 : decode cX5_fewestBy 40 = .ok (.iload_n 3, 1) := by decide +kernel
theorem dX5_fewestBy_41 : decode cX5_fewestBy 41 = .ok (.if_icmp .ge 7, 3) := by decide +kernel
theorem dX5_fewestBy_44 : decode cX5_fewestBy 44 = .ok (.iconst 1, 1) := by decide +kernel
theorem dX5_fewestBy_45 : decode cX5_fewestBy 45 = .ok (.goto 4, 3) := by decide +kernel
theorem dX5_fewestBy_48 : decode cX5_fewestBy 48 = .ok (.iconst 0, 1) := by decide +kernel
theorem dX5_fewestBy_49 : decode cX5_fewestBy 49 = .ok (.istore 5, 2) := by decide +kernel
theorem dX5_fewestBy_51 : decode cX5_fewestBy 51 = .ok (.iload 5, 2) := by decide +kernel
theorem dX5_fewestBy_53 : decode cX5_fewestBy 53 = .ok (.ifCond .eq 17, 3) := by decide +kernel
theorem dX5_fewestBy_56 : decode cX5_fewestBy 56 = .ok (.aload_n 0, 1) := by decide +kernel
theorem dX5_fewestBy_57 : decode cX5_fewestBy 57 = .ok (.getfield 38, 3) := by decide +kernel
theorem dX5_fewestBy_60 : decode cX5_fewestBy 60 = .ok (.iconst 4, 1) := by decide +kernel
theorem dX5_fewestBy_61 : decode cX5_fewestBy 61 = .ok (.iload_n 1, 1) := by decide +kernel
theorem dX5_fewestBy_62 : decode cX5_fewestBy 62 = .ok (.imul, 1) := by decide +kernel
theorem dX5_fewestBy_63 : decode cX5_fewestBy 63 = .ok (.iload 4, 2) := by decide +kernel
theorem dX5_fewestBy_65 : decode cX5_fewestBy 65 = .ok (.iadd, 1) := by decide +kernel
theorem dX5_fewestBy_66 : decode cX5_fewestBy 66 = .ok (.iaload, 1) := by decide +kernel
theorem dX5_fewestBy_67 : decode cX5_fewestBy 67 = .ok (.goto 4, 3) := by decide +kernel
theorem dX5_fewestBy_70 : decode cX5_fewestBy 70 = .ok (.iload_n 3, 1) := by decide +kernel
theorem dX5_fewestBy_71 : decode cX5_fewestBy 71 = .ok (.istore_n 3, 1) := by decide +kernel
theorem dX5_fewestBy_72 : decode cX5_fewestBy 72 = .ok (.iinc 4 1, 3) := by decide +kernel
theorem dX5_fewestBy_75 : decode cX5_fewestBy 75 = .ok (.goto (-68), 3) := by decide +kernel
theorem dX5_fewestBy_78 : decode cX5_fewestBy 78 = .ok (.iload_n 3, 1) := by decide +kernel
theorem dX5_fewestBy_79 : decode cX5_fewestBy 79 = .ok (.ireturn, 1) := by decide +kernel
theorem dX5_hopsBelow_0 : decode cX5_hopsBelow 0 = .ok (.sipush 1000, 3) := by decide +kernel
theorem dX5_hopsBelow_3 : decode cX5_hopsBelow 3 = .ok (.istore_n 3, 1) := by decide +kernel
theorem dX5_hopsBelow_4 : decode cX5_hopsBelow 4 = .ok (.iconst 0, 1) := by decide +kernel
theorem dX5_hopsBelow_5 : decode cX5_hopsBelow 5 = .ok (.istore 4, 2) := by decide +kernel
theorem dX5_hopsBelow_7 : decode cX5_hopsBelow 7 = .ok (.iload 4, 2) := by decide +kernel
theorem dX5_hopsBelow_9 : decode cX5_hopsBelow 9 = .ok (.bipush 16, 2) := by decide +kernel
theorem dX5_hopsBelow_11 : decode cX5_hopsBelow 11 = .ok (.if_icmp .ge 91, 3) := by decide +kernel
theorem dX5_hopsBelow_14 : decode cX5_hopsBelow 14 = .ok (.iload_n 2, 1) := by decide +kernel
theorem dX5_hopsBelow_15 : decode cX5_hopsBelow 15 = .ok (.iconst (-1), 1) := by decide +kernel
theorem dX5_hopsBelow_16 : decode cX5_hopsBelow 16 = .ok (.if_icmp .ne 8, 3) := by decide +kernel
theorem dX5_hopsBelow_19 : decode cX5_hopsBelow 19 = .ok (.iload 4, 2) := by decide +kernel
theorem dX5_hopsBelow_21 : decode cX5_hopsBelow 21 = .ok (.goto 11, 3) := by decide +kernel
theorem dX5_hopsBelow_24 : decode cX5_hopsBelow 24 = .ok (.iload 4, 2) := by decide +kernel
theorem dX5_hopsBelow_26 : decode cX5_hopsBelow 26 = .ok (.iconst 1, 1) := by decide +kernel
theorem dX5_hopsBelow_27 : decode cX5_hopsBelow 27 = .ok (.iload_n 2, 1) := by decide +kernel
theorem dX5_hopsBelow_28 : decode cX5_hopsBelow 28 = .ok (.ishl, 1) := by decide +kernel
theorem dX5_hopsBelow_29 : decode cX5_hopsBelow 29 = .ok (.iconst (-1), 1) := by decide +kernel
theorem dX5_hopsBelow_30 : decode cX5_hopsBelow 30 = .ok (.ixor, 1) := by decide +kernel
theorem dX5_hopsBelow_31 : decode cX5_hopsBelow 31 = .ok (.iand, 1) := by decide +kernel
theorem dX5_hopsBelow_32 : decode cX5_hopsBelow 32 = .ok (.invokestatic 94, 3) := by decide +kernel
theorem dX5_hopsBelow_35 : decode cX5_hopsBelow 35 = .ok (.istore 5, 2) := by decide +kernel
theorem dX5_hopsBelow_37 : decode cX5_hopsBelow 37 = .ok (.iconst 0, 1) := by decide +kernel
theorem dX5_hopsBelow_38 : decode cX5_hopsBelow 38 = .ok (.istore 6, 2) := by decide +kernel
theorem dX5_hopsBelow_40 : decode cX5_hopsBelow 40 = .ok (.iload 6, 2) := by decide +kernel
theorem dX5_hopsBelow_42 : decode cX5_hopsBelow 42 = .ok (.aload_n 0, 1) := by decide +kernel
theorem dX5_hopsBelow_43 : decode cX5_hopsBelow 43 = .ok (.getfield 81, 3) := by decide +kernel
theorem dX5_hopsBelow_46 : decode cX5_hopsBelow 46 = .ok (.if_icmp .ge 37, 3) := by decide +kernel
theorem dX5_hopsBelow_49 : decode cX5_hopsBelow 49 = .ok (.iload 5, 2) := by decide +kernel
theorem dX5_hopsBelow_51 : decode cX5_hopsBelow 51 = .ok (.aload_n 0, 1) := by decide +kernel
theorem dX5_hopsBelow_52 : decode cX5_hopsBelow 52 = .ok (.getfield 26, 3) := by decide +kernel
theorem dX5_hopsBelow_55 : decode cX5_hopsBelow 55 = .ok (.iload 6, 2) := by decide +kernel
theorem dX5_hopsBelow_57 : decode cX5_hopsBelow 57 = .ok (.iaload, 1) := by decide +kernel
theorem dX5_hopsBelow_58 : decode cX5_hopsBelow 58 = .ok (.iload_n 1, 1) := by decide +kernel
theorem dX5_hopsBelow_59 : decode cX5_hopsBelow 59 = .ok (.if_icmp .ne 14, 3) := by decide +kernel
theorem dX5_hopsBelow_62 : decode cX5_hopsBelow 62 = .ok (.aload_n 0, 1) := by decide +kernel
theorem dX5_hopsBelow_63 : decode cX5_hopsBelow 63 = .ok (.iload 6, 2) := by decide +kernel
theorem dX5_hopsBelow_65 : decode cX5_hopsBelow 65 = .ok (.iload 4, 2) := by decide +kernel
theorem dX5_hopsBelow_67 : decode cX5_hopsBelow 67 = .ok (.invokevirtual 97, 3) := by decide +kernel
theorem dX5_hopsBelow_70 : decode cX5_hopsBelow 70 = .ok (.goto 4, 3) := by decide +kernel
theorem dX5_hopsBelow_73 : decode cX5_hopsBelow 73 = .ok (.iconst 0, 1) := by decide +kernel
theorem dX5_hopsBelow_74 : decode cX5_hopsBelow 74 = .ok (.iadd, 1) := by decide +kernel
theorem dX5_hopsBelow_75 : decode cX5_hopsBelow 75 = .ok (.istore 5, 2) := by decide +kernel
theorem dX5_hopsBelow_77 : decode cX5_hopsBelow 77 = .ok (.iinc 6 1, 3) := by decide +kernel
theorem dX5_hopsBelow_80 : decode cX5_hopsBelow 80 = .ok (.goto (-40), 3) := by decide +kernel
theorem dX5_hopsBelow_83 : decode cX5_hopsBelow 83 = .ok (.iload 5, 2) := by decide +kernel
theorem dX5_hopsBelow_85 : decode cX5_hopsBelow 85 = .ok (.iload_n 3, 1) := by decide +kernel
theorem dX5_hopsBelow_86 : decode cX5_hopsBelow 86 = .ok (.if_icmp .ge 8, 3) := by decide +kernel
theorem dX5_hopsBelow_89 : decode cX5_hopsBelow 89 = .ok (.iload 5, 2) := by decide +kernel
theorem dX5_hopsBelow_91 : decode cX5_hopsBelow 91 = .ok (.goto 4, 3) := by decide +kernel
theorem dX5_hopsBelow_94 : decode cX5_hopsBelow 94 = .ok (.iload_n 3, 1) := by decide +kernel
theorem dX5_hopsBelow_95 : decode cX5_hopsBelow 95 = .ok (.istore_n 3, 1) := by decide +kernel
theorem dX5_hopsBelow_96 : decode cX5_hopsBelow 96 = .ok (.iinc 4 1, 3) := by decide +kernel
theorem dX5_hopsBelow_99 : decode cX5_hopsBelow 99 = .ok (.goto (-92), 3) := by decide +kernel
theorem dX5_hopsBelow_102 : decode cX5_hopsBelow 102 = .ok (.iload_n 3, 1) := by decide +kernel
theorem dX5_hopsBelow_103 : decode cX5_hopsBelow 103 = .ok (.ireturn, 1) := by decide +kernel
theorem dX5_tries_0 : decode cX5_tries 0 = .ok (.aload_n 0, 1) := by decide +kernel
theorem dX5_tries_1 : decode cX5_tries 1 = .ok (.getfield 81, 3) := by decide +kernel
theorem dX5_tries_4 : decode cX5_tries 4 = .ok (.iconst 1, 1) := by decide +kernel
theorem dX5_tries_5 : decode cX5_tries 5 = .ok (.isub, 1) := by decide +kernel
theorem dX5_tries_6 : decode cX5_tries 6 = .ok (.istore_n 1, 1) := by decide +kernel
theorem dX5_tries_7 : decode cX5_tries 7 = .ok (.iload_n 1, 1) := by decide +kernel
theorem dX5_tries_8 : decode cX5_tries 8 = .ok (.ifCond .lt 38, 3) := by decide +kernel
theorem dX5_tries_11 : decode cX5_tries 11 = .ok (.iconst 0, 1) := by decide +kernel
theorem dX5_tries_12 : decode cX5_tries 12 = .ok (.istore_n 2, 1) := by decide +kernel
theorem dX5_tries_13 : decode cX5_tries 13 = .ok (.iload_n 2, 1) := by decide +kernel
theorem dX5_tries_14 : decode cX5_tries 14 = .ok (.iconst 4, 1) := by decide +kernel
theorem dX5_tries_15 : decode cX5_tries 15 = .ok (.if_icmp .ge 25, 3) := by decide +kernel
theorem dX5_tries_18 : decode cX5_tries 18 = .ok (.aload_n 0, 1) := by decide +kernel
theorem dX5_tries_19 : decode cX5_tries 19 = .ok (.getfield 38, 3) := by decide +kernel
theorem dX5_tries_22 : decode cX5_tries 22 = .ok (.iconst 4, 1) := by decide +kernel
theorem dX5_tries_23 : decode cX5_tries 23 = .ok (.iload_n 1, 1) := by decide +kernel
theorem dX5_tries_24 : decode cX5_tries 24 = .ok (.imul, 1) := by decide +kernel
theorem dX5_tries_25 : decode cX5_tries 25 = .ok (.iload_n 2, 1) := by decide +kernel
theorem dX5_tries_26 : decode cX5_tries 26 = .ok (.iadd, 1) := by decide +kernel
theorem dX5_tries_27 : decode cX5_tries 27 = .ok (.aload_n 0, 1) := by decide +kernel
theorem dX5_tries_28 : decode cX5_tries 28 = .ok (.iload_n 1, 1) := by decide +kernel
theorem dX5_tries_29 : decode cX5_tries 29 = .ok (.iload_n 2, 1) := by decide +kernel
theorem dX5_tries_30 : decode cX5_tries 30 = .ok (.invokevirtual 101, 3) := by decide +kernel
theorem dX5_tries_33 : decode cX5_tries 33 = .ok (.iastore, 1) := by decide +kernel
theorem dX5_tries_34 : decode cX5_tries 34 = .ok (.iinc 2 1, 3) := by decide +kernel
theorem dX5_tries_37 : decode cX5_tries 37 = .ok (.goto (-24), 3) := by decide +kernel
theorem dX5_tries_40 : decode cX5_tries 40 = .ok (.iinc 1 (-1), 3) := by decide +kernel
theorem dX5_tries_43 : decode cX5_tries 43 = .ok (.goto (-36), 3) := by decide +kernel
theorem dX5_tries_46 : decode cX5_tries 46 = .ok (.aload_n 0, 1) := by decide +kernel
theorem dX5_tries_47 : decode cX5_tries 47 = .ok (.iconst (-1), 1) := by decide +kernel
theorem dX5_tries_48 : decode cX5_tries 48 = .ok (.iconst (-1), 1) := by decide +kernel
theorem dX5_tries_49 : decode cX5_tries 49 = .ok (.invokevirtual 101, 3) := by decide +kernel
theorem dX5_tries_52 : decode cX5_tries 52 = .ok (.ireturn, 1) := by decide +kernel
theorem dX5_hasPlan_0 : decode cX5_hasPlan 0 = .ok (.iconst 1, 1) := by decide +kernel
theorem dX5_hasPlan_1 : decode cX5_hasPlan 1 = .ok (.istore_n 1, 1) := by decide +kernel
theorem dX5_hasPlan_2 : decode cX5_hasPlan 2 = .ok (.iconst 0, 1) := by decide +kernel
theorem dX5_hasPlan_3 : decode cX5_hasPlan 3 = .ok (.istore_n 2, 1) := by decide +kernel
theorem dX5_hasPlan_4 : decode cX5_hasPlan 4 = .ok (.iload_n 2, 1) := by decide +kernel
theorem dX5_hasPlan_5 : decode cX5_hasPlan 5 = .ok (.aload_n 0, 1) := by decide +kernel
theorem dX5_hasPlan_6 : decode cX5_hasPlan 6 = .ok (.getfield 81, 3) := by decide +kernel
theorem dX5_hasPlan_9 : decode cX5_hasPlan 9 = .ok (.if_icmp .ge 44, 3) := by decide +kernel
theorem dX5_hasPlan_12 : decode cX5_hasPlan 12 = .ok (.aload_n 0, 1) := by decide +kernel
theorem dX5_hasPlan_13 : decode cX5_hasPlan 13 = .ok (.getfield 35, 3) := by decide +kernel
theorem dX5_hasPlan_16 : decode cX5_hasPlan 16 = .ok (.iload_n 2, 1) := by decide +kernel
theorem dX5_hasPlan_17 : decode cX5_hasPlan 17 = .ok (.aload_n 0, 1) := by decide +kernel
theorem dX5_hasPlan_18 : decode cX5_hasPlan 18 = .ok (.getfield 20, 3) := by decide +kernel
theorem dX5_hasPlan_21 : decode cX5_hasPlan 21 = .ok (.aload_n 0, 1) := by decide +kernel
theorem dX5_hasPlan_22 : decode cX5_hasPlan 22 = .ok (.iload_n 2, 1) := by decide +kernel
theorem dX5_hasPlan_23 : decode cX5_hasPlan 23 = .ok (.invokevirtual 90, 3) := by decide +kernel
theorem dX5_hasPlan_26 : decode cX5_hasPlan 26 = .ok (.iaload, 1) := by decide +kernel
theorem dX5_hasPlan_27 : decode cX5_hasPlan 27 = .ok (.iastore, 1) := by decide +kernel
theorem dX5_hasPlan_28 : decode cX5_hasPlan 28 = .ok (.iload_n 1, 1) := by decide +kernel
theorem dX5_hasPlan_29 : decode cX5_hasPlan 29 = .ok (.ifCond .eq 16, 3) := by decide +kernel
theorem dX5_hasPlan_32 : decode cX5_hasPlan 32 = .ok (.aload_n 0, 1) := by decide +kernel
theorem dX5_hasPlan_33 : decode cX5_hasPlan 33 = .ok (.getfield 35, 3) := by decide +kernel
theorem dX5_hasPlan_36 : decode cX5_hasPlan 36 = .ok (.iload_n 2, 1) := by decide +kernel
theorem dX5_hasPlan_37 : decode cX5_hasPlan 37 = .ok (.iaload, 1) := by decide +kernel
theorem dX5_hasPlan_38 : decode cX5_hasPlan 38 = .ok (.ifCond .eq 7, 3) := by decide +kernel
theorem dX5_hasPlan_41 : decode cX5_hasPlan 41 = .ok (.iconst 1, 1) := by decide +kernel
theorem dX5_hasPlan_42 : decode cX5_hasPlan 42 = .ok (.goto 4, 3) := by decide +kernel
theorem dX5_hasPlan_45 : decode cX5_hasPlan 45 = .ok (.iconst 0, 1) := by decide +kernel
theorem dX5_hasPlan_46 : decode cX5_hasPlan 46 = .ok (.istore_n 1, 1) := by decide +kernel
theorem dX5_hasPlan_47 : decode cX5_hasPlan 47 = .ok (.iinc 2 1, 3) := by decide +kernel
theorem dX5_hasPlan_50 : decode cX5_hasPlan 50 = .ok (.goto (-46), 3) := by decide +kernel
theorem dX5_hasPlan_53 : decode cX5_hasPlan 53 = .ok (.iload_n 1, 1) := by decide +kernel
theorem dX5_hasPlan_54 : decode cX5_hasPlan 54 = .ok (.ireturn, 1) := by decide +kernel
theorem dX5_laysPlan_0 : decode cX5_laysPlan 0 = .ok (.aload_n 0, 1) := by decide +kernel
theorem dX5_laysPlan_1 : decode cX5_laysPlan 1 = .ok (.invokevirtual 104, 3) := by decide +kernel
theorem dX5_laysPlan_4 : decode cX5_laysPlan 4 = .ok (.istore_n 1, 1) := by decide +kernel
theorem dX5_laysPlan_5 : decode cX5_laysPlan 5 = .ok (.iconst 0, 1) := by decide +kernel
theorem dX5_laysPlan_6 : decode cX5_laysPlan 6 = .ok (.istore_n 2, 1) := by decide +kernel
theorem dX5_laysPlan_7 : decode cX5_laysPlan 7 = .ok (.iload_n 2, 1) := by decide +kernel
theorem dX5_laysPlan_8 : decode cX5_laysPlan 8 = .ok (.aload_n 0, 1) := by decide +kernel
theorem dX5_laysPlan_9 : decode cX5_laysPlan 9 = .ok (.getfield 81, 3) := by decide +kernel
theorem dX5_laysPlan_12 : decode cX5_laysPlan 12 = .ok (.if_icmp .ge 85, 3) := by decide +kernel
theorem dX5_laysPlan_15 : decode cX5_laysPlan 15 = .ok (.aload_n 0, 1) := by decide +kernel
theorem dX5_laysPlan_16 : decode cX5_laysPlan 16 = .ok (.getfield 35, 3) := by decide +kernel
theorem dX5_laysPlan_19 : decode cX5_laysPlan 19 = .ok (.iload_n 2, 1) := by decide +kernel
theorem dX5_laysPlan_20 : decode cX5_laysPlan 20 = .ok (.iaload, 1) := by decide +kernel
theorem dX5_laysPlan_21 : decode cX5_laysPlan 21 = .ok (.istore_n 3, 1) := by decide +kernel
theorem dX5_laysPlan_22 : decode cX5_laysPlan 22 = .ok (.iconst (-1), 1) := by decide +kernel
theorem dX5_laysPlan_23 : decode cX5_laysPlan 23 = .ok (.istore 4, 2) := by decide +kernel
theorem dX5_laysPlan_25 : decode cX5_laysPlan 25 = .ok (.iconst 0, 1) := by decide +kernel
theorem dX5_laysPlan_26 : decode cX5_laysPlan 26 = .ok (.istore 5, 2) := by decide +kernel
theorem dX5_laysPlan_28 : decode cX5_laysPlan 28 = .ok (.iload 5, 2) := by decide +kernel
theorem dX5_laysPlan_30 : decode cX5_laysPlan 30 = .ok (.iconst 4, 1) := by decide +kernel
theorem dX5_laysPlan_31 : decode cX5_laysPlan 31 = .ok (.if_icmp .ge 52, 3) := by decide +kernel
theorem dX5_laysPlan_34 : decode cX5_laysPlan 34 = .ok (.iload 4, 2) := by decide +kernel
theorem dX5_laysPlan_36 : decode cX5_laysPlan 36 = .ok (.iconst (-1), 1) := by decide +kernel
theorem dX5_laysPlan_37 : decode cX5_laysPlan 37 = .ok (.if_icmp .ne 46, 3) := by decide +kernel
theorem dX5_laysPlan_40 : decode cX5_laysPlan 40 = .ok (.aload_n 0, 1) := by decide +kernel
theorem dX5_laysPlan_41 : decode cX5_laysPlan 41 = .ok (.getfield 35, 3) := by decide +kernel
theorem dX5_laysPlan_44 : decode cX5_laysPlan 44 = .ok (.iload_n 2, 1) := by decide +kernel
theorem dX5_laysPlan_45 : decode cX5_laysPlan 45 = .ok (.iload_n 3, 1) := by decide +kernel
theorem dX5_laysPlan_46 : decode cX5_laysPlan 46 = .ok (.iconst 1, 1) := by decide +kernel
theorem dX5_laysPlan_47 : decode cX5_laysPlan 47 = .ok (.iload 5, 2) := by decide +kernel
theorem dX5_laysPlan_49 : decode cX5_laysPlan 49 = .ok (.ishl, 1) := by decide +kernel
theorem dX5_laysPlan_50 : decode cX5_laysPlan 50 = .ok (.iand, 1) := by decide +kernel
theorem dX5_laysPlan_51 : decode cX5_laysPlan 51 = .ok (.iastore, 1) := by decide +kernel
theorem dX5_laysPlan_52 : decode cX5_laysPlan 52 = .ok (.aload_n 0, 1) := by decide +kernel
theorem dX5_laysPlan_53 : decode cX5_laysPlan 53 = .ok (.getfield 35, 3) := by decide +kernel
theorem dX5_laysPlan_56 : decode cX5_laysPlan 56 = .ok (.iload_n 2, 1) := by decide +kernel
theorem dX5_laysPlan_57 : decode cX5_laysPlan 57 = .ok (.iaload, 1) := by decide +kernel
theorem dX5_laysPlan_58 : decode cX5_laysPlan 58 = .ok (.ifCond .eq 16, 3) := by decide +kernel
theorem dX5_laysPlan_61 : decode cX5_laysPlan 61 = .ok (.aload_n 0, 1) := by decide +kernel
theorem dX5_laysPlan_62 : decode cX5_laysPlan 62 = .ok (.invokevirtual 104, 3) := by decide +kernel
theorem dX5_laysPlan_65 : decode cX5_laysPlan 65 = .ok (.iload_n 1, 1) := by decide +kernel
theorem dX5_laysPlan_66 : decode cX5_laysPlan 66 = .ok (.if_icmp .ne 8, 3) := by decide +kernel
theorem dX5_laysPlan_69 : decode cX5_laysPlan 69 = .ok (.iload 5, 2) := by decide +kernel
theorem dX5_laysPlan_71 : decode cX5_laysPlan 71 = .ok (.goto 4, 3) := by decide +kernel
theorem dX5_laysPlan_74 : decode cX5_laysPlan 74 = .ok (.iconst (-1), 1) := by decide +kernel
theorem dX5_laysPlan_75 : decode cX5_laysPlan 75 = .ok (.istore 4, 2) := by decide +kernel
theorem dX5_laysPlan_77 : decode cX5_laysPlan 77 = .ok (.iinc 5 1, 3) := by decide +kernel
theorem dX5_laysPlan_80 : decode cX5_laysPlan 80 = .ok (.goto (-52), 3) := by decide +kernel
theorem dX5_laysPlan_83 : decode cX5_laysPlan 83 = .ok (.aload_n 0, 1) := by decide +kernel
theorem dX5_laysPlan_84 : decode cX5_laysPlan 84 = .ok (.getfield 41, 3) := by decide +kernel
theorem dX5_laysPlan_87 : decode cX5_laysPlan 87 = .ok (.iload_n 2, 1) := by decide +kernel
theorem dX5_laysPlan_88 : decode cX5_laysPlan 88 = .ok (.iload 4, 2) := by decide +kernel
theorem dX5_laysPlan_90 : decode cX5_laysPlan 90 = .ok (.iastore, 1) := by decide +kernel
theorem dX5_laysPlan_91 : decode cX5_laysPlan 91 = .ok (.iinc 2 1, 3) := by decide +kernel
theorem dX5_laysPlan_94 : decode cX5_laysPlan 94 = .ok (.goto (-87), 3) := by decide +kernel
theorem dX5_laysPlan_97 : decode cX5_laysPlan 97 = .ok (.iload_n 1, 1) := by decide +kernel
theorem dX5_laysPlan_98 : decode cX5_laysPlan 98 = .ok (.ireturn, 1) := by decide +kernel
theorem dX5_hops_0 : decode cX5_hops 0 = .ok (.aload_n 0, 1) := by decide +kernel
theorem dX5_hops_1 : decode cX5_hops 1 = .ok (.aload_n 0, 1) := by decide +kernel
theorem dX5_hops_2 : decode cX5_hops 2 = .ok (.invokevirtual 108, 3) := by decide +kernel
theorem dX5_hops_5 : decode cX5_hops 5 = .ok (.ifCond .eq 7, 3) := by decide +kernel
theorem dX5_hops_8 : decode cX5_hops 8 = .ok (.iconst 0, 1) := by decide +kernel
theorem dX5_hops_9 : decode cX5_hops 9 = .ok (.goto 4, 3) := by decide +kernel
theorem dX5_hops_12 : decode cX5_hops 12 = .ok (.iconst 1, 1) := by decide +kernel
theorem dX5_hops_13 : decode cX5_hops 13 = .ok (.putfield 56, 3) := by decide +kernel
theorem dX5_hops_16 : decode cX5_hops 16 = .ok (.aload_n 0, 1) := by decide +kernel
theorem dX5_hops_17 : decode cX5_hops 17 = .ok (.getfield 56, 3) := by decide +kernel
theorem dX5_hops_20 : decode cX5_hops 20 = .ok (.ifCond .le 7, 3) := by decide +kernel
theorem dX5_hops_23 : decode cX5_hops 23 = .ok (.iconst 0, 1) := by decide +kernel
theorem dX5_hops_24 : decode cX5_hops 24 = .ok (.goto 7, 3) := by decide +kernel
theorem dX5_hops_27 : decode cX5_hops 27 = .ok (.aload_n 0, 1) := by decide +kernel
theorem dX5_hops_28 : decode cX5_hops 28 = .ok (.invokevirtual 104, 3) := by decide +kernel
theorem dX5_hops_31 : decode cX5_hops 31 = .ok (.ireturn, 1) := by decide +kernel
theorem dX5_takenFrom_0 : decode cX5_takenFrom 0 = .ok (.aload_n 0, 1) := by decide +kernel
theorem dX5_takenFrom_1 : decode cX5_takenFrom 1 = .ok (.aload_n 0, 1) := by decide +kernel
theorem dX5_takenFrom_2 : decode cX5_takenFrom 2 = .ok (.iload_n 1, 1) := by decide +kernel
theorem dX5_takenFrom_3 : decode cX5_takenFrom 3 = .ok (.invokevirtual 87, 3) := by decide +kernel
theorem dX5_takenFrom_6 : decode cX5_takenFrom 6 = .ok (.ifCond .ne 7, 3) := by decide +kernel
theorem dX5_takenFrom_9 : decode cX5_takenFrom 9 = .ok (.iconst 1, 1) := by decide +kernel
theorem dX5_takenFrom_10 : decode cX5_takenFrom 10 = .ok (.goto 15, 3) := by decide +kernel
theorem dX5_takenFrom_13 : decode cX5_takenFrom 13 = .ok (.aload_n 0, 1) := by decide +kernel
theorem dX5_takenFrom_14 : decode cX5_takenFrom 14 = .ok (.invokevirtual 108, 3) := by decide +kernel
theorem dX5_takenFrom_17 : decode cX5_takenFrom 17 = .ok (.ifCond .eq 7, 3) := by decide +kernel
theorem dX5_takenFrom_20 : decode cX5_takenFrom 20 = .ok (.iconst 0, 1) := by decide +kernel
theorem dX5_takenFrom_21 : decode cX5_takenFrom 21 = .ok (.goto 4, 3) := by decide +kernel
theorem dX5_takenFrom_24 : decode cX5_takenFrom 24 = .ok (.iconst 2, 1) := by decide +kernel
theorem dX5_takenFrom_25 : decode cX5_takenFrom 25 = .ok (.putfield 56, 3) := by decide +kernel
theorem dX5_takenFrom_28 : decode cX5_takenFrom 28 = .ok (.aload_n 0, 1) := by decide +kernel
theorem dX5_takenFrom_29 : decode cX5_takenFrom 29 = .ok (.getfield 56, 3) := by decide +kernel
theorem dX5_takenFrom_32 : decode cX5_takenFrom 32 = .ok (.ifCond .le 5, 3) := by decide +kernel
theorem dX5_takenFrom_35 : decode cX5_takenFrom 35 = .ok (.iconst 0, 1) := by decide +kernel
theorem dX5_takenFrom_36 : decode cX5_takenFrom 36 = .ok (.ireturn, 1) := by decide +kernel
theorem dX5_takenFrom_37 : decode cX5_takenFrom 37 = .ok (.aload_n 0, 1) := by decide +kernel
theorem dX5_takenFrom_38 : decode cX5_takenFrom 38 = .ok (.invokevirtual 112, 3) := by decide +kernel
theorem dX5_takenFrom_41 : decode cX5_takenFrom 41 = .ok (.pop, 1) := by decide +kernel
theorem dX5_takenFrom_42 : decode cX5_takenFrom 42 = .ok (.aload_n 0, 1) := by decide +kernel
theorem dX5_takenFrom_43 : decode cX5_takenFrom 43 = .ok (.getfield 41, 3) := by decide +kernel
theorem dX5_takenFrom_46 : decode cX5_takenFrom 46 = .ok (.iload_n 1, 1) := by decide +kernel
theorem dX5_takenFrom_47 : decode cX5_takenFrom 47 = .ok (.iaload, 1) := by decide +kernel
theorem dX5_takenFrom_48 : decode cX5_takenFrom 48 = .ok (.ireturn, 1) := by decide +kernel
theorem dX5_used_0 : decode cX5_used 0 = .ok (.aload_n 0, 1) := by decide +kernel
theorem dX5_used_1 : decode cX5_used 1 = .ok (.aload_n 0, 1) := by decide +kernel
theorem dX5_used_2 : decode cX5_used 2 = .ok (.invokevirtual 108, 3) := by decide +kernel
theorem dX5_used_5 : decode cX5_used 5 = .ok (.ifCond .eq 7, 3) := by decide +kernel
theorem dX5_used_8 : decode cX5_used 8 = .ok (.iconst 0, 1) := by decide +kernel
theorem dX5_used_9 : decode cX5_used 9 = .ok (.goto 4, 3) := by decide +kernel
theorem dX5_used_12 : decode cX5_used 12 = .ok (.iconst 1, 1) := by decide +kernel
theorem dX5_used_13 : decode cX5_used 13 = .ok (.putfield 56, 3) := by decide +kernel
theorem dX5_used_16 : decode cX5_used 16 = .ok (.aload_n 0, 1) := by decide +kernel
theorem dX5_used_17 : decode cX5_used 17 = .ok (.getfield 56, 3) := by decide +kernel
theorem dX5_used_20 : decode cX5_used 20 = .ok (.ifCond .le 5, 3) := by decide +kernel
theorem dX5_used_23 : decode cX5_used 23 = .ok (.iconst 0, 1) := by decide +kernel
theorem dX5_used_24 : decode cX5_used 24 = .ok (.ireturn, 1) := by decide +kernel
theorem dX5_used_25 : decode cX5_used 25 = .ok (.aload_n 0, 1) := by decide +kernel
theorem dX5_used_26 : decode cX5_used 26 = .ok (.invokevirtual 112, 3) := by decide +kernel
theorem dX5_used_29 : decode cX5_used 29 = .ok (.pop, 1) := by decide +kernel
theorem dX5_used_30 : decode cX5_used 30 = .ok (.iconst 0, 1) := by decide +kernel
theorem dX5_used_31 : decode cX5_used 31 = .ok (.istore_n 1, 1) := by decide +kernel
theorem dX5_used_32 : decode cX5_used 32 = .ok (.iconst 0, 1) := by decide +kernel
theorem dX5_used_33 : decode cX5_used 33 = .ok (.istore_n 2, 1) := by decide +kernel
theorem dX5_used_34 : decode cX5_used 34 = .ok (.iload_n 2, 1) := by decide +kernel
theorem dX5_used_35 : decode cX5_used 35 = .ok (.aload_n 0, 1) := by decide +kernel
theorem dX5_used_36 : decode cX5_used 36 = .ok (.getfield 81, 3) := by decide +kernel
theorem dX5_used_39 : decode cX5_used 39 = .ok (.if_icmp .ge 20, 3) := by decide +kernel
theorem dX5_used_42 : decode cX5_used 42 = .ok (.iload_n 1, 1) := by decide +kernel
theorem dX5_used_43 : decode cX5_used 43 = .ok (.iconst 1, 1) := by decide +kernel
theorem dX5_used_44 : decode cX5_used 44 = .ok (.aload_n 0, 1) := by decide +kernel
theorem dX5_used_45 : decode cX5_used 45 = .ok (.getfield 41, 3) := by decide +kernel
theorem dX5_used_48 : decode cX5_used 48 = .ok (.iload_n 2, 1) := by decide +kernel
theorem dX5_used_49 : decode cX5_used 49 = .ok (.iaload, 1) := by decide +kernel
theorem dX5_used_50 : decode cX5_used 50 = .ok (.ishl, 1) := by decide +kernel
theorem dX5_used_51 : decode cX5_used 51 = .ok (.ior, 1) := by decide +kernel
theorem dX5_used_52 : decode cX5_used 52 = .ok (.istore_n 1, 1) := by decide +kernel
theorem dX5_used_53 : decode cX5_used 53 = .ok (.iinc 2 1, 3) := by decide +kernel
theorem dX5_used_56 : decode cX5_used 56 = .ok (.goto (-22), 3) := by decide +kernel
theorem dX5_used_59 : decode cX5_used 59 = .ok (.iload_n 1, 1) := by decide +kernel
theorem dX5_used_60 : decode cX5_used 60 = .ok (.ireturn, 1) := by decide +kernel
theorem dX5_entityOf_0 : decode cX5_entityOf 0 = .ok (.aload_n 0, 1) := by decide +kernel
theorem dX5_entityOf_1 : decode cX5_entityOf 1 = .ok (.getfield 26, 3) := by decide +kernel
theorem dX5_entityOf_4 : decode cX5_entityOf 4 = .ok (.iload_n 1, 1) := by decide +kernel
theorem dX5_entityOf_5 : decode cX5_entityOf 5 = .ok (.iaload, 1) := by decide +kernel
theorem dX5_entityOf_6 : decode cX5_entityOf 6 = .ok (.iconst (-1), 1) := by decide +kernel
theorem dX5_entityOf_7 : decode cX5_entityOf 7 = .ok (.if_icmp .ne 7, 3) := by decide +kernel
theorem dX5_entityOf_10 : decode cX5_entityOf 10 = .ok (.iload_n 2, 1) := by decide +kernel
theorem dX5_entityOf_11 : decode cX5_entityOf 11 = .ok (.goto 14, 3) := by decide +kernel
theorem dX5_entityOf_14 : decode cX5_entityOf 14 = .ok (.aload_n 0, 1) := by decide +kernel
theorem dX5_entityOf_15 : decode cX5_entityOf 15 = .ok (.getfield 44, 3) := by decide +kernel
theorem dX5_entityOf_18 : decode cX5_entityOf 18 = .ok (.aload_n 0, 1) := by decide +kernel
theorem dX5_entityOf_19 : decode cX5_entityOf 19 = .ok (.getfield 26, 3) := by decide +kernel
theorem dX5_entityOf_22 : decode cX5_entityOf 22 = .ok (.iload_n 1, 1) := by decide +kernel
theorem dX5_entityOf_23 : decode cX5_entityOf 23 = .ok (.iaload, 1) := by decide +kernel
theorem dX5_entityOf_24 : decode cX5_entityOf 24 = .ok (.iaload, 1) := by decide +kernel
theorem dX5_entityOf_25 : decode cX5_entityOf 25 = .ok (.ireturn, 1) := by decide +kernel
theorem dX5_answers_0 : decode cX5_answers 0 = .ok (.iconst 0, 1) := by decide +kernel
theorem dX5_answers_1 : decode cX5_answers 1 = .ok (.istore_n 3, 1) := by decide +kernel
theorem dX5_answers_2 : decode cX5_answers 2 = .ok (.iload_n 3, 1) := by decide +kernel
theorem dX5_answers_3 : decode cX5_answers 3 = .ok (.aload_n 0, 1) := by decide +kernel
theorem dX5_answers_4 : decode cX5_answers 4 = .ok (.getfield 81, 3) := by decide +kernel
theorem dX5_answers_7 : decode cX5_answers 7 = .ok (.if_icmp .ge 109, 3) := by decide +kernel
theorem dX5_answers_10 : decode cX5_answers 10 = .ok (.aload_n 0, 1) := by decide +kernel
theorem dX5_answers_11 : decode cX5_answers 11 = .ok (.iload_n 3, 1) := by decide +kernel
theorem dX5_answers_12 : decode cX5_answers 12 = .ok (.iload_n 1, 1) := by decide +kernel
theorem dX5_answers_13 : decode cX5_answers 13 = .ok (.invokevirtual 115, 3) := by decide +kernel
theorem dX5_answers_16 : decode cX5_answers 16 = .ok (.istore 4, 2) := by decide +kernel
theorem dX5_answers_18 : decode cX5_answers 18 = .ok (.iload 4, 2) := by decide +kernel
theorem dX5_answers_20 : decode cX5_answers 20 = .ok (.iconst (-1), 1) := by decide +kernel
theorem dX5_answers_21 : decode cX5_answers 21 = .ok (.if_icmp .eq 20, 3) := by decide +kernel
theorem dX5_answers_24 : decode cX5_answers 24 = .ok (.iload_n 2, 1) := by decide +kernel
theorem dX5_answers_25 : decode cX5_answers 25 = .ok (.aload_n 0, 1) := by decide +kernel
theorem dX5_answers_26 : decode cX5_answers 26 = .ok (.getfield 41, 3) := by decide +kernel
theorem dX5_answers_29 : decode cX5_answers 29 = .ok (.iload_n 3, 1) := by decide +kernel
theorem dX5_answers_30 : decode cX5_answers 30 = .ok (.iaload, 1) := by decide +kernel
theorem dX5_answers_31 : decode cX5_answers 31 = .ok (.ishr, 1) := by decide +kernel
theorem dX5_answers_32 : decode cX5_answers 32 = .ok (.iconst 1, 1) := by decide +kernel
theorem dX5_answers_33 : decode cX5_answers 33 = .ok (.iand, 1) := by decide +kernel
theorem dX5_answers_34 : decode cX5_answers 34 = .ok (.ifCond .ne 7, 3) := by decide +kernel
theorem dX5_answers_37 : decode cX5_answers 37 = .ok (.iconst 1, 1) := by decide +kernel
theorem dX5_answers_38 : decode cX5_answers 38 = .ok (.goto 4, 3) := by decide +kernel
theorem dX5_answers_41 : decode cX5_answers 41 = .ok (.iconst 0, 1) := by decide +kernel
theorem dX5_answers_42 : decode cX5_answers 42 = .ok (.istore 5, 2) := by decide +kernel
theorem dX5_answers_44 : decode cX5_answers 44 = .ok (.aload_n 0, 1) := by decide +kernel
theorem dX5_answers_45 : decode cX5_answers 45 = .ok (.getfield 44, 3) := by decide +kernel
theorem dX5_answers_48 : decode cX5_answers 48 = .ok (.iload_n 3, 1) := by decide +kernel
theorem dX5_answers_49 : decode cX5_answers 49 = .ok (.iload 5, 2) := by decide +kernel
theorem dX5_answers_51 : decode cX5_answers 51 = .ok (.ifCond .eq 36, 3) := by decide +kernel
theorem dX5_answers_54 : decode cX5_answers 54 = .ok (.aload_n 0, 1) := by decide +kernel
theorem dX5_answers_55 : decode cX5_answers 55 = .ok (.getfield 23, 3) := by decide +kernel
theorem dX5_answers_58 : decode cX5_answers 58 = .ok (.sipush 160, 3) := by decide +kernel
theorem dX5_answers_61 : decode cX5_answers 61 = .ok (.aload_n 0, 1) := by decide +kernel
theorem dX5_answers_62 : decode cX5_answers 62 = .ok (.getfield 32, 3) := by decide +kernel
theorem dX5_answers_65 : decode cX5_answers 65 = .ok (.iload_n 3, 1) := by decide +kernel
theorem dX5_answers_66 : decode cX5_answers 66 = .ok (.iaload, 1) := by decide +kernel
theorem dX5_answers_67 : decode cX5_answers 67 = .ok (.imul, 1) := by decide +kernel
theorem dX5_answers_68 : decode cX5_answers 68 = .ok (.bipush 8, 2) := by decide +kernel
theorem dX5_answers_70 : decode cX5_answers 70 = .ok (.iload 4, 2) := by decide +kernel
theorem dX5_answers_72 : decode cX5_answers 72 = .ok (.imul, 1) := by decide +kernel
theorem dX5_answers_73 : decode cX5_answers 73 = .ok (.iadd, 1) := by decide +kernel
theorem dX5_answers_74 : decode cX5_answers 74 = .ok (.aload_n 0, 1) := by decide +kernel
theorem dX5_answers_75 : decode cX5_answers 75 = .ok (.getfield 29, 3) := by decide +kernel
theorem dX5_answers_78 : decode cX5_answers 78 = .ok (.iload_n 3, 1) := by decide +kernel
theorem dX5_answers_79 : decode cX5_answers 79 = .ok (.iaload, 1) := by decide +kernel
theorem dX5_answers_80 : decode cX5_answers 80 = .ok (.iadd, 1) := by decide +kernel
theorem dX5_answers_81 : decode cX5_answers 81 = .ok (.iaload, 1) := by decide +kernel
theorem dX5_answers_82 : decode cX5_answers 82 = .ok (.iconst 1, 1) := by decide +kernel
theorem dX5_answers_83 : decode cX5_answers 83 = .ok (.isub, 1) := by decide +kernel
theorem dX5_answers_84 : decode cX5_answers 84 = .ok (.goto 4, 3) := by decide +kernel
theorem dX5_answers_87 : decode cX5_answers 87 = .ok (.iconst (-1), 1) := by decide +kernel
theorem dX5_answers_88 : decode cX5_answers 88 = .ok (.iastore, 1) := by decide +kernel
theorem dX5_answers_89 : decode cX5_answers 89 = .ok (.aload_n 0, 1) := by decide +kernel
theorem dX5_answers_90 : decode cX5_answers 90 = .ok (.getfield 47, 3) := by decide +kernel
theorem dX5_answers_93 : decode cX5_answers 93 = .ok (.iload_n 3, 1) := by decide +kernel
theorem dX5_answers_94 : decode cX5_answers 94 = .ok (.aload_n 0, 1) := by decide +kernel
theorem dX5_answers_95 : decode cX5_answers 95 = .ok (.getfield 44, 3) := by decide +kernel
theorem dX5_answers_98 : decode cX5_answers 98 = .ok (.iload_n 3, 1) := by decide +kernel
theorem dX5_answers_99 : decode cX5_answers 99 = .ok (.iaload, 1) := by decide +kernel
theorem dX5_answers_100 : decode cX5_answers 100 = .ok (.iconst (-1), 1) := by decide +kernel
theorem dX5_answers_101 : decode cX5_answers 101 = .ok (.if_icmp .ne 7, 3) := by decide +kernel
theorem dX5_answers_104 : decode cX5_answers 104 = .ok (.iconst 1, 1) := by decide +kernel
theorem dX5_answers_105 : decode cX5_answers 105 = .ok (.goto 4, 3) := by decide +kernel
theorem dX5_answers_108 : decode cX5_answers 108 = .ok (.iconst 0, 1) := by decide +kernel
theorem dX5_answers_109 : decode cX5_answers 109 = .ok (.bastore, 1) := by decide +kernel
theorem dX5_answers_110 : decode cX5_answers 110 = .ok (.iinc 3 1, 3) := by decide +kernel
theorem dX5_answers_113 : decode cX5_answers 113 = .ok (.goto (-111), 3) := by decide +kernel
theorem dX5_answers_116 : decode cX5_answers 116 = .ok (.aload_n 0, 1) := by decide +kernel
theorem dX5_answers_117 : decode cX5_answers 117 = .ok (.iconst 0, 1) := by decide +kernel
theorem dX5_answers_118 : decode cX5_answers 118 = .ok (.putfield 118, 3) := by decide +kernel
theorem dX5_answers_121 : decode cX5_answers 121 = .ok (.aload_n 0, 1) := by decide +kernel
theorem dX5_answers_122 : decode cX5_answers 122 = .ok (.getfield 81, 3) := by decide +kernel
theorem dX5_answers_125 : decode cX5_answers 125 = .ok (.iconst 1, 1) := by decide +kernel
theorem dX5_answers_126 : decode cX5_answers 126 = .ok (.isub, 1) := by decide +kernel
theorem dX5_answers_127 : decode cX5_answers 127 = .ok (.istore_n 3, 1) := by decide +kernel
theorem dX5_answers_128 : decode cX5_answers 128 = .ok (.iload_n 3, 1) := by decide +kernel
theorem dX5_answers_129 : decode cX5_answers 129 = .ok (.ifCond .lt 61, 3) := by decide +kernel
theorem dX5_answers_132 : decode cX5_answers 132 = .ok (.aload_n 0, 1) := by decide +kernel
theorem dX5_answers_133 : decode cX5_answers 133 = .ok (.getfield 47, 3) := by decide +kernel
theorem dX5_answers_136 : decode cX5_answers 136 = .ok (.iload_n 3, 1) := by decide +kernel
theorem dX5_answers_137 : decode cX5_answers 137 = .ok (.baload, 1) := by decide +kernel
theorem dX5_answers_138 : decode cX5_answers 138 = .ok (.ifCond .eq 46, 3) := by decide +kernel
theorem dX5_answers_141 : decode cX5_answers 141 = .ok (.aload_n 0, 1) := by decide +kernel
theorem dX5_answers_142 : decode cX5_answers 142 = .ok (.getfield 16, 3) := by decide +kernel
theorem dX5_answers_145 : decode cX5_answers 145 = .ok (.aload_n 0, 1) := by decide +kernel
theorem dX5_answers_146 : decode cX5_answers 146 = .ok (.iload_n 3, 1) := by decide +kernel
theorem dX5_answers_147 : decode cX5_answers 147 = .ok (.invokevirtual 90, 3) := by decide +kernel
theorem dX5_answers_150 : decode cX5_answers 150 = .ok (.baload, 1) := by decide +kernel
theorem dX5_answers_151 : decode cX5_answers 151 = .ok (.ifCond .eq 33, 3) := by decide +kernel
theorem dX5_answers_154 : decode cX5_answers 154 = .ok (.aload_n 0, 1) := by decide +kernel
theorem dX5_answers_155 : decode cX5_answers 155 = .ok (.getfield 26, 3) := by decide +kernel
theorem dX5_answers_158 : decode cX5_answers 158 = .ok (.iload_n 3, 1) := by decide +kernel
theorem dX5_answers_159 : decode cX5_answers 159 = .ok (.iaload, 1) := by decide +kernel
theorem dX5_answers_160 : decode cX5_answers 160 = .ok (.iconst (-1), 1) := by decide +kernel
theorem dX5_answers_161 : decode cX5_answers 161 = .ok (.if_icmp .ne 11, 3) := by decide +kernel
theorem dX5_answers_164 : decode cX5_answers 164 = .ok (.aload_n 0, 1) := by decide +kernel
theorem dX5_answers_165 : decode cX5_answers 165 = .ok (.iconst 1, 1) := by decide +kernel
theorem dX5_answers_166 : decode cX5_answers 166 = .ok (.putfield 118, 3) := by decide +kernel
theorem dX5_answers_169 : decode cX5_answers 169 = .ok (.goto 15, 3) := by decide +kernel
theorem dX5_answers_172 : decode cX5_answers 172 = .ok (.aload_n 0, 1) := by decide +kernel
theorem dX5_answers_173 : decode cX5_answers 173 = .ok (.getfield 47, 3) := by decide +kernel
theorem dX5_answers_176 : decode cX5_answers 176 = .ok (.aload_n 0, 1) := by decide +kernel
theorem dX5_answers_177 : decode cX5_answers 177 = .ok (.getfield 26, 3) := by decide +kernel
theorem dX5_answers_180 : decode cX5_answers 180 = .ok (.iload_n 3, 1) := by decide +kernel
theorem dX5_answers_181 : decode cX5_answers 181 = .ok (.iaload, 1) := by decide +kernel
theorem dX5_answers_182 : decode cX5_answers 182 = .ok (.iconst 1, 1) := by decide +kernel
theorem dX5_answers_183 : decode cX5_answers 183 = .ok (.bastore, 1) := by decide +kernel
theorem dX5_answers_184 : decode cX5_answers 184 = .ok (.iinc 3 (-1), 3) := by decide +kernel
theorem dX5_answers_187 : decode cX5_answers 187 = .ok (.goto (-59), 3) := by decide +kernel
theorem dX5_answers_190 : decode cX5_answers 190 = .ok (.iconst 0, 1) := by decide +kernel
theorem dX5_answers_191 : decode cX5_answers 191 = .ok (.istore_n 3, 1) := by decide +kernel
theorem dX5_answers_192 : decode cX5_answers 192 = .ok (.iload_n 3, 1) := by decide +kernel
theorem dX5_answers_193 : decode cX5_answers 193 = .ok (.aload_n 0, 1) := by decide +kernel
theorem dX5_answers_194 : decode cX5_answers 194 = .ok (.getfield 81, 3) := by decide +kernel
theorem dX5_answers_197 : decode cX5_answers 197 = .ok (.if_icmp .ge 89, 3) := by decide +kernel
theorem dX5_answers_200 : decode cX5_answers 200 = .ok (.aload_n 0, 1) := by decide +kernel
theorem dX5_answers_201 : decode cX5_answers 201 = .ok (.getfield 26, 3) := by decide +kernel
theorem dX5_answers_204 : decode cX5_answers 204 = .ok (.iload_n 3, 1) := by decide +kernel
theorem dX5_answers_205 : decode cX5_answers 205 = .ok (.iaload, 1) := by decide +kernel
theorem dX5_answers_206 : decode cX5_answers 206 = .ok (.iconst (-1), 1) := by decide +kernel
theorem dX5_answers_207 : decode cX5_answers 207 = .ok (.if_icmp .ne 10, 3) := by decide +kernel
theorem dX5_answers_210 : decode cX5_answers 210 = .ok (.aload_n 0, 1) := by decide +kernel
theorem dX5_answers_211 : decode cX5_answers 211 = .ok (.getfield 118, 3) := by decide +kernel
theorem dX5_answers_214 : decode cX5_answers 214 = .ok (.goto 14, 3) := by decide +kernel
theorem dX5_answers_217 : decode cX5_answers 217 = .ok (.aload_n 0, 1) := by decide +kernel
theorem dX5_answers_218 : decode cX5_answers 218 = .ok (.getfield 47, 3) := by decide +kernel
theorem dX5_answers_221 : decode cX5_answers 221 = .ok (.aload_n 0, 1) := by decide +kernel
theorem dX5_answers_222 : decode cX5_answers 222 = .ok (.getfield 26, 3) := by decide +kernel
theorem dX5_answers_225 : decode cX5_answers 225 = .ok (.iload_n 3, 1) := by decide +kernel
theorem dX5_answers_226 : decode cX5_answers 226 = .ok (.iaload, 1) := by decide +kernel
theorem dX5_answers_227 : decode cX5_answers 227 = .ok (.baload, 1) := by decide +kernel
theorem dX5_answers_228 : decode cX5_answers 228 = .ok (.istore 4, 2) := by decide +kernel
theorem dX5_answers_230 : decode cX5_answers 230 = .ok (.aload_n 0, 1) := by decide +kernel
theorem dX5_answers_231 : decode cX5_answers 231 = .ok (.getfield 47, 3) := by decide +kernel
theorem dX5_answers_234 : decode cX5_answers 234 = .ok (.iload_n 3, 1) := by decide +kernel
theorem dX5_answers_235 : decode cX5_answers 235 = .ok (.aload_n 0, 1) := by decide +kernel
theorem dX5_answers_236 : decode cX5_answers 236 = .ok (.getfield 47, 3) := by decide +kernel
theorem dX5_answers_239 : decode cX5_answers 239 = .ok (.iload_n 3, 1) := by decide +kernel
theorem dX5_answers_240 : decode cX5_answers 240 = .ok (.baload, 1) := by decide +kernel
theorem dX5_answers_241 : decode cX5_answers 241 = .ok (.ifCond .ne 8, 3) := by decide +kernel
theorem dX5_answers_244 : decode cX5_answers 244 = .ok (.iload 4, 2) := by decide +kernel
theorem dX5_answers_246 : decode cX5_answers 246 = .ok (.ifCond .eq 7, 3) := by decide +kernel
theorem dX5_answers_249 : decode cX5_answers 249 = .ok (.iconst 1, 1) := by decide +kernel
theorem dX5_answers_250 : decode cX5_answers 250 = .ok (.goto 4, 3) := by decide +kernel
theorem dX5_answers_253 : decode cX5_answers 253 = .ok (.iconst 0, 1) := by decide +kernel
theorem dX5_answers_254 : decode cX5_answers 254 = .ok (.bastore, 1) := by decide +kernel
theorem dX5_answers_255 : decode cX5_answers 255 = .ok (.aload_n 0, 1) := by decide +kernel
theorem dX5_answers_256 : decode cX5_answers 256 = .ok (.getfield 50, 3) := by decide +kernel
theorem dX5_answers_259 : decode cX5_answers 259 = .ok (.iload_n 3, 1) := by decide +kernel
theorem dX5_answers_260 : decode cX5_answers 260 = .ok (.aload_n 0, 1) := by decide +kernel
theorem dX5_answers_261 : decode cX5_answers 261 = .ok (.getfield 47, 3) := by decide +kernel
theorem dX5_answers_264 : decode cX5_answers 264 = .ok (.iload_n 3, 1) := by decide +kernel
theorem dX5_answers_265 : decode cX5_answers 265 = .ok (.baload, 1) := by decide +kernel
theorem dX5_answers_266 : decode cX5_answers 266 = .ok (.ifCond .eq 7, 3) := by decide +kernel
theorem dX5_answers_269 : decode cX5_answers 269 = .ok (.iconst (-1), 1) := by decide +kernel
theorem dX5_answers_270 : decode cX5_answers 270 = .ok (.goto 9, 3) := by decide +kernel
theorem dX5_answers_273 : decode cX5_answers 273 = .ok (.aload_n 0, 1) := by decide +kernel
theorem dX5_answers_274 : decode cX5_answers 274 = .ok (.getfield 44, 3) := by decide +kernel
theorem dX5_answers_277 : decode cX5_answers 277 = .ok (.iload_n 3, 1) := by decide +kernel
theorem dX5_answers_278 : decode cX5_answers 278 = .ok (.iaload, 1) := by decide +kernel
theorem dX5_answers_279 : decode cX5_answers 279 = .ok (.iastore, 1) := by decide +kernel
theorem dX5_answers_280 : decode cX5_answers 280 = .ok (.iinc 3 1, 3) := by decide +kernel
theorem dX5_answers_283 : decode cX5_answers 283 = .ok (.goto (-91), 3) := by decide +kernel
theorem dX5_answers_286 : decode cX5_answers 286 = .ok (.return_, 1) := by decide +kernel
theorem dX5_value_0 : decode cX5_value 0 = .ok (.aload_n 0, 1) := by decide +kernel
theorem dX5_value_1 : decode cX5_value 1 = .ok (.iload_n 1, 1) := by decide +kernel
theorem dX5_value_2 : decode cX5_value 2 = .ok (.invokestatic 75, 3) := by decide +kernel
theorem dX5_value_5 : decode cX5_value 5 = .ok (.ifCond .ne 7, 3) := by decide +kernel
theorem dX5_value_8 : decode cX5_value 8 = .ok (.iconst 1, 1) := by decide +kernel
theorem dX5_value_9 : decode cX5_value 9 = .ok (.goto 27, 3) := by decide +kernel
theorem dX5_value_12 : decode cX5_value 12 = .ok (.aload_n 0, 1) := by decide +kernel
theorem dX5_value_13 : decode cX5_value 13 = .ok (.iload_n 2, 1) := by decide +kernel
theorem dX5_value_14 : decode cX5_value 14 = .ok (.invokevirtual 87, 3) := by decide +kernel
theorem dX5_value_17 : decode cX5_value 17 = .ok (.ifCond .ne 7, 3) := by decide +kernel
theorem dX5_value_20 : decode cX5_value 20 = .ok (.iconst 2, 1) := by decide +kernel
theorem dX5_value_21 : decode cX5_value 21 = .ok (.goto 15, 3) := by decide +kernel
theorem dX5_value_24 : decode cX5_value 24 = .ok (.aload_n 0, 1) := by decide +kernel
theorem dX5_value_25 : decode cX5_value 25 = .ok (.invokevirtual 108, 3) := by decide +kernel
theorem dX5_value_28 : decode cX5_value 28 = .ok (.ifCond .eq 7, 3) := by decide +kernel
theorem dX5_value_31 : decode cX5_value 31 = .ok (.iconst 0, 1) := by decide +kernel
theorem dX5_value_32 : decode cX5_value 32 = .ok (.goto 4, 3) := by decide +kernel
theorem dX5_value_35 : decode cX5_value 35 = .ok (.iconst 3, 1) := by decide +kernel
theorem dX5_value_36 : decode cX5_value 36 = .ok (.putfield 56, 3) := by decide +kernel
theorem dX5_value_39 : decode cX5_value 39 = .ok (.aload_n 0, 1) := by decide +kernel
theorem dX5_value_40 : decode cX5_value 40 = .ok (.getfield 56, 3) := by decide +kernel
theorem dX5_value_43 : decode cX5_value 43 = .ok (.ifCond .le 5, 3) := by decide +kernel
theorem dX5_value_46 : decode cX5_value 46 = .ok (.iconst 0, 1) := by decide +kernel
theorem dX5_value_47 : decode cX5_value 47 = .ok (.ireturn, 1) := by decide +kernel
theorem dX5_value_48 : decode cX5_value 48 = .ok (.aload_n 0, 1) := by decide +kernel
theorem dX5_value_49 : decode cX5_value 49 = .ok (.invokevirtual 112, 3) := by decide +kernel
theorem dX5_value_52 : decode cX5_value 52 = .ok (.pop, 1) := by decide +kernel
theorem dX5_value_53 : decode cX5_value 53 = .ok (.aload_n 0, 1) := by decide +kernel
theorem dX5_value_54 : decode cX5_value 54 = .ok (.iload_n 1, 1) := by decide +kernel
theorem dX5_value_55 : decode cX5_value 55 = .ok (.aload_n 0, 1) := by decide +kernel
theorem dX5_value_56 : decode cX5_value 56 = .ok (.getfield 78, 3) := by decide +kernel
theorem dX5_value_59 : decode cX5_value 59 = .ok (.invokevirtual 122, 3) := by decide +kernel
theorem dX5_value_62 : decode cX5_value 62 = .ok (.aload_n 0, 1) := by decide +kernel
theorem dX5_value_63 : decode cX5_value 63 = .ok (.getfield 50, 3) := by decide +kernel
theorem dX5_value_66 : decode cX5_value 66 = .ok (.iload_n 2, 1) := by decide +kernel
theorem dX5_value_67 : decode cX5_value 67 = .ok (.iaload, 1) := by decide +kernel
theorem dX5_value_68 : decode cX5_value 68 = .ok (.ireturn, 1) := by decide +kernel
theorem dX5_isMissing_0 : decode cX5_isMissing 0 = .ok (.aload_n 0, 1) := by decide +kernel
theorem dX5_isMissing_1 : decode cX5_isMissing 1 = .ok (.iload_n 1, 1) := by decide +kernel
theorem dX5_isMissing_2 : decode cX5_isMissing 2 = .ok (.invokestatic 75, 3) := by decide +kernel
theorem dX5_isMissing_5 : decode cX5_isMissing 5 = .ok (.ifCond .ne 7, 3) := by decide +kernel
theorem dX5_isMissing_8 : decode cX5_isMissing 8 = .ok (.iconst 1, 1) := by decide +kernel
theorem dX5_isMissing_9 : decode cX5_isMissing 9 = .ok (.goto 15, 3) := by decide +kernel
theorem dX5_isMissing_12 : decode cX5_isMissing 12 = .ok (.aload_n 0, 1) := by decide +kernel
theorem dX5_isMissing_13 : decode cX5_isMissing 13 = .ok (.invokevirtual 108, 3) := by decide +kernel
theorem dX5_isMissing_16 : decode cX5_isMissing 16 = .ok (.ifCond .eq 7, 3) := by decide +kernel
theorem dX5_isMissing_19 : decode cX5_isMissing 19 = .ok (.iconst 0, 1) := by decide +kernel
theorem dX5_isMissing_20 : decode cX5_isMissing 20 = .ok (.goto 4, 3) := by decide +kernel
theorem dX5_isMissing_23 : decode cX5_isMissing 23 = .ok (.iconst 2, 1) := by decide +kernel
theorem dX5_isMissing_24 : decode cX5_isMissing 24 = .ok (.putfield 56, 3) := by decide +kernel
theorem dX5_isMissing_27 : decode cX5_isMissing 27 = .ok (.aload_n 0, 1) := by decide +kernel
theorem dX5_isMissing_28 : decode cX5_isMissing 28 = .ok (.getfield 56, 3) := by decide +kernel
theorem dX5_isMissing_31 : decode cX5_isMissing 31 = .ok (.ifCond .le 5, 3) := by decide +kernel
theorem dX5_isMissing_34 : decode cX5_isMissing 34 = .ok (.iconst 0, 1) := by decide +kernel
theorem dX5_isMissing_35 : decode cX5_isMissing 35 = .ok (.ireturn, 1) := by decide +kernel
theorem dX5_isMissing_36 : decode cX5_isMissing 36 = .ok (.aload_n 0, 1) := by decide +kernel
theorem dX5_isMissing_37 : decode cX5_isMissing 37 = .ok (.invokevirtual 112, 3) := by decide +kernel
theorem dX5_isMissing_40 : decode cX5_isMissing 40 = .ok (.pop, 1) := by decide +kernel
theorem dX5_isMissing_41 : decode cX5_isMissing 41 = .ok (.aload_n 0, 1) := by decide +kernel
theorem dX5_isMissing_42 : decode cX5_isMissing 42 = .ok (.iload_n 1, 1) := by decide +kernel
theorem dX5_isMissing_43 : decode cX5_isMissing 43 = .ok (.aload_n 0, 1) := by decide +kernel
theorem dX5_isMissing_44 : decode cX5_isMissing 44 = .ok (.getfield 78, 3) := by decide +kernel
theorem dX5_isMissing_47 : decode cX5_isMissing 47 = .ok (.invokevirtual 122, 3) := by decide +kernel
theorem dX5_isMissing_50 : decode cX5_isMissing 50 = .ok (.aload_n 0, 1) := by decide +kernel
theorem dX5_isMissing_51 : decode cX5_isMissing 51 = .ok (.getfield 118, 3) := by decide +kernel
theorem dX5_isMissing_54 : decode cX5_isMissing 54 = .ok (.ireturn, 1) := by decide +kernel
theorem dX5_faults_0 : decode cX5_faults 0 = .ok (.aload_n 0, 1) := by decide +kernel
theorem dX5_faults_1 : decode cX5_faults 1 = .ok (.iload_n 1, 1) := by decide +kernel
theorem dX5_faults_2 : decode cX5_faults 2 = .ok (.invokestatic 75, 3) := by decide +kernel
theorem dX5_faults_5 : decode cX5_faults 5 = .ok (.ifCond .ne 7, 3) := by decide +kernel
theorem dX5_faults_8 : decode cX5_faults 8 = .ok (.iconst 1, 1) := by decide +kernel
theorem dX5_faults_9 : decode cX5_faults 9 = .ok (.goto 15, 3) := by decide +kernel
theorem dX5_faults_12 : decode cX5_faults 12 = .ok (.aload_n 0, 1) := by decide +kernel
theorem dX5_faults_13 : decode cX5_faults 13 = .ok (.invokevirtual 108, 3) := by decide +kernel
theorem dX5_faults_16 : decode cX5_faults 16 = .ok (.ifCond .eq 7, 3) := by decide +kernel
theorem dX5_faults_19 : decode cX5_faults 19 = .ok (.iconst 0, 1) := by decide +kernel
theorem dX5_faults_20 : decode cX5_faults 20 = .ok (.goto 4, 3) := by decide +kernel
theorem dX5_faults_23 : decode cX5_faults 23 = .ok (.iconst 2, 1) := by decide +kernel
theorem dX5_faults_24 : decode cX5_faults 24 = .ok (.putfield 56, 3) := by decide +kernel
theorem dX5_faults_27 : decode cX5_faults 27 = .ok (.aload_n 0, 1) := by decide +kernel
theorem dX5_faults_28 : decode cX5_faults 28 = .ok (.getfield 56, 3) := by decide +kernel
theorem dX5_faults_31 : decode cX5_faults 31 = .ok (.ifCond .le 5, 3) := by decide +kernel
theorem dX5_faults_34 : decode cX5_faults 34 = .ok (.iconst 0, 1) := by decide +kernel
theorem dX5_faults_35 : decode cX5_faults 35 = .ok (.ireturn, 1) := by decide +kernel
theorem dX5_faults_36 : decode cX5_faults 36 = .ok (.aload_n 0, 1) := by decide +kernel
theorem dX5_faults_37 : decode cX5_faults 37 = .ok (.invokevirtual 112, 3) := by decide +kernel
theorem dX5_faults_40 : decode cX5_faults 40 = .ok (.pop, 1) := by decide +kernel
theorem dX5_faults_41 : decode cX5_faults 41 = .ok (.aload_n 0, 1) := by decide +kernel
theorem dX5_faults_42 : decode cX5_faults 42 = .ok (.iload_n 1, 1) := by decide +kernel
theorem dX5_faults_43 : decode cX5_faults 43 = .ok (.aload_n 0, 1) := by decide +kernel
theorem dX5_faults_44 : decode cX5_faults 44 = .ok (.getfield 78, 3) := by decide +kernel
theorem dX5_faults_47 : decode cX5_faults 47 = .ok (.invokevirtual 122, 3) := by decide +kernel
theorem dX5_faults_50 : decode cX5_faults 50 = .ok (.iconst 0, 1) := by decide +kernel
theorem dX5_faults_51 : decode cX5_faults 51 = .ok (.istore_n 2, 1) := by decide +kernel
theorem dX5_faults_52 : decode cX5_faults 52 = .ok (.iconst 0, 1) := by decide +kernel
theorem dX5_faults_53 : decode cX5_faults 53 = .ok (.istore_n 3, 1) := by decide +kernel
theorem dX5_faults_54 : decode cX5_faults 54 = .ok (.iload_n 3, 1) := by decide +kernel
theorem dX5_faults_55 : decode cX5_faults 55 = .ok (.aload_n 0, 1) := by decide +kernel
theorem dX5_faults_56 : decode cX5_faults 56 = .ok (.getfield 81, 3) := by decide +kernel
theorem dX5_faults_59 : decode cX5_faults 59 = .ok (.if_icmp .ge 37, 3) := by decide +kernel
theorem dX5_faults_62 : decode cX5_faults 62 = .ok (.iload_n 2, 1) := by decide +kernel
theorem dX5_faults_63 : decode cX5_faults 63 = .ok (.aload_n 0, 1) := by decide +kernel
theorem dX5_faults_64 : decode cX5_faults 64 = .ok (.iload_n 3, 1) := by decide +kernel
theorem dX5_faults_65 : decode cX5_faults 65 = .ok (.iload_n 1, 1) := by decide +kernel
theorem dX5_faults_66 : decode cX5_faults 66 = .ok (.invokevirtual 115, 3) := by decide +kernel
theorem dX5_faults_69 : decode cX5_faults 69 = .ok (.iconst (-1), 1) := by decide +kernel
theorem dX5_faults_70 : decode cX5_faults 70 = .ok (.if_icmp .eq 17, 3) := by decide +kernel
theorem dX5_faults_73 : decode cX5_faults 73 = .ok (.aload_n 0, 1) := by decide +kernel
theorem dX5_faults_74 : decode cX5_faults 74 = .ok (.getfield 44, 3) := by decide +kernel
theorem dX5_faults_77 : decode cX5_faults 77 = .ok (.iload_n 3, 1) := by decide +kernel
theorem dX5_faults_78 : decode cX5_faults 78 = .ok (.iaload, 1) := by decide +kernel
theorem dX5_faults_79 : decode cX5_faults 79 = .ok (.iconst (-1), 1) := by decide +kernel
theorem dX5_faults_80 : decode cX5_faults 80 = .ok (.if_icmp .ne 7, 3) := by decide +kernel
theorem dX5_faults_83 : decode cX5_faults 83 = .ok (.iconst 1, 1) := by decide +kernel
theorem dX5_faults_84 : decode cX5_faults 84 = .ok (.goto 4, 3) := by decide +kernel
theorem dX5_faults_87 : decode cX5_faults 87 = .ok (.iconst 0, 1) := by decide +kernel
theorem dX5_faults_88 : decode cX5_faults 88 = .ok (.iadd, 1) := by decide +kernel
theorem dX5_faults_89 : decode cX5_faults 89 = .ok (.istore_n 2, 1) := by decide +kernel
theorem dX5_faults_90 : decode cX5_faults 90 = .ok (.iinc 3 1, 3) := by decide +kernel
theorem dX5_faults_93 : decode cX5_faults 93 = .ok (.goto (-39), 3) := by decide +kernel
theorem dX5_faults_96 : decode cX5_faults 96 = .ok (.iload_n 2, 1) := by decide +kernel
theorem dX5_faults_97 : decode cX5_faults 97 = .ok (.ireturn, 1) := by decide +kernel
theorem dX5_loaded_0 : decode cX5_loaded 0 = .ok (.aload_n 0, 1) := by decide +kernel
theorem dX5_loaded_1 : decode cX5_loaded 1 = .ok (.iload_n 2, 1) := by decide +kernel
theorem dX5_loaded_2 : decode cX5_loaded 2 = .ok (.invokestatic 75, 3) := by decide +kernel
theorem dX5_loaded_5 : decode cX5_loaded 5 = .ok (.ifCond .eq 13, 3) := by decide +kernel
theorem dX5_loaded_8 : decode cX5_loaded 8 = .ok (.iload_n 3, 1) := by decide +kernel
theorem dX5_loaded_9 : decode cX5_loaded 9 = .ok (.iload_n 2, 1) := by decide +kernel
theorem dX5_loaded_10 : decode cX5_loaded 10 = .ok (.bipush 19, 2) := by decide +kernel
theorem dX5_loaded_12 : decode cX5_loaded 12 = .ok (.invokestatic 60, 3) := by decide +kernel
theorem dX5_loaded_15 : decode cX5_loaded 15 = .ok (.ifCond .ne 7, 3) := by decide +kernel
theorem dX5_loaded_18 : decode cX5_loaded 18 = .ok (.iconst 1, 1) := by decide +kernel
theorem dX5_loaded_19 : decode cX5_loaded 19 = .ok (.goto 16, 3) := by decide +kernel
theorem dX5_loaded_22 : decode cX5_loaded 22 = .ok (.aload_n 0, 1) := by decide +kernel
theorem dX5_loaded_23 : decode cX5_loaded 23 = .ok (.iload_n 1, 1) := by decide +kernel
theorem dX5_loaded_24 : decode cX5_loaded 24 = .ok (.invokevirtual 87, 3) := by decide +kernel
theorem dX5_loaded_27 : decode cX5_loaded 27 = .ok (.ifCond .ne 7, 3) := by decide +kernel
theorem dX5_loaded_30 : decode cX5_loaded 30 = .ok (.iconst 2, 1) := by decide +kernel
theorem dX5_loaded_31 : decode cX5_loaded 31 = .ok (.goto 4, 3) := by decide +kernel
theorem dX5_loaded_34 : decode cX5_loaded 34 = .ok (.iconst 0, 1) := by decide +kernel
theorem dX5_loaded_35 : decode cX5_loaded 35 = .ok (.putfield 56, 3) := by decide +kernel
theorem dX5_loaded_38 : decode cX5_loaded 38 = .ok (.aload_n 0, 1) := by decide +kernel
theorem dX5_loaded_39 : decode cX5_loaded 39 = .ok (.getfield 56, 3) := by decide +kernel
theorem dX5_loaded_42 : decode cX5_loaded 42 = .ok (.ifCond .ne 33, 3) := by decide +kernel
theorem dX5_loaded_45 : decode cX5_loaded 45 = .ok (.aload_n 0, 1) := by decide +kernel
theorem dX5_loaded_46 : decode cX5_loaded 46 = .ok (.aload_n 0, 1) := by decide +kernel
theorem dX5_loaded_47 : decode cX5_loaded 47 = .ok (.getfield 13, 3) := by decide +kernel
theorem dX5_loaded_50 : decode cX5_loaded 50 = .ok (.aload_n 0, 1) := by decide +kernel
theorem dX5_loaded_51 : decode cX5_loaded 51 = .ok (.iload_n 1, 1) := by decide +kernel
theorem dX5_loaded_52 : decode cX5_loaded 52 = .ok (.invokevirtual 90, 3) := by decide +kernel
theorem dX5_loaded_55 : decode cX5_loaded 55 = .ok (.iaload, 1) := by decide +kernel
theorem dX5_loaded_56 : decode cX5_loaded 56 = .ok (.iconst (-1), 1) := by decide +kernel
theorem dX5_loaded_57 : decode cX5_loaded 57 = .ok (.if_icmp .eq 10, 3) := by decide +kernel
theorem dX5_loaded_60 : decode cX5_loaded 60 = .ok (.aload_n 0, 1) := by decide +kernel
theorem dX5_loaded_61 : decode cX5_loaded 61 = .ok (.invokevirtual 108, 3) := by decide +kernel
theorem dX5_loaded_64 : decode cX5_loaded 64 = .ok (.ifCond .ne 7, 3) := by decide +kernel
theorem dX5_loaded_67 : decode cX5_loaded 67 = .ok (.iconst 3, 1) := by decide +kernel
theorem dX5_loaded_68 : decode cX5_loaded 68 = .ok (.goto 4, 3) := by decide +kernel
theorem dX5_loaded_71 : decode cX5_loaded 71 = .ok (.iconst 0, 1) := by decide +kernel
theorem dX5_loaded_72 : decode cX5_loaded 72 = .ok (.putfield 56, 3) := by decide +kernel
theorem dX5_loaded_75 : decode cX5_loaded 75 = .ok (.aload_n 0, 1) := by decide +kernel
theorem dX5_loaded_76 : decode cX5_loaded 76 = .ok (.getfield 56, 3) := by decide +kernel
theorem dX5_loaded_79 : decode cX5_loaded 79 = .ok (.ifCond .le 5, 3) := by decide +kernel
theorem dX5_loaded_82 : decode cX5_loaded 82 = .ok (.iconst 0, 1) := by decide +kernel
theorem dX5_loaded_83 : decode cX5_loaded 83 = .ok (.ireturn, 1) := by decide +kernel
theorem dX5_loaded_84 : decode cX5_loaded 84 = .ok (.aload_n 0, 1) := by decide +kernel
theorem dX5_loaded_85 : decode cX5_loaded 85 = .ok (.invokevirtual 112, 3) := by decide +kernel
theorem dX5_loaded_88 : decode cX5_loaded 88 = .ok (.pop, 1) := by decide +kernel
theorem dX5_loaded_89 : decode cX5_loaded 89 = .ok (.iconst 0, 1) := by decide +kernel
theorem dX5_loaded_90 : decode cX5_loaded 90 = .ok (.istore 4, 2) := by decide +kernel
theorem dX5_loaded_92 : decode cX5_loaded 92 = .ok (.iload_n 2, 1) := by decide +kernel
theorem dX5_loaded_93 : decode cX5_loaded 93 = .ok (.istore 5, 2) := by decide +kernel
theorem dX5_loaded_95 : decode cX5_loaded 95 = .ok (.iload 5, 2) := by decide +kernel
theorem dX5_loaded_97 : decode cX5_loaded 97 = .ok (.iload_n 3, 1) := by decide +kernel
theorem dX5_loaded_98 : decode cX5_loaded 98 = .ok (.if_icmp .gt 46, 3) := by decide +kernel
theorem dX5_loaded_101 : decode cX5_loaded 101 = .ok (.aload_n 0, 1) := by decide +kernel
theorem dX5_loaded_102 : decode cX5_loaded 102 = .ok (.iload 5, 2) := by decide +kernel
theorem dX5_loaded_104 : decode cX5_loaded 104 = .ok (.aload_n 0, 1) := by decide +kernel
theorem dX5_loaded_105 : decode cX5_loaded 105 = .ok (.getfield 78, 3) := by decide +kernel
theorem dX5_loaded_108 : decode cX5_loaded 108 = .ok (.invokevirtual 122, 3) := by decide +kernel
theorem dX5_loaded_111 : decode cX5_loaded 111 = .ok (.iload 4, 2) := by decide +kernel
theorem dX5_loaded_113 : decode cX5_loaded 113 = .ok (.aload_n 0, 1) := by decide +kernel
theorem dX5_loaded_114 : decode cX5_loaded 114 = .ok (.getfield 50, 3) := by decide +kernel
theorem dX5_loaded_117 : decode cX5_loaded 117 = .ok (.iload_n 1, 1) := by decide +kernel
theorem dX5_loaded_118 : decode cX5_loaded 118 = .ok (.iaload, 1) := by decide +kernel
theorem dX5_loaded_119 : decode cX5_loaded 119 = .ok (.iconst (-1), 1) := by decide +kernel
theorem dX5_loaded_120 : decode cX5_loaded 120 = .ok (.if_icmp .ne 7, 3) := by decide +kernel
theorem dX5_loaded_123 : decode cX5_loaded 123 = .ok (.iconst 0, 1) := by decide +kernel
theorem dX5_loaded_124 : decode cX5_loaded 124 = .ok (.goto 11, 3) := by decide +kernel
theorem dX5_loaded_127 : decode cX5_loaded 127 = .ok (.iconst 1, 1) := by decide +kernel
theorem dX5_loaded_128 : decode cX5_loaded 128 = .ok (.aload_n 0, 1) := by decide +kernel
theorem dX5_loaded_129 : decode cX5_loaded 129 = .ok (.getfield 50, 3) := by decide +kernel
theorem dX5_loaded_132 : decode cX5_loaded 132 = .ok (.iload_n 1, 1) := by decide +kernel
theorem dX5_loaded_133 : decode cX5_loaded 133 = .ok (.iaload, 1) := by decide +kernel
theorem dX5_loaded_134 : decode cX5_loaded 134 = .ok (.ishl, 1) := by decide +kernel
theorem dX5_loaded_135 : decode cX5_loaded 135 = .ok (.ior, 1) := by decide +kernel
theorem dX5_loaded_136 : decode cX5_loaded 136 = .ok (.istore 4, 2) := by decide +kernel
theorem dX5_loaded_138 : decode cX5_loaded 138 = .ok (.iinc 5 1, 3) := by decide +kernel
theorem dX5_loaded_141 : decode cX5_loaded 141 = .ok (.goto (-46), 3) := by decide +kernel
theorem dX5_loaded_144 : decode cX5_loaded 144 = .ok (.iconst 0, 1) := by decide +kernel
theorem dX5_loaded_145 : decode cX5_loaded 145 = .ok (.istore 5, 2) := by decide +kernel
theorem dX5_loaded_147 : decode cX5_loaded 147 = .ok (.iconst 0, 1) := by decide +kernel
theorem dX5_loaded_148 : decode cX5_loaded 148 = .ok (.istore 6, 2) := by decide +kernel
theorem dX5_loaded_150 : decode cX5_loaded 150 = .ok (.iload 6, 2) := by decide +kernel
theorem dX5_loaded_152 : decode cX5_loaded 152 = .ok (.bipush 20, 2) := by decide +kernel
theorem dX5_loaded_154 : decode cX5_loaded 154 = .ok (.if_icmp .ge 21, 3) := by decide +kernel
theorem dX5_loaded_157 : decode cX5_loaded 157 = .ok (.iload 5, 2) := by decide +kernel
theorem dX5_loaded_159 : decode cX5_loaded 159 = .ok (.iload 4, 2) := by decide +kernel
theorem dX5_loaded_161 : decode cX5_loaded 161 = .ok (.iload 6, 2) := by decide +kernel
theorem dX5_loaded_163 : decode cX5_loaded 163 = .ok (.ishr, 1) := by decide +kernel
theorem dX5_loaded_164 : decode cX5_loaded 164 = .ok (.iconst 1, 1) := by decide +kernel
theorem dX5_loaded_165 : decode cX5_loaded 165 = .ok (.iand, 1) := by decide +kernel
theorem dX5_loaded_166 : decode cX5_loaded 166 = .ok (.iadd, 1) := by decide +kernel
theorem dX5_loaded_167 : decode cX5_loaded 167 = .ok (.istore 5, 2) := by decide +kernel
theorem dX5_loaded_169 : decode cX5_loaded 169 = .ok (.iinc 6 1, 3) := by decide +kernel
theorem dX5_loaded_172 : decode cX5_loaded 172 = .ok (.goto (-22), 3) := by decide +kernel
theorem dX5_loaded_175 : decode cX5_loaded 175 = .ok (.iload 5, 2) := by decide +kernel
theorem dX5_loaded_177 : decode cX5_loaded 177 = .ok (.ireturn, 1) := by decide +kernel
theorem dX5_harmed_0 : decode cX5_harmed 0 = .ok (.aload_n 0, 1) := by decide +kernel
theorem dX5_harmed_1 : decode cX5_harmed 1 = .ok (.aload_n 0, 1) := by decide +kernel
theorem dX5_harmed_2 : decode cX5_harmed 2 = .ok (.invokevirtual 108, 3) := by decide +kernel
theorem dX5_harmed_5 : decode cX5_harmed 5 = .ok (.ifCond .eq 7, 3) := by decide +kernel
theorem dX5_harmed_8 : decode cX5_harmed 8 = .ok (.iconst 0, 1) := by decide +kernel
theorem dX5_harmed_9 : decode cX5_harmed 9 = .ok (.goto 4, 3) := by decide +kernel
theorem dX5_harmed_12 : decode cX5_harmed 12 = .ok (.iconst 1, 1) := by decide +kernel
theorem dX5_harmed_13 : decode cX5_harmed 13 = .ok (.putfield 56, 3) := by decide +kernel
theorem dX5_harmed_16 : decode cX5_harmed 16 = .ok (.aload_n 0, 1) := by decide +kernel
theorem dX5_harmed_17 : decode cX5_harmed 17 = .ok (.getfield 56, 3) := by decide +kernel
theorem dX5_harmed_20 : decode cX5_harmed 20 = .ok (.ifCond .le 5, 3) := by decide +kernel
theorem dX5_harmed_23 : decode cX5_harmed 23 = .ok (.iconst 0, 1) := by decide +kernel
theorem dX5_harmed_24 : decode cX5_harmed 24 = .ok (.ireturn, 1) := by decide +kernel
theorem dX5_harmed_25 : decode cX5_harmed 25 = .ok (.aload_n 0, 1) := by decide +kernel
theorem dX5_harmed_26 : decode cX5_harmed 26 = .ok (.invokevirtual 112, 3) := by decide +kernel
theorem dX5_harmed_29 : decode cX5_harmed 29 = .ok (.pop, 1) := by decide +kernel
theorem dX5_harmed_30 : decode cX5_harmed 30 = .ok (.iconst 0, 1) := by decide +kernel
theorem dX5_harmed_31 : decode cX5_harmed 31 = .ok (.istore_n 1, 1) := by decide +kernel
theorem dX5_harmed_32 : decode cX5_harmed 32 = .ok (.iconst 0, 1) := by decide +kernel
theorem dX5_harmed_33 : decode cX5_harmed 33 = .ok (.istore_n 2, 1) := by decide +kernel
theorem dX5_harmed_34 : decode cX5_harmed 34 = .ok (.iload_n 2, 1) := by decide +kernel
theorem dX5_harmed_35 : decode cX5_harmed 35 = .ok (.bipush 20, 2) := by decide +kernel
theorem dX5_harmed_37 : decode cX5_harmed 37 = .ok (.if_icmp .ge 136, 3) := by decide +kernel
theorem dX5_harmed_40 : decode cX5_harmed 40 = .ok (.aload_n 0, 1) := by decide +kernel
theorem dX5_harmed_41 : decode cX5_harmed 41 = .ok (.iload_n 2, 1) := by decide +kernel
theorem dX5_harmed_42 : decode cX5_harmed 42 = .ok (.iconst 0, 1) := by decide +kernel
theorem dX5_harmed_43 : decode cX5_harmed 43 = .ok (.invokevirtual 122, 3) := by decide +kernel
theorem dX5_harmed_46 : decode cX5_harmed 46 = .ok (.aload_n 0, 1) := by decide +kernel
theorem dX5_harmed_47 : decode cX5_harmed 47 = .ok (.getfield 118, 3) := by decide +kernel
theorem dX5_harmed_50 : decode cX5_harmed 50 = .ok (.istore_n 3, 1) := by decide +kernel
theorem dX5_harmed_51 : decode cX5_harmed 51 = .ok (.iconst 0, 1) := by decide +kernel
theorem dX5_harmed_52 : decode cX5_harmed 52 = .ok (.istore 4, 2) := by decide +kernel
theorem dX5_harmed_54 : decode cX5_harmed 54 = .ok (.iload 4, 2) := by decide +kernel
theorem dX5_harmed_56 : decode cX5_harmed 56 = .ok (.aload_n 0, 1) := by decide +kernel
theorem dX5_harmed_57 : decode cX5_harmed 57 = .ok (.getfield 81, 3) := by decide +kernel
theorem dX5_harmed_60 : decode cX5_harmed 60 = .ok (.if_icmp .ge 23, 3) := by decide +kernel
theorem dX5_harmed_63 : decode cX5_harmed 63 = .ok (.aload_n 0, 1) := by decide +kernel
theorem dX5_harmed_64 : decode cX5_harmed 64 = .ok (.getfield 53, 3) := by decide +kernel
theorem dX5_harmed_67 : decode cX5_harmed 67 = .ok (.iload 4, 2) := by decide +kernel
theorem dX5_harmed_69 : decode cX5_harmed 69 = .ok (.aload_n 0, 1) := by decide +kernel
theorem dX5_harmed_70 : decode cX5_harmed 70 = .ok (.getfield 50, 3) := by decide +kernel
theorem dX5_harmed_73 : decode cX5_harmed 73 = .ok (.iload 4, 2) := by decide +kernel
theorem dX5_harmed_75 : decode cX5_harmed 75 = .ok (.iaload, 1) := by decide +kernel
theorem dX5_harmed_76 : decode cX5_harmed 76 = .ok (.iastore, 1) := by decide +kernel
theorem dX5_harmed_77 : decode cX5_harmed 77 = .ok (.iinc 4 1, 3) := by decide +kernel
theorem dX5_harmed_80 : decode cX5_harmed 80 = .ok (.goto (-26), 3) := by decide +kernel
theorem dX5_harmed_83 : decode cX5_harmed 83 = .ok (.aload_n 0, 1) := by decide +kernel
theorem dX5_harmed_84 : decode cX5_harmed 84 = .ok (.iload_n 2, 1) := by decide +kernel
theorem dX5_harmed_85 : decode cX5_harmed 85 = .ok (.aload_n 0, 1) := by decide +kernel
theorem dX5_harmed_86 : decode cX5_harmed 86 = .ok (.getfield 78, 3) := by decide +kernel
theorem dX5_harmed_89 : decode cX5_harmed 89 = .ok (.invokevirtual 122, 3) := by decide +kernel
theorem dX5_harmed_92 : decode cX5_harmed 92 = .ok (.iload_n 3, 1) := by decide +kernel
theorem dX5_harmed_93 : decode cX5_harmed 93 = .ok (.aload_n 0, 1) := by decide +kernel
theorem dX5_harmed_94 : decode cX5_harmed 94 = .ok (.getfield 118, 3) := by decide +kernel
theorem dX5_harmed_97 : decode cX5_harmed 97 = .ok (.if_icmp .eq 7, 3) := by decide +kernel
theorem dX5_harmed_100 : decode cX5_harmed 100 = .ok (.iconst 1, 1) := by decide +kernel
theorem dX5_harmed_101 : decode cX5_harmed 101 = .ok (.goto 4, 3) := by decide +kernel
theorem dX5_harmed_104 : decode cX5_harmed 104 = .ok (.iconst 0, 1) := by decide +kernel
theorem dX5_harmed_105 : decode cX5_harmed 105 = .ok (.istore 4, 2) := by decide +kernel
theorem dX5_harmed_107 : decode cX5_harmed 107 = .ok (.iconst 0, 1) := by decide +kernel
theorem dX5_harmed_108 : decode cX5_harmed 108 = .ok (.istore 5, 2) := by decide +kernel
theorem dX5_harmed_110 : decode cX5_harmed 110 = .ok (.iload 5, 2) := by decide +kernel
theorem dX5_harmed_112 : decode cX5_harmed 112 = .ok (.aload_n 0, 1) := by decide +kernel
theorem dX5_harmed_113 : decode cX5_harmed 113 = .ok (.getfield 81, 3) := by decide +kernel
theorem dX5_harmed_116 : decode cX5_harmed 116 = .ok (.if_icmp .ge 38, 3) := by decide +kernel
theorem dX5_harmed_119 : decode cX5_harmed 119 = .ok (.iload 4, 2) := by decide +kernel
theorem dX5_harmed_121 : decode cX5_harmed 121 = .ok (.ifCond .ne 20, 3) := by decide +kernel
theorem dX5_harmed_124 : decode cX5_harmed 124 = .ok (.aload_n 0, 1) := by decide +kernel
theorem dX5_harmed_125 : decode cX5_harmed 125 = .ok (.getfield 53, 3) := by decide +kernel
theorem dX5_harmed_128 : decode cX5_harmed 128 = .ok (.iload 5, 2) := by decide +kernel
theorem dX5_harmed_130 : decode cX5_harmed 130 = .ok (.iaload, 1) := by decide +kernel
theorem dX5_harmed_131 : decode cX5_harmed 131 = .ok (.aload_n 0, 1) := by decide +kernel
theorem dX5_harmed_132 : decode cX5_harmed 132 = .ok (.getfield 50, 3) := by decide +kernel
theorem dX5_harmed_135 : decode cX5_harmed 135 = .ok (.iload 5, 2) := by decide +kernel
theorem dX5_harmed_137 : decode cX5_harmed 137 = .ok (.iaload, 1) := by decide +kernel
theorem dX5_harmed_138 : decode cX5_harmed 138 = .ok (.if_icmp .eq 7, 3) := by decide +kernel
theorem dX5_harmed_141 : decode cX5_harmed 141 = .ok (.iconst 1, 1) := by decide +kernel
theorem dX5_harmed_142 : decode cX5_harmed 142 = .ok (.goto 4, 3) := by decide +kernel
theorem dX5_harmed_145 : decode cX5_harmed 145 = .ok (.iconst 0, 1) := by decide +kernel
theorem dX5_harmed_146 : decode cX5_harmed 146 = .ok (.istore 4, 2) := by decide +kernel
theorem dX5_harmed_148 : decode cX5_harmed 148 = .ok (.iinc 5 1, 3) := by decide +kernel
theorem dX5_harmed_151 : decode cX5_harmed 151 = .ok (.goto (-41), 3) := by decide +kernel
theorem dX5_harmed_154 : decode cX5_harmed 154 = .ok (.iload_n 1, 1) := by decide +kernel
theorem dX5_harmed_155 : decode cX5_harmed 155 = .ok (.iload 4, 2) := by decide +kernel
theorem dX5_harmed_157 : decode cX5_harmed 157 = .ok (.ifCond .eq 7, 3) := by decide +kernel
theorem dX5_harmed_160 : decode cX5_harmed 160 = .ok (.iconst 1, 1) := by decide +kernel
theorem dX5_harmed_161 : decode cX5_harmed 161 = .ok (.goto 4, 3) := by decide +kernel
theorem dX5_harmed_164 : decode cX5_harmed 164 = .ok (.iconst 0, 1) := by decide +kernel
theorem dX5_harmed_165 : decode cX5_harmed 165 = .ok (.iadd, 1) := by decide +kernel
theorem dX5_harmed_166 : decode cX5_harmed 166 = .ok (.istore_n 1, 1) := by decide +kernel
theorem dX5_harmed_167 : decode cX5_harmed 167 = .ok (.iinc 2 1, 3) := by decide +kernel
theorem dX5_harmed_170 : decode cX5_harmed 170 = .ok (.goto (-136), 3) := by decide +kernel
theorem dX5_harmed_173 : decode cX5_harmed 173 = .ok (.iload_n 1, 1) := by decide +kernel
theorem dX5_harmed_174 : decode cX5_harmed 174 = .ok (.ireturn, 1) := by decide +kernel
theorem dX5_least_0 : decode cX5_least 0 = .ok (.aload_n 0, 1) := by decide +kernel
theorem dX5_least_1 : decode cX5_least 1 = .ok (.aload_n 0, 1) := by decide +kernel
theorem dX5_least_2 : decode cX5_least 2 = .ok (.iload_n 1, 1) := by decide +kernel
theorem dX5_least_3 : decode cX5_least 3 = .ok (.invokevirtual 87, 3) := by decide +kernel
theorem dX5_least_6 : decode cX5_least 6 = .ok (.ifCond .ne 7, 3) := by decide +kernel
theorem dX5_least_9 : decode cX5_least 9 = .ok (.iconst 1, 1) := by decide +kernel
theorem dX5_least_10 : decode cX5_least 10 = .ok (.goto 15, 3) := by decide +kernel
theorem dX5_least_13 : decode cX5_least 13 = .ok (.aload_n 0, 1) := by decide +kernel
theorem dX5_least_14 : decode cX5_least 14 = .ok (.invokevirtual 108, 3) := by decide +kernel
theorem dX5_least_17 : decode cX5_least 17 = .ok (.ifCond .eq 7, 3) := by decide +kernel
theorem dX5_least_20 : decode cX5_least 20 = .ok (.iconst 0, 1) := by decide +kernel
theorem dX5_least_21 : decode cX5_least 21 = .ok (.goto 4, 3) := by decide +kernel
theorem dX5_least_24 : decode cX5_least 24 = .ok (.iconst 2, 1) := by decide +kernel
theorem dX5_least_25 : decode cX5_least 25 = .ok (.putfield 56, 3) := by decide +kernel
theorem dX5_least_28 : decode cX5_least 28 = .ok (.aload_n 0, 1) := by decide +kernel
theorem dX5_least_29 : decode cX5_least 29 = .ok (.getfield 56, 3) := by decide +kernel
theorem dX5_least_32 : decode cX5_least 32 = .ok (.ifCond .le 5, 3) := by decide +kernel
theorem dX5_least_35 : decode cX5_least 35 = .ok (.iconst 0, 1) := by decide +kernel
theorem dX5_least_36 : decode cX5_least 36 = .ok (.ireturn, 1) := by decide +kernel
theorem dX5_least_37 : decode cX5_least 37 = .ok (.aload_n 0, 1) := by decide +kernel
theorem dX5_least_38 : decode cX5_least 38 = .ok (.invokevirtual 112, 3) := by decide +kernel
theorem dX5_least_41 : decode cX5_least 41 = .ok (.pop, 1) := by decide +kernel
theorem dX5_least_42 : decode cX5_least 42 = .ok (.iconst (-1), 1) := by decide +kernel
theorem dX5_least_43 : decode cX5_least 43 = .ok (.istore_n 2, 1) := by decide +kernel
theorem dX5_least_44 : decode cX5_least 44 = .ok (.iconst 0, 1) := by decide +kernel
theorem dX5_least_45 : decode cX5_least 45 = .ok (.istore_n 3, 1) := by decide +kernel
theorem dX5_least_46 : decode cX5_least 46 = .ok (.iconst 0, 1) := by decide +kernel
theorem dX5_least_47 : decode cX5_least 47 = .ok (.istore 4, 2) := by decide +kernel
theorem dX5_least_49 : decode cX5_least 49 = .ok (.iload 4, 2) := by decide +kernel
theorem dX5_least_51 : decode cX5_least 51 = .ok (.bipush 20, 2) := by decide +kernel
theorem dX5_least_53 : decode cX5_least 53 = .ok (.if_icmp .ge 54, 3) := by decide +kernel
theorem dX5_least_56 : decode cX5_least 56 = .ok (.aload_n 0, 1) := by decide +kernel
theorem dX5_least_57 : decode cX5_least 57 = .ok (.iload 4, 2) := by decide +kernel
theorem dX5_least_59 : decode cX5_least 59 = .ok (.aload_n 0, 1) := by decide +kernel
theorem dX5_least_60 : decode cX5_least 60 = .ok (.getfield 78, 3) := by decide +kernel
theorem dX5_least_63 : decode cX5_least 63 = .ok (.invokevirtual 122, 3) := by decide +kernel
theorem dX5_least_66 : decode cX5_least 66 = .ok (.aload_n 0, 1) := by decide +kernel
theorem dX5_least_67 : decode cX5_least 67 = .ok (.getfield 50, 3) := by decide +kernel
theorem dX5_least_70 : decode cX5_least 70 = .ok (.iload_n 1, 1) := by decide +kernel
theorem dX5_least_71 : decode cX5_least 71 = .ok (.iaload, 1) := by decide +kernel
theorem dX5_least_72 : decode cX5_least 72 = .ok (.iconst (-1), 1) := by decide +kernel
theorem dX5_least_73 : decode cX5_least 73 = .ok (.if_icmp .eq 28, 3) := by decide +kernel
theorem dX5_least_76 : decode cX5_least 76 = .ok (.iload_n 2, 1) := by decide +kernel
theorem dX5_least_77 : decode cX5_least 77 = .ok (.iconst (-1), 1) := by decide +kernel
theorem dX5_least_78 : decode cX5_least 78 = .ok (.if_icmp .eq 13, 3) := by decide +kernel
theorem dX5_least_81 : decode cX5_least 81 = .ok (.aload_n 0, 1) := by decide +kernel
theorem dX5_least_82 : decode cX5_least 82 = .ok (.getfield 50, 3) := by decide +kernel
theorem dX5_least_85 : decode cX5_least 85 = .ok (.iload_n 1, 1) := by decide +kernel
theorem dX5_least_86 : decode cX5_least 86 = .ok (.iaload, 1) := by decide +kernel
theorem dX5_least_87 : decode cX5_least 87 = .ok (.iload_n 3, 1) := by decide +kernel
theorem dX5_least_88 : decode cX5_least 88 = .ok (.if_icmp .ge 13, 3) := by decide +kernel
theorem dX5_least_91 : decode cX5_least 91 = .ok (.iload 4, 2) := by decide +kernel
theorem dX5_least_93 : decode cX5_least 93 = .ok (.istore_n 2, 1) := by decide +kernel
theorem dX5_least_94 : decode cX5_least 94 = .ok (.aload_n 0, 1) := by decide +kernel
theorem dX5_least_95 : decode cX5_least 95 = .ok (.getfield 50, 3) := by decide +kernel
theorem dX5_least_98 : decode cX5_least 98 = .ok (.iload_n 1, 1) := by decide +kernel
theorem dX5_least_99 : decode cX5_least 99 = .ok (.iaload, 1) := by decide +kernel
theorem dX5_least_100 : decode cX5_least 100 = .ok (.istore_n 3, 1) := by decide +kernel
theorem dX5_least_101 : decode cX5_least 101 = .ok (.iinc 4 1, 3) := by decide +kernel
theorem dX5_least_104 : decode cX5_least 104 = .ok (.goto (-55), 3) := by decide +kernel
theorem dX5_least_107 : decode cX5_least 107 = .ok (.aload_n 0, 1) := by decide +kernel
theorem dX5_least_108 : decode cX5_least 108 = .ok (.iload_n 2, 1) := by decide +kernel
theorem dX5_least_109 : decode cX5_least 109 = .ok (.iconst (-1), 1) := by decide +kernel
theorem dX5_least_110 : decode cX5_least 110 = .ok (.if_icmp .ne 7, 3) := by decide +kernel
theorem dX5_least_113 : decode cX5_least 113 = .ok (.iconst 3, 1) := by decide +kernel
theorem dX5_least_114 : decode cX5_least 114 = .ok (.goto 4, 3) := by decide +kernel
theorem dX5_least_117 : decode cX5_least 117 = .ok (.iconst 0, 1) := by decide +kernel
theorem dX5_least_118 : decode cX5_least 118 = .ok (.putfield 56, 3) := by decide +kernel
theorem dX5_least_121 : decode cX5_least 121 = .ok (.aload_n 0, 1) := by decide +kernel
theorem dX5_least_122 : decode cX5_least 122 = .ok (.getfield 56, 3) := by decide +kernel
theorem dX5_least_125 : decode cX5_least 125 = .ok (.ifCond .le 7, 3) := by decide +kernel
theorem dX5_least_128 : decode cX5_least 128 = .ok (.iconst 0, 1) := by decide +kernel
theorem dX5_least_129 : decode cX5_least 129 = .ok (.goto 4, 3) := by decide +kernel
theorem dX5_least_132 : decode cX5_least 132 = .ok (.iload_n 2, 1) := by decide +kernel
theorem dX5_least_133 : decode cX5_least 133 = .ok (.ireturn, 1) := by decide +kernel
