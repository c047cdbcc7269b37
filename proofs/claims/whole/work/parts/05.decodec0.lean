theorem dX10_init_0 : decode cX10_init 0 = .ok (.aload_n 0, 1) := by decide +kernel
theorem dX10_init_1 : decode cX10_init 1 = .ok (.invokespecial 1, 3) := by decide +kernel
theorem dX10_init_4 : decode cX10_init 4 = .ok (.aload_n 0, 1) := by decide +kernel
theorem dX10_init_5 : decode cX10_init 5 = .ok (.new 7, 3) := by decide +kernel
theorem dX10_init_8 : decode cX10_init 8 = .ok (.dup, 1) := by decide +kernel
theorem dX10_init_9 : decode cX10_init 9 = .ok (.invokespecial 9, 3) := by decide +kernel
theorem dX10_init_12 : decode cX10_init 12 = .ok (.putfield 10, 3) := by decide +kernel
theorem dX10_init_15 : decode cX10_init 15 = .ok (.aload_n 0, 1) := by decide +kernel
theorem dX10_init_16 : decode cX10_init 16 = .ok (.new 16, 3) := by decide +kernel
theorem dX10_init_19 : decode cX10_init 19 = .ok (.dup, 1) := by decide +kernel
theorem dX10_init_20 : decode cX10_init 20 = .ok (.invokespecial 18, 3) := by decide +kernel
theorem dX10_init_23 : decode cX10_init 23 = .ok (.putfield 19, 3) := by decide +kernel
theorem dX10_init_26 : decode cX10_init 26 = .ok (.aload_n 0, 1) := by decide +kernel
theorem dX10_init_27 : decode cX10_init 27 = .ok (.new 23, 3) := by decide +kernel
theorem dX10_init_30 : decode cX10_init 30 = .ok (.dup, 1) := by decide +kernel
theorem dX10_init_31 : decode cX10_init 31 = .ok (.invokespecial 25, 3) := by decide +kernel
theorem dX10_init_34 : decode cX10_init 34 = .ok (.putfield 26, 3) := by decide +kernel
theorem dX10_init_37 : decode cX10_init 37 = .ok (.aload_n 0, 1) := by decide +kernel
theorem dX10_init_38 : decode cX10_init 38 = .ok (.new 30, 3) := by decide +kernel
theorem dX10_init_41 : decode cX10_init 41 = .ok (.dup, 1) := by decide +kernel
theorem dX10_init_42 : decode cX10_init 42 = .ok (.invokespecial 32, 3) := by decide +kernel
theorem dX10_init_45 : decode cX10_init 45 = .ok (.putfield 33, 3) := by decide +kernel
theorem dX10_init_48 : decode cX10_init 48 = .ok (.aload_n 0, 1) := by decide +kernel
theorem dX10_init_49 : decode cX10_init 49 = .ok (.new 37, 3) := by decide +kernel
theorem dX10_init_52 : decode cX10_init 52 = .ok (.dup, 1) := by decide +kernel
theorem dX10_init_53 : decode cX10_init 53 = .ok (.invokespecial 39, 3) := by decide +kernel
theorem dX10_init_56 : decode cX10_init 56 = .ok (.putfield 40, 3) := by decide +kernel
theorem dX10_init_59 : decode cX10_init 59 = .ok (.aload_n 0, 1) := by decide +kernel
theorem dX10_init_60 : decode cX10_init 60 = .ok (.new 44, 3) := by decide +kernel
theorem dX10_init_63 : decode cX10_init 63 = .ok (.dup, 1) := by decide +kernel
theorem dX10_init_64 : decode cX10_init 64 = .ok (.invokespecial 46, 3) := by decide +kernel
theorem dX10_init_67 : decode cX10_init 67 = .ok (.putfield 47, 3) := by decide +kernel
theorem dX10_init_70 : decode cX10_init 70 = .ok (.aload_n 0, 1) := by decide +kernel
theorem dX10_init_71 : decode cX10_init 71 = .ok (.iconst 2, 1) := by decide +kernel
theorem dX10_init_72 : decode cX10_init 72 = .ok (.anewarray 51, 3) := by decide +kernel
theorem dX10_init_75 : decode cX10_init 75 = .ok (.putfield 53, 3) := by decide +kernel
theorem dX10_init_78 : decode cX10_init 78 = .ok (.iconst 0, 1) := by decide +kernel
theorem dX10_init_79 : decode cX10_init 79 = .ok (.istore_n 1, 1) := by decide +kernel
theorem dX10_init_80 : decode cX10_init 80 = .ok (.iload_n 1, 1) := by decide +kernel
theorem dX10_init_81 : decode cX10_init 81 = .ok (.iconst 2, 1) := by decide +kernel
theorem dX10_init_82 : decode cX10_init 82 = .ok (.if_icmp .ge 22, 3) := by decide +kernel
theorem dX10_init_85 : decode cX10_init 85 = .ok (.aload_n 0, 1) := by decide +kernel
theorem dX10_init_86 : decode cX10_init 86 = .ok (.getfield 53, 3) := by decide +kernel
theorem dX10_init_89 : decode cX10_init 89 = .ok (.iload_n 1, 1) := by decide +kernel
theorem dX10_init_90 : decode cX10_init 90 = .ok (.new 51, 3) := by decide +kernel
theorem dX10_init_93 : decode cX10_init 93 = .ok (.dup, 1) := by decide +kernel
theorem dX10_init_94 : decode cX10_init 94 = .ok (.invokespecial 57, 3) := by decide +kernel
theorem dX10_init_97 : decode cX10_init 97 = .ok (.aastore, 1) := by decide +kernel
theorem dX10_init_98 : decode cX10_init 98 = .ok (.iinc 1 1, 3) := by decide +kernel
theorem dX10_init_101 : decode cX10_init 101 = .ok (.goto (-21), 3) := by decide +kernel
theorem dX10_init_104 : decode cX10_init 104 = .ok (.return_, 1) := by decide +kernel
theorem dX10_told_0 : decode cX10_told 0 = .ok (.iload_n 1, 1) := by decide +kernel
theorem dX10_told_1 : decode cX10_told 1 = .ok (.tableswitch 178 0 11 #[63, 71, 79, 87, 95, 103, 126, 134, 142, 150, 162, 170], 63) := by decide +kernel
theorem dX10_told_64 : decode cX10_told 64 = .ok (.aload_n 0, 1) := by decide +kernel
theorem dX10_told_65 : decode cX10_told 65 = .ok (.getfield 10, 3) := by decide +kernel
theorem dX10_told_68 : decode cX10_told 68 = .ok (.getfield 58, 3) := by decide +kernel
theorem dX10_told_71 : decode cX10_told 71 = .ok (.ireturn, 1) := by decide +kernel
theorem dX10_told_72 : decode cX10_told 72 = .ok (.aload_n 0, 1) := by decide +kernel
theorem dX10_told_73 : decode cX10_told 73 = .ok (.getfield 10, 3) := by decide +kernel
theorem dX10_told_76 : decode cX10_told 76 = .ok (.getfield 62, 3) := by decide +kernel
theorem dX10_told_79 : decode cX10_told 79 = .ok (.ireturn, 1) := by decide +kernel
theorem dX10_told_80 : decode cX10_told 80 = .ok (.aload_n 0, 1) := by decide +kernel
theorem dX10_told_81 : decode cX10_told 81 = .ok (.getfield 10, 3) := by decide +kernel
theorem dX10_told_84 : decode cX10_told 84 = .ok (.getfield 65, 3) := by decide +kernel
theorem dX10_told_87 : decode cX10_told 87 = .ok (.ireturn, 1) := by decide +kernel
theorem dX10_told_88 : decode cX10_told 88 = .ok (.aload_n 0, 1) := by decide +kernel
theorem dX10_told_89 : decode cX10_told 89 = .ok (.getfield 10, 3) := by decide +kernel
theorem dX10_told_92 : decode cX10_told 92 = .ok (.getfield 68, 3) := by decide +kernel
theorem dX10_told_95 : decode cX10_told 95 = .ok (.ireturn, 1) := by decide +kernel
theorem dX10_told_96 : decode cX10_told 96 = .ok (.aload_n 0, 1) := by decide +kernel
theorem dX10_told_97 : decode cX10_told 97 = .ok (.getfield 10, 3) := by decide +kernel
theorem dX10_told_100 : decode cX10_told 100 = .ok (.getfield 71, 3) := by decide +kernel
theorem dX10_told_103 : decode cX10_told 103 = .ok (.ireturn, 1) := by decide +kernel
theorem dX10_told_104 : decode cX10_told 104 = .ok (.aload_n 0, 1) := by decide +kernel
theorem dX10_told_105 : decode cX10_told 105 = .ok (.getfield 19, 3) := by decide +kernel
theorem dX10_told_108 : decode cX10_told 108 = .ok (.aload_n 0, 1) := by decide +kernel
theorem dX10_told_109 : decode cX10_told 109 = .ok (.getfield 10, 3) := by decide +kernel
theorem dX10_told_112 : decode cX10_told 112 = .ok (.invokevirtual 74, 3) := by decide +kernel
theorem dX10_told_115 : decode cX10_told 115 = .ok (.aload_n 0, 1) := by decide +kernel
theorem dX10_told_116 : decode cX10_told 116 = .ok (.getfield 19, 3) := by decide +kernel
theorem dX10_told_119 : decode cX10_told 119 = .ok (.aload_n 0, 1) := by decide +kernel
theorem dX10_told_120 : decode cX10_told 120 = .ok (.getfield 10, 3) := by decide +kernel
theorem dX10_told_123 : decode cX10_told 123 = .ok (.invokevirtual 78, 3) := by decide +kernel
theorem dX10_told_126 : decode cX10_told 126 = .ok (.ireturn, 1) := by decide +kernel
theorem dX10_told_127 : decode cX10_told 127 = .ok (.aload_n 0, 1) := by decide +kernel
theorem dX10_told_128 : decode cX10_told 128 = .ok (.getfield 10, 3) := by decide +kernel
theorem dX10_told_131 : decode cX10_told 131 = .ok (.getfield 82, 3) := by decide +kernel
theorem dX10_told_134 : decode cX10_told 134 = .ok (.ireturn, 1) := by decide +kernel
theorem dX10_told_135 : decode cX10_told 135 = .ok (.aload_n 0, 1) := by decide +kernel
theorem dX10_told_136 : decode cX10_told 136 = .ok (.getfield 10, 3) := by decide +kernel
theorem dX10_told_139 : decode cX10_told 139 = .ok (.getfield 85, 3) := by decide +kernel
theorem dX10_told_142 : decode cX10_told 142 = .ok (.ireturn, 1) := by decide +kernel
theorem dX10_told_143 : decode cX10_told 143 = .ok (.aload_n 0, 1) := by decide +kernel
theorem dX10_told_144 : decode cX10_told 144 = .ok (.getfield 40, 3) := by decide +kernel
theorem dX10_told_147 : decode cX10_told 147 = .ok (.getfield 88, 3) := by decide +kernel
theorem dX10_told_150 : decode cX10_told 150 = .ok (.ireturn, 1) := by decide +kernel
theorem dX10_told_151 : decode cX10_told 151 = .ok (.aload_n 0, 1) := by decide +kernel
theorem dX10_told_152 : decode cX10_told 152 = .ok (.getfield 40, 3) := by decide +kernel
theorem dX10_told_155 : decode cX10_told 155 = .ok (.aload_n 0, 1) := by decide +kernel
theorem dX10_told_156 : decode cX10_told 156 = .ok (.getfield 10, 3) := by decide +kernel
theorem dX10_told_159 : decode cX10_told 159 = .ok (.invokevirtual 91, 3) := by decide +kernel
theorem dX10_told_162 : decode cX10_told 162 = .ok (.ireturn, 1) := by decide +kernel
theorem dX10_told_163 : decode cX10_told 163 = .ok (.aload_n 0, 1) := by decide +kernel
theorem dX10_told_164 : decode cX10_told 164 = .ok (.getfield 33, 3) := by decide +kernel
theorem dX10_told_167 : decode cX10_told 167 = .ok (.getfield 94, 3) := by decide +kernel
theorem dX10_told_170 : decode cX10_told 170 = .ok (.ireturn, 1) := by decide +kernel
theorem dX10_told_171 : decode cX10_told 171 = .ok (.aload_n 0, 1) := by decide +kernel
theorem dX10_told_172 : decode cX10_told 172 = .ok (.getfield 47, 3) := by decide +kernel
theorem dX10_told_175 : decode cX10_told 175 = .ok (.getfield 95, 3) := by decide +kernel
theorem dX10_told_178 : decode cX10_told 178 = .ok (.ireturn, 1) := by decide +kernel
theorem dX10_told_179 : decode cX10_told 179 = .ok (.ldc 98, 2) := by decide +kernel
theorem dX10_told_181 : decode cX10_told 181 = .ok (.ireturn, 1) := by decide +kernel
theorem dX10_brokerAt_0 : decode cX10_brokerAt 0 = .ok (.aload_n 0, 1) := by decide +kernel
theorem dX10_brokerAt_1 : decode cX10_brokerAt 1 = .ok (.getfield 10, 3) := by decide +kernel
theorem dX10_brokerAt_4 : decode cX10_brokerAt 4 = .ok (.iload_n 1, 1) := by decide +kernel
theorem dX10_brokerAt_5 : decode cX10_brokerAt 5 = .ok (.invokevirtual 99, 3) := by decide +kernel
theorem dX10_brokerAt_8 : decode cX10_brokerAt 8 = .ok (.ifCond .ne 6, 3) := by decide +kernel
theorem dX10_brokerAt_11 : decode cX10_brokerAt 11 = .ok (.ldc 103, 2) := by decide +kernel
theorem dX10_brokerAt_13 : decode cX10_brokerAt 13 = .ok (.ireturn, 1) := by decide +kernel
theorem dX10_brokerAt_14 : decode cX10_brokerAt 14 = .ok (.iload_n 2, 1) := by decide +kernel
theorem dX10_brokerAt_15 : decode cX10_brokerAt 15 = .ok (.tableswitch 73 0 3 #[29, 39, 48, 57], 29) := by decide +kernel
theorem dX10_brokerAt_44 : decode cX10_brokerAt 44 = .ok (.aload_n 0, 1) := by decide +kernel
theorem dX10_brokerAt_45 : decode cX10_brokerAt 45 = .ok (.getfield 10, 3) := by decide +kernel
theorem dX10_brokerAt_48 : decode cX10_brokerAt 48 = .ok (.getfield 104, 3) := by decide +kernel
theorem dX10_brokerAt_51 : decode cX10_brokerAt 51 = .ok (.iload_n 1, 1) := by decide +kernel
theorem dX10_brokerAt_52 : decode cX10_brokerAt 52 = .ok (.iaload, 1) := by decide +kernel
theorem dX10_brokerAt_53 : decode cX10_brokerAt 53 = .ok (.ireturn, 1) := by decide +kernel
theorem dX10_brokerAt_54 : decode cX10_brokerAt 54 = .ok (.aload_n 0, 1) := by decide +kernel
theorem dX10_brokerAt_55 : decode cX10_brokerAt 55 = .ok (.getfield 10, 3) := by decide +kernel
theorem dX10_brokerAt_58 : decode cX10_brokerAt 58 = .ok (.iload_n 1, 1) := by decide +kernel
theorem dX10_brokerAt_59 : decode cX10_brokerAt 59 = .ok (.invokevirtual 108, 3) := by decide +kernel
theorem dX10_brokerAt_62 : decode cX10_brokerAt 62 = .ok (.ireturn, 1) := by decide +kernel
theorem dX10_brokerAt_63 : decode cX10_brokerAt 63 = .ok (.aload_n 0, 1) := by decide +kernel
theorem dX10_brokerAt_64 : decode cX10_brokerAt 64 = .ok (.getfield 10, 3) := by decide +kernel
theorem dX10_brokerAt_67 : decode cX10_brokerAt 67 = .ok (.iload_n 1, 1) := by decide +kernel
theorem dX10_brokerAt_68 : decode cX10_brokerAt 68 = .ok (.invokevirtual 112, 3) := by decide +kernel
theorem dX10_brokerAt_71 : decode cX10_brokerAt 71 = .ok (.ireturn, 1) := by decide +kernel
theorem dX10_brokerAt_72 : decode cX10_brokerAt 72 = .ok (.aload_n 0, 1) := by decide +kernel
theorem dX10_brokerAt_73 : decode cX10_brokerAt 73 = .ok (.getfield 10, 3) := by decide +kernel
theorem dX10_brokerAt_76 : decode cX10_brokerAt 76 = .ok (.aload_n 0, 1) := by decide +kernel
theorem dX10_brokerAt_77 : decode cX10_brokerAt 77 = .ok (.getfield 10, 3) := by decide +kernel
theorem dX10_brokerAt_80 : decode cX10_brokerAt 80 = .ok (.iload_n 1, 1) := by decide +kernel
theorem dX10_brokerAt_81 : decode cX10_brokerAt 81 = .ok (.invokevirtual 112, 3) := by decide +kernel
theorem dX10_brokerAt_84 : decode cX10_brokerAt 84 = .ok (.invokevirtual 115, 3) := by decide +kernel
theorem dX10_brokerAt_87 : decode cX10_brokerAt 87 = .ok (.ireturn, 1) := by decide +kernel
theorem dX10_brokerAt_88 : decode cX10_brokerAt 88 = .ok (.ldc 98, 2) := by decide +kernel
theorem dX10_brokerAt_90 : decode cX10_brokerAt 90 = .ok (.ireturn, 1) := by decide +kernel
theorem dX10_clientAt_0 : decode cX10_clientAt 0 = .ok (.aload_n 0, 1) := by decide +kernel
theorem dX10_clientAt_1 : decode cX10_clientAt 1 = .ok (.getfield 10, 3) := by decide +kernel
theorem dX10_clientAt_4 : decode cX10_clientAt 4 = .ok (.iload_n 1, 1) := by decide +kernel
theorem dX10_clientAt_5 : decode cX10_clientAt 5 = .ok (.invokevirtual 118, 3) := by decide +kernel
theorem dX10_clientAt_8 : decode cX10_clientAt 8 = .ok (.ifCond .ne 6, 3) := by decide +kernel
theorem dX10_clientAt_11 : decode cX10_clientAt 11 = .ok (.ldc 103, 2) := by decide +kernel
theorem dX10_clientAt_13 : decode cX10_clientAt 13 = .ok (.ireturn, 1) := by decide +kernel
theorem dX10_clientAt_14 : decode cX10_clientAt 14 = .ok (.aload_n 0, 1) := by decide +kernel
theorem dX10_clientAt_15 : decode cX10_clientAt 15 = .ok (.getfield 10, 3) := by decide +kernel
theorem dX10_clientAt_18 : decode cX10_clientAt 18 = .ok (.getfield 121, 3) := by decide +kernel
theorem dX10_clientAt_21 : decode cX10_clientAt 21 = .ok (.iload_n 1, 1) := by decide +kernel
theorem dX10_clientAt_22 : decode cX10_clientAt 22 = .ok (.aaload, 1) := by decide +kernel
theorem dX10_clientAt_23 : decode cX10_clientAt 23 = .ok (.astore_n 3, 1) := by decide +kernel
theorem dX10_clientAt_24 : decode cX10_clientAt 24 = .ok (.iload_n 2, 1) := by decide +kernel
theorem dX10_clientAt_25 : decode cX10_clientAt 25 = .ok (.tableswitch 83 0 5 #[39, 44, 57, 62, 67, 72], 39) := by decide +kernel
theorem dX10_clientAt_64 : decode cX10_clientAt 64 = .ok (.aload_n 3, 1) := by decide +kernel
theorem dX10_clientAt_65 : decode cX10_clientAt 65 = .ok (.getfield 125, 3) := by decide +kernel
theorem dX10_clientAt_68 : decode cX10_clientAt 68 = .ok (.ireturn, 1) := by decide +kernel
theorem dX10_clientAt_69 : decode cX10_clientAt 69 = .ok (.aload_n 3, 1) := by decide +kernel
theorem dX10_clientAt_70 : decode cX10_clientAt 70 = .ok (.getfield 130, 3) := by decide +kernel
theorem dX10_clientAt_73 : decode cX10_clientAt 73 = .ok (.ifCond .eq 7, 3) := by decide +kernel
theorem dX10_clientAt_76 : decode cX10_clientAt 76 = .ok (.iconst 1, 1) := by decide +kernel
theorem dX10_clientAt_77 : decode cX10_clientAt 77 = .ok (.goto 4, 3) := by decide +kernel
theorem dX10_clientAt_80 : decode cX10_clientAt 80 = .ok (.iconst 0, 1) := by decide +kernel
theorem dX10_clientAt_81 : decode cX10_clientAt 81 = .ok (.ireturn, 1) := by decide +kernel
theorem dX10_clientAt_82 : decode cX10_clientAt 82 = .ok (.aload_n 3, 1) := by decide +kernel
theorem dX10_clientAt_83 : decode cX10_clientAt 83 = .ok (.getfield 134, 3) := by decide +kernel
theorem dX10_clientAt_86 : decode cX10_clientAt 86 = .ok (.ireturn, 1) := by decide +kernel
theorem dX10_clientAt_87 : decode cX10_clientAt 87 = .ok (.aload_n 3, 1) := by decide +kernel
theorem dX10_clientAt_88 : decode cX10_clientAt 88 = .ok (.getfield 137, 3) := by decide +kernel
theorem dX10_clientAt_91 : decode cX10_clientAt 91 = .ok (.ireturn, 1) := by decide +kernel
theorem dX10_clientAt_92 : decode cX10_clientAt 92 = .ok (.aload_n 3, 1) := by decide +kernel
theorem dX10_clientAt_93 : decode cX10_clientAt 93 = .ok (.getfield 140, 3) := by decide +kernel
theorem dX10_clientAt_96 : decode cX10_clientAt 96 = .ok (.ireturn, 1) := by decide +kernel
theorem dX10_clientAt_97 : decode cX10_clientAt 97 = .ok (.aload_n 0, 1) := by decide +kernel
theorem dX10_clientAt_98 : decode cX10_clientAt 98 = .ok (.getfield 10, 3) := by decide +kernel
theorem dX10_clientAt_101 : decode cX10_clientAt 101 = .ok (.iconst 1, 1) := by decide +kernel
theorem dX10_clientAt_102 : decode cX10_clientAt 102 = .ok (.iload_n 1, 1) := by decide +kernel
theorem dX10_clientAt_103 : decode cX10_clientAt 103 = .ok (.ishl, 1) := by decide +kernel
theorem dX10_clientAt_104 : decode cX10_clientAt 104 = .ok (.invokevirtual 115, 3) := by decide +kernel
theorem dX10_clientAt_107 : decode cX10_clientAt 107 = .ok (.ireturn, 1) := by decide +kernel
theorem dX10_clientAt_108 : decode cX10_clientAt 108 = .ok (.ldc 98, 2) := by decide +kernel
theorem dX10_clientAt_110 : decode cX10_clientAt 110 = .ok (.ireturn, 1) := by decide +kernel
theorem dX10_log_0 : decode cX10_log 0 = .ok (.aload_n 0, 1) := by decide +kernel
theorem dX10_log_1 : decode cX10_log 1 = .ok (.getfield 10, 3) := by decide +kernel
theorem dX10_log_4 : decode cX10_log 4 = .ok (.iload_n 1, 1) := by decide +kernel
theorem dX10_log_5 : decode cX10_log 5 = .ok (.invokevirtual 118, 3) := by decide +kernel
theorem dX10_log_8 : decode cX10_log 8 = .ok (.ifCond .ne 6, 3) := by decide +kernel
theorem dX10_log_11 : decode cX10_log 11 = .ok (.ldc 103, 2) := by decide +kernel
theorem dX10_log_13 : decode cX10_log 13 = .ok (.ireturn, 1) := by decide +kernel
theorem dX10_log_14 : decode cX10_log 14 = .ok (.iload_n 2, 1) := by decide +kernel
theorem dX10_log_15 : decode cX10_log 15 = .ok (.iconst 0, 1) := by decide +kernel
theorem dX10_log_16 : decode cX10_log 16 = .ok (.bipush 11, 2) := by decide +kernel
theorem dX10_log_18 : decode cX10_log 18 = .ok (.invokestatic 143, 3) := by decide +kernel
theorem dX10_log_21 : decode cX10_log 21 = .ok (.ifCond .ne 6, 3) := by decide +kernel
theorem dX10_log_24 : decode cX10_log 24 = .ok (.ldc 98, 2) := by decide +kernel
theorem dX10_log_26 : decode cX10_log 26 = .ok (.ireturn, 1) := by decide +kernel
theorem dX10_log_27 : decode cX10_log 27 = .ok (.aload_n 0, 1) := by decide +kernel
theorem dX10_log_28 : decode cX10_log 28 = .ok (.getfield 10, 3) := by decide +kernel
theorem dX10_log_31 : decode cX10_log 31 = .ok (.getfield 121, 3) := by decide +kernel
theorem dX10_log_34 : decode cX10_log 34 = .ok (.iload_n 1, 1) := by decide +kernel
theorem dX10_log_35 : decode cX10_log 35 = .ok (.aaload, 1) := by decide +kernel
theorem dX10_log_36 : decode cX10_log 36 = .ok (.iload_n 2, 1) := by decide +kernel
theorem dX10_log_37 : decode cX10_log 37 = .ok (.invokevirtual 147, 3) := by decide +kernel
theorem dX10_log_40 : decode cX10_log 40 = .ok (.ireturn, 1) := by decide +kernel
theorem dX10_wishAt_0 : decode cX10_wishAt 0 = .ok (.aload_n 0, 1) := by decide +kernel
theorem dX10_wishAt_1 : decode cX10_wishAt 1 = .ok (.getfield 10, 3) := by decide +kernel
theorem dX10_wishAt_4 : decode cX10_wishAt 4 = .ok (.iload_n 1, 1) := by decide +kernel
theorem dX10_wishAt_5 : decode cX10_wishAt 5 = .ok (.invokevirtual 150, 3) := by decide +kernel
theorem dX10_wishAt_8 : decode cX10_wishAt 8 = .ok (.ifCond .ne 6, 3) := by decide +kernel
theorem dX10_wishAt_11 : decode cX10_wishAt 11 = .ok (.ldc 103, 2) := by decide +kernel
theorem dX10_wishAt_13 : decode cX10_wishAt 13 = .ok (.ireturn, 1) := by decide +kernel
theorem dX10_wishAt_14 : decode cX10_wishAt 14 = .ok (.iload_n 2, 1) := by decide +kernel
theorem dX10_wishAt_15 : decode cX10_wishAt 15 = .ok (.iconst 0, 1) := by decide +kernel
theorem dX10_wishAt_16 : decode cX10_wishAt 16 = .ok (.bipush 8, 2) := by decide +kernel
theorem dX10_wishAt_18 : decode cX10_wishAt 18 = .ok (.invokestatic 143, 3) := by decide +kernel
theorem dX10_wishAt_21 : decode cX10_wishAt 21 = .ok (.ifCond .ne 6, 3) := by decide +kernel
theorem dX10_wishAt_24 : decode cX10_wishAt 24 = .ok (.ldc 98, 2) := by decide +kernel
theorem dX10_wishAt_26 : decode cX10_wishAt 26 = .ok (.ireturn, 1) := by decide +kernel
theorem dX10_wishAt_27 : decode cX10_wishAt 27 = .ok (.iload_n 2, 1) := by decide +kernel
theorem dX10_wishAt_28 : decode cX10_wishAt 28 = .ok (.ifCond .ne 13, 3) := by decide +kernel
theorem dX10_wishAt_31 : decode cX10_wishAt 31 = .ok (.aload_n 0, 1) := by decide +kernel
theorem dX10_wishAt_32 : decode cX10_wishAt 32 = .ok (.getfield 10, 3) := by decide +kernel
theorem dX10_wishAt_35 : decode cX10_wishAt 35 = .ok (.getfield 153, 3) := by decide +kernel
theorem dX10_wishAt_38 : decode cX10_wishAt 38 = .ok (.iload_n 1, 1) := by decide +kernel
theorem dX10_wishAt_39 : decode cX10_wishAt 39 = .ok (.iaload, 1) := by decide +kernel
theorem dX10_wishAt_40 : decode cX10_wishAt 40 = .ok (.ireturn, 1) := by decide +kernel
theorem dX10_wishAt_41 : decode cX10_wishAt 41 = .ok (.iload_n 2, 1) := by decide +kernel
theorem dX10_wishAt_42 : decode cX10_wishAt 42 = .ok (.bipush 6, 2) := by decide +kernel
theorem dX10_wishAt_44 : decode cX10_wishAt 44 = .ok (.if_icmp .gt 19, 3) := by decide +kernel
theorem dX10_wishAt_47 : decode cX10_wishAt 47 = .ok (.aload_n 0, 1) := by decide +kernel
theorem dX10_wishAt_48 : decode cX10_wishAt 48 = .ok (.getfield 10, 3) := by decide +kernel
theorem dX10_wishAt_51 : decode cX10_wishAt 51 = .ok (.getfield 156, 3) := by decide +kernel
theorem dX10_wishAt_54 : decode cX10_wishAt 54 = .ok (.iload_n 1, 1) := by decide +kernel
theorem dX10_wishAt_55 : decode cX10_wishAt 55 = .ok (.iaload, 1) := by decide +kernel
theorem dX10_wishAt_56 : decode cX10_wishAt 56 = .ok (.iload_n 2, 1) := by decide +kernel
theorem dX10_wishAt_57 : decode cX10_wishAt 57 = .ok (.iconst 1, 1) := by decide +kernel
theorem dX10_wishAt_58 : decode cX10_wishAt 58 = .ok (.isub, 1) := by decide +kernel
theorem dX10_wishAt_59 : decode cX10_wishAt 59 = .ok (.invokestatic 159, 3) := by decide +kernel
theorem dX10_wishAt_62 : decode cX10_wishAt 62 = .ok (.ireturn, 1) := by decide +kernel
theorem dX10_wishAt_63 : decode cX10_wishAt 63 = .ok (.iload_n 2, 1) := by decide +kernel
theorem dX10_wishAt_64 : decode cX10_wishAt 64 = .ok (.bipush 7, 2) := by decide +kernel
theorem dX10_wishAt_66 : decode cX10_wishAt 66 = .ok (.if_icmp .ne 16, 3) := by decide +kernel
theorem dX10_wishAt_69 : decode cX10_wishAt 69 = .ok (.aload_n 0, 1) := by decide +kernel
theorem dX10_wishAt_70 : decode cX10_wishAt 70 = .ok (.getfield 10, 3) := by decide +kernel
theorem dX10_wishAt_73 : decode cX10_wishAt 73 = .ok (.getfield 156, 3) := by decide +kernel
theorem dX10_wishAt_76 : decode cX10_wishAt 76 = .ok (.iload_n 1, 1) := by decide +kernel
theorem dX10_wishAt_77 : decode cX10_wishAt 77 = .ok (.iaload, 1) := by decide +kernel
theorem dX10_wishAt_78 : decode cX10_wishAt 78 = .ok (.invokestatic 165, 3) := by decide +kernel
theorem dX10_wishAt_81 : decode cX10_wishAt 81 = .ok (.ireturn, 1) := by decide +kernel
theorem dX10_wishAt_82 : decode cX10_wishAt 82 = .ok (.aload_n 0, 1) := by decide +kernel
theorem dX10_wishAt_83 : decode cX10_wishAt 83 = .ok (.getfield 10, 3) := by decide +kernel
theorem dX10_wishAt_86 : decode cX10_wishAt 86 = .ok (.iload_n 1, 1) := by decide +kernel
theorem dX10_wishAt_87 : decode cX10_wishAt 87 = .ok (.invokevirtual 168, 3) := by decide +kernel
theorem dX10_wishAt_90 : decode cX10_wishAt 90 = .ok (.ireturn, 1) := by decide +kernel
theorem dX10_toldOn_0 : decode cX10_toldOn 0 = .ok (.aload_n 0, 1) := by decide +kernel
theorem dX10_toldOn_1 : decode cX10_toldOn 1 = .ok (.getfield 10, 3) := by decide +kernel
theorem dX10_toldOn_4 : decode cX10_toldOn 4 = .ok (.iload_n 1, 1) := by decide +kernel
theorem dX10_toldOn_5 : decode cX10_toldOn 5 = .ok (.iload_n 2, 1) := by decide +kernel
theorem dX10_toldOn_6 : decode cX10_toldOn 6 = .ok (.invokevirtual 171, 3) := by decide +kernel
theorem dX10_toldOn_9 : decode cX10_toldOn 9 = .ok (.ifCond .ne 6, 3) := by decide +kernel
theorem dX10_toldOn_12 : decode cX10_toldOn 12 = .ok (.ldc 103, 2) := by decide +kernel
theorem dX10_toldOn_14 : decode cX10_toldOn 14 = .ok (.ireturn, 1) := by decide +kernel
theorem dX10_toldOn_15 : decode cX10_toldOn 15 = .ok (.aload_n 0, 1) := by decide +kernel
theorem dX10_toldOn_16 : decode cX10_toldOn 16 = .ok (.getfield 19, 3) := by decide +kernel
theorem dX10_toldOn_19 : decode cX10_toldOn 19 = .ok (.aload_n 0, 1) := by decide +kernel
theorem dX10_toldOn_20 : decode cX10_toldOn 20 = .ok (.getfield 10, 3) := by decide +kernel
theorem dX10_toldOn_23 : decode cX10_toldOn 23 = .ok (.invokevirtual 74, 3) := by decide +kernel
theorem dX10_toldOn_26 : decode cX10_toldOn 26 = .ok (.aload_n 0, 1) := by decide +kernel
theorem dX10_toldOn_27 : decode cX10_toldOn 27 = .ok (.getfield 19, 3) := by decide +kernel
theorem dX10_toldOn_30 : decode cX10_toldOn 30 = .ok (.aload_n 0, 1) := by decide +kernel
theorem dX10_toldOn_31 : decode cX10_toldOn 31 = .ok (.getfield 10, 3) := by decide +kernel
theorem dX10_toldOn_34 : decode cX10_toldOn 34 = .ok (.iload_n 1, 1) := by decide +kernel
theorem dX10_toldOn_35 : decode cX10_toldOn 35 = .ok (.iload_n 2, 1) := by decide +kernel
theorem dX10_toldOn_36 : decode cX10_toldOn 36 = .ok (.invokevirtual 175, 3) := by decide +kernel
theorem dX10_toldOn_39 : decode cX10_toldOn 39 = .ok (.getfield 179, 3) := by decide +kernel
theorem dX10_toldOn_42 : decode cX10_toldOn 42 = .ok (.ireturn, 1) := by decide +kernel
theorem dX10_box_0 : decode cX10_box 0 = .ok (.aload_n 0, 1) := by decide +kernel
theorem dX10_box_1 : decode cX10_box 1 = .ok (.getfield 10, 3) := by decide +kernel
theorem dX10_box_4 : decode cX10_box 4 = .ok (.iload_n 1, 1) := by decide +kernel
theorem dX10_box_5 : decode cX10_box 5 = .ok (.iload_n 2, 1) := by decide +kernel
theorem dX10_box_6 : decode cX10_box 6 = .ok (.invokevirtual 171, 3) := by decide +kernel
theorem dX10_box_9 : decode cX10_box 9 = .ok (.ifCond .ne 6, 3) := by decide +kernel
theorem dX10_box_12 : decode cX10_box 12 = .ok (.ldc 103, 2) := by decide +kernel
theorem dX10_box_14 : decode cX10_box 14 = .ok (.ireturn, 1) := by decide +kernel
theorem dX10_box_15 : decode cX10_box 15 = .ok (.aload_n 0, 1) := by decide +kernel
theorem dX10_box_16 : decode cX10_box 16 = .ok (.getfield 19, 3) := by decide +kernel
theorem dX10_box_19 : decode cX10_box 19 = .ok (.aload_n 0, 1) := by decide +kernel
theorem dX10_box_20 : decode cX10_box 20 = .ok (.getfield 10, 3) := by decide +kernel
theorem dX10_box_23 : decode cX10_box 23 = .ok (.invokevirtual 74, 3) := by decide +kernel
theorem dX10_box_26 : decode cX10_box 26 = .ok (.aload_n 0, 1) := by decide +kernel
theorem dX10_box_27 : decode cX10_box 27 = .ok (.getfield 19, 3) := by decide +kernel
theorem dX10_box_30 : decode cX10_box 30 = .ok (.aload_n 0, 1) := by decide +kernel
theorem dX10_box_31 : decode cX10_box 31 = .ok (.getfield 10, 3) := by decide +kernel
theorem dX10_box_34 : decode cX10_box 34 = .ok (.iload_n 1, 1) := by decide +kernel
theorem dX10_box_35 : decode cX10_box 35 = .ok (.iload_n 2, 1) := by decide +kernel
theorem dX10_box_36 : decode cX10_box 36 = .ok (.invokevirtual 175, 3) := by decide +kernel
theorem dX10_box_39 : decode cX10_box 39 = .ok (.astore 5, 2) := by decide +kernel
theorem dX10_box_41 : decode cX10_box 41 = .ok (.iload_n 3, 1) := by decide +kernel
theorem dX10_box_42 : decode cX10_box 42 = .ok (.iconst 0, 1) := by decide +kernel
theorem dX10_box_43 : decode cX10_box 43 = .ok (.aload 5, 2) := by decide +kernel
theorem dX10_box_45 : decode cX10_box 45 = .ok (.getfield 179, 3) := by decide +kernel
theorem dX10_box_48 : decode cX10_box 48 = .ok (.iconst 1, 1) := by decide +kernel
theorem dX10_box_49 : decode cX10_box 49 = .ok (.isub, 1) := by decide +kernel
theorem dX10_box_50 : decode cX10_box 50 = .ok (.invokestatic 143, 3) := by decide +kernel
theorem dX10_box_53 : decode cX10_box 53 = .ok (.ifCond .ne 6, 3) := by decide +kernel
theorem dX10_box_56 : decode cX10_box 56 = .ok (.ldc 103, 2) := by decide +kernel
theorem dX10_box_58 : decode cX10_box 58 = .ok (.ireturn, 1) := by decide +kernel
theorem dX10_box_59 : decode cX10_box 59 = .ok (.iload 4, 2) := by decide +kernel
theorem dX10_box_61 : decode cX10_box 61 = .ok (.iconst 0, 1) := by decide +kernel
theorem dX10_box_62 : decode cX10_box 62 = .ok (.bipush 7, 2) := by decide +kernel
theorem dX10_box_64 : decode cX10_box 64 = .ok (.invokestatic 143, 3) := by decide +kernel
theorem dX10_box_67 : decode cX10_box 67 = .ok (.ifCond .ne 6, 3) := by decide +kernel
theorem dX10_box_70 : decode cX10_box 70 = .ok (.ldc 98, 2) := by decide +kernel
theorem dX10_box_72 : decode cX10_box 72 = .ok (.ireturn, 1) := by decide +kernel
theorem dX10_box_73 : decode cX10_box 73 = .ok (.aload 5, 2) := by decide +kernel
theorem dX10_box_75 : decode cX10_box 75 = .ok (.getfield 182, 3) := by decide +kernel
theorem dX10_box_78 : decode cX10_box 78 = .ok (.iload_n 3, 1) := by decide +kernel
theorem dX10_box_79 : decode cX10_box 79 = .ok (.iaload, 1) := by decide +kernel
theorem dX10_box_80 : decode cX10_box 80 = .ok (.istore 6, 2) := by decide +kernel
theorem dX10_box_82 : decode cX10_box 82 = .ok (.iload 4, 2) := by decide +kernel
theorem dX10_box_84 : decode cX10_box 84 = .ok (.bipush 6, 2) := by decide +kernel
theorem dX10_box_86 : decode cX10_box 86 = .ok (.if_icmp .ge 11, 3) := by decide +kernel
theorem dX10_box_89 : decode cX10_box 89 = .ok (.iload 6, 2) := by decide +kernel
theorem dX10_box_91 : decode cX10_box 91 = .ok (.iload 4, 2) := by decide +kernel
theorem dX10_box_93 : decode cX10_box 93 = .ok (.invokestatic 159, 3) := by decide +kernel
theorem dX10_box_96 : decode cX10_box 96 = .ok (.ireturn, 1) := by decide +kernel
theorem dX10_box_97 : decode cX10_box 97 = .ok (.iload 4, 2) := by decide +kernel
theorem dX10_box_99 : decode cX10_box 99 = .ok (.bipush 6, 2) := by decide +kernel
theorem dX10_box_101 : decode cX10_box 101 = .ok (.if_icmp .ne 9, 3) := by decide +kernel
theorem dX10_box_104 : decode cX10_box 104 = .ok (.iload 6, 2) := by decide +kernel
theorem dX10_box_106 : decode cX10_box 106 = .ok (.invokestatic 165, 3) := by decide +kernel
theorem dX10_box_109 : decode cX10_box 109 = .ok (.ireturn, 1) := by decide +kernel
theorem dX10_box_110 : decode cX10_box 110 = .ok (.aload_n 0, 1) := by decide +kernel
theorem dX10_box_111 : decode cX10_box 111 = .ok (.getfield 10, 3) := by decide +kernel
theorem dX10_box_114 : decode cX10_box 114 = .ok (.iload 6, 2) := by decide +kernel
theorem dX10_box_116 : decode cX10_box 116 = .ok (.invokevirtual 185, 3) := by decide +kernel
theorem dX10_box_119 : decode cX10_box 119 = .ok (.ifCond .eq 7, 3) := by decide +kernel
theorem dX10_box_122 : decode cX10_box 122 = .ok (.iconst 1, 1) := by decide +kernel
theorem dX10_box_123 : decode cX10_box 123 = .ok (.goto 4, 3) := by decide +kernel
theorem dX10_box_126 : decode cX10_box 126 = .ok (.iconst 0, 1) := by decide +kernel
theorem dX10_box_127 : decode cX10_box 127 = .ok (.ireturn, 1) := by decide +kernel
theorem dX10_would_0 : decode cX10_would 0 = .ok (.aload_n 0, 1) := by decide +kernel
theorem dX10_would_1 : decode cX10_would 1 = .ok (.getfield 10, 3) := by decide +kernel
theorem dX10_would_4 : decode cX10_would 4 = .ok (.iload_n 1, 1) := by decide +kernel
theorem dX10_would_5 : decode cX10_would 5 = .ok (.invokevirtual 99, 3) := by decide +kernel
theorem dX10_would_8 : decode cX10_would 8 = .ok (.ifCond .ne 6, 3) := by decide +kernel
theorem dX10_would_11 : decode cX10_would 11 = .ok (.ldc 103, 2) := by decide +kernel
theorem dX10_would_13 : decode cX10_would 13 = .ok (.ireturn, 1) := by decide +kernel
theorem dX10_would_14 : decode cX10_would 14 = .ok (.iload_n 2, 1) := by decide +kernel
theorem dX10_would_15 : decode cX10_would 15 = .ok (.iload_n 3, 1) := by decide +kernel
theorem dX10_would_16 : decode cX10_would 16 = .ok (.iload 4, 2) := by decide +kernel
theorem dX10_would_18 : decode cX10_would 18 = .ok (.invokestatic 188, 3) := by decide +kernel
theorem dX10_would_21 : decode cX10_would 21 = .ok (.ifCond .eq 13, 3) := by decide +kernel
theorem dX10_would_24 : decode cX10_would 24 = .ok (.iload 5, 2) := by decide +kernel
theorem dX10_would_26 : decode cX10_would 26 = .ok (.iconst 0, 1) := by decide +kernel
theorem dX10_would_27 : decode cX10_would 27 = .ok (.iconst 3, 1) := by decide +kernel
theorem dX10_would_28 : decode cX10_would 28 = .ok (.invokestatic 143, 3) := by decide +kernel
theorem dX10_would_31 : decode cX10_would 31 = .ok (.ifCond .ne 6, 3) := by decide +kernel
theorem dX10_would_34 : decode cX10_would 34 = .ok (.ldc 98, 2) := by decide +kernel
theorem dX10_would_36 : decode cX10_would 36 = .ok (.ireturn, 1) := by decide +kernel
theorem dX10_would_37 : decode cX10_would 37 = .ok (.aload_n 0, 1) := by decide +kernel
theorem dX10_would_38 : decode cX10_would 38 = .ok (.getfield 19, 3) := by decide +kernel
theorem dX10_would_41 : decode cX10_would 41 = .ok (.aload_n 0, 1) := by decide +kernel
theorem dX10_would_42 : decode cX10_would 42 = .ok (.getfield 10, 3) := by decide +kernel
theorem dX10_would_45 : decode cX10_would 45 = .ok (.invokevirtual 74, 3) := by decide +kernel
theorem dX10_would_48 : decode cX10_would 48 = .ok (.aload_n 0, 1) := by decide +kernel
theorem dX10_would_49 : decode cX10_would 49 = .ok (.getfield 26, 3) := by decide +kernel
theorem dX10_would_52 : decode cX10_would 52 = .ok (.aload_n 0, 1) := by decide +kernel
theorem dX10_would_53 : decode cX10_would 53 = .ok (.getfield 10, 3) := by decide +kernel
theorem dX10_would_56 : decode cX10_would 56 = .ok (.aload_n 0, 1) := by decide +kernel
theorem dX10_would_57 : decode cX10_would 57 = .ok (.getfield 19, 3) := by decide +kernel
theorem dX10_would_60 : decode cX10_would 60 = .ok (.iload_n 1, 1) := by decide +kernel
theorem dX10_would_61 : decode cX10_would 61 = .ok (.iload_n 2, 1) := by decide +kernel
theorem dX10_would_62 : decode cX10_would 62 = .ok (.iload_n 3, 1) := by decide +kernel
theorem dX10_would_63 : decode cX10_would 63 = .ok (.iload 4, 2) := by decide +kernel
theorem dX10_would_65 : decode cX10_would 65 = .ok (.invokestatic 191, 3) := by decide +kernel
theorem dX10_would_68 : decode cX10_would 68 = .ok (.invokevirtual 195, 3) := by decide +kernel
theorem dX10_would_71 : decode cX10_would 71 = .ok (.iload 5, 2) := by decide +kernel
theorem dX10_would_73 : decode cX10_would 73 = .ok (.tableswitch 51 0 2 #[27, 35, 43], 27) := by decide +kernel
theorem dX10_would_100 : decode cX10_would 100 = .ok (.aload_n 0, 1) := by decide +kernel
theorem dX10_would_101 : decode cX10_would 101 = .ok (.getfield 26, 3) := by decide +kernel
theorem dX10_would_104 : decode cX10_would 104 = .ok (.getfield 199, 3) := by decide +kernel
theorem dX10_would_107 : decode cX10_would 107 = .ok (.ireturn, 1) := by decide +kernel
theorem dX10_would_108 : decode cX10_would 108 = .ok (.aload_n 0, 1) := by decide +kernel
theorem dX10_would_109 : decode cX10_would 109 = .ok (.getfield 26, 3) := by decide +kernel
theorem dX10_would_112 : decode cX10_would 112 = .ok (.getfield 202, 3) := by decide +kernel
theorem dX10_would_115 : decode cX10_would 115 = .ok (.ireturn, 1) := by decide +kernel
theorem dX10_would_116 : decode cX10_would 116 = .ok (.aload_n 0, 1) := by decide +kernel
theorem dX10_would_117 : decode cX10_would 117 = .ok (.getfield 26, 3) := by decide +kernel
theorem dX10_would_120 : decode cX10_would 120 = .ok (.getfield 205, 3) := by decide +kernel
theorem dX10_would_123 : decode cX10_would 123 = .ok (.ireturn, 1) := by decide +kernel
theorem dX10_would_124 : decode cX10_would 124 = .ok (.aload_n 0, 1) := by decide +kernel
theorem dX10_would_125 : decode cX10_would 125 = .ok (.getfield 26, 3) := by decide +kernel
theorem dX10_would_128 : decode cX10_would 128 = .ok (.getfield 208, 3) := by decide +kernel
theorem dX10_would_131 : decode cX10_would 131 = .ok (.ireturn, 1) := by decide +kernel
theorem dX10_broker_0 : decode cX10_broker 0 = .ok (.aload_n 0, 1) := by decide +kernel
theorem dX10_broker_1 : decode cX10_broker 1 = .ok (.getfield 10, 3) := by decide +kernel
theorem dX10_broker_4 : decode cX10_broker 4 = .ok (.iload_n 1, 1) := by decide +kernel
theorem dX10_broker_5 : decode cX10_broker 5 = .ok (.invokevirtual 99, 3) := by decide +kernel
theorem dX10_broker_8 : decode cX10_broker 8 = .ok (.ifCond .ne 6, 3) := by decide +kernel
theorem dX10_broker_11 : decode cX10_broker 11 = .ok (.ldc 103, 2) := by decide +kernel
theorem dX10_broker_13 : decode cX10_broker 13 = .ok (.ireturn, 1) := by decide +kernel
theorem dX10_broker_14 : decode cX10_broker 14 = .ok (.aload_n 0, 1) := by decide +kernel
theorem dX10_broker_15 : decode cX10_broker 15 = .ok (.getfield 10, 3) := by decide +kernel
theorem dX10_broker_18 : decode cX10_broker 18 = .ok (.getfield 58, 3) := by decide +kernel
theorem dX10_broker_21 : decode cX10_broker 21 = .ok (.bipush 7, 2) := by decide +kernel
theorem dX10_broker_23 : decode cX10_broker 23 = .ok (.if_icmp .lt 6, 3) := by decide +kernel
theorem dX10_broker_26 : decode cX10_broker 26 = .ok (.ldc 211, 2) := by decide +kernel
theorem dX10_broker_28 : decode cX10_broker 28 = .ok (.ireturn, 1) := by decide +kernel
theorem dX10_broker_29 : decode cX10_broker 29 = .ok (.aload_n 0, 1) := by decide +kernel
theorem dX10_broker_30 : decode cX10_broker 30 = .ok (.getfield 33, 3) := by decide +kernel
theorem dX10_broker_33 : decode cX10_broker 33 = .ok (.aload_n 0, 1) := by decide +kernel
theorem dX10_broker_34 : decode cX10_broker 34 = .ok (.getfield 10, 3) := by decide +kernel
theorem dX10_broker_37 : decode cX10_broker 37 = .ok (.invokevirtual 212, 3) := by decide +kernel
theorem dX10_broker_40 : decode cX10_broker 40 = .ok (.aload_n 0, 1) := by decide +kernel
theorem dX10_broker_41 : decode cX10_broker 41 = .ok (.getfield 19, 3) := by decide +kernel
theorem dX10_broker_44 : decode cX10_broker 44 = .ok (.invokevirtual 215, 3) := by decide +kernel
theorem dX10_broker_47 : decode cX10_broker 47 = .ok (.aload_n 0, 1) := by decide +kernel
theorem dX10_broker_48 : decode cX10_broker 48 = .ok (.getfield 10, 3) := by decide +kernel
theorem dX10_broker_51 : decode cX10_broker 51 = .ok (.iload_n 1, 1) := by decide +kernel
theorem dX10_broker_52 : decode cX10_broker 52 = .ok (.invokevirtual 218, 3) := by decide +kernel
theorem dX10_broker_55 : decode cX10_broker 55 = .ok (.ireturn, 1) := by decide +kernel
theorem dX10_client_0 : decode cX10_client 0 = .ok (.aload_n 0, 1) := by decide +kernel
theorem dX10_client_1 : decode cX10_client 1 = .ok (.getfield 10, 3) := by decide +kernel
theorem dX10_client_4 : decode cX10_client 4 = .ok (.iload_n 1, 1) := by decide +kernel
theorem dX10_client_5 : decode cX10_client 5 = .ok (.invokevirtual 99, 3) := by decide +kernel
theorem dX10_client_8 : decode cX10_client 8 = .ok (.ifCond .ne 6, 3) := by decide +kernel
theorem dX10_client_11 : decode cX10_client 11 = .ok (.ldc 103, 2) := by decide +kernel
theorem dX10_client_13 : decode cX10_client 13 = .ok (.ireturn, 1) := by decide +kernel
theorem dX10_client_14 : decode cX10_client 14 = .ok (.aload_n 0, 1) := by decide +kernel
theorem dX10_client_15 : decode cX10_client 15 = .ok (.getfield 10, 3) := by decide +kernel
theorem dX10_client_18 : decode cX10_client 18 = .ok (.getfield 62, 3) := by decide +kernel
theorem dX10_client_21 : decode cX10_client 21 = .ok (.bipush 6, 2) := by decide +kernel
theorem dX10_client_23 : decode cX10_client 23 = .ok (.if_icmp .lt 6, 3) := by decide +kernel
theorem dX10_client_26 : decode cX10_client 26 = .ok (.ldc 211, 2) := by decide +kernel
theorem dX10_client_28 : decode cX10_client 28 = .ok (.ireturn, 1) := by decide +kernel
theorem dX10_client_29 : decode cX10_client 29 = .ok (.aload_n 0, 1) := by decide +kernel
theorem dX10_client_30 : decode cX10_client 30 = .ok (.getfield 33, 3) := by decide +kernel
theorem dX10_client_33 : decode cX10_client 33 = .ok (.aload_n 0, 1) := by decide +kernel
theorem dX10_client_34 : decode cX10_client 34 = .ok (.getfield 10, 3) := by decide +kernel
theorem dX10_client_37 : decode cX10_client 37 = .ok (.invokevirtual 212, 3) := by decide +kernel
theorem dX10_client_40 : decode cX10_client 40 = .ok (.aload_n 0, 1) := by decide +kernel
theorem dX10_client_41 : decode cX10_client 41 = .ok (.getfield 10, 3) := by decide +kernel
theorem dX10_client_44 : decode cX10_client 44 = .ok (.iload_n 1, 1) := by decide +kernel
theorem dX10_client_45 : decode cX10_client 45 = .ok (.invokevirtual 221, 3) := by decide +kernel
theorem dX10_client_48 : decode cX10_client 48 = .ok (.ireturn, 1) := by decide +kernel
theorem dX10_wish_0 : decode cX10_wish 0 = .ok (.aload_n 0, 1) := by decide +kernel
theorem dX10_wish_1 : decode cX10_wish 1 = .ok (.getfield 10, 3) := by decide +kernel
theorem dX10_wish_4 : decode cX10_wish 4 = .ok (.iload_n 1, 1) := by decide +kernel
theorem dX10_wish_5 : decode cX10_wish 5 = .ok (.invokevirtual 118, 3) := by decide +kernel
theorem dX10_wish_8 : decode cX10_wish 8 = .ok (.ifCond .ne 6, 3) := by decide +kernel
theorem dX10_wish_11 : decode cX10_wish 11 = .ok (.ldc 103, 2) := by decide +kernel
theorem dX10_wish_13 : decode cX10_wish 13 = .ok (.ireturn, 1) := by decide +kernel
theorem dX10_wish_14 : decode cX10_wish 14 = .ok (.iload_n 2, 1) := by decide +kernel
theorem dX10_wish_15 : decode cX10_wish 15 = .ok (.invokestatic 224, 3) := by decide +kernel
theorem dX10_wish_18 : decode cX10_wish 18 = .ok (.ifCond .eq 30, 3) := by decide +kernel
theorem dX10_wish_21 : decode cX10_wish 21 = .ok (.iload 4, 2) := by decide +kernel
theorem dX10_wish_23 : decode cX10_wish 23 = .ok (.invokestatic 224, 3) := by decide +kernel
theorem dX10_wish_26 : decode cX10_wish 26 = .ok (.ifCond .eq 22, 3) := by decide +kernel
theorem dX10_wish_29 : decode cX10_wish 29 = .ok (.iload 6, 2) := by decide +kernel
theorem dX10_wish_31 : decode cX10_wish 31 = .ok (.invokestatic 224, 3) := by decide +kernel
theorem dX10_wish_34 : decode cX10_wish 34 = .ok (.ifCond .eq 14, 3) := by decide +kernel
theorem dX10_wish_37 : decode cX10_wish 37 = .ok (.iload_n 3, 1) := by decide +kernel
theorem dX10_wish_38 : decode cX10_wish 38 = .ok (.iload 5, 2) := by decide +kernel
theorem dX10_wish_40 : decode cX10_wish 40 = .ok (.iload 7, 2) := by decide +kernel
theorem dX10_wish_42 : decode cX10_wish 42 = .ok (.invokestatic 188, 3) := by decide +kernel
theorem dX10_wish_45 : decode cX10_wish 45 = .ok (.ifCond .ne 6, 3) := by decide +kernel
theorem dX10_wish_48 : decode cX10_wish 48 = .ok (.ldc 98, 2) := by decide +kernel
theorem dX10_wish_50 : decode cX10_wish 50 = .ok (.ireturn, 1) := by decide +kernel
theorem dX10_wish_51 : decode cX10_wish 51 = .ok (.aload_n 0, 1) := by decide +kernel
theorem dX10_wish_52 : decode cX10_wish 52 = .ok (.getfield 10, 3) := by decide +kernel
theorem dX10_wish_55 : decode cX10_wish 55 = .ok (.getfield 65, 3) := by decide +kernel
theorem dX10_wish_58 : decode cX10_wish 58 = .ok (.bipush 12, 2) := by decide +kernel
theorem dX10_wish_60 : decode cX10_wish 60 = .ok (.if_icmp .lt 6, 3) := by decide +kernel
theorem dX10_wish_63 : decode cX10_wish 63 = .ok (.ldc 211, 2) := by decide +kernel
theorem dX10_wish_65 : decode cX10_wish 65 = .ok (.ireturn, 1) := by decide +kernel
theorem dX10_wish_66 : decode cX10_wish 66 = .ok (.aload_n 0, 1) := by decide +kernel
theorem dX10_wish_67 : decode cX10_wish 67 = .ok (.getfield 33, 3) := by decide +kernel
theorem dX10_wish_70 : decode cX10_wish 70 = .ok (.aload_n 0, 1) := by decide +kernel
theorem dX10_wish_71 : decode cX10_wish 71 = .ok (.getfield 10, 3) := by decide +kernel
theorem dX10_wish_74 : decode cX10_wish 74 = .ok (.invokevirtual 212, 3) := by decide +kernel
theorem dX10_wish_77 : decode cX10_wish 77 = .ok (.aload_n 0, 1) := by decide +kernel
theorem dX10_wish_78 : decode cX10_wish 78 = .ok (.getfield 19, 3) := by decide +kernel
theorem dX10_wish_81 : decode cX10_wish 81 = .ok (.invokevirtual 215, 3) := by decide +kernel
theorem dX10_wish_84 : decode cX10_wish 84 = .ok (.iconst 0, 1) := by decide +kernel
theorem dX10_wish_85 : decode cX10_wish 85 = .ok (.iload_n 2, 1) := by decide +kernel
theorem dX10_wish_86 : decode cX10_wish 86 = .ok (.iload_n 3, 1) := by decide +kernel
theorem dX10_wish_87 : decode cX10_wish 87 = .ok (.invokestatic 227, 3) := by decide +kernel
theorem dX10_wish_90 : decode cX10_wish 90 = .ok (.istore 8, 2) := by decide +kernel
theorem dX10_wish_92 : decode cX10_wish 92 = .ok (.iload 8, 2) := by decide +kernel
theorem dX10_wish_94 : decode cX10_wish 94 = .ok (.iload 4, 2) := by decide +kernel
theorem dX10_wish_96 : decode cX10_wish 96 = .ok (.iload 5, 2) := by decide +kernel
theorem dX10_wish_98 : decode cX10_wish 98 = .ok (.invokestatic 227, 3) := by decide +kernel
theorem dX10_wish_101 : decode cX10_wish 101 = .ok (.istore 8, 2) := by decide +kernel
theorem dX10_wish_103 : decode cX10_wish 103 = .ok (.iload 8, 2) := by decide +kernel
theorem dX10_wish_105 : decode cX10_wish 105 = .ok (.iload 6, 2) := by decide +kernel
theorem dX10_wish_107 : decode cX10_wish 107 = .ok (.iload 7, 2) := by decide +kernel
theorem dX10_wish_109 : decode cX10_wish 109 = .ok (.invokestatic 227, 3) := by decide +kernel
theorem dX10_wish_112 : decode cX10_wish 112 = .ok (.istore 8, 2) := by decide +kernel
theorem dX10_wish_114 : decode cX10_wish 114 = .ok (.aload_n 0, 1) := by decide +kernel
theorem dX10_wish_115 : decode cX10_wish 115 = .ok (.getfield 10, 3) := by decide +kernel
theorem dX10_wish_118 : decode cX10_wish 118 = .ok (.iload_n 1, 1) := by decide +kernel
theorem dX10_wish_119 : decode cX10_wish 119 = .ok (.iload 8, 2) := by decide +kernel
theorem dX10_wish_121 : decode cX10_wish 121 = .ok (.invokevirtual 230, 3) := by decide +kernel
theorem dX10_wish_124 : decode cX10_wish 124 = .ok (.ireturn, 1) := by decide +kernel
theorem dX10_drop_0 : decode cX10_drop 0 = .ok (.aload_n 0, 1) := by decide +kernel
theorem dX10_drop_1 : decode cX10_drop 1 = .ok (.getfield 10, 3) := by decide +kernel
theorem dX10_drop_4 : decode cX10_drop 4 = .ok (.iload_n 1, 1) := by decide +kernel
theorem dX10_drop_5 : decode cX10_drop 5 = .ok (.invokevirtual 150, 3) := by decide +kernel
theorem dX10_drop_8 : decode cX10_drop 8 = .ok (.ifCond .ne 6, 3) := by decide +kernel
theorem dX10_drop_11 : decode cX10_drop 11 = .ok (.ldc 103, 2) := by decide +kernel
theorem dX10_drop_13 : decode cX10_drop 13 = .ok (.ireturn, 1) := by decide +kernel
theorem dX10_drop_14 : decode cX10_drop 14 = .ok (.aload_n 0, 1) := by decide +kernel
theorem dX10_drop_15 : decode cX10_drop 15 = .ok (.getfield 33, 3) := by decide +kernel
theorem dX10_drop_18 : decode cX10_drop 18 = .ok (.aload_n 0, 1) := by decide +kernel
theorem dX10_drop_19 : decode cX10_drop 19 = .ok (.getfield 10, 3) := by decide +kernel
theorem dX10_drop_22 : decode cX10_drop 22 = .ok (.invokevirtual 212, 3) := by decide +kernel
theorem dX10_drop_25 : decode cX10_drop 25 = .ok (.aload_n 0, 1) := by decide +kernel
theorem dX10_drop_26 : decode cX10_drop 26 = .ok (.getfield 19, 3) := by decide +kernel
theorem dX10_drop_29 : decode cX10_drop 29 = .ok (.invokevirtual 215, 3) := by decide +kernel
theorem dX10_drop_32 : decode cX10_drop 32 = .ok (.aload_n 0, 1) := by decide +kernel
theorem dX10_drop_33 : decode cX10_drop 33 = .ok (.getfield 10, 3) := by decide +kernel
theorem dX10_drop_36 : decode cX10_drop 36 = .ok (.iload_n 1, 1) := by decide +kernel
theorem dX10_drop_37 : decode cX10_drop 37 = .ok (.invokevirtual 233, 3) := by decide +kernel
theorem dX10_drop_40 : decode cX10_drop 40 = .ok (.aload_n 0, 1) := by decide +kernel
theorem dX10_drop_41 : decode cX10_drop 41 = .ok (.getfield 10, 3) := by decide +kernel
theorem dX10_drop_44 : decode cX10_drop 44 = .ok (.getfield 65, 3) := by decide +kernel
theorem dX10_drop_47 : decode cX10_drop 47 = .ok (.ireturn, 1) := by decide +kernel
theorem dX10_most_0 : decode cX10_most 0 = .ok (.iload_n 1, 1) := by decide +kernel
theorem dX10_most_1 : decode cX10_most 1 = .ok (.iconst 1, 1) := by decide +kernel
theorem dX10_most_2 : decode cX10_most 2 = .ok (.bipush 9, 2) := by decide +kernel
theorem dX10_most_4 : decode cX10_most 4 = .ok (.invokestatic 143, 3) := by decide +kernel
theorem dX10_most_7 : decode cX10_most 7 = .ok (.ifCond .ne 6, 3) := by decide +kernel
theorem dX10_most_10 : decode cX10_most 10 = .ok (.ldc 98, 2) := by decide +kernel
theorem dX10_most_12 : decode cX10_most 12 = .ok (.ireturn, 1) := by decide +kernel
theorem dX10_most_13 : decode cX10_most 13 = .ok (.aload_n 0, 1) := by decide +kernel
theorem dX10_most_14 : decode cX10_most 14 = .ok (.getfield 33, 3) := by decide +kernel
theorem dX10_most_17 : decode cX10_most 17 = .ok (.aload_n 0, 1) := by decide +kernel
theorem dX10_most_18 : decode cX10_most 18 = .ok (.getfield 10, 3) := by decide +kernel
theorem dX10_most_21 : decode cX10_most 21 = .ok (.invokevirtual 212, 3) := by decide +kernel
theorem dX10_most_24 : decode cX10_most 24 = .ok (.aload_n 0, 1) := by decide +kernel
theorem dX10_most_25 : decode cX10_most 25 = .ok (.getfield 19, 3) := by decide +kernel
theorem dX10_most_28 : decode cX10_most 28 = .ok (.invokevirtual 215, 3) := by decide +kernel
theorem dX10_most_31 : decode cX10_most 31 = .ok (.aload_n 0, 1) := by decide +kernel
theorem dX10_most_32 : decode cX10_most 32 = .ok (.getfield 10, 3) := by decide +kernel
theorem dX10_most_35 : decode cX10_most 35 = .ok (.getfield 68, 3) := by decide +kernel
theorem dX10_most_38 : decode cX10_most 38 = .ok (.istore_n 2, 1) := by decide +kernel
theorem dX10_most_39 : decode cX10_most 39 = .ok (.aload_n 0, 1) := by decide +kernel
theorem dX10_most_40 : decode cX10_most 40 = .ok (.getfield 10, 3) := by decide +kernel
theorem dX10_most_43 : decode cX10_most 43 = .ok (.iload_n 1, 1) := by decide +kernel
theorem dX10_most_44 : decode cX10_most 44 = .ok (.putfield 68, 3) := by decide +kernel
theorem dX10_most_47 : decode cX10_most 47 = .ok (.iload_n 2, 1) := by decide +kernel
theorem dX10_most_48 : decode cX10_most 48 = .ok (.ireturn, 1) := by decide +kernel
theorem dX10_put_0 : decode cX10_put 0 = .ok (.aload_n 0, 1) := by decide +kernel
theorem dX10_put_1 : decode cX10_put 1 = .ok (.getfield 10, 3) := by decide +kernel
theorem dX10_put_4 : decode cX10_put 4 = .ok (.iload_n 1, 1) := by decide +kernel
theorem dX10_put_5 : decode cX10_put 5 = .ok (.invokevirtual 99, 3) := by decide +kernel
theorem dX10_put_8 : decode cX10_put 8 = .ok (.ifCond .ne 6, 3) := by decide +kernel
theorem dX10_put_11 : decode cX10_put 11 = .ok (.ldc 103, 2) := by decide +kernel
theorem dX10_put_13 : decode cX10_put 13 = .ok (.ireturn, 1) := by decide +kernel
theorem dX10_put_14 : decode cX10_put 14 = .ok (.iload_n 2, 1) := by decide +kernel
theorem dX10_put_15 : decode cX10_put 15 = .ok (.iload_n 3, 1) := by decide +kernel
theorem dX10_put_16 : decode cX10_put 16 = .ok (.iload 4, 2) := by decide +kernel
theorem dX10_put_18 : decode cX10_put 18 = .ok (.invokestatic 188, 3) := by decide +kernel
theorem dX10_put_21 : decode cX10_put 21 = .ok (.ifCond .ne 6, 3) := by decide +kernel
theorem dX10_put_24 : decode cX10_put 24 = .ok (.ldc 98, 2) := by decide +kernel
theorem dX10_put_26 : decode cX10_put 26 = .ok (.ireturn, 1) := by decide +kernel
theorem dX10_put_27 : decode cX10_put 27 = .ok (.aload_n 0, 1) := by decide +kernel
theorem dX10_put_28 : decode cX10_put 28 = .ok (.getfield 19, 3) := by decide +kernel
theorem dX10_put_31 : decode cX10_put 31 = .ok (.aload_n 0, 1) := by decide +kernel
theorem dX10_put_32 : decode cX10_put 32 = .ok (.getfield 10, 3) := by decide +kernel
theorem dX10_put_35 : decode cX10_put 35 = .ok (.invokevirtual 74, 3) := by decide +kernel
theorem dX10_put_38 : decode cX10_put 38 = .ok (.aload_n 0, 1) := by decide +kernel
theorem dX10_put_39 : decode cX10_put 39 = .ok (.iload_n 1, 1) := by decide +kernel
theorem dX10_put_40 : decode cX10_put 40 = .ok (.iload_n 2, 1) := by decide +kernel
theorem dX10_put_41 : decode cX10_put 41 = .ok (.iload_n 3, 1) := by decide +kernel
theorem dX10_put_42 : decode cX10_put 42 = .ok (.iload 4, 2) := by decide +kernel
theorem dX10_put_44 : decode cX10_put 44 = .ok (.invokestatic 191, 3) := by decide +kernel
theorem dX10_put_47 : decode cX10_put 47 = .ok (.invokevirtual 237, 3) := by decide +kernel
theorem dX10_put_50 : decode cX10_put 50 = .ok (.ireturn, 1) := by decide +kernel
theorem dX10_leave_0 : decode cX10_leave 0 = .ok (.aload_n 0, 1) := by decide +kernel
theorem dX10_leave_1 : decode cX10_leave 1 = .ok (.getfield 10, 3) := by decide +kernel
theorem dX10_leave_4 : decode cX10_leave 4 = .ok (.iload_n 1, 1) := by decide +kernel
theorem dX10_leave_5 : decode cX10_leave 5 = .ok (.invokevirtual 118, 3) := by decide +kernel
theorem dX10_leave_8 : decode cX10_leave 8 = .ok (.ifCond .ne 6, 3) := by decide +kernel
theorem dX10_leave_11 : decode cX10_leave 11 = .ok (.ldc 103, 2) := by decide +kernel
theorem dX10_leave_13 : decode cX10_leave 13 = .ok (.ireturn, 1) := by decide +kernel
theorem dX10_leave_14 : decode cX10_leave 14 = .ok (.aload_n 0, 1) := by decide +kernel
theorem dX10_leave_15 : decode cX10_leave 15 = .ok (.getfield 10, 3) := by decide +kernel
theorem dX10_leave_18 : decode cX10_leave 18 = .ok (.getfield 121, 3) := by decide +kernel
theorem dX10_leave_21 : decode cX10_leave 21 = .ok (.iload_n 1, 1) := by decide +kernel
theorem dX10_leave_22 : decode cX10_leave 22 = .ok (.aaload, 1) := by decide +kernel
theorem dX10_leave_23 : decode cX10_leave 23 = .ok (.astore_n 2, 1) := by decide +kernel
theorem dX10_leave_24 : decode cX10_leave 24 = .ok (.aload_n 2, 1) := by decide +kernel
theorem dX10_leave_25 : decode cX10_leave 25 = .ok (.getfield 130, 3) := by decide +kernel
theorem dX10_leave_28 : decode cX10_leave 28 = .ok (.ifCond .ne 6, 3) := by decide +kernel
theorem dX10_leave_31 : decode cX10_leave 31 = .ok (.ldc 240, 2) := by decide +kernel
theorem dX10_leave_33 : decode cX10_leave 33 = .ok (.ireturn, 1) := by decide +kernel
theorem dX10_leave_34 : decode cX10_leave 34 = .ok (.aload_n 0, 1) := by decide +kernel
theorem dX10_leave_35 : decode cX10_leave 35 = .ok (.getfield 33, 3) := by decide +kernel
theorem dX10_leave_38 : decode cX10_leave 38 = .ok (.aload_n 0, 1) := by decide +kernel
theorem dX10_leave_39 : decode cX10_leave 39 = .ok (.getfield 10, 3) := by decide +kernel
theorem dX10_leave_42 : decode cX10_leave 42 = .ok (.invokevirtual 212, 3) := by decide +kernel
theorem dX10_leave_45 : decode cX10_leave 45 = .ok (.aload_n 2, 1) := by decide +kernel
theorem dX10_leave_46 : decode cX10_leave 46 = .ok (.iconst 0, 1) := by decide +kernel
theorem dX10_leave_47 : decode cX10_leave 47 = .ok (.putfield 130, 3) := by decide +kernel
theorem dX10_leave_50 : decode cX10_leave 50 = .ok (.aload_n 2, 1) := by decide +kernel
theorem dX10_leave_51 : decode cX10_leave 51 = .ok (.getfield 125, 3) := by decide +kernel
theorem dX10_leave_54 : decode cX10_leave 54 = .ok (.ireturn, 1) := by decide +kernel
theorem dX10_come_0 : decode cX10_come 0 = .ok (.aload_n 0, 1) := by decide +kernel
theorem dX10_come_1 : decode cX10_come 1 = .ok (.getfield 10, 3) := by decide +kernel
theorem dX10_come_4 : decode cX10_come 4 = .ok (.iload_n 1, 1) := by decide +kernel
theorem dX10_come_5 : decode cX10_come 5 = .ok (.invokevirtual 118, 3) := by decide +kernel
theorem dX10_come_8 : decode cX10_come 8 = .ok (.ifCond .eq 14, 3) := by decide +kernel
theorem dX10_come_11 : decode cX10_come 11 = .ok (.aload_n 0, 1) := by decide +kernel
theorem dX10_come_12 : decode cX10_come 12 = .ok (.getfield 10, 3) := by decide +kernel
theorem dX10_come_15 : decode cX10_come 15 = .ok (.iload_n 2, 1) := by decide +kernel
theorem dX10_come_16 : decode cX10_come 16 = .ok (.invokevirtual 99, 3) := by decide +kernel
theorem dX10_come_19 : decode cX10_come 19 = .ok (.ifCond .ne 6, 3) := by decide +kernel
theorem dX10_come_22 : decode cX10_come 22 = .ok (.ldc 103, 2) := by decide +kernel
theorem dX10_come_24 : decode cX10_come 24 = .ok (.ireturn, 1) := by decide +kernel
theorem dX10_come_25 : decode cX10_come 25 = .ok (.aload_n 0, 1) := by decide +kernel
theorem dX10_come_26 : decode cX10_come 26 = .ok (.getfield 10, 3) := by decide +kernel
theorem dX10_come_29 : decode cX10_come 29 = .ok (.getfield 121, 3) := by decide +kernel
theorem dX10_come_32 : decode cX10_come 32 = .ok (.iload_n 1, 1) := by decide +kernel
theorem dX10_come_33 : decode cX10_come 33 = .ok (.aaload, 1) := by decide +kernel
theorem dX10_come_34 : decode cX10_come 34 = .ok (.astore_n 3, 1) := by decide +kernel
theorem dX10_come_35 : decode cX10_come 35 = .ok (.aload_n 3, 1) := by decide +kernel
theorem dX10_come_36 : decode cX10_come 36 = .ok (.getfield 130, 3) := by decide +kernel
theorem dX10_come_39 : decode cX10_come 39 = .ok (.ifCond .eq 6, 3) := by decide +kernel
theorem dX10_come_42 : decode cX10_come 42 = .ok (.ldc 240, 2) := by decide +kernel
theorem dX10_come_44 : decode cX10_come 44 = .ok (.ireturn, 1) := by decide +kernel
theorem dX10_come_45 : decode cX10_come 45 = .ok (.aload_n 0, 1) := by decide +kernel
theorem dX10_come_46 : decode cX10_come 46 = .ok (.getfield 33, 3) := by decide +kernel
theorem dX10_come_49 : decode cX10_come 49 = .ok (.aload_n 0, 1) := by decide +kernel
theorem dX10_come_50 : decode cX10_come 50 = .ok (.getfield 10, 3) := by decide +kernel
theorem dX10_come_53 : decode cX10_come 53 = .ok (.invokevirtual 212, 3) := by decide +kernel
theorem dX10_come_56 : decode cX10_come 56 = .ok (.aload_n 0, 1) := by decide +kernel
theorem dX10_come_57 : decode cX10_come 57 = .ok (.getfield 19, 3) := by decide +kernel
theorem dX10_come_60 : decode cX10_come 60 = .ok (.invokevirtual 215, 3) := by decide +kernel
theorem dX10_come_63 : decode cX10_come 63 = .ok (.aload_n 3, 1) := by decide +kernel
theorem dX10_come_64 : decode cX10_come 64 = .ok (.iload_n 2, 1) := by decide +kernel
theorem dX10_come_65 : decode cX10_come 65 = .ok (.invokevirtual 241, 3) := by decide +kernel
theorem dX10_come_68 : decode cX10_come 68 = .ok (.ireturn, 1) := by decide +kernel
theorem dX10_part_0 : decode cX10_part 0 = .ok (.aload_n 0, 1) := by decide +kernel
theorem dX10_part_1 : decode cX10_part 1 = .ok (.getfield 10, 3) := by decide +kernel
theorem dX10_part_4 : decode cX10_part 4 = .ok (.getfield 62, 3) := by decide +kernel
theorem dX10_part_7 : decode cX10_part 7 = .ok (.ifCond .gt 6, 3) := by decide +kernel
theorem dX10_part_10 : decode cX10_part 10 = .ok (.ldc 240, 2) := by decide +kernel
theorem dX10_part_12 : decode cX10_part 12 = .ok (.ireturn, 1) := by decide +kernel
theorem dX10_part_13 : decode cX10_part 13 = .ok (.aload_n 0, 1) := by decide +kernel
theorem dX10_part_14 : decode cX10_part 14 = .ok (.getfield 33, 3) := by decide +kernel
theorem dX10_part_17 : decode cX10_part 17 = .ok (.aload_n 0, 1) := by decide +kernel
theorem dX10_part_18 : decode cX10_part 18 = .ok (.getfield 10, 3) := by decide +kernel
theorem dX10_part_21 : decode cX10_part 21 = .ok (.invokevirtual 212, 3) := by decide +kernel
theorem dX10_part_24 : decode cX10_part 24 = .ok (.aload_n 0, 1) := by decide +kernel
theorem dX10_part_25 : decode cX10_part 25 = .ok (.getfield 19, 3) := by decide +kernel
theorem dX10_part_28 : decode cX10_part 28 = .ok (.invokevirtual 215, 3) := by decide +kernel
theorem dX10_part_31 : decode cX10_part 31 = .ok (.aload_n 0, 1) := by decide +kernel
theorem dX10_part_32 : decode cX10_part 32 = .ok (.getfield 10, 3) := by decide +kernel
theorem dX10_part_35 : decode cX10_part 35 = .ok (.invokevirtual 244, 3) := by decide +kernel
theorem dX10_part_38 : decode cX10_part 38 = .ok (.aload_n 0, 1) := by decide +kernel
theorem dX10_part_39 : decode cX10_part 39 = .ok (.getfield 10, 3) := by decide +kernel
theorem dX10_part_42 : decode cX10_part 42 = .ok (.getfield 62, 3) := by decide +kernel
theorem dX10_part_45 : decode cX10_part 45 = .ok (.ireturn, 1) := by decide +kernel
theorem dX10_drift_0 : decode cX10_drift 0 = .ok (.iload_n 1, 1) := by decide +kernel
theorem dX10_drift_1 : decode cX10_drift 1 = .ok (.iconst 1, 1) := by decide +kernel
theorem dX10_drift_2 : decode cX10_drift 2 = .ok (.bipush 8, 2) := by decide +kernel
theorem dX10_drift_4 : decode cX10_drift 4 = .ok (.invokestatic 143, 3) := by decide +kernel
theorem dX10_drift_7 : decode cX10_drift 7 = .ok (.ifCond .ne 6, 3) := by decide +kernel
theorem dX10_drift_10 : decode cX10_drift 10 = .ok (.ldc 98, 2) := by decide +kernel
theorem dX10_drift_12 : decode cX10_drift 12 = .ok (.ireturn, 1) := by decide +kernel
theorem dX10_drift_13 : decode cX10_drift 13 = .ok (.aload_n 0, 1) := by decide +kernel
theorem dX10_drift_14 : decode cX10_drift 14 = .ok (.getfield 19, 3) := by decide +kernel
theorem dX10_drift_17 : decode cX10_drift 17 = .ok (.aload_n 0, 1) := by decide +kernel
theorem dX10_drift_18 : decode cX10_drift 18 = .ok (.getfield 10, 3) := by decide +kernel
theorem dX10_drift_21 : decode cX10_drift 21 = .ok (.invokevirtual 74, 3) := by decide +kernel
theorem dX10_drift_24 : decode cX10_drift 24 = .ok (.iconst 0, 1) := by decide +kernel
theorem dX10_drift_25 : decode cX10_drift 25 = .ok (.istore_n 2, 1) := by decide +kernel
theorem dX10_drift_26 : decode cX10_drift 26 = .ok (.iload_n 2, 1) := by decide +kernel
theorem dX10_drift_27 : decode cX10_drift 27 = .ok (.iload_n 1, 1) := by decide +kernel
theorem dX10_drift_28 : decode cX10_drift 28 = .ok (.if_icmp .ge 72, 3) := by decide +kernel
theorem dX10_drift_31 : decode cX10_drift 31 = .ok (.aload_n 0, 1) := by decide +kernel
theorem dX10_drift_32 : decode cX10_drift 32 = .ok (.getfield 47, 3) := by decide +kernel
theorem dX10_drift_35 : decode cX10_drift 35 = .ok (.aload_n 0, 1) := by decide +kernel
theorem dX10_drift_36 : decode cX10_drift 36 = .ok (.getfield 10, 3) := by decide +kernel
theorem dX10_drift_39 : decode cX10_drift 39 = .ok (.getfield 58, 3) := by decide +kernel
theorem dX10_drift_42 : decode cX10_drift 42 = .ok (.invokevirtual 247, 3) := by decide +kernel
theorem dX10_drift_45 : decode cX10_drift 45 = .ok (.istore_n 3, 1) := by decide +kernel
theorem dX10_drift_46 : decode cX10_drift 46 = .ok (.aload_n 0, 1) := by decide +kernel
theorem dX10_drift_47 : decode cX10_drift 47 = .ok (.getfield 47, 3) := by decide +kernel
theorem dX10_drift_50 : decode cX10_drift 50 = .ok (.bipush 10, 2) := by decide +kernel
theorem dX10_drift_52 : decode cX10_drift 52 = .ok (.invokevirtual 247, 3) := by decide +kernel
theorem dX10_drift_55 : decode cX10_drift 55 = .ok (.istore 4, 2) := by decide +kernel
theorem dX10_drift_57 : decode cX10_drift 57 = .ok (.aload_n 0, 1) := by decide +kernel
theorem dX10_drift_58 : decode cX10_drift 58 = .ok (.getfield 47, 3) := by decide +kernel
theorem dX10_drift_61 : decode cX10_drift 61 = .ok (.bipush 10, 2) := by decide +kernel
theorem dX10_drift_63 : decode cX10_drift 63 = .ok (.invokevirtual 247, 3) := by decide +kernel
theorem dX10_drift_66 : decode cX10_drift 66 = .ok (.istore 5, 2) := by decide +kernel
theorem dX10_drift_68 : decode cX10_drift 68 = .ok (.aload_n 0, 1) := by decide +kernel
theorem dX10_drift_69 : decode cX10_drift 69 = .ok (.getfield 47, 3) := by decide +kernel
theorem dX10_drift_72 : decode cX10_drift 72 = .ok (.bipush 10, 2) := by decide +kernel
theorem dX10_drift_74 : decode cX10_drift 74 = .ok (.invokevirtual 247, 3) := by decide +kernel
theorem dX10_drift_77 : decode cX10_drift 77 = .ok (.istore 6, 2) := by decide +kernel
theorem dX10_drift_79 : decode cX10_drift 79 = .ok (.aload_n 0, 1) := by decide +kernel
theorem dX10_drift_80 : decode cX10_drift 80 = .ok (.iload_n 3, 1) := by decide +kernel
theorem dX10_drift_81 : decode cX10_drift 81 = .ok (.iload 4, 2) := by decide +kernel
theorem dX10_drift_83 : decode cX10_drift 83 = .ok (.iload 5, 2) := by decide +kernel
theorem dX10_drift_85 : decode cX10_drift 85 = .ok (.iload 6, 2) := by decide +kernel
theorem dX10_drift_87 : decode cX10_drift 87 = .ok (.invokestatic 191, 3) := by decide +kernel
theorem dX10_drift_90 : decode cX10_drift 90 = .ok (.invokevirtual 237, 3) := by decide +kernel
theorem dX10_drift_93 : decode cX10_drift 93 = .ok (.pop, 1) := by decide +kernel
theorem dX10_drift_94 : decode cX10_drift 94 = .ok (.iinc 2 1, 3) := by decide +kernel
theorem dX10_drift_97 : decode cX10_drift 97 = .ok (.goto (-71), 3) := by decide +kernel
theorem dX10_drift_100 : decode cX10_drift 100 = .ok (.aload_n 0, 1) := by decide +kernel
theorem dX10_drift_101 : decode cX10_drift 101 = .ok (.getfield 10, 3) := by decide +kernel
theorem dX10_drift_104 : decode cX10_drift 104 = .ok (.getfield 71, 3) := by decide +kernel
theorem dX10_drift_107 : decode cX10_drift 107 = .ok (.ireturn, 1) := by decide +kernel
theorem dX10_undo_0 : decode cX10_undo 0 = .ok (.iload_n 1, 1) := by decide +kernel
theorem dX10_undo_1 : decode cX10_undo 1 = .ok (.iconst 1, 1) := by decide +kernel
theorem dX10_undo_2 : decode cX10_undo 2 = .ok (.bipush 16, 2) := by decide +kernel
theorem dX10_undo_4 : decode cX10_undo 4 = .ok (.invokestatic 143, 3) := by decide +kernel
theorem dX10_undo_7 : decode cX10_undo 7 = .ok (.ifCond .ne 6, 3) := by decide +kernel
theorem dX10_undo_10 : decode cX10_undo 10 = .ok (.ldc 98, 2) := by decide +kernel
theorem dX10_undo_12 : decode cX10_undo 12 = .ok (.ireturn, 1) := by decide +kernel
theorem dX10_undo_13 : decode cX10_undo 13 = .ok (.iload_n 1, 1) := by decide +kernel
theorem dX10_undo_14 : decode cX10_undo 14 = .ok (.aload_n 0, 1) := by decide +kernel
theorem dX10_undo_15 : decode cX10_undo 15 = .ok (.getfield 33, 3) := by decide +kernel
theorem dX10_undo_18 : decode cX10_undo 18 = .ok (.getfield 94, 3) := by decide +kernel
theorem dX10_undo_21 : decode cX10_undo 21 = .ok (.if_icmp .le 6, 3) := by decide +kernel
theorem dX10_undo_24 : decode cX10_undo 24 = .ok (.ldc 240, 2) := by decide +kernel
theorem dX10_undo_26 : decode cX10_undo 26 = .ok (.ireturn, 1) := by decide +kernel
theorem dX10_undo_27 : decode cX10_undo 27 = .ok (.aload_n 0, 1) := by decide +kernel
theorem dX10_undo_28 : decode cX10_undo 28 = .ok (.getfield 33, 3) := by decide +kernel
theorem dX10_undo_31 : decode cX10_undo 31 = .ok (.aload_n 0, 1) := by decide +kernel
theorem dX10_undo_32 : decode cX10_undo 32 = .ok (.getfield 10, 3) := by decide +kernel
theorem dX10_undo_35 : decode cX10_undo 35 = .ok (.iload_n 1, 1) := by decide +kernel
theorem dX10_undo_36 : decode cX10_undo 36 = .ok (.invokevirtual 250, 3) := by decide +kernel
theorem dX10_undo_39 : decode cX10_undo 39 = .ok (.aload_n 0, 1) := by decide +kernel
theorem dX10_undo_40 : decode cX10_undo 40 = .ok (.getfield 19, 3) := by decide +kernel
theorem dX10_undo_43 : decode cX10_undo 43 = .ok (.invokevirtual 215, 3) := by decide +kernel
theorem dX10_undo_46 : decode cX10_undo 46 = .ok (.aload_n 0, 1) := by decide +kernel
theorem dX10_undo_47 : decode cX10_undo 47 = .ok (.getfield 33, 3) := by decide +kernel
theorem dX10_undo_50 : decode cX10_undo 50 = .ok (.getfield 94, 3) := by decide +kernel
theorem dX10_undo_53 : decode cX10_undo 53 = .ok (.ireturn, 1) := by decide +kernel
theorem dX10_write_0 : decode cX10_write 0 = .ok (.aload_n 0, 1) := by decide +kernel
theorem dX10_write_1 : decode cX10_write 1 = .ok (.getfield 10, 3) := by decide +kernel
theorem dX10_write_4 : decode cX10_write 4 = .ok (.iload_n 1, 1) := by decide +kernel
theorem dX10_write_5 : decode cX10_write 5 = .ok (.invokevirtual 118, 3) := by decide +kernel
theorem dX10_write_8 : decode cX10_write 8 = .ok (.ifCond .ne 6, 3) := by decide +kernel
theorem dX10_write_11 : decode cX10_write 11 = .ok (.ldc 103, 2) := by decide +kernel
theorem dX10_write_13 : decode cX10_write 13 = .ok (.ireturn, 1) := by decide +kernel
theorem dX10_write_14 : decode cX10_write 14 = .ok (.aload_n 0, 1) := by decide +kernel
theorem dX10_write_15 : decode cX10_write 15 = .ok (.getfield 40, 3) := by decide +kernel
theorem dX10_write_18 : decode cX10_write 18 = .ok (.getfield 88, 3) := by decide +kernel
theorem dX10_write_21 : decode cX10_write 21 = .ok (.bipush 20, 2) := by decide +kernel
theorem dX10_write_23 : decode cX10_write 23 = .ok (.if_icmp .lt 6, 3) := by decide +kernel
theorem dX10_write_26 : decode cX10_write 26 = .ok (.ldc 211, 2) := by decide +kernel
theorem dX10_write_28 : decode cX10_write 28 = .ok (.ireturn, 1) := by decide +kernel
theorem dX10_write_29 : decode cX10_write 29 = .ok (.aload_n 0, 1) := by decide +kernel
theorem dX10_write_30 : decode cX10_write 30 = .ok (.getfield 40, 3) := by decide +kernel
theorem dX10_write_33 : decode cX10_write 33 = .ok (.iload_n 1, 1) := by decide +kernel
theorem dX10_write_34 : decode cX10_write 34 = .ok (.iload_n 2, 1) := by decide +kernel
theorem dX10_write_35 : decode cX10_write 35 = .ok (.invokevirtual 254, 3) := by decide +kernel
theorem dX10_write_38 : decode cX10_write 38 = .ok (.aload_n 0, 1) := by decide +kernel
theorem dX10_write_39 : decode cX10_write 39 = .ok (.getfield 40, 3) := by decide +kernel
theorem dX10_write_42 : decode cX10_write 42 = .ok (.getfield 88, 3) := by decide +kernel
theorem dX10_write_45 : decode cX10_write 45 = .ok (.ireturn, 1) := by decide +kernel
theorem dX10_tear_0 : decode cX10_tear 0 = .ok (.aload_n 0, 1) := by decide +kernel
theorem dX10_tear_1 : decode cX10_tear 1 = .ok (.getfield 40, 3) := by decide +kernel
theorem dX10_tear_4 : decode cX10_tear 4 = .ok (.getfield 88, 3) := by decide +kernel
theorem dX10_tear_7 : decode cX10_tear 7 = .ok (.istore_n 1, 1) := by decide +kernel
theorem dX10_tear_8 : decode cX10_tear 8 = .ok (.aload_n 0, 1) := by decide +kernel
theorem dX10_tear_9 : decode cX10_tear 9 = .ok (.getfield 40, 3) := by decide +kernel
theorem dX10_tear_12 : decode cX10_tear 12 = .ok (.iconst 0, 1) := by decide +kernel
theorem dX10_tear_13 : decode cX10_tear 13 = .ok (.putfield 88, 3) := by decide +kernel
theorem dX10_tear_16 : decode cX10_tear 16 = .ok (.iload_n 1, 1) := by decide +kernel
theorem dX10_tear_17 : decode cX10_tear 17 = .ok (.ireturn, 1) := by decide +kernel
theorem dX10_seed_0 : decode cX10_seed 0 = .ok (.iload_n 1, 1) := by decide +kernel
theorem dX10_seed_1 : decode cX10_seed 1 = .ok (.ifCond .ge 6, 3) := by decide +kernel
theorem dX10_seed_4 : decode cX10_seed 4 = .ok (.ldc 98, 2) := by decide +kernel
theorem dX10_seed_6 : decode cX10_seed 6 = .ok (.ireturn, 1) := by decide +kernel
theorem dX10_seed_7 : decode cX10_seed 7 = .ok (.aload_n 0, 1) := by decide +kernel
theorem dX10_seed_8 : decode cX10_seed 8 = .ok (.getfield 47, 3) := by decide +kernel
theorem dX10_seed_11 : decode cX10_seed 11 = .ok (.getfield 95, 3) := by decide +kernel
theorem dX10_seed_14 : decode cX10_seed 14 = .ok (.istore_n 2, 1) := by decide +kernel
theorem dX10_seed_15 : decode cX10_seed 15 = .ok (.aload_n 0, 1) := by decide +kernel
theorem dX10_seed_16 : decode cX10_seed 16 = .ok (.getfield 47, 3) := by decide +kernel
theorem dX10_seed_19 : decode cX10_seed 19 = .ok (.iload_n 1, 1) := by decide +kernel
theorem dX10_seed_20 : decode cX10_seed 20 = .ok (.putfield 95, 3) := by decide +kernel
theorem dX10_seed_23 : decode cX10_seed 23 = .ok (.iload_n 2, 1) := by decide +kernel
theorem dX10_seed_24 : decode cX10_seed 24 = .ok (.ireturn, 1) := by decide +kernel
theorem dX10_keep_0 : decode cX10_keep 0 = .ok (.iload_n 1, 1) := by decide +kernel
theorem dX10_keep_1 : decode cX10_keep 1 = .ok (.iconst 0, 1) := by decide +kernel
theorem dX10_keep_2 : decode cX10_keep 2 = .ok (.iconst 1, 1) := by decide +kernel
theorem dX10_keep_3 : decode cX10_keep 3 = .ok (.invokestatic 143, 3) := by decide +kernel
theorem dX10_keep_6 : decode cX10_keep 6 = .ok (.ifCond .ne 6, 3) := by decide +kernel
theorem dX10_keep_9 : decode cX10_keep 9 = .ok (.ldc 103, 2) := by decide +kernel
theorem dX10_keep_11 : decode cX10_keep 11 = .ok (.ireturn, 1) := by decide +kernel
theorem dX10_keep_12 : decode cX10_keep 12 = .ok (.aload_n 0, 1) := by decide +kernel
theorem dX10_keep_13 : decode cX10_keep 13 = .ok (.getfield 53, 3) := by decide +kernel
theorem dX10_keep_16 : decode cX10_keep 16 = .ok (.iload_n 1, 1) := by decide +kernel
theorem dX10_keep_17 : decode cX10_keep 17 = .ok (.aaload, 1) := by decide +kernel
theorem dX10_keep_18 : decode cX10_keep 18 = .ok (.aload_n 0, 1) := by decide +kernel
theorem dX10_keep_19 : decode cX10_keep 19 = .ok (.getfield 10, 3) := by decide +kernel
theorem dX10_keep_22 : decode cX10_keep 22 = .ok (.aload_n 0, 1) := by decide +kernel
theorem dX10_keep_23 : decode cX10_keep 23 = .ok (.getfield 47, 3) := by decide +kernel
theorem dX10_keep_26 : decode cX10_keep 26 = .ok (.invokevirtual 258, 3) := by decide +kernel
theorem dX10_keep_29 : decode cX10_keep 29 = .ok (.aload_n 0, 1) := by decide +kernel
theorem dX10_keep_30 : decode cX10_keep 30 = .ok (.getfield 33, 3) := by decide +kernel
theorem dX10_keep_33 : decode cX10_keep 33 = .ok (.invokevirtual 262, 3) := by decide +kernel
theorem dX10_keep_36 : decode cX10_keep 36 = .ok (.iconst 1, 1) := by decide +kernel
theorem dX10_keep_37 : decode cX10_keep 37 = .ok (.ireturn, 1) := by decide +kernel
theorem dX10_goBack_0 : decode cX10_goBack 0 = .ok (.iload_n 1, 1) := by decide +kernel
theorem dX10_goBack_1 : decode cX10_goBack 1 = .ok (.iconst 0, 1) := by decide +kernel
theorem dX10_goBack_2 : decode cX10_goBack 2 = .ok (.iconst 1, 1) := by decide +kernel
theorem dX10_goBack_3 : decode cX10_goBack 3 = .ok (.invokestatic 143, 3) := by decide +kernel
theorem dX10_goBack_6 : decode cX10_goBack 6 = .ok (.ifCond .ne 6, 3) := by decide +kernel
theorem dX10_goBack_9 : decode cX10_goBack 9 = .ok (.ldc 103, 2) := by decide +kernel
theorem dX10_goBack_11 : decode cX10_goBack 11 = .ok (.ireturn, 1) := by decide +kernel
theorem dX10_goBack_12 : decode cX10_goBack 12 = .ok (.aload_n 0, 1) := by decide +kernel
theorem dX10_goBack_13 : decode cX10_goBack 13 = .ok (.getfield 53, 3) := by decide +kernel
theorem dX10_goBack_16 : decode cX10_goBack 16 = .ok (.iload_n 1, 1) := by decide +kernel
theorem dX10_goBack_17 : decode cX10_goBack 17 = .ok (.aaload, 1) := by decide +kernel
theorem dX10_goBack_18 : decode cX10_goBack 18 = .ok (.getfield 265, 3) := by decide +kernel
theorem dX10_goBack_21 : decode cX10_goBack 21 = .ok (.ifCond .ne 6, 3) := by decide +kernel
theorem dX10_goBack_24 : decode cX10_goBack 24 = .ok (.ldc 240, 2) := by decide +kernel
theorem dX10_goBack_26 : decode cX10_goBack 26 = .ok (.ireturn, 1) := by decide +kernel
theorem dX10_goBack_27 : decode cX10_goBack 27 = .ok (.aload_n 0, 1) := by decide +kernel
theorem dX10_goBack_28 : decode cX10_goBack 28 = .ok (.getfield 53, 3) := by decide +kernel
theorem dX10_goBack_31 : decode cX10_goBack 31 = .ok (.iload_n 1, 1) := by decide +kernel
theorem dX10_goBack_32 : decode cX10_goBack 32 = .ok (.aaload, 1) := by decide +kernel
theorem dX10_goBack_33 : decode cX10_goBack 33 = .ok (.aload_n 0, 1) := by decide +kernel
theorem dX10_goBack_34 : decode cX10_goBack 34 = .ok (.getfield 10, 3) := by decide +kernel
theorem dX10_goBack_37 : decode cX10_goBack 37 = .ok (.aload_n 0, 1) := by decide +kernel
theorem dX10_goBack_38 : decode cX10_goBack 38 = .ok (.getfield 47, 3) := by decide +kernel
theorem dX10_goBack_41 : decode cX10_goBack 41 = .ok (.invokevirtual 268, 3) := by decide +kernel
theorem dX10_goBack_44 : decode cX10_goBack 44 = .ok (.aload_n 0, 1) := by decide +kernel
theorem dX10_goBack_45 : decode cX10_goBack 45 = .ok (.getfield 33, 3) := by decide +kernel
theorem dX10_goBack_48 : decode cX10_goBack 48 = .ok (.invokevirtual 262, 3) := by decide +kernel
theorem dX10_goBack_51 : decode cX10_goBack 51 = .ok (.aload_n 0, 1) := by decide +kernel
theorem dX10_goBack_52 : decode cX10_goBack 52 = .ok (.getfield 19, 3) := by decide +kernel
theorem dX10_goBack_55 : decode cX10_goBack 55 = .ok (.invokevirtual 215, 3) := by decide +kernel
theorem dX10_goBack_58 : decode cX10_goBack 58 = .ok (.iconst 1, 1) := by decide +kernel
theorem dX10_goBack_59 : decode cX10_goBack 59 = .ok (.ireturn, 1) := by decide +kernel
theorem dX10_deliver_0 : decode cX10_deliver 0 = .ok (.aload_n 0, 1) := by decide +kernel
theorem dX10_deliver_1 : decode cX10_deliver 1 = .ok (.getfield 33, 3) := by decide +kernel
theorem dX10_deliver_4 : decode cX10_deliver 4 = .ok (.aload_n 0, 1) := by decide +kernel
theorem dX10_deliver_5 : decode cX10_deliver 5 = .ok (.getfield 10, 3) := by decide +kernel
theorem dX10_deliver_8 : decode cX10_deliver 8 = .ok (.invokevirtual 212, 3) := by decide +kernel
theorem dX10_deliver_11 : decode cX10_deliver 11 = .ok (.aload_n 0, 1) := by decide +kernel
theorem dX10_deliver_12 : decode cX10_deliver 12 = .ok (.getfield 26, 3) := by decide +kernel
theorem dX10_deliver_15 : decode cX10_deliver 15 = .ok (.aload_n 0, 1) := by decide +kernel
theorem dX10_deliver_16 : decode cX10_deliver 16 = .ok (.getfield 10, 3) := by decide +kernel
theorem dX10_deliver_19 : decode cX10_deliver 19 = .ok (.aload_n 0, 1) := by decide +kernel
theorem dX10_deliver_20 : decode cX10_deliver 20 = .ok (.getfield 19, 3) := by decide +kernel
theorem dX10_deliver_23 : decode cX10_deliver 23 = .ok (.iload_n 1, 1) := by decide +kernel
theorem dX10_deliver_24 : decode cX10_deliver 24 = .ok (.iload_n 2, 1) := by decide +kernel
theorem dX10_deliver_25 : decode cX10_deliver 25 = .ok (.invokevirtual 195, 3) := by decide +kernel
theorem dX10_deliver_28 : decode cX10_deliver 28 = .ok (.aload_n 0, 1) := by decide +kernel
theorem dX10_deliver_29 : decode cX10_deliver 29 = .ok (.getfield 10, 3) := by decide +kernel
theorem dX10_deliver_32 : decode cX10_deliver 32 = .ok (.aload_n 0, 1) := by decide +kernel
theorem dX10_deliver_33 : decode cX10_deliver 33 = .ok (.getfield 26, 3) := by decide +kernel
theorem dX10_deliver_36 : decode cX10_deliver 36 = .ok (.invokevirtual 271, 3) := by decide +kernel
theorem dX10_deliver_39 : decode cX10_deliver 39 = .ok (.aload_n 0, 1) := by decide +kernel
theorem dX10_deliver_40 : decode cX10_deliver 40 = .ok (.getfield 26, 3) := by decide +kernel
theorem dX10_deliver_43 : decode cX10_deliver 43 = .ok (.getfield 202, 3) := by decide +kernel
theorem dX10_deliver_46 : decode cX10_deliver 46 = .ok (.invokestatic 275, 3) := by decide +kernel
theorem dX10_deliver_49 : decode cX10_deliver 49 = .ok (.ireturn, 1) := by decide +kernel
theorem dX10_within_0 : decode cX10_within 0 = .ok (.iload_n 1, 1) := by decide +kernel
theorem dX10_within_1 : decode cX10_within 1 = .ok (.iload_n 0, 1) := by decide +kernel
theorem dX10_within_2 : decode cX10_within 2 = .ok (.if_icmp .gt 12, 3) := by decide +kernel
theorem dX10_within_5 : decode cX10_within 5 = .ok (.iload_n 0, 1) := by decide +kernel
theorem dX10_within_6 : decode cX10_within 6 = .ok (.iload_n 2, 1) := by decide +kernel
theorem dX10_within_7 : decode cX10_within 7 = .ok (.if_icmp .gt 7, 3) := by decide +kernel
theorem dX10_within_10 : decode cX10_within 10 = .ok (.iconst 1, 1) := by decide +kernel
theorem dX10_within_11 : decode cX10_within 11 = .ok (.goto 4, 3) := by decide +kernel
theorem dX10_within_14 : decode cX10_within 14 = .ok (.iconst 0, 1) := by decide +kernel
theorem dX10_within_15 : decode cX10_within 15 = .ok (.ireturn, 1) := by decide +kernel
theorem dX10_holds_0 : decode cX10_holds 0 = .ok (.iload_n 0, 1) := by decide +kernel
theorem dX10_holds_1 : decode cX10_holds 1 = .ok (.iload_n 1, 1) := by decide +kernel
theorem dX10_holds_2 : decode cX10_holds 2 = .ok (.ishr, 1) := by decide +kernel
theorem dX10_holds_3 : decode cX10_holds 3 = .ok (.iconst 1, 1) := by decide +kernel
theorem dX10_holds_4 : decode cX10_holds 4 = .ok (.iand, 1) := by decide +kernel
theorem dX10_holds_5 : decode cX10_holds 5 = .ok (.iconst 1, 1) := by decide +kernel
theorem dX10_holds_6 : decode cX10_holds 6 = .ok (.if_icmp .ne 7, 3) := by decide +kernel
theorem dX10_holds_9 : decode cX10_holds 9 = .ok (.iconst 1, 1) := by decide +kernel
theorem dX10_holds_10 : decode cX10_holds 10 = .ok (.goto 4, 3) := by decide +kernel
theorem dX10_holds_13 : decode cX10_holds 13 = .ok (.iconst 0, 1) := by decide +kernel
theorem dX10_holds_14 : decode cX10_holds 14 = .ok (.ireturn, 1) := by decide +kernel
theorem dX10_isKind_0 : decode cX10_isKind 0 = .ok (.iload_n 0, 1) := by decide +kernel
theorem dX10_isKind_1 : decode cX10_isKind 1 = .ok (.iconst 0, 1) := by decide +kernel
theorem dX10_isKind_2 : decode cX10_isKind 2 = .ok (.iconst 3, 1) := by decide +kernel
theorem dX10_isKind_3 : decode cX10_isKind 3 = .ok (.invokestatic 143, 3) := by decide +kernel
theorem dX10_isKind_6 : decode cX10_isKind 6 = .ok (.ireturn, 1) := by decide +kernel
theorem dX10_isNotice_0 : decode cX10_isNotice 0 = .ok (.iload_n 0, 1) := by decide +kernel
theorem dX10_isNotice_1 : decode cX10_isNotice 1 = .ok (.iconst 0, 1) := by decide +kernel
theorem dX10_isNotice_2 : decode cX10_isNotice 2 = .ok (.bipush 9, 2) := by decide +kernel
theorem dX10_isNotice_4 : decode cX10_isNotice 4 = .ok (.invokestatic 143, 3) := by decide +kernel
theorem dX10_isNotice_7 : decode cX10_isNotice 7 = .ok (.ifCond .eq 27, 3) := by decide +kernel
theorem dX10_isNotice_10 : decode cX10_isNotice 10 = .ok (.iload_n 1, 1) := by decide +kernel
theorem dX10_isNotice_11 : decode cX10_isNotice 11 = .ok (.iconst 0, 1) := by decide +kernel
theorem dX10_isNotice_12 : decode cX10_isNotice 12 = .ok (.bipush 9, 2) := by decide +kernel
theorem dX10_isNotice_14 : decode cX10_isNotice 14 = .ok (.invokestatic 143, 3) := by decide +kernel
theorem dX10_isNotice_17 : decode cX10_isNotice 17 = .ok (.ifCond .eq 17, 3) := by decide +kernel
theorem dX10_isNotice_20 : decode cX10_isNotice 20 = .ok (.iload_n 2, 1) := by decide +kernel
theorem dX10_isNotice_21 : decode cX10_isNotice 21 = .ok (.iconst 0, 1) := by decide +kernel
theorem dX10_isNotice_22 : decode cX10_isNotice 22 = .ok (.bipush 9, 2) := by decide +kernel
theorem dX10_isNotice_24 : decode cX10_isNotice 24 = .ok (.invokestatic 143, 3) := by decide +kernel
theorem dX10_isNotice_27 : decode cX10_isNotice 27 = .ok (.ifCond .eq 7, 3) := by decide +kernel
theorem dX10_isNotice_30 : decode cX10_isNotice 30 = .ok (.iconst 1, 1) := by decide +kernel
theorem dX10_isNotice_31 : decode cX10_isNotice 31 = .ok (.goto 4, 3) := by decide +kernel
theorem dX10_isNotice_34 : decode cX10_isNotice 34 = .ok (.iconst 0, 1) := by decide +kernel
theorem dX10_isNotice_35 : decode cX10_isNotice 35 = .ok (.ireturn, 1) := by decide +kernel
