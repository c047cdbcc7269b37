theorem dX11_brokerAt_86 : decode cX11_brokerAt 86 = .ok (.iconst 0, 1) := by decide +kernel
theorem dX11_brokerAt_87 : decode cX11_brokerAt 87 = .ok (.ior, 1) := by decide +kernel
theorem dX11_brokerAt_88 : decode cX11_brokerAt 88 = .ok (.istore_n 3, 1) := by decide +kernel
theorem dX11_brokerAt_89 : decode cX11_brokerAt 89 = .ok (.iinc 4 1, 3) := by decide +kernel
theorem dX11_brokerAt_92 : decode cX11_brokerAt 92 = .ok (.goto (-35), 3) := by decide +kernel
theorem dX11_brokerAt_95 : decode cX11_brokerAt 95 = .ok (.iload_n 3, 1) := by decide +kernel
theorem dX11_brokerAt_96 : decode cX11_brokerAt 96 = .ok (.ireturn, 1) := by decide +kernel
theorem dX11_brokerAt_97 : decode cX11_brokerAt 97 = .ok (.iconst 0, 1) := by decide +kernel
theorem dX11_brokerAt_98 : decode cX11_brokerAt 98 = .ok (.istore 4, 2) := by decide +kernel
theorem dX11_brokerAt_100 : decode cX11_brokerAt 100 = .ok (.iload 4, 2) := by decide +kernel
theorem dX11_brokerAt_102 : decode cX11_brokerAt 102 = .ok (.aload_n 0, 1) := by decide +kernel
theorem dX11_brokerAt_103 : decode cX11_brokerAt 103 = .ok (.getfield 7, 3) := by decide +kernel
theorem dX11_brokerAt_106 : decode cX11_brokerAt 106 = .ok (.iconst 1, 1) := by decide +kernel
theorem dX11_brokerAt_107 : decode cX11_brokerAt 107 = .ok (.iaload, 1) := by decide +kernel
theorem dX11_brokerAt_108 : decode cX11_brokerAt 108 = .ok (.if_icmp .ge 31, 3) := by decide +kernel
theorem dX11_brokerAt_111 : decode cX11_brokerAt 111 = .ok (.iload_n 3, 1) := by decide +kernel
theorem dX11_brokerAt_112 : decode cX11_brokerAt 112 = .ok (.aload_n 0, 1) := by decide +kernel
theorem dX11_brokerAt_113 : decode cX11_brokerAt 113 = .ok (.iload 4, 2) := by decide +kernel
theorem dX11_brokerAt_115 : decode cX11_brokerAt 115 = .ok (.iconst 0, 1) := by decide +kernel
theorem dX11_brokerAt_116 : decode cX11_brokerAt 116 = .ok (.invokevirtual 90, 3) := by decide +kernel
theorem dX11_brokerAt_119 : decode cX11_brokerAt 119 = .ok (.iload_n 1, 1) := by decide +kernel
theorem dX11_brokerAt_120 : decode cX11_brokerAt 120 = .ok (.if_icmp .ne 10, 3) := by decide +kernel
theorem dX11_brokerAt_123 : decode cX11_brokerAt 123 = .ok (.iconst 1, 1) := by decide +kernel
theorem dX11_brokerAt_124 : decode cX11_brokerAt 124 = .ok (.iload 4, 2) := by decide +kernel
theorem dX11_brokerAt_126 : decode cX11_brokerAt 126 = .ok (.ishl, 1) := by decide +kernel
theorem dX11_brokerAt_127 : decode cX11_brokerAt 127 = .ok (.goto 4, 3) := by decide +kernel
theorem dX11_brokerAt_130 : decode cX11_brokerAt 130 = .ok (.iconst 0, 1) := by decide +kernel
theorem dX11_brokerAt_131 : decode cX11_brokerAt 131 = .ok (.ior, 1) := by decide +kernel
theorem dX11_brokerAt_132 : decode cX11_brokerAt 132 = .ok (.istore_n 3, 1) := by decide +kernel
theorem dX11_brokerAt_133 : decode cX11_brokerAt 133 = .ok (.iinc 4 1, 3) := by decide +kernel
theorem dX11_brokerAt_136 : decode cX11_brokerAt 136 = .ok (.goto (-36), 3) := by decide +kernel
theorem dX11_brokerAt_139 : decode cX11_brokerAt 139 = .ok (.iload_n 3, 1) := by decide +kernel
theorem dX11_brokerAt_140 : decode cX11_brokerAt 140 = .ok (.ireturn, 1) := by decide +kernel
theorem dX11_brokerAt_141 : decode cX11_brokerAt 141 = .ok (.iconst 0, 1) := by decide +kernel
theorem dX11_brokerAt_142 : decode cX11_brokerAt 142 = .ok (.istore 4, 2) := by decide +kernel
theorem dX11_brokerAt_144 : decode cX11_brokerAt 144 = .ok (.iload 4, 2) := by decide +kernel
theorem dX11_brokerAt_146 : decode cX11_brokerAt 146 = .ok (.aload_n 0, 1) := by decide +kernel
theorem dX11_brokerAt_147 : decode cX11_brokerAt 147 = .ok (.getfield 7, 3) := by decide +kernel
theorem dX11_brokerAt_150 : decode cX11_brokerAt 150 = .ok (.iconst 2, 1) := by decide +kernel
theorem dX11_brokerAt_151 : decode cX11_brokerAt 151 = .ok (.iaload, 1) := by decide +kernel
theorem dX11_brokerAt_152 : decode cX11_brokerAt 152 = .ok (.if_icmp .ge 36, 3) := by decide +kernel
theorem dX11_brokerAt_155 : decode cX11_brokerAt 155 = .ok (.iload_n 3, 1) := by decide +kernel
theorem dX11_brokerAt_156 : decode cX11_brokerAt 156 = .ok (.aload_n 0, 1) := by decide +kernel
theorem dX11_brokerAt_157 : decode cX11_brokerAt 157 = .ok (.aload_n 0, 1) := by decide +kernel
theorem dX11_brokerAt_158 : decode cX11_brokerAt 158 = .ok (.iload 4, 2) := by decide +kernel
theorem dX11_brokerAt_160 : decode cX11_brokerAt 160 = .ok (.iconst 0, 1) := by decide +kernel
theorem dX11_brokerAt_161 : decode cX11_brokerAt 161 = .ok (.invokevirtual 87, 3) := by decide +kernel
theorem dX11_brokerAt_164 : decode cX11_brokerAt 164 = .ok (.iconst 0, 1) := by decide +kernel
theorem dX11_brokerAt_165 : decode cX11_brokerAt 165 = .ok (.invokevirtual 90, 3) := by decide +kernel
theorem dX11_brokerAt_168 : decode cX11_brokerAt 168 = .ok (.iload_n 1, 1) := by decide +kernel
theorem dX11_brokerAt_169 : decode cX11_brokerAt 169 = .ok (.if_icmp .ne 10, 3) := by decide +kernel
theorem dX11_brokerAt_172 : decode cX11_brokerAt 172 = .ok (.iconst 1, 1) := by decide +kernel
theorem dX11_brokerAt_173 : decode cX11_brokerAt 173 = .ok (.iload 4, 2) := by decide +kernel
theorem dX11_brokerAt_175 : decode cX11_brokerAt 175 = .ok (.ishl, 1) := by decide +kernel
theorem dX11_brokerAt_176 : decode cX11_brokerAt 176 = .ok (.goto 4, 3) := by decide +kernel
theorem dX11_brokerAt_179 : decode cX11_brokerAt 179 = .ok (.iconst 0, 1) := by decide +kernel
theorem dX11_brokerAt_180 : decode cX11_brokerAt 180 = .ok (.ior, 1) := by decide +kernel
theorem dX11_brokerAt_181 : decode cX11_brokerAt 181 = .ok (.istore_n 3, 1) := by decide +kernel
theorem dX11_brokerAt_182 : decode cX11_brokerAt 182 = .ok (.iinc 4 1, 3) := by decide +kernel
theorem dX11_brokerAt_185 : decode cX11_brokerAt 185 = .ok (.goto (-41), 3) := by decide +kernel
theorem dX11_brokerAt_188 : decode cX11_brokerAt 188 = .ok (.iload_n 3, 1) := by decide +kernel
theorem dX11_brokerAt_189 : decode cX11_brokerAt 189 = .ok (.ireturn, 1) := by decide +kernel
theorem dX11_brokerAt_190 : decode cX11_brokerAt 190 = .ok (.ldc 179, 2) := by decide +kernel
theorem dX11_brokerAt_192 : decode cX11_brokerAt 192 = .ok (.ireturn, 1) := by decide +kernel
theorem dX11_clientAt_0 : decode cX11_clientAt 0 = .ok (.aload_n 0, 1) := by decide +kernel
theorem dX11_clientAt_1 : decode cX11_clientAt 1 = .ok (.iload_n 1, 1) := by decide +kernel
theorem dX11_clientAt_2 : decode cX11_clientAt 2 = .ok (.invokevirtual 163, 3) := by decide +kernel
theorem dX11_clientAt_5 : decode cX11_clientAt 5 = .ok (.ifCond .ne 6, 3) := by decide +kernel
theorem dX11_clientAt_8 : decode cX11_clientAt 8 = .ok (.ldc 180, 2) := by decide +kernel
theorem dX11_clientAt_10 : decode cX11_clientAt 10 = .ok (.ireturn, 1) := by decide +kernel
theorem dX11_clientAt_11 : decode cX11_clientAt 11 = .ok (.iconst 0, 1) := by decide +kernel
theorem dX11_clientAt_12 : decode cX11_clientAt 12 = .ok (.istore_n 3, 1) := by decide +kernel
theorem dX11_clientAt_13 : decode cX11_clientAt 13 = .ok (.iload_n 2, 1) := by decide +kernel
theorem dX11_clientAt_14 : decode cX11_clientAt 14 = .ok (.tableswitch 117 0 5 #[38, 45, 52, 59, 66, 73], 38) := by decide +kernel
theorem dX11_clientAt_52 : decode cX11_clientAt 52 = .ok (.aload_n 0, 1) := by decide +kernel
theorem dX11_clientAt_53 : decode cX11_clientAt 53 = .ok (.iload_n 1, 1) := by decide +kernel
theorem dX11_clientAt_54 : decode cX11_clientAt 54 = .ok (.iconst 0, 1) := by decide +kernel
theorem dX11_clientAt_55 : decode cX11_clientAt 55 = .ok (.invokevirtual 90, 3) := by decide +kernel
theorem dX11_clientAt_58 : decode cX11_clientAt 58 = .ok (.ireturn, 1) := by decide +kernel
theorem dX11_clientAt_59 : decode cX11_clientAt 59 = .ok (.aload_n 0, 1) := by decide +kernel
theorem dX11_clientAt_60 : decode cX11_clientAt 60 = .ok (.iload_n 1, 1) := by decide +kernel
theorem dX11_clientAt_61 : decode cX11_clientAt 61 = .ok (.iconst 1, 1) := by decide +kernel
theorem dX11_clientAt_62 : decode cX11_clientAt 62 = .ok (.invokevirtual 90, 3) := by decide +kernel
theorem dX11_clientAt_65 : decode cX11_clientAt 65 = .ok (.ireturn, 1) := by decide +kernel
theorem dX11_clientAt_66 : decode cX11_clientAt 66 = .ok (.aload_n 0, 1) := by decide +kernel
theorem dX11_clientAt_67 : decode cX11_clientAt 67 = .ok (.iload_n 1, 1) := by decide +kernel
theorem dX11_clientAt_68 : decode cX11_clientAt 68 = .ok (.iconst 2, 1) := by decide +kernel
theorem dX11_clientAt_69 : decode cX11_clientAt 69 = .ok (.invokevirtual 90, 3) := by decide +kernel
theorem dX11_clientAt_72 : decode cX11_clientAt 72 = .ok (.ireturn, 1) := by decide +kernel
theorem dX11_clientAt_73 : decode cX11_clientAt 73 = .ok (.aload_n 0, 1) := by decide +kernel
theorem dX11_clientAt_74 : decode cX11_clientAt 74 = .ok (.iload_n 1, 1) := by decide +kernel
theorem dX11_clientAt_75 : decode cX11_clientAt 75 = .ok (.iconst 4, 1) := by decide +kernel
theorem dX11_clientAt_76 : decode cX11_clientAt 76 = .ok (.invokevirtual 90, 3) := by decide +kernel
theorem dX11_clientAt_79 : decode cX11_clientAt 79 = .ok (.ireturn, 1) := by decide +kernel
theorem dX11_clientAt_80 : decode cX11_clientAt 80 = .ok (.aload_n 0, 1) := by decide +kernel
theorem dX11_clientAt_81 : decode cX11_clientAt 81 = .ok (.iload_n 1, 1) := by decide +kernel
theorem dX11_clientAt_82 : decode cX11_clientAt 82 = .ok (.iconst 3, 1) := by decide +kernel
theorem dX11_clientAt_83 : decode cX11_clientAt 83 = .ok (.invokevirtual 90, 3) := by decide +kernel
theorem dX11_clientAt_86 : decode cX11_clientAt 86 = .ok (.ireturn, 1) := by decide +kernel
theorem dX11_clientAt_87 : decode cX11_clientAt 87 = .ok (.iconst 0, 1) := by decide +kernel
theorem dX11_clientAt_88 : decode cX11_clientAt 88 = .ok (.istore 4, 2) := by decide +kernel
theorem dX11_clientAt_90 : decode cX11_clientAt 90 = .ok (.iload 4, 2) := by decide +kernel
theorem dX11_clientAt_92 : decode cX11_clientAt 92 = .ok (.aload_n 0, 1) := by decide +kernel
theorem dX11_clientAt_93 : decode cX11_clientAt 93 = .ok (.getfield 7, 3) := by decide +kernel
theorem dX11_clientAt_96 : decode cX11_clientAt 96 = .ok (.iconst 2, 1) := by decide +kernel
theorem dX11_clientAt_97 : decode cX11_clientAt 97 = .ok (.iaload, 1) := by decide +kernel
theorem dX11_clientAt_98 : decode cX11_clientAt 98 = .ok (.if_icmp .ge 31, 3) := by decide +kernel
theorem dX11_clientAt_101 : decode cX11_clientAt 101 = .ok (.iload_n 3, 1) := by decide +kernel
theorem dX11_clientAt_102 : decode cX11_clientAt 102 = .ok (.aload_n 0, 1) := by decide +kernel
theorem dX11_clientAt_103 : decode cX11_clientAt 103 = .ok (.iload 4, 2) := by decide +kernel
theorem dX11_clientAt_105 : decode cX11_clientAt 105 = .ok (.iconst 0, 1) := by decide +kernel
theorem dX11_clientAt_106 : decode cX11_clientAt 106 = .ok (.invokevirtual 87, 3) := by decide +kernel
theorem dX11_clientAt_109 : decode cX11_clientAt 109 = .ok (.iload_n 1, 1) := by decide +kernel
theorem dX11_clientAt_110 : decode cX11_clientAt 110 = .ok (.if_icmp .ne 10, 3) := by decide +kernel
theorem dX11_clientAt_113 : decode cX11_clientAt 113 = .ok (.iconst 1, 1) := by decide +kernel
theorem dX11_clientAt_114 : decode cX11_clientAt 114 = .ok (.iload 4, 2) := by decide +kernel
theorem dX11_clientAt_116 : decode cX11_clientAt 116 = .ok (.ishl, 1) := by decide +kernel
theorem dX11_clientAt_117 : decode cX11_clientAt 117 = .ok (.goto 4, 3) := by decide +kernel
theorem dX11_clientAt_120 : decode cX11_clientAt 120 = .ok (.iconst 0, 1) := by decide +kernel
theorem dX11_clientAt_121 : decode cX11_clientAt 121 = .ok (.ior, 1) := by decide +kernel
theorem dX11_clientAt_122 : decode cX11_clientAt 122 = .ok (.istore_n 3, 1) := by decide +kernel
theorem dX11_clientAt_123 : decode cX11_clientAt 123 = .ok (.iinc 4 1, 3) := by decide +kernel
theorem dX11_clientAt_126 : decode cX11_clientAt 126 = .ok (.goto (-36), 3) := by decide +kernel
theorem dX11_clientAt_129 : decode cX11_clientAt 129 = .ok (.iload_n 3, 1) := by decide +kernel
theorem dX11_clientAt_130 : decode cX11_clientAt 130 = .ok (.ireturn, 1) := by decide +kernel
theorem dX11_clientAt_131 : decode cX11_clientAt 131 = .ok (.ldc 179, 2) := by decide +kernel
theorem dX11_clientAt_133 : decode cX11_clientAt 133 = .ok (.ireturn, 1) := by decide +kernel
theorem dX11_log_0 : decode cX11_log 0 = .ok (.aload_n 0, 1) := by decide +kernel
theorem dX11_log_1 : decode cX11_log 1 = .ok (.iload_n 1, 1) := by decide +kernel
theorem dX11_log_2 : decode cX11_log 2 = .ok (.invokevirtual 163, 3) := by decide +kernel
theorem dX11_log_5 : decode cX11_log 5 = .ok (.ifCond .ne 6, 3) := by decide +kernel
theorem dX11_log_8 : decode cX11_log 8 = .ok (.ldc 180, 2) := by decide +kernel
theorem dX11_log_10 : decode cX11_log 10 = .ok (.ireturn, 1) := by decide +kernel
theorem dX11_log_11 : decode cX11_log 11 = .ok (.iload_n 2, 1) := by decide +kernel
theorem dX11_log_12 : decode cX11_log 12 = .ok (.iconst 0, 1) := by decide +kernel
theorem dX11_log_13 : decode cX11_log 13 = .ok (.bipush 11, 2) := by decide +kernel
theorem dX11_log_15 : decode cX11_log 15 = .ok (.invokestatic 41, 3) := by decide +kernel
theorem dX11_log_18 : decode cX11_log 18 = .ok (.ifCond .ne 8, 3) := by decide +kernel
theorem dX11_log_21 : decode cX11_log 21 = .ok (.ldc 179, 2) := by decide +kernel
theorem dX11_log_23 : decode cX11_log 23 = .ok (.goto 25, 3) := by decide +kernel
theorem dX11_log_26 : decode cX11_log 26 = .ok (.iload_n 2, 1) := by decide +kernel
theorem dX11_log_27 : decode cX11_log 27 = .ok (.aload_n 0, 1) := by decide +kernel
theorem dX11_log_28 : decode cX11_log 28 = .ok (.iload_n 1, 1) := by decide +kernel
theorem dX11_log_29 : decode cX11_log 29 = .ok (.iconst 2, 1) := by decide +kernel
theorem dX11_log_30 : decode cX11_log 30 = .ok (.invokevirtual 90, 3) := by decide +kernel
theorem dX11_log_33 : decode cX11_log 33 = .ok (.if_icmp .ge 14, 3) := by decide +kernel
theorem dX11_log_36 : decode cX11_log 36 = .ok (.aload_n 0, 1) := by decide +kernel
theorem dX11_log_37 : decode cX11_log 37 = .ok (.iload_n 1, 1) := by decide +kernel
theorem dX11_log_38 : decode cX11_log 38 = .ok (.iconst 5, 1) := by decide +kernel
theorem dX11_log_39 : decode cX11_log 39 = .ok (.iload_n 2, 1) := by decide +kernel
theorem dX11_log_40 : decode cX11_log 40 = .ok (.iadd, 1) := by decide +kernel
theorem dX11_log_41 : decode cX11_log 41 = .ok (.invokevirtual 90, 3) := by decide +kernel
theorem dX11_log_44 : decode cX11_log 44 = .ok (.goto 4, 3) := by decide +kernel
theorem dX11_log_47 : decode cX11_log 47 = .ok (.iconst (-1), 1) := by decide +kernel
theorem dX11_log_48 : decode cX11_log 48 = .ok (.ireturn, 1) := by decide +kernel
theorem dX11_takesWish_0 : decode cX11_takesWish 0 = .ok (.iconst 0, 1) := by decide +kernel
theorem dX11_takesWish_1 : decode cX11_takesWish 1 = .ok (.istore_n 3, 1) := by decide +kernel
theorem dX11_takesWish_2 : decode cX11_takesWish 2 = .ok (.iload_n 3, 1) := by decide +kernel
theorem dX11_takesWish_3 : decode cX11_takesWish 3 = .ok (.bipush 6, 2) := by decide +kernel
theorem dX11_takesWish_5 : decode cX11_takesWish 5 = .ok (.if_icmp .ge 28, 3) := by decide +kernel
theorem dX11_takesWish_8 : decode cX11_takesWish 8 = .ok (.aload_n 0, 1) := by decide +kernel
theorem dX11_takesWish_9 : decode cX11_takesWish 9 = .ok (.getfield 35, 3) := by decide +kernel
theorem dX11_takesWish_12 : decode cX11_takesWish 12 = .ok (.bipush 6, 2) := by decide +kernel
theorem dX11_takesWish_14 : decode cX11_takesWish 14 = .ok (.iload_n 1, 1) := by decide +kernel
theorem dX11_takesWish_15 : decode cX11_takesWish 15 = .ok (.imul, 1) := by decide +kernel
theorem dX11_takesWish_16 : decode cX11_takesWish 16 = .ok (.iload_n 3, 1) := by decide +kernel
theorem dX11_takesWish_17 : decode cX11_takesWish 17 = .ok (.iadd, 1) := by decide +kernel
theorem dX11_takesWish_18 : decode cX11_takesWish 18 = .ok (.aload_n 0, 1) := by decide +kernel
theorem dX11_takesWish_19 : decode cX11_takesWish 19 = .ok (.iload_n 2, 1) := by decide +kernel
theorem dX11_takesWish_20 : decode cX11_takesWish 20 = .ok (.iconst 1, 1) := by decide +kernel
theorem dX11_takesWish_21 : decode cX11_takesWish 21 = .ok (.iload_n 3, 1) := by decide +kernel
theorem dX11_takesWish_22 : decode cX11_takesWish 22 = .ok (.iadd, 1) := by decide +kernel
theorem dX11_takesWish_23 : decode cX11_takesWish 23 = .ok (.invokevirtual 87, 3) := by decide +kernel
theorem dX11_takesWish_26 : decode cX11_takesWish 26 = .ok (.iastore, 1) := by decide +kernel
theorem dX11_takesWish_27 : decode cX11_takesWish 27 = .ok (.iinc 3 1, 3) := by decide +kernel
theorem dX11_takesWish_30 : decode cX11_takesWish 30 = .ok (.goto (-28), 3) := by decide +kernel
theorem dX11_takesWish_33 : decode cX11_takesWish 33 = .ok (.return_, 1) := by decide +kernel
theorem dX11_covered_0 : decode cX11_covered 0 = .ok (.iconst 0, 1) := by decide +kernel
theorem dX11_covered_1 : decode cX11_covered 1 = .ok (.istore_n 2, 1) := by decide +kernel
theorem dX11_covered_2 : decode cX11_covered 2 = .ok (.aload_n 0, 1) := by decide +kernel
theorem dX11_covered_3 : decode cX11_covered 3 = .ok (.iconst 0, 1) := by decide +kernel
theorem dX11_covered_4 : decode cX11_covered 4 = .ok (.iload_n 1, 1) := by decide +kernel
theorem dX11_covered_5 : decode cX11_covered 5 = .ok (.invokevirtual 181, 3) := by decide +kernel
theorem dX11_covered_8 : decode cX11_covered 8 = .ok (.iconst 0, 1) := by decide +kernel
theorem dX11_covered_9 : decode cX11_covered 9 = .ok (.istore_n 3, 1) := by decide +kernel
theorem dX11_covered_10 : decode cX11_covered 10 = .ok (.iload_n 3, 1) := by decide +kernel
theorem dX11_covered_11 : decode cX11_covered 11 = .ok (.aload_n 0, 1) := by decide +kernel
theorem dX11_covered_12 : decode cX11_covered 12 = .ok (.getfield 7, 3) := by decide +kernel
theorem dX11_covered_15 : decode cX11_covered 15 = .ok (.iconst 2, 1) := by decide +kernel
theorem dX11_covered_16 : decode cX11_covered 16 = .ok (.iaload, 1) := by decide +kernel
theorem dX11_covered_17 : decode cX11_covered 17 = .ok (.if_icmp .ge 39, 3) := by decide +kernel
theorem dX11_covered_20 : decode cX11_covered 20 = .ok (.aload_n 0, 1) := by decide +kernel
theorem dX11_covered_21 : decode cX11_covered 21 = .ok (.iconst 1, 1) := by decide +kernel
theorem dX11_covered_22 : decode cX11_covered 22 = .ok (.iload_n 3, 1) := by decide +kernel
theorem dX11_covered_23 : decode cX11_covered 23 = .ok (.invokevirtual 181, 3) := by decide +kernel
theorem dX11_covered_26 : decode cX11_covered 26 = .ok (.iload_n 2, 1) := by decide +kernel
theorem dX11_covered_27 : decode cX11_covered 27 = .ok (.iload_n 3, 1) := by decide +kernel
theorem dX11_covered_28 : decode cX11_covered 28 = .ok (.iload_n 1, 1) := by decide +kernel
theorem dX11_covered_29 : decode cX11_covered 29 = .ok (.if_icmp .eq 18, 3) := by decide +kernel
theorem dX11_covered_32 : decode cX11_covered 32 = .ok (.aload_n 0, 1) := by decide +kernel
theorem dX11_covered_33 : decode cX11_covered 33 = .ok (.iconst 0, 1) := by decide +kernel
theorem dX11_covered_34 : decode cX11_covered 34 = .ok (.iconst 1, 1) := by decide +kernel
theorem dX11_covered_35 : decode cX11_covered 35 = .ok (.invokevirtual 67, 3) := by decide +kernel
theorem dX11_covered_38 : decode cX11_covered 38 = .ok (.ifCond .eq 9, 3) := by decide +kernel
theorem dX11_covered_41 : decode cX11_covered 41 = .ok (.iconst 1, 1) := by decide +kernel
theorem dX11_covered_42 : decode cX11_covered 42 = .ok (.iload_n 3, 1) := by decide +kernel
theorem dX11_covered_43 : decode cX11_covered 43 = .ok (.ishl, 1) := by decide +kernel
theorem dX11_covered_44 : decode cX11_covered 44 = .ok (.goto 4, 3) := by decide +kernel
theorem dX11_covered_47 : decode cX11_covered 47 = .ok (.iconst 0, 1) := by decide +kernel
theorem dX11_covered_48 : decode cX11_covered 48 = .ok (.ior, 1) := by decide +kernel
theorem dX11_covered_49 : decode cX11_covered 49 = .ok (.istore_n 2, 1) := by decide +kernel
theorem dX11_covered_50 : decode cX11_covered 50 = .ok (.iinc 3 1, 3) := by decide +kernel
theorem dX11_covered_53 : decode cX11_covered 53 = .ok (.goto (-43), 3) := by decide +kernel
theorem dX11_covered_56 : decode cX11_covered 56 = .ok (.iload_n 2, 1) := by decide +kernel
theorem dX11_covered_57 : decode cX11_covered 57 = .ok (.ireturn, 1) := by decide +kernel
theorem dX11_wishAt_0 : decode cX11_wishAt 0 = .ok (.aload_n 0, 1) := by decide +kernel
theorem dX11_wishAt_1 : decode cX11_wishAt 1 = .ok (.iload_n 1, 1) := by decide +kernel
theorem dX11_wishAt_2 : decode cX11_wishAt 2 = .ok (.invokevirtual 184, 3) := by decide +kernel
theorem dX11_wishAt_5 : decode cX11_wishAt 5 = .ok (.ifCond .ne 6, 3) := by decide +kernel
theorem dX11_wishAt_8 : decode cX11_wishAt 8 = .ok (.ldc 180, 2) := by decide +kernel
theorem dX11_wishAt_10 : decode cX11_wishAt 10 = .ok (.ireturn, 1) := by decide +kernel
theorem dX11_wishAt_11 : decode cX11_wishAt 11 = .ok (.iload_n 2, 1) := by decide +kernel
theorem dX11_wishAt_12 : decode cX11_wishAt 12 = .ok (.iconst 0, 1) := by decide +kernel
theorem dX11_wishAt_13 : decode cX11_wishAt 13 = .ok (.bipush 8, 2) := by decide +kernel
theorem dX11_wishAt_15 : decode cX11_wishAt 15 = .ok (.invokestatic 41, 3) := by decide +kernel
theorem dX11_wishAt_18 : decode cX11_wishAt 18 = .ok (.ifCond .ne 6, 3) := by decide +kernel
theorem dX11_wishAt_21 : decode cX11_wishAt 21 = .ok (.ldc 179, 2) := by decide +kernel
theorem dX11_wishAt_23 : decode cX11_wishAt 23 = .ok (.ireturn, 1) := by decide +kernel
theorem dX11_wishAt_24 : decode cX11_wishAt 24 = .ok (.aload_n 0, 1) := by decide +kernel
theorem dX11_wishAt_25 : decode cX11_wishAt 25 = .ok (.iconst 0, 1) := by decide +kernel
theorem dX11_wishAt_26 : decode cX11_wishAt 26 = .ok (.iload_n 1, 1) := by decide +kernel
theorem dX11_wishAt_27 : decode cX11_wishAt 27 = .ok (.invokevirtual 181, 3) := by decide +kernel
theorem dX11_wishAt_30 : decode cX11_wishAt 30 = .ok (.iload_n 2, 1) := by decide +kernel
theorem dX11_wishAt_31 : decode cX11_wishAt 31 = .ok (.bipush 7, 2) := by decide +kernel
theorem dX11_wishAt_33 : decode cX11_wishAt 33 = .ok (.if_icmp .ge 12, 3) := by decide +kernel
theorem dX11_wishAt_36 : decode cX11_wishAt 36 = .ok (.aload_n 0, 1) := by decide +kernel
theorem dX11_wishAt_37 : decode cX11_wishAt 37 = .ok (.iload_n 1, 1) := by decide +kernel
theorem dX11_wishAt_38 : decode cX11_wishAt 38 = .ok (.iload_n 2, 1) := by decide +kernel
theorem dX11_wishAt_39 : decode cX11_wishAt 39 = .ok (.invokevirtual 87, 3) := by decide +kernel
theorem dX11_wishAt_42 : decode cX11_wishAt 42 = .ok (.goto 22, 3) := by decide +kernel
theorem dX11_wishAt_45 : decode cX11_wishAt 45 = .ok (.iload_n 2, 1) := by decide +kernel
theorem dX11_wishAt_46 : decode cX11_wishAt 46 = .ok (.bipush 7, 2) := by decide +kernel
theorem dX11_wishAt_48 : decode cX11_wishAt 48 = .ok (.if_icmp .ne 11, 3) := by decide +kernel
theorem dX11_wishAt_51 : decode cX11_wishAt 51 = .ok (.aload_n 0, 1) := by decide +kernel
theorem dX11_wishAt_52 : decode cX11_wishAt 52 = .ok (.iconst 0, 1) := by decide +kernel
theorem dX11_wishAt_53 : decode cX11_wishAt 53 = .ok (.invokevirtual 74, 3) := by decide +kernel
theorem dX11_wishAt_56 : decode cX11_wishAt 56 = .ok (.goto 8, 3) := by decide +kernel
theorem dX11_wishAt_59 : decode cX11_wishAt 59 = .ok (.aload_n 0, 1) := by decide +kernel
theorem dX11_wishAt_60 : decode cX11_wishAt 60 = .ok (.iload_n 1, 1) := by decide +kernel
theorem dX11_wishAt_61 : decode cX11_wishAt 61 = .ok (.invokevirtual 187, 3) := by decide +kernel
theorem dX11_wishAt_64 : decode cX11_wishAt 64 = .ok (.ireturn, 1) := by decide +kernel
theorem dX11_toldOn_0 : decode cX11_toldOn 0 = .ok (.aload_n 0, 1) := by decide +kernel
theorem dX11_toldOn_1 : decode cX11_toldOn 1 = .ok (.iload_n 1, 1) := by decide +kernel
theorem dX11_toldOn_2 : decode cX11_toldOn 2 = .ok (.iload_n 2, 1) := by decide +kernel
theorem dX11_toldOn_3 : decode cX11_toldOn 3 = .ok (.invokevirtual 97, 3) := by decide +kernel
theorem dX11_toldOn_6 : decode cX11_toldOn 6 = .ok (.ifCond .ne 6, 3) := by decide +kernel
theorem dX11_toldOn_9 : decode cX11_toldOn 9 = .ok (.ldc 180, 2) := by decide +kernel
theorem dX11_toldOn_11 : decode cX11_toldOn 11 = .ok (.ireturn, 1) := by decide +kernel
theorem dX11_toldOn_12 : decode cX11_toldOn 12 = .ok (.aload_n 0, 1) := by decide +kernel
theorem dX11_toldOn_13 : decode cX11_toldOn 13 = .ok (.invokevirtual 120, 3) := by decide +kernel
theorem dX11_toldOn_16 : decode cX11_toldOn 16 = .ok (.aload_n 0, 1) := by decide +kernel
theorem dX11_toldOn_17 : decode cX11_toldOn 17 = .ok (.getfield 29, 3) := by decide +kernel
theorem dX11_toldOn_20 : decode cX11_toldOn 20 = .ok (.aload_n 0, 1) := by decide +kernel
theorem dX11_toldOn_21 : decode cX11_toldOn 21 = .ok (.iload_n 1, 1) := by decide +kernel
theorem dX11_toldOn_22 : decode cX11_toldOn 22 = .ok (.iload_n 2, 1) := by decide +kernel
theorem dX11_toldOn_23 : decode cX11_toldOn 23 = .ok (.invokevirtual 100, 3) := by decide +kernel
theorem dX11_toldOn_26 : decode cX11_toldOn 26 = .ok (.iaload, 1) := by decide +kernel
theorem dX11_toldOn_27 : decode cX11_toldOn 27 = .ok (.ireturn, 1) := by decide +kernel
theorem dX11_isWishBox_0 : decode cX11_isWishBox 0 = .ok (.iconst 0, 1) := by decide +kernel
theorem dX11_isWishBox_1 : decode cX11_isWishBox 1 = .ok (.istore_n 1, 1) := by decide +kernel
theorem dX11_isWishBox_2 : decode cX11_isWishBox 2 = .ok (.iconst 0, 1) := by decide +kernel
theorem dX11_isWishBox_3 : decode cX11_isWishBox 3 = .ok (.istore_n 2, 1) := by decide +kernel
theorem dX11_isWishBox_4 : decode cX11_isWishBox 4 = .ok (.iload_n 2, 1) := by decide +kernel
theorem dX11_isWishBox_5 : decode cX11_isWishBox 5 = .ok (.aload_n 0, 1) := by decide +kernel
theorem dX11_isWishBox_6 : decode cX11_isWishBox 6 = .ok (.getfield 7, 3) := by decide +kernel
theorem dX11_isWishBox_9 : decode cX11_isWishBox 9 = .ok (.iconst 2, 1) := by decide +kernel
theorem dX11_isWishBox_10 : decode cX11_isWishBox 10 = .ok (.iaload, 1) := by decide +kernel
theorem dX11_isWishBox_11 : decode cX11_isWishBox 11 = .ok (.if_icmp .ge 34, 3) := by decide +kernel
theorem dX11_isWishBox_14 : decode cX11_isWishBox 14 = .ok (.aload_n 0, 1) := by decide +kernel
theorem dX11_isWishBox_15 : decode cX11_isWishBox 15 = .ok (.iconst 1, 1) := by decide +kernel
theorem dX11_isWishBox_16 : decode cX11_isWishBox 16 = .ok (.iload_n 2, 1) := by decide +kernel
theorem dX11_isWishBox_17 : decode cX11_isWishBox 17 = .ok (.invokevirtual 181, 3) := by decide +kernel
theorem dX11_isWishBox_20 : decode cX11_isWishBox 20 = .ok (.iload_n 1, 1) := by decide +kernel
theorem dX11_isWishBox_21 : decode cX11_isWishBox 21 = .ok (.ifCond .ne 12, 3) := by decide +kernel
theorem dX11_isWishBox_24 : decode cX11_isWishBox 24 = .ok (.aload_n 0, 1) := by decide +kernel
theorem dX11_isWishBox_25 : decode cX11_isWishBox 25 = .ok (.iconst 0, 1) := by decide +kernel
theorem dX11_isWishBox_26 : decode cX11_isWishBox 26 = .ok (.iconst 1, 1) := by decide +kernel
theorem dX11_isWishBox_27 : decode cX11_isWishBox 27 = .ok (.invokevirtual 60, 3) := by decide +kernel
theorem dX11_isWishBox_30 : decode cX11_isWishBox 30 = .ok (.ifCond .ne 7, 3) := by decide +kernel
theorem dX11_isWishBox_33 : decode cX11_isWishBox 33 = .ok (.iconst 1, 1) := by decide +kernel
theorem dX11_isWishBox_34 : decode cX11_isWishBox 34 = .ok (.goto 4, 3) := by decide +kernel
theorem dX11_isWishBox_37 : decode cX11_isWishBox 37 = .ok (.iconst 0, 1) := by decide +kernel
theorem dX11_isWishBox_38 : decode cX11_isWishBox 38 = .ok (.istore_n 1, 1) := by decide +kernel
theorem dX11_isWishBox_39 : decode cX11_isWishBox 39 = .ok (.iinc 2 1, 3) := by decide +kernel
theorem dX11_isWishBox_42 : decode cX11_isWishBox 42 = .ok (.goto (-38), 3) := by decide +kernel
theorem dX11_isWishBox_45 : decode cX11_isWishBox 45 = .ok (.iload_n 1, 1) := by decide +kernel
theorem dX11_isWishBox_46 : decode cX11_isWishBox 46 = .ok (.ireturn, 1) := by decide +kernel
theorem dX11_box_0 : decode cX11_box 0 = .ok (.aload_n 0, 1) := by decide +kernel
theorem dX11_box_1 : decode cX11_box 1 = .ok (.iload_n 1, 1) := by decide +kernel
theorem dX11_box_2 : decode cX11_box 2 = .ok (.iload_n 2, 1) := by decide +kernel
theorem dX11_box_3 : decode cX11_box 3 = .ok (.invokevirtual 97, 3) := by decide +kernel
theorem dX11_box_6 : decode cX11_box 6 = .ok (.ifCond .ne 6, 3) := by decide +kernel
theorem dX11_box_9 : decode cX11_box 9 = .ok (.ldc 180, 2) := by decide +kernel
theorem dX11_box_11 : decode cX11_box 11 = .ok (.ireturn, 1) := by decide +kernel
theorem dX11_box_12 : decode cX11_box 12 = .ok (.aload_n 0, 1) := by decide +kernel
theorem dX11_box_13 : decode cX11_box 13 = .ok (.invokevirtual 120, 3) := by decide +kernel
theorem dX11_box_16 : decode cX11_box 16 = .ok (.aload_n 0, 1) := by decide +kernel
theorem dX11_box_17 : decode cX11_box 17 = .ok (.iload_n 1, 1) := by decide +kernel
theorem dX11_box_18 : decode cX11_box 18 = .ok (.iload_n 2, 1) := by decide +kernel
theorem dX11_box_19 : decode cX11_box 19 = .ok (.invokevirtual 100, 3) := by decide +kernel
theorem dX11_box_22 : decode cX11_box 22 = .ok (.istore 5, 2) := by decide +kernel
theorem dX11_box_24 : decode cX11_box 24 = .ok (.iload_n 3, 1) := by decide +kernel
theorem dX11_box_25 : decode cX11_box 25 = .ok (.iconst 0, 1) := by decide +kernel
theorem dX11_box_26 : decode cX11_box 26 = .ok (.aload_n 0, 1) := by decide +kernel
theorem dX11_box_27 : decode cX11_box 27 = .ok (.getfield 29, 3) := by decide +kernel
theorem dX11_box_30 : decode cX11_box 30 = .ok (.iload 5, 2) := by decide +kernel
theorem dX11_box_32 : decode cX11_box 32 = .ok (.iaload, 1) := by decide +kernel
theorem dX11_box_33 : decode cX11_box 33 = .ok (.iconst 1, 1) := by decide +kernel
theorem dX11_box_34 : decode cX11_box 34 = .ok (.isub, 1) := by decide +kernel
theorem dX11_box_35 : decode cX11_box 35 = .ok (.invokestatic 41, 3) := by decide +kernel
theorem dX11_box_38 : decode cX11_box 38 = .ok (.ifCond .ne 6, 3) := by decide +kernel
theorem dX11_box_41 : decode cX11_box 41 = .ok (.ldc 180, 2) := by decide +kernel
theorem dX11_box_43 : decode cX11_box 43 = .ok (.ireturn, 1) := by decide +kernel
theorem dX11_box_44 : decode cX11_box 44 = .ok (.iload 4, 2) := by decide +kernel
theorem dX11_box_46 : decode cX11_box 46 = .ok (.iconst 0, 1) := by decide +kernel
theorem dX11_box_47 : decode cX11_box 47 = .ok (.bipush 7, 2) := by decide +kernel
theorem dX11_box_49 : decode cX11_box 49 = .ok (.invokestatic 41, 3) := by decide +kernel
theorem dX11_box_52 : decode cX11_box 52 = .ok (.ifCond .ne 6, 3) := by decide +kernel
theorem dX11_box_55 : decode cX11_box 55 = .ok (.ldc 179, 2) := by decide +kernel
theorem dX11_box_57 : decode cX11_box 57 = .ok (.ireturn, 1) := by decide +kernel
theorem dX11_box_58 : decode cX11_box 58 = .ok (.iconst 0, 1) := by decide +kernel
theorem dX11_box_59 : decode cX11_box 59 = .ok (.istore 6, 2) := by decide +kernel
theorem dX11_box_61 : decode cX11_box 61 = .ok (.iload 6, 2) := by decide +kernel
theorem dX11_box_63 : decode cX11_box 63 = .ok (.bipush 6, 2) := by decide +kernel
theorem dX11_box_65 : decode cX11_box 65 = .ok (.if_icmp .ge 34, 3) := by decide +kernel
theorem dX11_box_68 : decode cX11_box 68 = .ok (.aload_n 0, 1) := by decide +kernel
theorem dX11_box_69 : decode cX11_box 69 = .ok (.getfield 35, 3) := by decide +kernel
theorem dX11_box_72 : decode cX11_box 72 = .ok (.iload 6, 2) := by decide +kernel
theorem dX11_box_74 : decode cX11_box 74 = .ok (.aload_n 0, 1) := by decide +kernel
theorem dX11_box_75 : decode cX11_box 75 = .ok (.getfield 32, 3) := by decide +kernel
theorem dX11_box_78 : decode cX11_box 78 = .ok (.bipush 54, 2) := by decide +kernel
theorem dX11_box_80 : decode cX11_box 80 = .ok (.iload 5, 2) := by decide +kernel
theorem dX11_box_82 : decode cX11_box 82 = .ok (.imul, 1) := by decide +kernel
theorem dX11_box_83 : decode cX11_box 83 = .ok (.bipush 6, 2) := by decide +kernel
theorem dX11_box_85 : decode cX11_box 85 = .ok (.iload_n 3, 1) := by decide +kernel
theorem dX11_box_86 : decode cX11_box 86 = .ok (.imul, 1) := by decide +kernel
theorem dX11_box_87 : decode cX11_box 87 = .ok (.iadd, 1) := by decide +kernel
theorem dX11_box_88 : decode cX11_box 88 = .ok (.iload 6, 2) := by decide +kernel
theorem dX11_box_90 : decode cX11_box 90 = .ok (.iadd, 1) := by decide +kernel
theorem dX11_box_91 : decode cX11_box 91 = .ok (.iaload, 1) := by decide +kernel
theorem dX11_box_92 : decode cX11_box 92 = .ok (.iastore, 1) := by decide +kernel
theorem dX11_box_93 : decode cX11_box 93 = .ok (.iinc 6 1, 3) := by decide +kernel
theorem dX11_box_96 : decode cX11_box 96 = .ok (.goto (-35), 3) := by decide +kernel
theorem dX11_box_99 : decode cX11_box 99 = .ok (.iload 4, 2) := by decide +kernel
theorem dX11_box_101 : decode cX11_box 101 = .ok (.bipush 6, 2) := by decide +kernel
theorem dX11_box_103 : decode cX11_box 103 = .ok (.if_icmp .ge 13, 3) := by decide +kernel
theorem dX11_box_106 : decode cX11_box 106 = .ok (.aload_n 0, 1) := by decide +kernel
theorem dX11_box_107 : decode cX11_box 107 = .ok (.getfield 35, 3) := by decide +kernel
theorem dX11_box_110 : decode cX11_box 110 = .ok (.iload 4, 2) := by decide +kernel
theorem dX11_box_112 : decode cX11_box 112 = .ok (.iaload, 1) := by decide +kernel
theorem dX11_box_113 : decode cX11_box 113 = .ok (.goto 30, 3) := by decide +kernel
theorem dX11_box_116 : decode cX11_box 116 = .ok (.iload 4, 2) := by decide +kernel
theorem dX11_box_118 : decode cX11_box 118 = .ok (.bipush 6, 2) := by decide +kernel
theorem dX11_box_120 : decode cX11_box 120 = .ok (.if_icmp .ne 11, 3) := by decide +kernel
theorem dX11_box_123 : decode cX11_box 123 = .ok (.aload_n 0, 1) := by decide +kernel
theorem dX11_box_124 : decode cX11_box 124 = .ok (.iconst 0, 1) := by decide +kernel
theorem dX11_box_125 : decode cX11_box 125 = .ok (.invokevirtual 74, 3) := by decide +kernel
theorem dX11_box_128 : decode cX11_box 128 = .ok (.goto 15, 3) := by decide +kernel
theorem dX11_box_131 : decode cX11_box 131 = .ok (.aload_n 0, 1) := by decide +kernel
theorem dX11_box_132 : decode cX11_box 132 = .ok (.invokevirtual 190, 3) := by decide +kernel
theorem dX11_box_135 : decode cX11_box 135 = .ok (.ifCond .eq 7, 3) := by decide +kernel
theorem dX11_box_138 : decode cX11_box 138 = .ok (.iconst 1, 1) := by decide +kernel
theorem dX11_box_139 : decode cX11_box 139 = .ok (.goto 4, 3) := by decide +kernel
theorem dX11_box_142 : decode cX11_box 142 = .ok (.iconst 0, 1) := by decide +kernel
theorem dX11_box_143 : decode cX11_box 143 = .ok (.ireturn, 1) := by decide +kernel
theorem dX11_would_0 : decode cX11_would 0 = .ok (.aload_n 0, 1) := by decide +kernel
theorem dX11_would_1 : decode cX11_would 1 = .ok (.iload_n 1, 1) := by decide +kernel
theorem dX11_would_2 : decode cX11_would 2 = .ok (.invokevirtual 45, 3) := by decide +kernel
theorem dX11_would_5 : decode cX11_would 5 = .ok (.ifCond .ne 6, 3) := by decide +kernel
theorem dX11_would_8 : decode cX11_would 8 = .ok (.ldc 180, 2) := by decide +kernel
theorem dX11_would_10 : decode cX11_would 10 = .ok (.ireturn, 1) := by decide +kernel
theorem dX11_would_11 : decode cX11_would 11 = .ok (.iload_n 2, 1) := by decide +kernel
theorem dX11_would_12 : decode cX11_would 12 = .ok (.iload_n 3, 1) := by decide +kernel
theorem dX11_would_13 : decode cX11_would 13 = .ok (.iload 4, 2) := by decide +kernel
theorem dX11_would_15 : decode cX11_would 15 = .ok (.invokestatic 194, 3) := by decide +kernel
theorem dX11_would_18 : decode cX11_would 18 = .ok (.ifCond .eq 13, 3) := by decide +kernel
theorem dX11_would_21 : decode cX11_would 21 = .ok (.iload 5, 2) := by decide +kernel
theorem dX11_would_23 : decode cX11_would 23 = .ok (.iconst 0, 1) := by decide +kernel
theorem dX11_would_24 : decode cX11_would 24 = .ok (.iconst 3, 1) := by decide +kernel
theorem dX11_would_25 : decode cX11_would 25 = .ok (.invokestatic 41, 3) := by decide +kernel
theorem dX11_would_28 : decode cX11_would 28 = .ok (.ifCond .ne 6, 3) := by decide +kernel
theorem dX11_would_31 : decode cX11_would 31 = .ok (.ldc 179, 2) := by decide +kernel
theorem dX11_would_33 : decode cX11_would 33 = .ok (.ireturn, 1) := by decide +kernel
theorem dX11_would_34 : decode cX11_would 34 = .ok (.aload_n 0, 1) := by decide +kernel
theorem dX11_would_35 : decode cX11_would 35 = .ok (.iload_n 1, 1) := by decide +kernel
theorem dX11_would_36 : decode cX11_would 36 = .ok (.iload_n 2, 1) := by decide +kernel
theorem dX11_would_37 : decode cX11_would 37 = .ok (.iload_n 3, 1) := by decide +kernel
theorem dX11_would_38 : decode cX11_would 38 = .ok (.iload 4, 2) := by decide +kernel
theorem dX11_would_40 : decode cX11_would 40 = .ok (.invokevirtual 147, 3) := by decide +kernel
theorem dX11_would_43 : decode cX11_would 43 = .ok (.iload 5, 2) := by decide +kernel
theorem dX11_would_45 : decode cX11_would 45 = .ok (.ifCond .ne 10, 3) := by decide +kernel
theorem dX11_would_48 : decode cX11_would 48 = .ok (.aload_n 0, 1) := by decide +kernel
theorem dX11_would_49 : decode cX11_would 49 = .ok (.getfield 123, 3) := by decide +kernel
theorem dX11_would_52 : decode cX11_would 52 = .ok (.goto 33, 3) := by decide +kernel
theorem dX11_would_55 : decode cX11_would 55 = .ok (.iload 5, 2) := by decide +kernel
theorem dX11_would_57 : decode cX11_would 57 = .ok (.iconst 1, 1) := by decide +kernel
theorem dX11_would_58 : decode cX11_would 58 = .ok (.if_icmp .ne 10, 3) := by decide +kernel
theorem dX11_would_61 : decode cX11_would 61 = .ok (.aload_n 0, 1) := by decide +kernel
theorem dX11_would_62 : decode cX11_would 62 = .ok (.getfield 133, 3) := by decide +kernel
theorem dX11_would_65 : decode cX11_would 65 = .ok (.goto 20, 3) := by decide +kernel
theorem dX11_would_68 : decode cX11_would 68 = .ok (.iload 5, 2) := by decide +kernel
theorem dX11_would_70 : decode cX11_would 70 = .ok (.iconst 2, 1) := by decide +kernel
theorem dX11_would_71 : decode cX11_would 71 = .ok (.if_icmp .ne 10, 3) := by decide +kernel
theorem dX11_would_74 : decode cX11_would 74 = .ok (.aload_n 0, 1) := by decide +kernel
theorem dX11_would_75 : decode cX11_would 75 = .ok (.getfield 140, 3) := by decide +kernel
theorem dX11_would_78 : decode cX11_would 78 = .ok (.goto 7, 3) := by decide +kernel
theorem dX11_would_81 : decode cX11_would 81 = .ok (.aload_n 0, 1) := by decide +kernel
theorem dX11_would_82 : decode cX11_would 82 = .ok (.getfield 126, 3) := by decide +kernel
theorem dX11_would_85 : decode cX11_would 85 = .ok (.ireturn, 1) := by decide +kernel
theorem dX11_deed_0 : decode cX11_deed 0 = .ok (.aload_n 0, 1) := by decide +kernel
theorem dX11_deed_1 : decode cX11_deed 1 = .ok (.getfield 173, 3) := by decide +kernel
theorem dX11_deed_4 : decode cX11_deed 4 = .ok (.bipush 16, 2) := by decide +kernel
theorem dX11_deed_6 : decode cX11_deed 6 = .ok (.if_icmp .ne 44, 3) := by decide +kernel
theorem dX11_deed_9 : decode cX11_deed 9 = .ok (.iconst 0, 1) := by decide +kernel
theorem dX11_deed_10 : decode cX11_deed 10 = .ok (.istore_n 1, 1) := by decide +kernel
theorem dX11_deed_11 : decode cX11_deed 11 = .ok (.iload_n 1, 1) := by decide +kernel
theorem dX11_deed_12 : decode cX11_deed 12 = .ok (.sipush 3840, 3) := by decide +kernel
theorem dX11_deed_15 : decode cX11_deed 15 = .ok (.if_icmp .ge 25, 3) := by decide +kernel
theorem dX11_deed_18 : decode cX11_deed 18 = .ok (.aload_n 0, 1) := by decide +kernel
theorem dX11_deed_19 : decode cX11_deed 19 = .ok (.getfield 13, 3) := by decide +kernel
theorem dX11_deed_22 : decode cX11_deed 22 = .ok (.iload_n 1, 1) := by decide +kernel
theorem dX11_deed_23 : decode cX11_deed 23 = .ok (.aload_n 0, 1) := by decide +kernel
theorem dX11_deed_24 : decode cX11_deed 24 = .ok (.getfield 13, 3) := by decide +kernel
theorem dX11_deed_27 : decode cX11_deed 27 = .ok (.iload_n 1, 1) := by decide +kernel
theorem dX11_deed_28 : decode cX11_deed 28 = .ok (.sipush 256, 3) := by decide +kernel
theorem dX11_deed_31 : decode cX11_deed 31 = .ok (.iadd, 1) := by decide +kernel
theorem dX11_deed_32 : decode cX11_deed 32 = .ok (.iaload, 1) := by decide +kernel
theorem dX11_deed_33 : decode cX11_deed 33 = .ok (.iastore, 1) := by decide +kernel
theorem dX11_deed_34 : decode cX11_deed 34 = .ok (.iinc 1 1, 3) := by decide +kernel
theorem dX11_deed_37 : decode cX11_deed 37 = .ok (.goto (-26), 3) := by decide +kernel
theorem dX11_deed_40 : decode cX11_deed 40 = .ok (.aload_n 0, 1) := by decide +kernel
theorem dX11_deed_41 : decode cX11_deed 41 = .ok (.dup, 1) := by decide +kernel
theorem dX11_deed_42 : decode cX11_deed 42 = .ok (.getfield 173, 3) := by decide +kernel
theorem dX11_deed_45 : decode cX11_deed 45 = .ok (.iconst 1, 1) := by decide +kernel
theorem dX11_deed_46 : decode cX11_deed 46 = .ok (.isub, 1) := by decide +kernel
theorem dX11_deed_47 : decode cX11_deed 47 = .ok (.putfield 173, 3) := by decide +kernel
theorem dX11_deed_50 : decode cX11_deed 50 = .ok (.iconst 0, 1) := by decide +kernel
theorem dX11_deed_51 : decode cX11_deed 51 = .ok (.istore_n 1, 1) := by decide +kernel
theorem dX11_deed_52 : decode cX11_deed 52 = .ok (.iload_n 1, 1) := by decide +kernel
theorem dX11_deed_53 : decode cX11_deed 53 = .ok (.sipush 256, 3) := by decide +kernel
theorem dX11_deed_56 : decode cX11_deed 56 = .ok (.if_icmp .ge 30, 3) := by decide +kernel
theorem dX11_deed_59 : decode cX11_deed 59 = .ok (.aload_n 0, 1) := by decide +kernel
theorem dX11_deed_60 : decode cX11_deed 60 = .ok (.getfield 13, 3) := by decide +kernel
theorem dX11_deed_63 : decode cX11_deed 63 = .ok (.sipush 256, 3) := by decide +kernel
theorem dX11_deed_66 : decode cX11_deed 66 = .ok (.aload_n 0, 1) := by decide +kernel
theorem dX11_deed_67 : decode cX11_deed 67 = .ok (.getfield 173, 3) := by decide +kernel
theorem dX11_deed_70 : decode cX11_deed 70 = .ok (.imul, 1) := by decide +kernel
theorem dX11_deed_71 : decode cX11_deed 71 = .ok (.iload_n 1, 1) := by decide +kernel
theorem dX11_deed_72 : decode cX11_deed 72 = .ok (.iadd, 1) := by decide +kernel
theorem dX11_deed_73 : decode cX11_deed 73 = .ok (.aload_n 0, 1) := by decide +kernel
theorem dX11_deed_74 : decode cX11_deed 74 = .ok (.getfield 7, 3) := by decide +kernel
theorem dX11_deed_77 : decode cX11_deed 77 = .ok (.iload_n 1, 1) := by decide +kernel
theorem dX11_deed_78 : decode cX11_deed 78 = .ok (.iaload, 1) := by decide +kernel
theorem dX11_deed_79 : decode cX11_deed 79 = .ok (.iastore, 1) := by decide +kernel
theorem dX11_deed_80 : decode cX11_deed 80 = .ok (.iinc 1 1, 3) := by decide +kernel
theorem dX11_deed_83 : decode cX11_deed 83 = .ok (.goto (-31), 3) := by decide +kernel
theorem dX11_deed_86 : decode cX11_deed 86 = .ok (.aload_n 0, 1) := by decide +kernel
theorem dX11_deed_87 : decode cX11_deed 87 = .ok (.dup, 1) := by decide +kernel
theorem dX11_deed_88 : decode cX11_deed 88 = .ok (.getfield 173, 3) := by decide +kernel
theorem dX11_deed_91 : decode cX11_deed 91 = .ok (.iconst 1, 1) := by decide +kernel
theorem dX11_deed_92 : decode cX11_deed 92 = .ok (.iadd, 1) := by decide +kernel
theorem dX11_deed_93 : decode cX11_deed 93 = .ok (.putfield 173, 3) := by decide +kernel
theorem dX11_deed_96 : decode cX11_deed 96 = .ok (.aload_n 0, 1) := by decide +kernel
theorem dX11_deed_97 : decode cX11_deed 97 = .ok (.iconst 0, 1) := by decide +kernel
theorem dX11_deed_98 : decode cX11_deed 98 = .ok (.putfield 109, 3) := by decide +kernel
theorem dX11_deed_101 : decode cX11_deed 101 = .ok (.return_, 1) := by decide +kernel
theorem dX11_broker_0 : decode cX11_broker 0 = .ok (.aload_n 0, 1) := by decide +kernel
theorem dX11_broker_1 : decode cX11_broker 1 = .ok (.iload_n 1, 1) := by decide +kernel
theorem dX11_broker_2 : decode cX11_broker 2 = .ok (.invokevirtual 45, 3) := by decide +kernel
theorem dX11_broker_5 : decode cX11_broker 5 = .ok (.ifCond .ne 6, 3) := by decide +kernel
theorem dX11_broker_8 : decode cX11_broker 8 = .ok (.ldc 180, 2) := by decide +kernel
theorem dX11_broker_10 : decode cX11_broker 10 = .ok (.ireturn, 1) := by decide +kernel
theorem dX11_broker_11 : decode cX11_broker 11 = .ok (.aload_n 0, 1) := by decide +kernel
theorem dX11_broker_12 : decode cX11_broker 12 = .ok (.getfield 7, 3) := by decide +kernel
theorem dX11_broker_15 : decode cX11_broker 15 = .ok (.iconst 0, 1) := by decide +kernel
theorem dX11_broker_16 : decode cX11_broker 16 = .ok (.iaload, 1) := by decide +kernel
theorem dX11_broker_17 : decode cX11_broker 17 = .ok (.bipush 7, 2) := by decide +kernel
theorem dX11_broker_19 : decode cX11_broker 19 = .ok (.if_icmp .ne 6, 3) := by decide +kernel
theorem dX11_broker_22 : decode cX11_broker 22 = .ok (.ldc 197, 2) := by decide +kernel
theorem dX11_broker_24 : decode cX11_broker 24 = .ok (.ireturn, 1) := by decide +kernel
theorem dX11_broker_25 : decode cX11_broker 25 = .ok (.aload_n 0, 1) := by decide +kernel
theorem dX11_broker_26 : decode cX11_broker 26 = .ok (.invokevirtual 198, 3) := by decide +kernel
theorem dX11_broker_29 : decode cX11_broker 29 = .ok (.aload_n 0, 1) := by decide +kernel
theorem dX11_broker_30 : decode cX11_broker 30 = .ok (.getfield 7, 3) := by decide +kernel
theorem dX11_broker_33 : decode cX11_broker 33 = .ok (.bipush 8, 2) := by decide +kernel
theorem dX11_broker_35 : decode cX11_broker 35 = .ok (.aload_n 0, 1) := by decide +kernel
theorem dX11_broker_36 : decode cX11_broker 36 = .ok (.getfield 7, 3) := by decide +kernel
theorem dX11_broker_39 : decode cX11_broker 39 = .ok (.iconst 0, 1) := by decide +kernel
theorem dX11_broker_40 : decode cX11_broker 40 = .ok (.iaload, 1) := by decide +kernel
theorem dX11_broker_41 : decode cX11_broker 41 = .ok (.iadd, 1) := by decide +kernel
theorem dX11_broker_42 : decode cX11_broker 42 = .ok (.iload_n 1, 1) := by decide +kernel
theorem dX11_broker_43 : decode cX11_broker 43 = .ok (.iastore, 1) := by decide +kernel
theorem dX11_broker_44 : decode cX11_broker 44 = .ok (.aload_n 0, 1) := by decide +kernel
theorem dX11_broker_45 : decode cX11_broker 45 = .ok (.getfield 7, 3) := by decide +kernel
theorem dX11_broker_48 : decode cX11_broker 48 = .ok (.iconst 0, 1) := by decide +kernel
theorem dX11_broker_49 : decode cX11_broker 49 = .ok (.dup2, 1) := by decide +kernel
theorem dX11_broker_50 : decode cX11_broker 50 = .ok (.iaload, 1) := by decide +kernel
theorem dX11_broker_51 : decode cX11_broker 51 = .ok (.iconst 1, 1) := by decide +kernel
theorem dX11_broker_52 : decode cX11_broker 52 = .ok (.iadd, 1) := by decide +kernel
theorem dX11_broker_53 : decode cX11_broker 53 = .ok (.iastore, 1) := by decide +kernel
theorem dX11_broker_54 : decode cX11_broker 54 = .ok (.aload_n 0, 1) := by decide +kernel
theorem dX11_broker_55 : decode cX11_broker 55 = .ok (.getfield 7, 3) := by decide +kernel
theorem dX11_broker_58 : decode cX11_broker 58 = .ok (.iconst 0, 1) := by decide +kernel
theorem dX11_broker_59 : decode cX11_broker 59 = .ok (.iaload, 1) := by decide +kernel
theorem dX11_broker_60 : decode cX11_broker 60 = .ok (.iconst 1, 1) := by decide +kernel
theorem dX11_broker_61 : decode cX11_broker 61 = .ok (.isub, 1) := by decide +kernel
theorem dX11_broker_62 : decode cX11_broker 62 = .ok (.ireturn, 1) := by decide +kernel
theorem dX11_client_0 : decode cX11_client 0 = .ok (.aload_n 0, 1) := by decide +kernel
theorem dX11_client_1 : decode cX11_client 1 = .ok (.iload_n 1, 1) := by decide +kernel
theorem dX11_client_2 : decode cX11_client 2 = .ok (.invokevirtual 45, 3) := by decide +kernel
theorem dX11_client_5 : decode cX11_client 5 = .ok (.ifCond .ne 6, 3) := by decide +kernel
theorem dX11_client_8 : decode cX11_client 8 = .ok (.ldc 180, 2) := by decide +kernel
theorem dX11_client_10 : decode cX11_client 10 = .ok (.ireturn, 1) := by decide +kernel
theorem dX11_client_11 : decode cX11_client 11 = .ok (.aload_n 0, 1) := by decide +kernel
theorem dX11_client_12 : decode cX11_client 12 = .ok (.getfield 7, 3) := by decide +kernel
theorem dX11_client_15 : decode cX11_client 15 = .ok (.iconst 1, 1) := by decide +kernel
theorem dX11_client_16 : decode cX11_client 16 = .ok (.iaload, 1) := by decide +kernel
theorem dX11_client_17 : decode cX11_client 17 = .ok (.bipush 6, 2) := by decide +kernel
theorem dX11_client_19 : decode cX11_client 19 = .ok (.if_icmp .ne 6, 3) := by decide +kernel
theorem dX11_client_22 : decode cX11_client 22 = .ok (.ldc 197, 2) := by decide +kernel
theorem dX11_client_24 : decode cX11_client 24 = .ok (.ireturn, 1) := by decide +kernel
theorem dX11_client_25 : decode cX11_client 25 = .ok (.aload_n 0, 1) := by decide +kernel
theorem dX11_client_26 : decode cX11_client 26 = .ok (.invokevirtual 198, 3) := by decide +kernel
theorem dX11_client_29 : decode cX11_client 29 = .ok (.aload_n 0, 1) := by decide +kernel
theorem dX11_client_30 : decode cX11_client 30 = .ok (.getfield 7, 3) := by decide +kernel
theorem dX11_client_33 : decode cX11_client 33 = .ok (.iconst 1, 1) := by decide +kernel
theorem dX11_client_34 : decode cX11_client 34 = .ok (.iaload, 1) := by decide +kernel
theorem dX11_client_35 : decode cX11_client 35 = .ok (.istore_n 2, 1) := by decide +kernel
theorem dX11_client_36 : decode cX11_client 36 = .ok (.iconst 0, 1) := by decide +kernel
theorem dX11_client_37 : decode cX11_client 37 = .ok (.istore_n 3, 1) := by decide +kernel
theorem dX11_client_38 : decode cX11_client 38 = .ok (.iload_n 3, 1) := by decide +kernel
theorem dX11_client_39 : decode cX11_client 39 = .ok (.bipush 25, 2) := by decide +kernel
theorem dX11_client_41 : decode cX11_client 41 = .ok (.if_icmp .ge 16, 3) := by decide +kernel
theorem dX11_client_44 : decode cX11_client 44 = .ok (.aload_n 0, 1) := by decide +kernel
theorem dX11_client_45 : decode cX11_client 45 = .ok (.iload_n 2, 1) := by decide +kernel
theorem dX11_client_46 : decode cX11_client 46 = .ok (.iload_n 3, 1) := by decide +kernel
theorem dX11_client_47 : decode cX11_client 47 = .ok (.iconst 0, 1) := by decide +kernel
theorem dX11_client_48 : decode cX11_client 48 = .ok (.invokevirtual 143, 3) := by decide +kernel
theorem dX11_client_51 : decode cX11_client 51 = .ok (.iinc 3 1, 3) := by decide +kernel
theorem dX11_client_54 : decode cX11_client 54 = .ok (.goto (-16), 3) := by decide +kernel
theorem dX11_client_57 : decode cX11_client 57 = .ok (.aload_n 0, 1) := by decide +kernel
theorem dX11_client_58 : decode cX11_client 58 = .ok (.iload_n 2, 1) := by decide +kernel
theorem dX11_client_59 : decode cX11_client 59 = .ok (.iconst 0, 1) := by decide +kernel
theorem dX11_client_60 : decode cX11_client 60 = .ok (.iload_n 1, 1) := by decide +kernel
theorem dX11_client_61 : decode cX11_client 61 = .ok (.invokevirtual 143, 3) := by decide +kernel
theorem dX11_client_64 : decode cX11_client 64 = .ok (.aload_n 0, 1) := by decide +kernel
theorem dX11_client_65 : decode cX11_client 65 = .ok (.iload_n 2, 1) := by decide +kernel
theorem dX11_client_66 : decode cX11_client 66 = .ok (.iconst 1, 1) := by decide +kernel
theorem dX11_client_67 : decode cX11_client 67 = .ok (.iconst 1, 1) := by decide +kernel
theorem dX11_client_68 : decode cX11_client 68 = .ok (.invokevirtual 143, 3) := by decide +kernel
theorem dX11_client_71 : decode cX11_client 71 = .ok (.aload_n 0, 1) := by decide +kernel
theorem dX11_client_72 : decode cX11_client 72 = .ok (.getfield 7, 3) := by decide +kernel
theorem dX11_client_75 : decode cX11_client 75 = .ok (.iconst 1, 1) := by decide +kernel
theorem dX11_client_76 : decode cX11_client 76 = .ok (.dup2, 1) := by decide +kernel
theorem dX11_client_77 : decode cX11_client 77 = .ok (.iaload, 1) := by decide +kernel
theorem dX11_client_78 : decode cX11_client 78 = .ok (.iconst 1, 1) := by decide +kernel
theorem dX11_client_79 : decode cX11_client 79 = .ok (.iadd, 1) := by decide +kernel
theorem dX11_client_80 : decode cX11_client 80 = .ok (.iastore, 1) := by decide +kernel
theorem dX11_client_81 : decode cX11_client 81 = .ok (.iload_n 2, 1) := by decide +kernel
theorem dX11_client_82 : decode cX11_client 82 = .ok (.ireturn, 1) := by decide +kernel
theorem dX11_isKind_0 : decode cX11_isKind 0 = .ok (.iload_n 0, 1) := by decide +kernel
theorem dX11_isKind_1 : decode cX11_isKind 1 = .ok (.iconst 0, 1) := by decide +kernel
theorem dX11_isKind_2 : decode cX11_isKind 2 = .ok (.iconst 3, 1) := by decide +kernel
theorem dX11_isKind_3 : decode cX11_isKind 3 = .ok (.invokestatic 41, 3) := by decide +kernel
theorem dX11_isKind_6 : decode cX11_isKind 6 = .ok (.ifCond .eq 17, 3) := by decide +kernel
theorem dX11_isKind_9 : decode cX11_isKind 9 = .ok (.iload_n 1, 1) := by decide +kernel
theorem dX11_isKind_10 : decode cX11_isKind 10 = .ok (.iconst 0, 1) := by decide +kernel
theorem dX11_isKind_11 : decode cX11_isKind 11 = .ok (.bipush 9, 2) := by decide +kernel
theorem dX11_isKind_13 : decode cX11_isKind 13 = .ok (.invokestatic 41, 3) := by decide +kernel
theorem dX11_isKind_16 : decode cX11_isKind 16 = .ok (.ifCond .eq 7, 3) := by decide +kernel
theorem dX11_isKind_19 : decode cX11_isKind 19 = .ok (.iconst 1, 1) := by decide +kernel
theorem dX11_isKind_20 : decode cX11_isKind 20 = .ok (.goto 4, 3) := by decide +kernel
theorem dX11_isKind_23 : decode cX11_isKind 23 = .ok (.iconst 0, 1) := by decide +kernel
theorem dX11_isKind_24 : decode cX11_isKind 24 = .ok (.ireturn, 1) := by decide +kernel
theorem dX11_bounds_0 : decode cX11_bounds 0 = .ok (.aload_n 0, 1) := by decide +kernel
theorem dX11_bounds_1 : decode cX11_bounds 1 = .ok (.getfield 7, 3) := by decide +kernel
theorem dX11_bounds_4 : decode cX11_bounds 4 = .ok (.sipush 170, 3) := by decide +kernel
theorem dX11_bounds_7 : decode cX11_bounds 7 = .ok (.bipush 7, 2) := by decide +kernel
theorem dX11_bounds_9 : decode cX11_bounds 9 = .ok (.iload_n 1, 1) := by decide +kernel
theorem dX11_bounds_10 : decode cX11_bounds 10 = .ok (.imul, 1) := by decide +kernel
theorem dX11_bounds_11 : decode cX11_bounds 11 = .ok (.iadd, 1) := by decide +kernel
theorem dX11_bounds_12 : decode cX11_bounds 12 = .ok (.iconst 1, 1) := by decide +kernel
theorem dX11_bounds_13 : decode cX11_bounds 13 = .ok (.iadd, 1) := by decide +kernel
theorem dX11_bounds_14 : decode cX11_bounds 14 = .ok (.iconst 2, 1) := by decide +kernel
theorem dX11_bounds_15 : decode cX11_bounds 15 = .ok (.iload_n 2, 1) := by decide +kernel
theorem dX11_bounds_16 : decode cX11_bounds 16 = .ok (.imul, 1) := by decide +kernel
theorem dX11_bounds_17 : decode cX11_bounds 17 = .ok (.iadd, 1) := by decide +kernel
theorem dX11_bounds_18 : decode cX11_bounds 18 = .ok (.iload_n 3, 1) := by decide +kernel
theorem dX11_bounds_19 : decode cX11_bounds 19 = .ok (.iconst 2, 1) := by decide +kernel
theorem dX11_bounds_20 : decode cX11_bounds 20 = .ok (.if_icmp .ge 7, 3) := by decide +kernel
theorem dX11_bounds_23 : decode cX11_bounds 23 = .ok (.iconst 0, 1) := by decide +kernel
theorem dX11_bounds_24 : decode cX11_bounds 24 = .ok (.goto 5, 3) := by decide +kernel
theorem dX11_bounds_27 : decode cX11_bounds 27 = .ok (.iload 4, 2) := by decide +kernel
theorem dX11_bounds_29 : decode cX11_bounds 29 = .ok (.iastore, 1) := by decide +kernel
theorem dX11_bounds_30 : decode cX11_bounds 30 = .ok (.aload_n 0, 1) := by decide +kernel
theorem dX11_bounds_31 : decode cX11_bounds 31 = .ok (.getfield 7, 3) := by decide +kernel
theorem dX11_bounds_34 : decode cX11_bounds 34 = .ok (.sipush 170, 3) := by decide +kernel
theorem dX11_bounds_37 : decode cX11_bounds 37 = .ok (.bipush 7, 2) := by decide +kernel
theorem dX11_bounds_39 : decode cX11_bounds 39 = .ok (.iload_n 1, 1) := by decide +kernel
theorem dX11_bounds_40 : decode cX11_bounds 40 = .ok (.imul, 1) := by decide +kernel
theorem dX11_bounds_41 : decode cX11_bounds 41 = .ok (.iadd, 1) := by decide +kernel
theorem dX11_bounds_42 : decode cX11_bounds 42 = .ok (.iconst 1, 1) := by decide +kernel
theorem dX11_bounds_43 : decode cX11_bounds 43 = .ok (.iadd, 1) := by decide +kernel
theorem dX11_bounds_44 : decode cX11_bounds 44 = .ok (.iconst 2, 1) := by decide +kernel
theorem dX11_bounds_45 : decode cX11_bounds 45 = .ok (.iload_n 2, 1) := by decide +kernel
theorem dX11_bounds_46 : decode cX11_bounds 46 = .ok (.imul, 1) := by decide +kernel
theorem dX11_bounds_47 : decode cX11_bounds 47 = .ok (.iadd, 1) := by decide +kernel
theorem dX11_bounds_48 : decode cX11_bounds 48 = .ok (.iconst 1, 1) := by decide +kernel
theorem dX11_bounds_49 : decode cX11_bounds 49 = .ok (.iadd, 1) := by decide +kernel
theorem dX11_bounds_50 : decode cX11_bounds 50 = .ok (.iload_n 3, 1) := by decide +kernel
theorem dX11_bounds_51 : decode cX11_bounds 51 = .ok (.ifCond .eq 8, 3) := by decide +kernel
theorem dX11_bounds_54 : decode cX11_bounds 54 = .ok (.iload_n 3, 1) := by decide +kernel
theorem dX11_bounds_55 : decode cX11_bounds 55 = .ok (.iconst 2, 1) := by decide +kernel
theorem dX11_bounds_56 : decode cX11_bounds 56 = .ok (.if_icmp .ne 8, 3) := by decide +kernel
theorem dX11_bounds_59 : decode cX11_bounds 59 = .ok (.bipush 9, 2) := by decide +kernel
theorem dX11_bounds_61 : decode cX11_bounds 61 = .ok (.goto 5, 3) := by decide +kernel
theorem dX11_bounds_64 : decode cX11_bounds 64 = .ok (.iload 4, 2) := by decide +kernel
theorem dX11_bounds_66 : decode cX11_bounds 66 = .ok (.iastore, 1) := by decide +kernel
theorem dX11_bounds_67 : decode cX11_bounds 67 = .ok (.return_, 1) := by decide +kernel
theorem dX11_wish__0 : decode cX11_wish_ 0 = .ok (.aload_n 0, 1) := by decide +kernel
theorem dX11_wish__1 : decode cX11_wish_ 1 = .ok (.iload_n 1, 1) := by decide +kernel
theorem dX11_wish__2 : decode cX11_wish_ 2 = .ok (.invokevirtual 163, 3) := by decide +kernel
theorem dX11_wish__5 : decode cX11_wish_ 5 = .ok (.ifCond .ne 6, 3) := by decide +kernel
theorem dX11_wish__8 : decode cX11_wish_ 8 = .ok (.ldc 180, 2) := by decide +kernel
theorem dX11_wish__10 : decode cX11_wish_ 10 = .ok (.ireturn, 1) := by decide +kernel
theorem dX11_wish__11 : decode cX11_wish_ 11 = .ok (.iload_n 2, 1) := by decide +kernel
theorem dX11_wish__12 : decode cX11_wish_ 12 = .ok (.iload_n 3, 1) := by decide +kernel
theorem dX11_wish__13 : decode cX11_wish_ 13 = .ok (.invokestatic 201, 3) := by decide +kernel
theorem dX11_wish__16 : decode cX11_wish_ 16 = .ok (.ifCond .eq 23, 3) := by decide +kernel
theorem dX11_wish__19 : decode cX11_wish_ 19 = .ok (.iload 4, 2) := by decide +kernel
theorem dX11_wish__21 : decode cX11_wish_ 21 = .ok (.iload 5, 2) := by decide +kernel
theorem dX11_wish__23 : decode cX11_wish_ 23 = .ok (.invokestatic 201, 3) := by decide +kernel
theorem dX11_wish__26 : decode cX11_wish_ 26 = .ok (.ifCond .eq 13, 3) := by decide +kernel
theorem dX11_wish__29 : decode cX11_wish_ 29 = .ok (.iload 6, 2) := by decide +kernel
theorem dX11_wish__31 : decode cX11_wish_ 31 = .ok (.iload 7, 2) := by decide +kernel
theorem dX11_wish__33 : decode cX11_wish_ 33 = .ok (.invokestatic 201, 3) := by decide +kernel
theorem dX11_wish__36 : decode cX11_wish_ 36 = .ok (.ifCond .ne 6, 3) := by decide +kernel
theorem dX11_wish__39 : decode cX11_wish_ 39 = .ok (.ldc 179, 2) := by decide +kernel
theorem dX11_wish__41 : decode cX11_wish_ 41 = .ok (.ireturn, 1) := by decide +kernel
theorem dX11_wish__42 : decode cX11_wish_ 42 = .ok (.aload_n 0, 1) := by decide +kernel
theorem dX11_wish__43 : decode cX11_wish_ 43 = .ok (.getfield 7, 3) := by decide +kernel
theorem dX11_wish__46 : decode cX11_wish_ 46 = .ok (.iconst 2, 1) := by decide +kernel
theorem dX11_wish__47 : decode cX11_wish_ 47 = .ok (.iaload, 1) := by decide +kernel
theorem dX11_wish__48 : decode cX11_wish_ 48 = .ok (.bipush 12, 2) := by decide +kernel
theorem dX11_wish__50 : decode cX11_wish_ 50 = .ok (.if_icmp .ne 6, 3) := by decide +kernel
theorem dX11_wish__53 : decode cX11_wish_ 53 = .ok (.ldc 197, 2) := by decide +kernel
theorem dX11_wish__55 : decode cX11_wish_ 55 = .ok (.ireturn, 1) := by decide +kernel
theorem dX11_wish__56 : decode cX11_wish_ 56 = .ok (.aload_n 0, 1) := by decide +kernel
theorem dX11_wish__57 : decode cX11_wish_ 57 = .ok (.invokevirtual 198, 3) := by decide +kernel
theorem dX11_wish__60 : decode cX11_wish_ 60 = .ok (.aload_n 0, 1) := by decide +kernel
theorem dX11_wish__61 : decode cX11_wish_ 61 = .ok (.getfield 7, 3) := by decide +kernel
theorem dX11_wish__64 : decode cX11_wish_ 64 = .ok (.iconst 2, 1) := by decide +kernel
theorem dX11_wish__65 : decode cX11_wish_ 65 = .ok (.iaload, 1) := by decide +kernel
theorem dX11_wish__66 : decode cX11_wish_ 66 = .ok (.istore 8, 2) := by decide +kernel
theorem dX11_wish__68 : decode cX11_wish_ 68 = .ok (.aload_n 0, 1) := by decide +kernel
theorem dX11_wish__69 : decode cX11_wish_ 69 = .ok (.getfield 7, 3) := by decide +kernel
theorem dX11_wish__72 : decode cX11_wish_ 72 = .ok (.sipush 170, 3) := by decide +kernel
theorem dX11_wish__75 : decode cX11_wish_ 75 = .ok (.bipush 7, 2) := by decide +kernel
theorem dX11_wish__77 : decode cX11_wish_ 77 = .ok (.iload 8, 2) := by decide +kernel
theorem dX11_wish__79 : decode cX11_wish_ 79 = .ok (.imul, 1) := by decide +kernel
theorem dX11_wish__80 : decode cX11_wish_ 80 = .ok (.iadd, 1) := by decide +kernel
theorem dX11_wish__81 : decode cX11_wish_ 81 = .ok (.iload_n 1, 1) := by decide +kernel
theorem dX11_wish__82 : decode cX11_wish_ 82 = .ok (.iastore, 1) := by decide +kernel
theorem dX11_wish__83 : decode cX11_wish_ 83 = .ok (.aload_n 0, 1) := by decide +kernel
theorem dX11_wish__84 : decode cX11_wish_ 84 = .ok (.iload 8, 2) := by decide +kernel
theorem dX11_wish__86 : decode cX11_wish_ 86 = .ok (.iconst 0, 1) := by decide +kernel
theorem dX11_wish__87 : decode cX11_wish_ 87 = .ok (.iload_n 2, 1) := by decide +kernel
theorem dX11_wish__88 : decode cX11_wish_ 88 = .ok (.iload_n 3, 1) := by decide +kernel
theorem dX11_wish__89 : decode cX11_wish_ 89 = .ok (.invokevirtual 204, 3) := by decide +kernel
theorem dX11_wish__92 : decode cX11_wish_ 92 = .ok (.aload_n 0, 1) := by decide +kernel
theorem dX11_wish__93 : decode cX11_wish_ 93 = .ok (.iload 8, 2) := by decide +kernel
theorem dX11_wish__95 : decode cX11_wish_ 95 = .ok (.iconst 1, 1) := by decide +kernel
theorem dX11_wish__96 : decode cX11_wish_ 96 = .ok (.iload 4, 2) := by decide +kernel
theorem dX11_wish__98 : decode cX11_wish_ 98 = .ok (.iload 5, 2) := by decide +kernel
theorem dX11_wish__100 : decode cX11_wish_ 100 = .ok (.invokevirtual 204, 3) := by decide +kernel
theorem dX11_wish__103 : decode cX11_wish_ 103 = .ok (.aload_n 0, 1) := by decide +kernel
theorem dX11_wish__104 : decode cX11_wish_ 104 = .ok (.iload 8, 2) := by decide +kernel
theorem dX11_wish__106 : decode cX11_wish_ 106 = .ok (.iconst 2, 1) := by decide +kernel
theorem dX11_wish__107 : decode cX11_wish_ 107 = .ok (.iload 6, 2) := by decide +kernel
theorem dX11_wish__109 : decode cX11_wish_ 109 = .ok (.iload 7, 2) := by decide +kernel
theorem dX11_wish__111 : decode cX11_wish_ 111 = .ok (.invokevirtual 204, 3) := by decide +kernel
theorem dX11_wish__114 : decode cX11_wish_ 114 = .ok (.aload_n 0, 1) := by decide +kernel
theorem dX11_wish__115 : decode cX11_wish_ 115 = .ok (.getfield 7, 3) := by decide +kernel
theorem dX11_wish__118 : decode cX11_wish_ 118 = .ok (.iconst 2, 1) := by decide +kernel
theorem dX11_wish__119 : decode cX11_wish_ 119 = .ok (.dup2, 1) := by decide +kernel
theorem dX11_wish__120 : decode cX11_wish_ 120 = .ok (.iaload, 1) := by decide +kernel
theorem dX11_wish__121 : decode cX11_wish_ 121 = .ok (.iconst 1, 1) := by decide +kernel
theorem dX11_wish__122 : decode cX11_wish_ 122 = .ok (.iadd, 1) := by decide +kernel
theorem dX11_wish__123 : decode cX11_wish_ 123 = .ok (.iastore, 1) := by decide +kernel
theorem dX11_wish__124 : decode cX11_wish_ 124 = .ok (.iload 8, 2) := by decide +kernel
theorem dX11_wish__126 : decode cX11_wish_ 126 = .ok (.ireturn, 1) := by decide +kernel
theorem dX11_dropsWish_0 : decode cX11_dropsWish 0 = .ok (.aload_n 0, 1) := by decide +kernel
theorem dX11_dropsWish_1 : decode cX11_dropsWish 1 = .ok (.getfield 7, 3) := by decide +kernel
theorem dX11_dropsWish_4 : decode cX11_dropsWish 4 = .ok (.iconst 2, 1) := by decide +kernel
theorem dX11_dropsWish_5 : decode cX11_dropsWish 5 = .ok (.dup2, 1) := by decide +kernel
theorem dX11_dropsWish_6 : decode cX11_dropsWish 6 = .ok (.iaload, 1) := by decide +kernel
theorem dX11_dropsWish_7 : decode cX11_dropsWish 7 = .ok (.iconst 1, 1) := by decide +kernel
theorem dX11_dropsWish_8 : decode cX11_dropsWish 8 = .ok (.isub, 1) := by decide +kernel
theorem dX11_dropsWish_9 : decode cX11_dropsWish 9 = .ok (.iastore, 1) := by decide +kernel
theorem dX11_dropsWish_10 : decode cX11_dropsWish 10 = .ok (.sipush 170, 3) := by decide +kernel
theorem dX11_dropsWish_13 : decode cX11_dropsWish 13 = .ok (.bipush 7, 2) := by decide +kernel
theorem dX11_dropsWish_15 : decode cX11_dropsWish 15 = .ok (.iload_n 1, 1) := by decide +kernel
theorem dX11_dropsWish_16 : decode cX11_dropsWish 16 = .ok (.imul, 1) := by decide +kernel
theorem dX11_dropsWish_17 : decode cX11_dropsWish 17 = .ok (.iadd, 1) := by decide +kernel
theorem dX11_dropsWish_18 : decode cX11_dropsWish 18 = .ok (.istore_n 2, 1) := by decide +kernel
theorem dX11_dropsWish_19 : decode cX11_dropsWish 19 = .ok (.iload_n 2, 1) := by decide +kernel
theorem dX11_dropsWish_20 : decode cX11_dropsWish 20 = .ok (.sipush 170, 3) := by decide +kernel
theorem dX11_dropsWish_23 : decode cX11_dropsWish 23 = .ok (.bipush 7, 2) := by decide +kernel
theorem dX11_dropsWish_25 : decode cX11_dropsWish 25 = .ok (.aload_n 0, 1) := by decide +kernel
theorem dX11_dropsWish_26 : decode cX11_dropsWish 26 = .ok (.getfield 7, 3) := by decide +kernel
theorem dX11_dropsWish_29 : decode cX11_dropsWish 29 = .ok (.iconst 2, 1) := by decide +kernel
theorem dX11_dropsWish_30 : decode cX11_dropsWish 30 = .ok (.iaload, 1) := by decide +kernel
theorem dX11_dropsWish_31 : decode cX11_dropsWish 31 = .ok (.imul, 1) := by decide +kernel
theorem dX11_dropsWish_32 : decode cX11_dropsWish 32 = .ok (.iadd, 1) := by decide +kernel
theorem dX11_dropsWish_33 : decode cX11_dropsWish 33 = .ok (.if_icmp .ge 24, 3) := by decide +kernel
theorem dX11_dropsWish_36 : decode cX11_dropsWish 36 = .ok (.aload_n 0, 1) := by decide +kernel
theorem dX11_dropsWish_37 : decode cX11_dropsWish 37 = .ok (.getfield 7, 3) := by decide +kernel
theorem dX11_dropsWish_40 : decode cX11_dropsWish 40 = .ok (.iload_n 2, 1) := by decide +kernel
theorem dX11_dropsWish_41 : decode cX11_dropsWish 41 = .ok (.aload_n 0, 1) := by decide +kernel
theorem dX11_dropsWish_42 : decode cX11_dropsWish 42 = .ok (.getfield 7, 3) := by decide +kernel
theorem dX11_dropsWish_45 : decode cX11_dropsWish 45 = .ok (.iload_n 2, 1) := by decide +kernel
theorem dX11_dropsWish_46 : decode cX11_dropsWish 46 = .ok (.bipush 7, 2) := by decide +kernel
theorem dX11_dropsWish_48 : decode cX11_dropsWish 48 = .ok (.iadd, 1) := by decide +kernel
theorem dX11_dropsWish_49 : decode cX11_dropsWish 49 = .ok (.iaload, 1) := by decide +kernel
theorem dX11_dropsWish_50 : decode cX11_dropsWish 50 = .ok (.iastore, 1) := by decide +kernel
theorem dX11_dropsWish_51 : decode cX11_dropsWish 51 = .ok (.iinc 2 1, 3) := by decide +kernel
theorem dX11_dropsWish_54 : decode cX11_dropsWish 54 = .ok (.goto (-35), 3) := by decide +kernel
theorem dX11_dropsWish_57 : decode cX11_dropsWish 57 = .ok (.return_, 1) := by decide +kernel
theorem dX11_drop_0 : decode cX11_drop 0 = .ok (.aload_n 0, 1) := by decide +kernel
theorem dX11_drop_1 : decode cX11_drop 1 = .ok (.iload_n 1, 1) := by decide +kernel
theorem dX11_drop_2 : decode cX11_drop 2 = .ok (.invokevirtual 184, 3) := by decide +kernel
theorem dX11_drop_5 : decode cX11_drop 5 = .ok (.ifCond .ne 6, 3) := by decide +kernel
theorem dX11_drop_8 : decode cX11_drop 8 = .ok (.ldc 180, 2) := by decide +kernel
theorem dX11_drop_10 : decode cX11_drop 10 = .ok (.ireturn, 1) := by decide +kernel
theorem dX11_drop_11 : decode cX11_drop 11 = .ok (.aload_n 0, 1) := by decide +kernel
theorem dX11_drop_12 : decode cX11_drop 12 = .ok (.invokevirtual 198, 3) := by decide +kernel
theorem dX11_drop_15 : decode cX11_drop 15 = .ok (.aload_n 0, 1) := by decide +kernel
theorem dX11_drop_16 : decode cX11_drop 16 = .ok (.iload_n 1, 1) := by decide +kernel
theorem dX11_drop_17 : decode cX11_drop 17 = .ok (.invokevirtual 207, 3) := by decide +kernel
theorem dX11_drop_20 : decode cX11_drop 20 = .ok (.aload_n 0, 1) := by decide +kernel
theorem dX11_drop_21 : decode cX11_drop 21 = .ok (.getfield 7, 3) := by decide +kernel
theorem dX11_drop_24 : decode cX11_drop 24 = .ok (.iconst 2, 1) := by decide +kernel
theorem dX11_drop_25 : decode cX11_drop 25 = .ok (.iaload, 1) := by decide +kernel
theorem dX11_drop_26 : decode cX11_drop 26 = .ok (.ireturn, 1) := by decide +kernel
theorem dX11_most_0 : decode cX11_most 0 = .ok (.iload_n 1, 1) := by decide +kernel
theorem dX11_most_1 : decode cX11_most 1 = .ok (.iconst 1, 1) := by decide +kernel
theorem dX11_most_2 : decode cX11_most 2 = .ok (.bipush 9, 2) := by decide +kernel
theorem dX11_most_4 : decode cX11_most 4 = .ok (.invokestatic 41, 3) := by decide +kernel
theorem dX11_most_7 : decode cX11_most 7 = .ok (.ifCond .ne 6, 3) := by decide +kernel
theorem dX11_most_10 : decode cX11_most 10 = .ok (.ldc 179, 2) := by decide +kernel
theorem dX11_most_12 : decode cX11_most 12 = .ok (.ireturn, 1) := by decide +kernel
theorem dX11_most_13 : decode cX11_most 13 = .ok (.aload_n 0, 1) := by decide +kernel
theorem dX11_most_14 : decode cX11_most 14 = .ok (.invokevirtual 198, 3) := by decide +kernel
theorem dX11_most_17 : decode cX11_most 17 = .ok (.aload_n 0, 1) := by decide +kernel
theorem dX11_most_18 : decode cX11_most 18 = .ok (.getfield 7, 3) := by decide +kernel
theorem dX11_most_21 : decode cX11_most 21 = .ok (.iconst 3, 1) := by decide +kernel
theorem dX11_most_22 : decode cX11_most 22 = .ok (.iaload, 1) := by decide +kernel
theorem dX11_most_23 : decode cX11_most 23 = .ok (.istore_n 2, 1) := by decide +kernel
theorem dX11_most_24 : decode cX11_most 24 = .ok (.aload_n 0, 1) := by decide +kernel
theorem dX11_most_25 : decode cX11_most 25 = .ok (.getfield 7, 3) := by decide +kernel
theorem dX11_most_28 : decode cX11_most 28 = .ok (.iconst 3, 1) := by decide +kernel
theorem dX11_most_29 : decode cX11_most 29 = .ok (.iload_n 1, 1) := by decide +kernel
theorem dX11_most_30 : decode cX11_most 30 = .ok (.iastore, 1) := by decide +kernel
theorem dX11_most_31 : decode cX11_most 31 = .ok (.iload_n 2, 1) := by decide +kernel
theorem dX11_most_32 : decode cX11_most 32 = .ok (.ireturn, 1) := by decide +kernel
theorem dX11_put_0 : decode cX11_put 0 = .ok (.aload_n 0, 1) := by decide +kernel
theorem dX11_put_1 : decode cX11_put 1 = .ok (.iload_n 1, 1) := by decide +kernel
theorem dX11_put_2 : decode cX11_put 2 = .ok (.invokevirtual 45, 3) := by decide +kernel
theorem dX11_put_5 : decode cX11_put 5 = .ok (.ifCond .ne 6, 3) := by decide +kernel
theorem dX11_put_8 : decode cX11_put 8 = .ok (.ldc 180, 2) := by decide +kernel
theorem dX11_put_10 : decode cX11_put 10 = .ok (.ireturn, 1) := by decide +kernel
theorem dX11_put_11 : decode cX11_put 11 = .ok (.iload_n 2, 1) := by decide +kernel
theorem dX11_put_12 : decode cX11_put 12 = .ok (.iload_n 3, 1) := by decide +kernel
theorem dX11_put_13 : decode cX11_put 13 = .ok (.iload 4, 2) := by decide +kernel
theorem dX11_put_15 : decode cX11_put 15 = .ok (.invokestatic 194, 3) := by decide +kernel
theorem dX11_put_18 : decode cX11_put 18 = .ok (.ifCond .ne 6, 3) := by decide +kernel
theorem dX11_put_21 : decode cX11_put 21 = .ok (.ldc 179, 2) := by decide +kernel
theorem dX11_put_23 : decode cX11_put 23 = .ok (.ireturn, 1) := by decide +kernel
theorem dX11_put_24 : decode cX11_put 24 = .ok (.aload_n 0, 1) := by decide +kernel
theorem dX11_put_25 : decode cX11_put 25 = .ok (.invokevirtual 198, 3) := by decide +kernel
theorem dX11_put_28 : decode cX11_put 28 = .ok (.aload_n 0, 1) := by decide +kernel
theorem dX11_put_29 : decode cX11_put 29 = .ok (.iload_n 1, 1) := by decide +kernel
theorem dX11_put_30 : decode cX11_put 30 = .ok (.iload_n 2, 1) := by decide +kernel
theorem dX11_put_31 : decode cX11_put 31 = .ok (.iload_n 3, 1) := by decide +kernel
theorem dX11_put_32 : decode cX11_put 32 = .ok (.iload 4, 2) := by decide +kernel
theorem dX11_put_34 : decode cX11_put 34 = .ok (.invokevirtual 210, 3) := by decide +kernel
theorem dX11_put_37 : decode cX11_put 37 = .ok (.ireturn, 1) := by decide +kernel
theorem dX11_leave_0 : decode cX11_leave 0 = .ok (.aload_n 0, 1) := by decide +kernel
theorem dX11_leave_1 : decode cX11_leave 1 = .ok (.iload_n 1, 1) := by decide +kernel
theorem dX11_leave_2 : decode cX11_leave 2 = .ok (.invokevirtual 163, 3) := by decide +kernel
theorem dX11_leave_5 : decode cX11_leave 5 = .ok (.ifCond .ne 6, 3) := by decide +kernel
theorem dX11_leave_8 : decode cX11_leave 8 = .ok (.ldc 180, 2) := by decide +kernel
theorem dX11_leave_10 : decode cX11_leave 10 = .ok (.ireturn, 1) := by decide +kernel
theorem dX11_leave_11 : decode cX11_leave 11 = .ok (.aload_n 0, 1) := by decide +kernel
theorem dX11_leave_12 : decode cX11_leave 12 = .ok (.iload_n 1, 1) := by decide +kernel
theorem dX11_leave_13 : decode cX11_leave 13 = .ok (.iconst 1, 1) := by decide +kernel
theorem dX11_leave_14 : decode cX11_leave 14 = .ok (.invokevirtual 90, 3) := by decide +kernel
theorem dX11_leave_17 : decode cX11_leave 17 = .ok (.ifCond .ne 6, 3) := by decide +kernel
theorem dX11_leave_20 : decode cX11_leave 20 = .ok (.ldc 214, 2) := by decide +kernel
theorem dX11_leave_22 : decode cX11_leave 22 = .ok (.ireturn, 1) := by decide +kernel
theorem dX11_leave_23 : decode cX11_leave 23 = .ok (.aload_n 0, 1) := by decide +kernel
theorem dX11_leave_24 : decode cX11_leave 24 = .ok (.invokevirtual 198, 3) := by decide +kernel
theorem dX11_leave_27 : decode cX11_leave 27 = .ok (.aload_n 0, 1) := by decide +kernel
theorem dX11_leave_28 : decode cX11_leave 28 = .ok (.iload_n 1, 1) := by decide +kernel
theorem dX11_leave_29 : decode cX11_leave 29 = .ok (.iconst 1, 1) := by decide +kernel
theorem dX11_leave_30 : decode cX11_leave 30 = .ok (.iconst 0, 1) := by decide +kernel
theorem dX11_leave_31 : decode cX11_leave 31 = .ok (.invokevirtual 143, 3) := by decide +kernel
theorem dX11_leave_34 : decode cX11_leave 34 = .ok (.aload_n 0, 1) := by decide +kernel
theorem dX11_leave_35 : decode cX11_leave 35 = .ok (.iload_n 1, 1) := by decide +kernel
theorem dX11_leave_36 : decode cX11_leave 36 = .ok (.iconst 0, 1) := by decide +kernel
theorem dX11_leave_37 : decode cX11_leave 37 = .ok (.invokevirtual 90, 3) := by decide +kernel
theorem dX11_leave_40 : decode cX11_leave 40 = .ok (.ireturn, 1) := by decide +kernel
theorem dX11_come_0 : decode cX11_come 0 = .ok (.aload_n 0, 1) := by decide +kernel
theorem dX11_come_1 : decode cX11_come 1 = .ok (.iload_n 1, 1) := by decide +kernel
theorem dX11_come_2 : decode cX11_come 2 = .ok (.invokevirtual 163, 3) := by decide +kernel
theorem dX11_come_5 : decode cX11_come 5 = .ok (.ifCond .eq 11, 3) := by decide +kernel
theorem dX11_come_8 : decode cX11_come 8 = .ok (.aload_n 0, 1) := by decide +kernel
theorem dX11_come_9 : decode cX11_come 9 = .ok (.iload_n 2, 1) := by decide +kernel
theorem dX11_come_10 : decode cX11_come 10 = .ok (.invokevirtual 45, 3) := by decide +kernel
theorem dX11_come_13 : decode cX11_come 13 = .ok (.ifCond .ne 6, 3) := by decide +kernel
theorem dX11_come_16 : decode cX11_come 16 = .ok (.ldc 180, 2) := by decide +kernel
theorem dX11_come_18 : decode cX11_come 18 = .ok (.ireturn, 1) := by decide +kernel
theorem dX11_come_19 : decode cX11_come 19 = .ok (.aload_n 0, 1) := by decide +kernel
theorem dX11_come_20 : decode cX11_come 20 = .ok (.iload_n 1, 1) := by decide +kernel
theorem dX11_come_21 : decode cX11_come 21 = .ok (.iconst 1, 1) := by decide +kernel
theorem dX11_come_22 : decode cX11_come 22 = .ok (.invokevirtual 90, 3) := by decide +kernel
theorem dX11_come_25 : decode cX11_come 25 = .ok (.iconst 1, 1) := by decide +kernel
theorem dX11_come_26 : decode cX11_come 26 = .ok (.if_icmp .ne 6, 3) := by decide +kernel
theorem dX11_come_29 : decode cX11_come 29 = .ok (.ldc 214, 2) := by decide +kernel
theorem dX11_come_31 : decode cX11_come 31 = .ok (.ireturn, 1) := by decide +kernel
theorem dX11_come_32 : decode cX11_come 32 = .ok (.aload_n 0, 1) := by decide +kernel
theorem dX11_come_33 : decode cX11_come 33 = .ok (.invokevirtual 198, 3) := by decide +kernel
theorem dX11_come_36 : decode cX11_come 36 = .ok (.aload_n 0, 1) := by decide +kernel
theorem dX11_come_37 : decode cX11_come 37 = .ok (.iload_n 1, 1) := by decide +kernel
theorem dX11_come_38 : decode cX11_come 38 = .ok (.iconst 4, 1) := by decide +kernel
theorem dX11_come_39 : decode cX11_come 39 = .ok (.invokevirtual 90, 3) := by decide +kernel
theorem dX11_come_42 : decode cX11_come 42 = .ok (.istore_n 3, 1) := by decide +kernel
theorem dX11_come_43 : decode cX11_come 43 = .ok (.iconst 0, 1) := by decide +kernel
theorem dX11_come_44 : decode cX11_come 44 = .ok (.istore 4, 2) := by decide +kernel
theorem dX11_come_46 : decode cX11_come 46 = .ok (.iload 4, 2) := by decide +kernel
theorem dX11_come_48 : decode cX11_come 48 = .ok (.iload_n 3, 1) := by decide +kernel
theorem dX11_come_49 : decode cX11_come 49 = .ok (.if_icmp .ge 24, 3) := by decide +kernel
theorem dX11_come_52 : decode cX11_come 52 = .ok (.aload_n 0, 1) := by decide +kernel
theorem dX11_come_53 : decode cX11_come 53 = .ok (.iload_n 1, 1) := by decide +kernel
theorem dX11_come_54 : decode cX11_come 54 = .ok (.aload_n 0, 1) := by decide +kernel
theorem dX11_come_55 : decode cX11_come 55 = .ok (.iload_n 1, 1) := by decide +kernel
theorem dX11_come_56 : decode cX11_come 56 = .ok (.bipush 17, 2) := by decide +kernel
theorem dX11_come_58 : decode cX11_come 58 = .ok (.iload 4, 2) := by decide +kernel
theorem dX11_come_60 : decode cX11_come 60 = .ok (.iadd, 1) := by decide +kernel
theorem dX11_come_61 : decode cX11_come 61 = .ok (.invokevirtual 90, 3) := by decide +kernel
theorem dX11_come_64 : decode cX11_come 64 = .ok (.invokevirtual 151, 3) := by decide +kernel
theorem dX11_come_67 : decode cX11_come 67 = .ok (.iinc 4 1, 3) := by decide +kernel
theorem dX11_come_70 : decode cX11_come 70 = .ok (.goto (-24), 3) := by decide +kernel
theorem dX11_come_73 : decode cX11_come 73 = .ok (.aload_n 0, 1) := by decide +kernel
theorem dX11_come_74 : decode cX11_come 74 = .ok (.iload_n 1, 1) := by decide +kernel
theorem dX11_come_75 : decode cX11_come 75 = .ok (.iconst 4, 1) := by decide +kernel
theorem dX11_come_76 : decode cX11_come 76 = .ok (.iconst 0, 1) := by decide +kernel
theorem dX11_come_77 : decode cX11_come 77 = .ok (.invokevirtual 143, 3) := by decide +kernel
theorem dX11_come_80 : decode cX11_come 80 = .ok (.aload_n 0, 1) := by decide +kernel
theorem dX11_come_81 : decode cX11_come 81 = .ok (.iload_n 1, 1) := by decide +kernel
theorem dX11_come_82 : decode cX11_come 82 = .ok (.iconst 0, 1) := by decide +kernel
theorem dX11_come_83 : decode cX11_come 83 = .ok (.iload_n 2, 1) := by decide +kernel
theorem dX11_come_84 : decode cX11_come 84 = .ok (.invokevirtual 143, 3) := by decide +kernel
theorem dX11_come_87 : decode cX11_come 87 = .ok (.aload_n 0, 1) := by decide +kernel
theorem dX11_come_88 : decode cX11_come 88 = .ok (.iload_n 1, 1) := by decide +kernel
theorem dX11_come_89 : decode cX11_come 89 = .ok (.iconst 1, 1) := by decide +kernel
theorem dX11_come_90 : decode cX11_come 90 = .ok (.iconst 1, 1) := by decide +kernel
theorem dX11_come_91 : decode cX11_come 91 = .ok (.invokevirtual 143, 3) := by decide +kernel
theorem dX11_come_94 : decode cX11_come 94 = .ok (.iload_n 3, 1) := by decide +kernel
theorem dX11_come_95 : decode cX11_come 95 = .ok (.ireturn, 1) := by decide +kernel
theorem dX11_part_0 : decode cX11_part 0 = .ok (.aload_n 0, 1) := by decide +kernel
theorem dX11_part_1 : decode cX11_part 1 = .ok (.getfield 7, 3) := by decide +kernel
theorem dX11_part_4 : decode cX11_part 4 = .ok (.iconst 1, 1) := by decide +kernel
theorem dX11_part_5 : decode cX11_part 5 = .ok (.iaload, 1) := by decide +kernel
theorem dX11_part_6 : decode cX11_part 6 = .ok (.ifCond .ne 6, 3) := by decide +kernel
theorem dX11_part_9 : decode cX11_part 9 = .ok (.ldc 214, 2) := by decide +kernel
theorem dX11_part_11 : decode cX11_part 11 = .ok (.ireturn, 1) := by decide +kernel
theorem dX11_part_12 : decode cX11_part 12 = .ok (.aload_n 0, 1) := by decide +kernel
theorem dX11_part_13 : decode cX11_part 13 = .ok (.invokevirtual 198, 3) := by decide +kernel
theorem dX11_part_16 : decode cX11_part 16 = .ok (.aload_n 0, 1) := by decide +kernel
theorem dX11_part_17 : decode cX11_part 17 = .ok (.getfield 7, 3) := by decide +kernel
theorem dX11_part_20 : decode cX11_part 20 = .ok (.iconst 1, 1) := by decide +kernel
theorem dX11_part_21 : decode cX11_part 21 = .ok (.dup2, 1) := by decide +kernel
theorem dX11_part_22 : decode cX11_part 22 = .ok (.iaload, 1) := by decide +kernel
theorem dX11_part_23 : decode cX11_part 23 = .ok (.iconst 1, 1) := by decide +kernel
theorem dX11_part_24 : decode cX11_part 24 = .ok (.isub, 1) := by decide +kernel
theorem dX11_part_25 : decode cX11_part 25 = .ok (.iastore, 1) := by decide +kernel
theorem dX11_part_26 : decode cX11_part 26 = .ok (.aload_n 0, 1) := by decide +kernel
theorem dX11_part_27 : decode cX11_part 27 = .ok (.getfield 7, 3) := by decide +kernel
theorem dX11_part_30 : decode cX11_part 30 = .ok (.iconst 2, 1) := by decide +kernel
theorem dX11_part_31 : decode cX11_part 31 = .ok (.iaload, 1) := by decide +kernel
theorem dX11_part_32 : decode cX11_part 32 = .ok (.iconst 1, 1) := by decide +kernel
theorem dX11_part_33 : decode cX11_part 33 = .ok (.isub, 1) := by decide +kernel
theorem dX11_part_34 : decode cX11_part 34 = .ok (.istore_n 1, 1) := by decide +kernel
theorem dX11_part_35 : decode cX11_part 35 = .ok (.iload_n 1, 1) := by decide +kernel
theorem dX11_part_36 : decode cX11_part 36 = .ok (.ifCond .lt 29, 3) := by decide +kernel
theorem dX11_part_39 : decode cX11_part 39 = .ok (.aload_n 0, 1) := by decide +kernel
theorem dX11_part_40 : decode cX11_part 40 = .ok (.iload_n 1, 1) := by decide +kernel
theorem dX11_part_41 : decode cX11_part 41 = .ok (.iconst 0, 1) := by decide +kernel
theorem dX11_part_42 : decode cX11_part 42 = .ok (.invokevirtual 87, 3) := by decide +kernel
theorem dX11_part_45 : decode cX11_part 45 = .ok (.aload_n 0, 1) := by decide +kernel
theorem dX11_part_46 : decode cX11_part 46 = .ok (.getfield 7, 3) := by decide +kernel
theorem dX11_part_49 : decode cX11_part 49 = .ok (.iconst 1, 1) := by decide +kernel
theorem dX11_part_50 : decode cX11_part 50 = .ok (.iaload, 1) := by decide +kernel
theorem dX11_part_51 : decode cX11_part 51 = .ok (.if_icmp .ne 8, 3) := by decide +kernel
theorem dX11_part_54 : decode cX11_part 54 = .ok (.aload_n 0, 1) := by decide +kernel
theorem dX11_part_55 : decode cX11_part 55 = .ok (.iload_n 1, 1) := by decide +kernel
theorem dX11_part_56 : decode cX11_part 56 = .ok (.invokevirtual 207, 3) := by decide +kernel
theorem dX11_part_59 : decode cX11_part 59 = .ok (.iinc 1 (-1), 3) := by decide +kernel
theorem dX11_part_62 : decode cX11_part 62 = .ok (.goto (-27), 3) := by decide +kernel
theorem dX11_part_65 : decode cX11_part 65 = .ok (.aload_n 0, 1) := by decide +kernel
theorem dX11_part_66 : decode cX11_part 66 = .ok (.getfield 7, 3) := by decide +kernel
theorem dX11_part_69 : decode cX11_part 69 = .ok (.iconst 1, 1) := by decide +kernel
theorem dX11_part_70 : decode cX11_part 70 = .ok (.iaload, 1) := by decide +kernel
theorem dX11_part_71 : decode cX11_part 71 = .ok (.ireturn, 1) := by decide +kernel
theorem dX11_draws_0 : decode cX11_draws 0 = .ok (.aload_n 0, 1) := by decide +kernel
theorem dX11_draws_1 : decode cX11_draws 1 = .ok (.aload_n 0, 1) := by decide +kernel
theorem dX11_draws_2 : decode cX11_draws 2 = .ok (.getfield 176, 3) := by decide +kernel
theorem dX11_draws_5 : decode cX11_draws 5 = .ok (.i2l, 1) := by decide +kernel
theorem dX11_draws_6 : decode cX11_draws 6 = .ok (.ldc2_w 215, 3) := by decide +kernel
theorem dX11_draws_9 : decode cX11_draws 9 = .ok (.lmul, 1) := by decide +kernel
theorem dX11_draws_10 : decode cX11_draws 10 = .ok (.ldc2_w 217, 3) := by decide +kernel
theorem dX11_draws_13 : decode cX11_draws 13 = .ok (.ladd, 1) := by decide +kernel
theorem dX11_draws_14 : decode cX11_draws 14 = .ok (.ldc2_w 219, 3) := by decide +kernel
theorem dX11_draws_17 : decode cX11_draws 17 = .ok (.lrem, 1) := by decide +kernel
theorem dX11_draws_18 : decode cX11_draws 18 = .ok (.l2i, 1) := by decide +kernel
theorem dX11_draws_19 : decode cX11_draws 19 = .ok (.putfield 176, 3) := by decide +kernel
theorem dX11_draws_22 : decode cX11_draws 22 = .ok (.aload_n 0, 1) := by decide +kernel
theorem dX11_draws_23 : decode cX11_draws 23 = .ok (.getfield 176, 3) := by decide +kernel
theorem dX11_draws_26 : decode cX11_draws 26 = .ok (.ldc 221, 2) := by decide +kernel
theorem dX11_draws_28 : decode cX11_draws 28 = .ok (.idiv, 1) := by decide +kernel
theorem dX11_draws_29 : decode cX11_draws 29 = .ok (.iload_n 1, 1) := by decide +kernel
theorem dX11_draws_30 : decode cX11_draws 30 = .ok (.irem, 1) := by decide +kernel
theorem dX11_draws_31 : decode cX11_draws 31 = .ok (.ireturn, 1) := by decide +kernel
theorem dX11_drift_0 : decode cX11_drift 0 = .ok (.iload_n 1, 1) := by decide +kernel
theorem dX11_drift_1 : decode cX11_drift 1 = .ok (.iconst 1, 1) := by decide +kernel
theorem dX11_drift_2 : decode cX11_drift 2 = .ok (.bipush 8, 2) := by decide +kernel
theorem dX11_drift_4 : decode cX11_drift 4 = .ok (.invokestatic 41, 3) := by decide +kernel
theorem dX11_drift_7 : decode cX11_drift 7 = .ok (.ifCond .ne 6, 3) := by decide +kernel
theorem dX11_drift_10 : decode cX11_drift 10 = .ok (.ldc 179, 2) := by decide +kernel
theorem dX11_drift_12 : decode cX11_drift 12 = .ok (.ireturn, 1) := by decide +kernel
theorem dX11_drift_13 : decode cX11_drift 13 = .ok (.iconst 0, 1) := by decide +kernel
theorem dX11_drift_14 : decode cX11_drift 14 = .ok (.istore_n 2, 1) := by decide +kernel
theorem dX11_drift_15 : decode cX11_drift 15 = .ok (.iload_n 2, 1) := by decide +kernel
theorem dX11_drift_16 : decode cX11_drift 16 = .ok (.iload_n 1, 1) := by decide +kernel
theorem dX11_drift_17 : decode cX11_drift 17 = .ok (.if_icmp .ge 60, 3) := by decide +kernel
theorem dX11_drift_20 : decode cX11_drift 20 = .ok (.aload_n 0, 1) := by decide +kernel
theorem dX11_drift_21 : decode cX11_drift 21 = .ok (.invokevirtual 198, 3) := by decide +kernel
theorem dX11_drift_24 : decode cX11_drift 24 = .ok (.aload_n 0, 1) := by decide +kernel
theorem dX11_drift_25 : decode cX11_drift 25 = .ok (.aload_n 0, 1) := by decide +kernel
theorem dX11_drift_26 : decode cX11_drift 26 = .ok (.getfield 7, 3) := by decide +kernel
theorem dX11_drift_29 : decode cX11_drift 29 = .ok (.iconst 0, 1) := by decide +kernel
theorem dX11_drift_30 : decode cX11_drift 30 = .ok (.iaload, 1) := by decide +kernel
theorem dX11_drift_31 : decode cX11_drift 31 = .ok (.invokevirtual 222, 3) := by decide +kernel
theorem dX11_drift_34 : decode cX11_drift 34 = .ok (.istore_n 3, 1) := by decide +kernel
theorem dX11_drift_35 : decode cX11_drift 35 = .ok (.aload_n 0, 1) := by decide +kernel
theorem dX11_drift_36 : decode cX11_drift 36 = .ok (.bipush 10, 2) := by decide +kernel
theorem dX11_drift_38 : decode cX11_drift 38 = .ok (.invokevirtual 222, 3) := by decide +kernel
theorem dX11_drift_41 : decode cX11_drift 41 = .ok (.istore 4, 2) := by decide +kernel
theorem dX11_drift_43 : decode cX11_drift 43 = .ok (.aload_n 0, 1) := by decide +kernel
theorem dX11_drift_44 : decode cX11_drift 44 = .ok (.bipush 10, 2) := by decide +kernel
theorem dX11_drift_46 : decode cX11_drift 46 = .ok (.invokevirtual 222, 3) := by decide +kernel
theorem dX11_drift_49 : decode cX11_drift 49 = .ok (.istore 5, 2) := by decide +kernel
theorem dX11_drift_51 : decode cX11_drift 51 = .ok (.aload_n 0, 1) := by decide +kernel
theorem dX11_drift_52 : decode cX11_drift 52 = .ok (.bipush 10, 2) := by decide +kernel
theorem dX11_drift_54 : decode cX11_drift 54 = .ok (.invokevirtual 222, 3) := by decide +kernel
theorem dX11_drift_57 : decode cX11_drift 57 = .ok (.istore 6, 2) := by decide +kernel
theorem dX11_drift_59 : decode cX11_drift 59 = .ok (.aload_n 0, 1) := by decide +kernel
theorem dX11_drift_60 : decode cX11_drift 60 = .ok (.iload_n 3, 1) := by decide +kernel
theorem dX11_drift_61 : decode cX11_drift 61 = .ok (.iload 4, 2) := by decide +kernel
theorem dX11_drift_63 : decode cX11_drift 63 = .ok (.iload 5, 2) := by decide +kernel
theorem dX11_drift_65 : decode cX11_drift 65 = .ok (.iload 6, 2) := by decide +kernel
theorem dX11_drift_67 : decode cX11_drift 67 = .ok (.invokevirtual 210, 3) := by decide +kernel
theorem dX11_drift_70 : decode cX11_drift 70 = .ok (.pop, 1) := by decide +kernel
theorem dX11_drift_71 : decode cX11_drift 71 = .ok (.iinc 2 1, 3) := by decide +kernel
theorem dX11_drift_74 : decode cX11_drift 74 = .ok (.goto (-59), 3) := by decide +kernel
theorem dX11_drift_77 : decode cX11_drift 77 = .ok (.aload_n 0, 1) := by decide +kernel
theorem dX11_drift_78 : decode cX11_drift 78 = .ok (.getfield 7, 3) := by decide +kernel
theorem dX11_drift_81 : decode cX11_drift 81 = .ok (.iconst 4, 1) := by decide +kernel
theorem dX11_drift_82 : decode cX11_drift 82 = .ok (.iaload, 1) := by decide +kernel
theorem dX11_drift_83 : decode cX11_drift 83 = .ok (.ireturn, 1) := by decide +kernel
theorem dX11_undo_0 : decode cX11_undo 0 = .ok (.iload_n 1, 1) := by decide +kernel
theorem dX11_undo_1 : decode cX11_undo 1 = .ok (.iconst 1, 1) := by decide +kernel
theorem dX11_undo_2 : decode cX11_undo 2 = .ok (.bipush 16, 2) := by decide +kernel
theorem dX11_undo_4 : decode cX11_undo 4 = .ok (.invokestatic 41, 3) := by decide +kernel
theorem dX11_undo_7 : decode cX11_undo 7 = .ok (.ifCond .ne 6, 3) := by decide +kernel
theorem dX11_undo_10 : decode cX11_undo 10 = .ok (.ldc 179, 2) := by decide +kernel
theorem dX11_undo_12 : decode cX11_undo 12 = .ok (.ireturn, 1) := by decide +kernel
theorem dX11_undo_13 : decode cX11_undo 13 = .ok (.iload_n 1, 1) := by decide +kernel
theorem dX11_undo_14 : decode cX11_undo 14 = .ok (.aload_n 0, 1) := by decide +kernel
theorem dX11_undo_15 : decode cX11_undo 15 = .ok (.getfield 173, 3) := by decide +kernel
theorem dX11_undo_18 : decode cX11_undo 18 = .ok (.if_icmp .le 6, 3) := by decide +kernel
theorem dX11_undo_21 : decode cX11_undo 21 = .ok (.ldc 214, 2) := by decide +kernel
theorem dX11_undo_23 : decode cX11_undo 23 = .ok (.ireturn, 1) := by decide +kernel
theorem dX11_undo_24 : decode cX11_undo 24 = .ok (.aload_n 0, 1) := by decide +kernel
theorem dX11_undo_25 : decode cX11_undo 25 = .ok (.dup, 1) := by decide +kernel
theorem dX11_undo_26 : decode cX11_undo 26 = .ok (.getfield 173, 3) := by decide +kernel
theorem dX11_undo_29 : decode cX11_undo 29 = .ok (.iload_n 1, 1) := by decide +kernel
theorem dX11_undo_30 : decode cX11_undo 30 = .ok (.isub, 1) := by decide +kernel
theorem dX11_undo_31 : decode cX11_undo 31 = .ok (.putfield 173, 3) := by decide +kernel
theorem dX11_undo_34 : decode cX11_undo 34 = .ok (.iconst 0, 1) := by decide +kernel
theorem dX11_undo_35 : decode cX11_undo 35 = .ok (.istore_n 2, 1) := by decide +kernel
theorem dX11_undo_36 : decode cX11_undo 36 = .ok (.iload_n 2, 1) := by decide +kernel
theorem dX11_undo_37 : decode cX11_undo 37 = .ok (.sipush 256, 3) := by decide +kernel
theorem dX11_undo_40 : decode cX11_undo 40 = .ok (.if_icmp .ge 30, 3) := by decide +kernel
theorem dX11_undo_43 : decode cX11_undo 43 = .ok (.aload_n 0, 1) := by decide +kernel
theorem dX11_undo_44 : decode cX11_undo 44 = .ok (.getfield 7, 3) := by decide +kernel
theorem dX11_undo_47 : decode cX11_undo 47 = .ok (.iload_n 2, 1) := by decide +kernel
theorem dX11_undo_48 : decode cX11_undo 48 = .ok (.aload_n 0, 1) := by decide +kernel
theorem dX11_undo_49 : decode cX11_undo 49 = .ok (.getfield 13, 3) := by decide +kernel
theorem dX11_undo_52 : decode cX11_undo 52 = .ok (.sipush 256, 3) := by decide +kernel
theorem dX11_undo_55 : decode cX11_undo 55 = .ok (.aload_n 0, 1) := by decide +kernel
theorem dX11_undo_56 : decode cX11_undo 56 = .ok (.getfield 173, 3) := by decide +kernel
theorem dX11_undo_59 : decode cX11_undo 59 = .ok (.imul, 1) := by decide +kernel
theorem dX11_undo_60 : decode cX11_undo 60 = .ok (.iload_n 2, 1) := by decide +kernel
theorem dX11_undo_61 : decode cX11_undo 61 = .ok (.iadd, 1) := by decide +kernel
theorem dX11_undo_62 : decode cX11_undo 62 = .ok (.iaload, 1) := by decide +kernel
theorem dX11_undo_63 : decode cX11_undo 63 = .ok (.iastore, 1) := by decide +kernel
theorem dX11_undo_64 : decode cX11_undo 64 = .ok (.iinc 2 1, 3) := by decide +kernel
theorem dX11_undo_67 : decode cX11_undo 67 = .ok (.goto (-31), 3) := by decide +kernel
theorem dX11_undo_70 : decode cX11_undo 70 = .ok (.aload_n 0, 1) := by decide +kernel
theorem dX11_undo_71 : decode cX11_undo 71 = .ok (.iconst 0, 1) := by decide +kernel
theorem dX11_undo_72 : decode cX11_undo 72 = .ok (.putfield 109, 3) := by decide +kernel
theorem dX11_undo_75 : decode cX11_undo 75 = .ok (.aload_n 0, 1) := by decide +kernel
theorem dX11_undo_76 : decode cX11_undo 76 = .ok (.getfield 173, 3) := by decide +kernel
theorem dX11_undo_79 : decode cX11_undo 79 = .ok (.ireturn, 1) := by decide +kernel
theorem dX11_write_0 : decode cX11_write 0 = .ok (.aload_n 0, 1) := by decide +kernel
theorem dX11_write_1 : decode cX11_write 1 = .ok (.iload_n 1, 1) := by decide +kernel
theorem dX11_write_2 : decode cX11_write 2 = .ok (.invokevirtual 163, 3) := by decide +kernel
theorem dX11_write_5 : decode cX11_write 5 = .ok (.ifCond .ne 6, 3) := by decide +kernel
theorem dX11_write_8 : decode cX11_write 8 = .ok (.ldc 180, 2) := by decide +kernel
theorem dX11_write_10 : decode cX11_write 10 = .ok (.ireturn, 1) := by decide +kernel
theorem dX11_write_11 : decode cX11_write 11 = .ok (.aload_n 0, 1) := by decide +kernel
theorem dX11_write_12 : decode cX11_write 12 = .ok (.getfield 160, 3) := by decide +kernel
theorem dX11_write_15 : decode cX11_write 15 = .ok (.bipush 20, 2) := by decide +kernel
theorem dX11_write_17 : decode cX11_write 17 = .ok (.if_icmp .ne 6, 3) := by decide +kernel
theorem dX11_write_20 : decode cX11_write 20 = .ok (.ldc 197, 2) := by decide +kernel
theorem dX11_write_22 : decode cX11_write 22 = .ok (.ireturn, 1) := by decide +kernel
theorem dX11_write_23 : decode cX11_write 23 = .ok (.aload_n 0, 1) := by decide +kernel
theorem dX11_write_24 : decode cX11_write 24 = .ok (.getfield 23, 3) := by decide +kernel
theorem dX11_write_27 : decode cX11_write 27 = .ok (.aload_n 0, 1) := by decide +kernel
theorem dX11_write_28 : decode cX11_write 28 = .ok (.getfield 160, 3) := by decide +kernel
theorem dX11_write_31 : decode cX11_write 31 = .ok (.iload_n 1, 1) := by decide +kernel
theorem dX11_write_32 : decode cX11_write 32 = .ok (.iastore, 1) := by decide +kernel
theorem dX11_write_33 : decode cX11_write 33 = .ok (.aload_n 0, 1) := by decide +kernel
theorem dX11_write_34 : decode cX11_write 34 = .ok (.getfield 26, 3) := by decide +kernel
theorem dX11_write_37 : decode cX11_write 37 = .ok (.aload_n 0, 1) := by decide +kernel
theorem dX11_write_38 : decode cX11_write 38 = .ok (.getfield 160, 3) := by decide +kernel
theorem dX11_write_41 : decode cX11_write 41 = .ok (.iload_n 2, 1) := by decide +kernel
theorem dX11_write_42 : decode cX11_write 42 = .ok (.iastore, 1) := by decide +kernel
theorem dX11_write_43 : decode cX11_write 43 = .ok (.aload_n 0, 1) := by decide +kernel
theorem dX11_write_44 : decode cX11_write 44 = .ok (.dup, 1) := by decide +kernel
theorem dX11_write_45 : decode cX11_write 45 = .ok (.getfield 160, 3) := by decide +kernel
theorem dX11_write_48 : decode cX11_write 48 = .ok (.iconst 1, 1) := by decide +kernel
theorem dX11_write_49 : decode cX11_write 49 = .ok (.iadd, 1) := by decide +kernel
theorem dX11_write_50 : decode cX11_write 50 = .ok (.putfield 160, 3) := by decide +kernel
theorem dX11_write_53 : decode cX11_write 53 = .ok (.aload_n 0, 1) := by decide +kernel
theorem dX11_write_54 : decode cX11_write 54 = .ok (.getfield 160, 3) := by decide +kernel
theorem dX11_write_57 : decode cX11_write 57 = .ok (.ireturn, 1) := by decide +kernel
theorem dX11_tear_0 : decode cX11_tear 0 = .ok (.aload_n 0, 1) := by decide +kernel
theorem dX11_tear_1 : decode cX11_tear 1 = .ok (.getfield 160, 3) := by decide +kernel
theorem dX11_tear_4 : decode cX11_tear 4 = .ok (.istore_n 1, 1) := by decide +kernel
theorem dX11_tear_5 : decode cX11_tear 5 = .ok (.aload_n 0, 1) := by decide +kernel
theorem dX11_tear_6 : decode cX11_tear 6 = .ok (.iconst 0, 1) := by decide +kernel
theorem dX11_tear_7 : decode cX11_tear 7 = .ok (.putfield 160, 3) := by decide +kernel
theorem dX11_tear_10 : decode cX11_tear 10 = .ok (.iload_n 1, 1) := by decide +kernel
theorem dX11_tear_11 : decode cX11_tear 11 = .ok (.ireturn, 1) := by decide +kernel
theorem dX11_seed_0 : decode cX11_seed 0 = .ok (.iload_n 1, 1) := by decide +kernel
theorem dX11_seed_1 : decode cX11_seed 1 = .ok (.ifCond .ge 6, 3) := by decide +kernel
theorem dX11_seed_4 : decode cX11_seed 4 = .ok (.ldc 179, 2) := by decide +kernel
theorem dX11_seed_6 : decode cX11_seed 6 = .ok (.ireturn, 1) := by decide +kernel
theorem dX11_seed_7 : decode cX11_seed 7 = .ok (.aload_n 0, 1) := by decide +kernel
theorem dX11_seed_8 : decode cX11_seed 8 = .ok (.getfield 176, 3) := by decide +kernel
theorem dX11_seed_11 : decode cX11_seed 11 = .ok (.istore_n 2, 1) := by decide +kernel
theorem dX11_seed_12 : decode cX11_seed 12 = .ok (.aload_n 0, 1) := by decide +kernel
theorem dX11_seed_13 : decode cX11_seed 13 = .ok (.iload_n 1, 1) := by decide +kernel
theorem dX11_seed_14 : decode cX11_seed 14 = .ok (.putfield 176, 3) := by decide +kernel
theorem dX11_seed_17 : decode cX11_seed 17 = .ok (.iload_n 2, 1) := by decide +kernel
theorem dX11_seed_18 : decode cX11_seed 18 = .ok (.ireturn, 1) := by decide +kernel
theorem dX11_keep_0 : decode cX11_keep 0 = .ok (.iload_n 1, 1) := by decide +kernel
theorem dX11_keep_1 : decode cX11_keep 1 = .ok (.iconst 0, 1) := by decide +kernel
theorem dX11_keep_2 : decode cX11_keep 2 = .ok (.iconst 1, 1) := by decide +kernel
theorem dX11_keep_3 : decode cX11_keep 3 = .ok (.invokestatic 41, 3) := by decide +kernel
theorem dX11_keep_6 : decode cX11_keep 6 = .ok (.ifCond .ne 6, 3) := by decide +kernel
theorem dX11_keep_9 : decode cX11_keep 9 = .ok (.ldc 180, 2) := by decide +kernel
theorem dX11_keep_11 : decode cX11_keep 11 = .ok (.ireturn, 1) := by decide +kernel
theorem dX11_keep_12 : decode cX11_keep 12 = .ok (.iconst 0, 1) := by decide +kernel
theorem dX11_keep_13 : decode cX11_keep 13 = .ok (.istore_n 2, 1) := by decide +kernel
theorem dX11_keep_14 : decode cX11_keep 14 = .ok (.iload_n 2, 1) := by decide +kernel
theorem dX11_keep_15 : decode cX11_keep 15 = .ok (.sipush 256, 3) := by decide +kernel
theorem dX11_keep_18 : decode cX11_keep 18 = .ok (.if_icmp .ge 27, 3) := by decide +kernel
theorem dX11_keep_21 : decode cX11_keep 21 = .ok (.aload_n 0, 1) := by decide +kernel
theorem dX11_keep_22 : decode cX11_keep 22 = .ok (.getfield 16, 3) := by decide +kernel
theorem dX11_keep_25 : decode cX11_keep 25 = .ok (.sipush 257, 3) := by decide +kernel
theorem dX11_keep_28 : decode cX11_keep 28 = .ok (.iload_n 1, 1) := by decide +kernel
theorem dX11_keep_29 : decode cX11_keep 29 = .ok (.imul, 1) := by decide +kernel
theorem dX11_keep_30 : decode cX11_keep 30 = .ok (.iload_n 2, 1) := by decide +kernel
theorem dX11_keep_31 : decode cX11_keep 31 = .ok (.iadd, 1) := by decide +kernel
theorem dX11_keep_32 : decode cX11_keep 32 = .ok (.aload_n 0, 1) := by decide +kernel
theorem dX11_keep_33 : decode cX11_keep 33 = .ok (.getfield 7, 3) := by decide +kernel
theorem dX11_keep_36 : decode cX11_keep 36 = .ok (.iload_n 2, 1) := by decide +kernel
theorem dX11_keep_37 : decode cX11_keep 37 = .ok (.iaload, 1) := by decide +kernel
theorem dX11_keep_38 : decode cX11_keep 38 = .ok (.iastore, 1) := by decide +kernel
theorem dX11_keep_39 : decode cX11_keep 39 = .ok (.iinc 2 1, 3) := by decide +kernel
theorem dX11_keep_42 : decode cX11_keep 42 = .ok (.goto (-28), 3) := by decide +kernel
theorem dX11_keep_45 : decode cX11_keep 45 = .ok (.aload_n 0, 1) := by decide +kernel
theorem dX11_keep_46 : decode cX11_keep 46 = .ok (.getfield 16, 3) := by decide +kernel
theorem dX11_keep_49 : decode cX11_keep 49 = .ok (.sipush 257, 3) := by decide +kernel
theorem dX11_keep_52 : decode cX11_keep 52 = .ok (.iload_n 1, 1) := by decide +kernel
theorem dX11_keep_53 : decode cX11_keep 53 = .ok (.imul, 1) := by decide +kernel
theorem dX11_keep_54 : decode cX11_keep 54 = .ok (.sipush 256, 3) := by decide +kernel
theorem dX11_keep_57 : decode cX11_keep 57 = .ok (.iadd, 1) := by decide +kernel
theorem dX11_keep_58 : decode cX11_keep 58 = .ok (.aload_n 0, 1) := by decide +kernel
theorem dX11_keep_59 : decode cX11_keep 59 = .ok (.getfield 176, 3) := by decide +kernel
theorem dX11_keep_62 : decode cX11_keep 62 = .ok (.iastore, 1) := by decide +kernel
theorem dX11_keep_63 : decode cX11_keep 63 = .ok (.aload_n 0, 1) := by decide +kernel
theorem dX11_keep_64 : decode cX11_keep 64 = .ok (.getfield 19, 3) := by decide +kernel
theorem dX11_keep_67 : decode cX11_keep 67 = .ok (.iload_n 1, 1) := by decide +kernel
theorem dX11_keep_68 : decode cX11_keep 68 = .ok (.iconst 1, 1) := by decide +kernel
theorem dX11_keep_69 : decode cX11_keep 69 = .ok (.bastore, 1) := by decide +kernel
theorem dX11_keep_70 : decode cX11_keep 70 = .ok (.aload_n 0, 1) := by decide +kernel
theorem dX11_keep_71 : decode cX11_keep 71 = .ok (.iconst 0, 1) := by decide +kernel
theorem dX11_keep_72 : decode cX11_keep 72 = .ok (.putfield 173, 3) := by decide +kernel
theorem dX11_keep_75 : decode cX11_keep 75 = .ok (.iconst 1, 1) := by decide +kernel
theorem dX11_keep_76 : decode cX11_keep 76 = .ok (.ireturn, 1) := by decide +kernel
theorem dX11_goBack_0 : decode cX11_goBack 0 = .ok (.iload_n 1, 1) := by decide +kernel
theorem dX11_goBack_1 : decode cX11_goBack 1 = .ok (.iconst 0, 1) := by decide +kernel
theorem dX11_goBack_2 : decode cX11_goBack 2 = .ok (.iconst 1, 1) := by decide +kernel
theorem dX11_goBack_3 : decode cX11_goBack 3 = .ok (.invokestatic 41, 3) := by decide +kernel
theorem dX11_goBack_6 : decode cX11_goBack 6 = .ok (.ifCond .ne 6, 3) := by decide +kernel
theorem dX11_goBack_9 : decode cX11_goBack 9 = .ok (.ldc 180, 2) := by decide +kernel
theorem dX11_goBack_11 : decode cX11_goBack 11 = .ok (.ireturn, 1) := by decide +kernel
theorem dX11_goBack_12 : decode cX11_goBack 12 = .ok (.aload_n 0, 1) := by decide +kernel
theorem dX11_goBack_13 : decode cX11_goBack 13 = .ok (.getfield 19, 3) := by decide +kernel
theorem dX11_goBack_16 : decode cX11_goBack 16 = .ok (.iload_n 1, 1) := by decide +kernel
theorem dX11_goBack_17 : decode cX11_goBack 17 = .ok (.baload, 1) := by decide +kernel
theorem dX11_goBack_18 : decode cX11_goBack 18 = .ok (.ifCond .ne 6, 3) := by decide +kernel
theorem dX11_goBack_21 : decode cX11_goBack 21 = .ok (.ldc 214, 2) := by decide +kernel
theorem dX11_goBack_23 : decode cX11_goBack 23 = .ok (.ireturn, 1) := by decide +kernel
theorem dX11_goBack_24 : decode cX11_goBack 24 = .ok (.iconst 0, 1) := by decide +kernel
theorem dX11_goBack_25 : decode cX11_goBack 25 = .ok (.istore_n 2, 1) := by decide +kernel
theorem dX11_goBack_26 : decode cX11_goBack 26 = .ok (.iload_n 2, 1) := by decide +kernel
theorem dX11_goBack_27 : decode cX11_goBack 27 = .ok (.sipush 256, 3) := by decide +kernel
theorem dX11_goBack_30 : decode cX11_goBack 30 = .ok (.if_icmp .ge 27, 3) := by decide +kernel
theorem dX11_goBack_33 : decode cX11_goBack 33 = .ok (.aload_n 0, 1) := by decide +kernel
theorem dX11_goBack_34 : decode cX11_goBack 34 = .ok (.getfield 7, 3) := by decide +kernel
theorem dX11_goBack_37 : decode cX11_goBack 37 = .ok (.iload_n 2, 1) := by decide +kernel
theorem dX11_goBack_38 : decode cX11_goBack 38 = .ok (.aload_n 0, 1) := by decide +kernel
theorem dX11_goBack_39 : decode cX11_goBack 39 = .ok (.getfield 16, 3) := by decide +kernel
theorem dX11_goBack_42 : decode cX11_goBack 42 = .ok (.sipush 257, 3) := by decide +kernel
theorem dX11_goBack_45 : decode cX11_goBack 45 = .ok (.iload_n 1, 1) := by decide +kernel
theorem dX11_goBack_46 : decode cX11_goBack 46 = .ok (.imul, 1) := by decide +kernel
theorem dX11_goBack_47 : decode cX11_goBack 47 = .ok (.iload_n 2, 1) := by decide +kernel
theorem dX11_goBack_48 : decode cX11_goBack 48 = .ok (.iadd, 1) := by decide +kernel
theorem dX11_goBack_49 : decode cX11_goBack 49 = .ok (.iaload, 1) := by decide +kernel
theorem dX11_goBack_50 : decode cX11_goBack 50 = .ok (.iastore, 1) := by decide +kernel
theorem dX11_goBack_51 : decode cX11_goBack 51 = .ok (.iinc 2 1, 3) := by decide +kernel
theorem dX11_goBack_54 : decode cX11_goBack 54 = .ok (.goto (-28), 3) := by decide +kernel
theorem dX11_goBack_57 : decode cX11_goBack 57 = .ok (.aload_n 0, 1) := by decide +kernel
theorem dX11_goBack_58 : decode cX11_goBack 58 = .ok (.aload_n 0, 1) := by decide +kernel
theorem dX11_goBack_59 : decode cX11_goBack 59 = .ok (.getfield 16, 3) := by decide +kernel
theorem dX11_goBack_62 : decode cX11_goBack 62 = .ok (.sipush 257, 3) := by decide +kernel
theorem dX11_goBack_65 : decode cX11_goBack 65 = .ok (.iload_n 1, 1) := by decide +kernel
theorem dX11_goBack_66 : decode cX11_goBack 66 = .ok (.imul, 1) := by decide +kernel
theorem dX11_goBack_67 : decode cX11_goBack 67 = .ok (.sipush 256, 3) := by decide +kernel
theorem dX11_goBack_70 : decode cX11_goBack 70 = .ok (.iadd, 1) := by decide +kernel
theorem dX11_goBack_71 : decode cX11_goBack 71 = .ok (.iaload, 1) := by decide +kernel
theorem dX11_goBack_72 : decode cX11_goBack 72 = .ok (.putfield 176, 3) := by decide +kernel
theorem dX11_goBack_75 : decode cX11_goBack 75 = .ok (.aload_n 0, 1) := by decide +kernel
theorem dX11_goBack_76 : decode cX11_goBack 76 = .ok (.iconst 0, 1) := by decide +kernel
theorem dX11_goBack_77 : decode cX11_goBack 77 = .ok (.putfield 173, 3) := by decide +kernel
theorem dX11_goBack_80 : decode cX11_goBack 80 = .ok (.aload_n 0, 1) := by decide +kernel
theorem dX11_goBack_81 : decode cX11_goBack 81 = .ok (.iconst 0, 1) := by decide +kernel
theorem dX11_goBack_82 : decode cX11_goBack 82 = .ok (.putfield 109, 3) := by decide +kernel
theorem dX11_goBack_85 : decode cX11_goBack 85 = .ok (.iconst 1, 1) := by decide +kernel
theorem dX11_goBack_86 : decode cX11_goBack 86 = .ok (.ireturn, 1) := by decide +kernel
