theorem dX8_init_0 : decode cX8_init 0 = .ok (.aload_n 0, 1) := by decide +kernel
theorem dX8_init_1 : decode cX8_init 1 = .ok (.invokespecial 3, 3) := by decide +kernel
theorem dX8_init_4 : decode cX8_init 4 = .ok (.aload_n 0, 1) := by decide +kernel
theorem dX8_init_5 : decode cX8_init 5 = .ok (.iconst 1, 1) := by decide +kernel
theorem dX8_init_6 : decode cX8_init 6 = .ok (.putfield 9, 3) := by decide +kernel
theorem dX8_init_9 : decode cX8_init 9 = .ok (.aload_n 0, 1) := by decide +kernel
theorem dX8_init_10 : decode cX8_init 10 = .ok (.bipush 9, 2) := by decide +kernel
theorem dX8_init_12 : decode cX8_init 12 = .ok (.putfield 15, 3) := by decide +kernel
theorem dX8_init_15 : decode cX8_init 15 = .ok (.aload_n 0, 1) := by decide +kernel
theorem dX8_init_16 : decode cX8_init 16 = .ok (.bipush 7, 2) := by decide +kernel
theorem dX8_init_18 : decode cX8_init 18 = .ok (.newarray .int, 2) := by decide +kernel
theorem dX8_init_20 : decode cX8_init 20 = .ok (.putfield 18, 3) := by decide +kernel
theorem dX8_init_23 : decode cX8_init 23 = .ok (.aload_n 0, 1) := by decide +kernel
theorem dX8_init_24 : decode cX8_init 24 = .ok (.bipush 6, 2) := by decide +kernel
theorem dX8_init_26 : decode cX8_init 26 = .ok (.anewarray 22, 3) := by decide +kernel
theorem dX8_init_29 : decode cX8_init 29 = .ok (.putfield 24, 3) := by decide +kernel
theorem dX8_init_32 : decode cX8_init 32 = .ok (.aload_n 0, 1) := by decide +kernel
theorem dX8_init_33 : decode cX8_init 33 = .ok (.bipush 12, 2) := by decide +kernel
theorem dX8_init_35 : decode cX8_init 35 = .ok (.newarray .int, 2) := by decide +kernel
theorem dX8_init_37 : decode cX8_init 37 = .ok (.putfield 28, 3) := by decide +kernel
theorem dX8_init_40 : decode cX8_init 40 = .ok (.aload_n 0, 1) := by decide +kernel
theorem dX8_init_41 : decode cX8_init 41 = .ok (.bipush 12, 2) := by decide +kernel
theorem dX8_init_43 : decode cX8_init 43 = .ok (.newarray .int, 2) := by decide +kernel
theorem dX8_init_45 : decode cX8_init 45 = .ok (.putfield 31, 3) := by decide +kernel
theorem dX8_init_48 : decode cX8_init 48 = .ok (.aload_n 0, 1) := by decide +kernel
theorem dX8_init_49 : decode cX8_init 49 = .ok (.getfield 18, 3) := by decide +kernel
theorem dX8_init_52 : decode cX8_init 52 = .ok (.iconst 0, 1) := by decide +kernel
theorem dX8_init_53 : decode cX8_init 53 = .ok (.iconst (-1), 1) := by decide +kernel
theorem dX8_init_54 : decode cX8_init 54 = .ok (.iastore, 1) := by decide +kernel
theorem dX8_init_55 : decode cX8_init 55 = .ok (.iconst 0, 1) := by decide +kernel
theorem dX8_init_56 : decode cX8_init 56 = .ok (.istore_n 1, 1) := by decide +kernel
theorem dX8_init_57 : decode cX8_init 57 = .ok (.iload_n 1, 1) := by decide +kernel
theorem dX8_init_58 : decode cX8_init 58 = .ok (.bipush 6, 2) := by decide +kernel
theorem dX8_init_60 : decode cX8_init 60 = .ok (.if_icmp .ge 22, 3) := by decide +kernel
theorem dX8_init_63 : decode cX8_init 63 = .ok (.aload_n 0, 1) := by decide +kernel
theorem dX8_init_64 : decode cX8_init 64 = .ok (.getfield 24, 3) := by decide +kernel
theorem dX8_init_67 : decode cX8_init 67 = .ok (.iload_n 1, 1) := by decide +kernel
theorem dX8_init_68 : decode cX8_init 68 = .ok (.new 22, 3) := by decide +kernel
theorem dX8_init_71 : decode cX8_init 71 = .ok (.dup, 1) := by decide +kernel
theorem dX8_init_72 : decode cX8_init 72 = .ok (.invokespecial 34, 3) := by decide +kernel
theorem dX8_init_75 : decode cX8_init 75 = .ok (.aastore, 1) := by decide +kernel
theorem dX8_init_76 : decode cX8_init 76 = .ok (.iinc 1 1, 3) := by decide +kernel
theorem dX8_init_79 : decode cX8_init 79 = .ok (.goto (-22), 3) := by decide +kernel
theorem dX8_init_82 : decode cX8_init 82 = .ok (.return_, 1) := by decide +kernel
theorem dX8_copyFrom_0 : decode cX8_copyFrom 0 = .ok (.aload_n 0, 1) := by decide +kernel
theorem dX8_copyFrom_1 : decode cX8_copyFrom 1 = .ok (.aload_n 1, 1) := by decide +kernel
theorem dX8_copyFrom_2 : decode cX8_copyFrom 2 = .ok (.getfield 9, 3) := by decide +kernel
theorem dX8_copyFrom_5 : decode cX8_copyFrom 5 = .ok (.putfield 9, 3) := by decide +kernel
theorem dX8_copyFrom_8 : decode cX8_copyFrom 8 = .ok (.aload_n 0, 1) := by decide +kernel
theorem dX8_copyFrom_9 : decode cX8_copyFrom 9 = .ok (.aload_n 1, 1) := by decide +kernel
theorem dX8_copyFrom_10 : decode cX8_copyFrom 10 = .ok (.getfield 35, 3) := by decide +kernel
theorem dX8_copyFrom_13 : decode cX8_copyFrom 13 = .ok (.putfield 35, 3) := by decide +kernel
theorem dX8_copyFrom_16 : decode cX8_copyFrom 16 = .ok (.aload_n 0, 1) := by decide +kernel
theorem dX8_copyFrom_17 : decode cX8_copyFrom 17 = .ok (.aload_n 1, 1) := by decide +kernel
theorem dX8_copyFrom_18 : decode cX8_copyFrom 18 = .ok (.getfield 38, 3) := by decide +kernel
theorem dX8_copyFrom_21 : decode cX8_copyFrom 21 = .ok (.putfield 38, 3) := by decide +kernel
theorem dX8_copyFrom_24 : decode cX8_copyFrom 24 = .ok (.aload_n 0, 1) := by decide +kernel
theorem dX8_copyFrom_25 : decode cX8_copyFrom 25 = .ok (.aload_n 1, 1) := by decide +kernel
theorem dX8_copyFrom_26 : decode cX8_copyFrom 26 = .ok (.getfield 15, 3) := by decide +kernel
theorem dX8_copyFrom_29 : decode cX8_copyFrom 29 = .ok (.putfield 15, 3) := by decide +kernel
theorem dX8_copyFrom_32 : decode cX8_copyFrom 32 = .ok (.aload_n 0, 1) := by decide +kernel
theorem dX8_copyFrom_33 : decode cX8_copyFrom 33 = .ok (.aload_n 1, 1) := by decide +kernel
theorem dX8_copyFrom_34 : decode cX8_copyFrom 34 = .ok (.getfield 41, 3) := by decide +kernel
theorem dX8_copyFrom_37 : decode cX8_copyFrom 37 = .ok (.putfield 41, 3) := by decide +kernel
theorem dX8_copyFrom_40 : decode cX8_copyFrom 40 = .ok (.aload_n 0, 1) := by decide +kernel
theorem dX8_copyFrom_41 : decode cX8_copyFrom 41 = .ok (.aload_n 1, 1) := by decide +kernel
theorem dX8_copyFrom_42 : decode cX8_copyFrom 42 = .ok (.getfield 44, 3) := by decide +kernel
theorem dX8_copyFrom_45 : decode cX8_copyFrom 45 = .ok (.putfield 44, 3) := by decide +kernel
theorem dX8_copyFrom_48 : decode cX8_copyFrom 48 = .ok (.aload_n 0, 1) := by decide +kernel
theorem dX8_copyFrom_49 : decode cX8_copyFrom 49 = .ok (.aload_n 1, 1) := by decide +kernel
theorem dX8_copyFrom_50 : decode cX8_copyFrom 50 = .ok (.getfield 47, 3) := by decide +kernel
theorem dX8_copyFrom_53 : decode cX8_copyFrom 53 = .ok (.putfield 47, 3) := by decide +kernel
theorem dX8_copyFrom_56 : decode cX8_copyFrom 56 = .ok (.aload_n 1, 1) := by decide +kernel
theorem dX8_copyFrom_57 : decode cX8_copyFrom 57 = .ok (.getfield 18, 3) := by decide +kernel
theorem dX8_copyFrom_60 : decode cX8_copyFrom 60 = .ok (.iconst 0, 1) := by decide +kernel
theorem dX8_copyFrom_61 : decode cX8_copyFrom 61 = .ok (.aload_n 0, 1) := by decide +kernel
theorem dX8_copyFrom_62 : decode cX8_copyFrom 62 = .ok (.getfield 18, 3) := by decide +kernel
theorem dX8_copyFrom_65 : decode cX8_copyFrom 65 = .ok (.iconst 0, 1) := by decide +kernel
theorem dX8_copyFrom_66 : decode cX8_copyFrom 66 = .ok (.bipush 7, 2) := by decide +kernel
theorem dX8_copyFrom_68 : decode cX8_copyFrom 68 = .ok (.invokestatic 50, 3) := by decide +kernel
theorem dX8_copyFrom_71 : decode cX8_copyFrom 71 = .ok (.iconst 0, 1) := by decide +kernel
theorem dX8_copyFrom_72 : decode cX8_copyFrom 72 = .ok (.istore_n 2, 1) := by decide +kernel
theorem dX8_copyFrom_73 : decode cX8_copyFrom 73 = .ok (.iload_n 2, 1) := by decide +kernel
theorem dX8_copyFrom_74 : decode cX8_copyFrom 74 = .ok (.aload_n 0, 1) := by decide +kernel
theorem dX8_copyFrom_75 : decode cX8_copyFrom 75 = .ok (.getfield 35, 3) := by decide +kernel
theorem dX8_copyFrom_78 : decode cX8_copyFrom 78 = .ok (.if_icmp .ge 24, 3) := by decide +kernel
theorem dX8_copyFrom_81 : decode cX8_copyFrom 81 = .ok (.aload_n 0, 1) := by decide +kernel
theorem dX8_copyFrom_82 : decode cX8_copyFrom 82 = .ok (.getfield 24, 3) := by decide +kernel
theorem dX8_copyFrom_85 : decode cX8_copyFrom 85 = .ok (.iload_n 2, 1) := by decide +kernel
theorem dX8_copyFrom_86 : decode cX8_copyFrom 86 = .ok (.aaload, 1) := by decide +kernel
theorem dX8_copyFrom_87 : decode cX8_copyFrom 87 = .ok (.aload_n 1, 1) := by decide +kernel
theorem dX8_copyFrom_88 : decode cX8_copyFrom 88 = .ok (.getfield 24, 3) := by decide +kernel
theorem dX8_copyFrom_91 : decode cX8_copyFrom 91 = .ok (.iload_n 2, 1) := by decide +kernel
theorem dX8_copyFrom_92 : decode cX8_copyFrom 92 = .ok (.aaload, 1) := by decide +kernel
theorem dX8_copyFrom_93 : decode cX8_copyFrom 93 = .ok (.invokevirtual 56, 3) := by decide +kernel
theorem dX8_copyFrom_96 : decode cX8_copyFrom 96 = .ok (.iinc 2 1, 3) := by decide +kernel
theorem dX8_copyFrom_99 : decode cX8_copyFrom 99 = .ok (.goto (-26), 3) := by decide +kernel
theorem dX8_copyFrom_102 : decode cX8_copyFrom 102 = .ok (.aload_n 1, 1) := by decide +kernel
theorem dX8_copyFrom_103 : decode cX8_copyFrom 103 = .ok (.getfield 28, 3) := by decide +kernel
theorem dX8_copyFrom_106 : decode cX8_copyFrom 106 = .ok (.iconst 0, 1) := by decide +kernel
theorem dX8_copyFrom_107 : decode cX8_copyFrom 107 = .ok (.aload_n 0, 1) := by decide +kernel
theorem dX8_copyFrom_108 : decode cX8_copyFrom 108 = .ok (.getfield 28, 3) := by decide +kernel
theorem dX8_copyFrom_111 : decode cX8_copyFrom 111 = .ok (.iconst 0, 1) := by decide +kernel
theorem dX8_copyFrom_112 : decode cX8_copyFrom 112 = .ok (.bipush 12, 2) := by decide +kernel
theorem dX8_copyFrom_114 : decode cX8_copyFrom 114 = .ok (.invokestatic 50, 3) := by decide +kernel
theorem dX8_copyFrom_117 : decode cX8_copyFrom 117 = .ok (.aload_n 1, 1) := by decide +kernel
theorem dX8_copyFrom_118 : decode cX8_copyFrom 118 = .ok (.getfield 31, 3) := by decide +kernel
theorem dX8_copyFrom_121 : decode cX8_copyFrom 121 = .ok (.iconst 0, 1) := by decide +kernel
theorem dX8_copyFrom_122 : decode cX8_copyFrom 122 = .ok (.aload_n 0, 1) := by decide +kernel
theorem dX8_copyFrom_123 : decode cX8_copyFrom 123 = .ok (.getfield 31, 3) := by decide +kernel
theorem dX8_copyFrom_126 : decode cX8_copyFrom 126 = .ok (.iconst 0, 1) := by decide +kernel
theorem dX8_copyFrom_127 : decode cX8_copyFrom 127 = .ok (.bipush 12, 2) := by decide +kernel
theorem dX8_copyFrom_129 : decode cX8_copyFrom 129 = .ok (.invokestatic 50, 3) := by decide +kernel
theorem dX8_copyFrom_132 : decode cX8_copyFrom 132 = .ok (.return_, 1) := by decide +kernel
theorem dX8_hasBroker_0 : decode cX8_hasBroker 0 = .ok (.iload_n 1, 1) := by decide +kernel
theorem dX8_hasBroker_1 : decode cX8_hasBroker 1 = .ok (.iconst 0, 1) := by decide +kernel
theorem dX8_hasBroker_2 : decode cX8_hasBroker 2 = .ok (.aload_n 0, 1) := by decide +kernel
theorem dX8_hasBroker_3 : decode cX8_hasBroker 3 = .ok (.getfield 9, 3) := by decide +kernel
theorem dX8_hasBroker_6 : decode cX8_hasBroker 6 = .ok (.iconst 1, 1) := by decide +kernel
theorem dX8_hasBroker_7 : decode cX8_hasBroker 7 = .ok (.isub, 1) := by decide +kernel
theorem dX8_hasBroker_8 : decode cX8_hasBroker 8 = .ok (.invokestatic 60, 3) := by decide +kernel
theorem dX8_hasBroker_11 : decode cX8_hasBroker 11 = .ok (.ireturn, 1) := by decide +kernel
theorem dX8_hasClient_0 : decode cX8_hasClient 0 = .ok (.iload_n 1, 1) := by decide +kernel
theorem dX8_hasClient_1 : decode cX8_hasClient 1 = .ok (.iconst 0, 1) := by decide +kernel
theorem dX8_hasClient_2 : decode cX8_hasClient 2 = .ok (.aload_n 0, 1) := by decide +kernel
theorem dX8_hasClient_3 : decode cX8_hasClient 3 = .ok (.getfield 35, 3) := by decide +kernel
theorem dX8_hasClient_6 : decode cX8_hasClient 6 = .ok (.iconst 1, 1) := by decide +kernel
theorem dX8_hasClient_7 : decode cX8_hasClient 7 = .ok (.isub, 1) := by decide +kernel
theorem dX8_hasClient_8 : decode cX8_hasClient 8 = .ok (.invokestatic 60, 3) := by decide +kernel
theorem dX8_hasClient_11 : decode cX8_hasClient 11 = .ok (.ireturn, 1) := by decide +kernel
theorem dX8_hasWish_0 : decode cX8_hasWish 0 = .ok (.iload_n 1, 1) := by decide +kernel
theorem dX8_hasWish_1 : decode cX8_hasWish 1 = .ok (.iconst 0, 1) := by decide +kernel
theorem dX8_hasWish_2 : decode cX8_hasWish 2 = .ok (.aload_n 0, 1) := by decide +kernel
theorem dX8_hasWish_3 : decode cX8_hasWish 3 = .ok (.getfield 38, 3) := by decide +kernel
theorem dX8_hasWish_6 : decode cX8_hasWish 6 = .ok (.iconst 1, 1) := by decide +kernel
theorem dX8_hasWish_7 : decode cX8_hasWish 7 = .ok (.isub, 1) := by decide +kernel
theorem dX8_hasWish_8 : decode cX8_hasWish 8 = .ok (.invokestatic 60, 3) := by decide +kernel
theorem dX8_hasWish_11 : decode cX8_hasWish 11 = .ok (.ireturn, 1) := by decide +kernel
theorem dX8_areNeighbours_0 : decode cX8_areNeighbours 0 = .ok (.aload_n 0, 1) := by decide +kernel
theorem dX8_areNeighbours_1 : decode cX8_areNeighbours 1 = .ok (.iload_n 1, 1) := by decide +kernel
theorem dX8_areNeighbours_2 : decode cX8_areNeighbours 2 = .ok (.invokevirtual 64, 3) := by decide +kernel
theorem dX8_areNeighbours_5 : decode cX8_areNeighbours 5 = .ok (.ifCond .eq 35, 3) := by decide +kernel
theorem dX8_areNeighbours_8 : decode cX8_areNeighbours 8 = .ok (.aload_n 0, 1) := by decide +kernel
theorem dX8_areNeighbours_9 : decode cX8_areNeighbours 9 = .ok (.iload_n 2, 1) := by decide +kernel
theorem dX8_areNeighbours_10 : decode cX8_areNeighbours 10 = .ok (.invokevirtual 64, 3) := by decide +kernel
theorem dX8_areNeighbours_13 : decode cX8_areNeighbours 13 = .ok (.ifCond .eq 27, 3) := by decide +kernel
theorem dX8_areNeighbours_16 : decode cX8_areNeighbours 16 = .ok (.aload_n 0, 1) := by decide +kernel
theorem dX8_areNeighbours_17 : decode cX8_areNeighbours 17 = .ok (.getfield 18, 3) := by decide +kernel
theorem dX8_areNeighbours_20 : decode cX8_areNeighbours 20 = .ok (.iload_n 1, 1) := by decide +kernel
theorem dX8_areNeighbours_21 : decode cX8_areNeighbours 21 = .ok (.iaload, 1) := by decide +kernel
theorem dX8_areNeighbours_22 : decode cX8_areNeighbours 22 = .ok (.iload_n 2, 1) := by decide +kernel
theorem dX8_areNeighbours_23 : decode cX8_areNeighbours 23 = .ok (.if_icmp .eq 13, 3) := by decide +kernel
theorem dX8_areNeighbours_26 : decode cX8_areNeighbours 26 = .ok (.aload_n 0, 1) := by decide +kernel
theorem dX8_areNeighbours_27 : decode cX8_areNeighbours 27 = .ok (.getfield 18, 3) := by decide +kernel
theorem dX8_areNeighbours_30 : decode cX8_areNeighbours 30 = .ok (.iload_n 2, 1) := by decide +kernel
theorem dX8_areNeighbours_31 : decode cX8_areNeighbours 31 = .ok (.iaload, 1) := by decide +kernel
theorem dX8_areNeighbours_32 : decode cX8_areNeighbours 32 = .ok (.iload_n 1, 1) := by decide +kernel
theorem dX8_areNeighbours_33 : decode cX8_areNeighbours 33 = .ok (.if_icmp .ne 7, 3) := by decide +kernel
theorem dX8_areNeighbours_36 : decode cX8_areNeighbours 36 = .ok (.iconst 1, 1) := by decide +kernel
theorem dX8_areNeighbours_37 : decode cX8_areNeighbours 37 = .ok (.goto 4, 3) := by decide +kernel
theorem dX8_areNeighbours_40 : decode cX8_areNeighbours 40 = .ok (.iconst 0, 1) := by decide +kernel
theorem dX8_areNeighbours_41 : decode cX8_areNeighbours 41 = .ok (.ireturn, 1) := by decide +kernel
theorem dX8_neighboursOf_0 : decode cX8_neighboursOf 0 = .ok (.iconst 0, 1) := by decide +kernel
theorem dX8_neighboursOf_1 : decode cX8_neighboursOf 1 = .ok (.istore_n 2, 1) := by decide +kernel
theorem dX8_neighboursOf_2 : decode cX8_neighboursOf 2 = .ok (.iconst 0, 1) := by decide +kernel
theorem dX8_neighboursOf_3 : decode cX8_neighboursOf 3 = .ok (.istore_n 3, 1) := by decide +kernel
theorem dX8_neighboursOf_4 : decode cX8_neighboursOf 4 = .ok (.iload_n 3, 1) := by decide +kernel
theorem dX8_neighboursOf_5 : decode cX8_neighboursOf 5 = .ok (.aload_n 0, 1) := by decide +kernel
theorem dX8_neighboursOf_6 : decode cX8_neighboursOf 6 = .ok (.getfield 9, 3) := by decide +kernel
theorem dX8_neighboursOf_9 : decode cX8_neighboursOf 9 = .ok (.if_icmp .ge 24, 3) := by decide +kernel
theorem dX8_neighboursOf_12 : decode cX8_neighboursOf 12 = .ok (.aload_n 0, 1) := by decide +kernel
theorem dX8_neighboursOf_13 : decode cX8_neighboursOf 13 = .ok (.iload_n 1, 1) := by decide +kernel
theorem dX8_neighboursOf_14 : decode cX8_neighboursOf 14 = .ok (.iload_n 3, 1) := by decide +kernel
theorem dX8_neighboursOf_15 : decode cX8_neighboursOf 15 = .ok (.invokevirtual 68, 3) := by decide +kernel
theorem dX8_neighboursOf_18 : decode cX8_neighboursOf 18 = .ok (.ifCond .eq 9, 3) := by decide +kernel
theorem dX8_neighboursOf_21 : decode cX8_neighboursOf 21 = .ok (.iload_n 2, 1) := by decide +kernel
theorem dX8_neighboursOf_22 : decode cX8_neighboursOf 22 = .ok (.iconst 1, 1) := by decide +kernel
theorem dX8_neighboursOf_23 : decode cX8_neighboursOf 23 = .ok (.iload_n 3, 1) := by decide +kernel
theorem dX8_neighboursOf_24 : decode cX8_neighboursOf 24 = .ok (.ishl, 1) := by decide +kernel
theorem dX8_neighboursOf_25 : decode cX8_neighboursOf 25 = .ok (.ior, 1) := by decide +kernel
theorem dX8_neighboursOf_26 : decode cX8_neighboursOf 26 = .ok (.istore_n 2, 1) := by decide +kernel
theorem dX8_neighboursOf_27 : decode cX8_neighboursOf 27 = .ok (.iinc 3 1, 3) := by decide +kernel
theorem dX8_neighboursOf_30 : decode cX8_neighboursOf 30 = .ok (.goto (-26), 3) := by decide +kernel
theorem dX8_neighboursOf_33 : decode cX8_neighboursOf 33 = .ok (.iload_n 2, 1) := by decide +kernel
theorem dX8_neighboursOf_34 : decode cX8_neighboursOf 34 = .ok (.ireturn, 1) := by decide +kernel
theorem dX8_clientsHomeAt_0 : decode cX8_clientsHomeAt 0 = .ok (.iconst 0, 1) := by decide +kernel
theorem dX8_clientsHomeAt_1 : decode cX8_clientsHomeAt 1 = .ok (.istore_n 2, 1) := by decide +kernel
theorem dX8_clientsHomeAt_2 : decode cX8_clientsHomeAt 2 = .ok (.iconst 0, 1) := by decide +kernel
theorem dX8_clientsHomeAt_3 : decode cX8_clientsHomeAt 3 = .ok (.istore_n 3, 1) := by decide +kernel
theorem dX8_clientsHomeAt_4 : decode cX8_clientsHomeAt 4 = .ok (.iload_n 3, 1) := by decide +kernel
theorem dX8_clientsHomeAt_5 : decode cX8_clientsHomeAt 5 = .ok (.aload_n 0, 1) := by decide +kernel
theorem dX8_clientsHomeAt_6 : decode cX8_clientsHomeAt 6 = .ok (.getfield 35, 3) := by decide +kernel
theorem dX8_clientsHomeAt_9 : decode cX8_clientsHomeAt 9 = .ok (.if_icmp .ge 28, 3) := by decide +kernel
theorem dX8_clientsHomeAt_12 : decode cX8_clientsHomeAt 12 = .ok (.aload_n 0, 1) := by decide +kernel
theorem dX8_clientsHomeAt_13 : decode cX8_clientsHomeAt 13 = .ok (.getfield 24, 3) := by decide +kernel
theorem dX8_clientsHomeAt_16 : decode cX8_clientsHomeAt 16 = .ok (.iload_n 3, 1) := by decide +kernel
theorem dX8_clientsHomeAt_17 : decode cX8_clientsHomeAt 17 = .ok (.aaload, 1) := by decide +kernel
theorem dX8_clientsHomeAt_18 : decode cX8_clientsHomeAt 18 = .ok (.getfield 72, 3) := by decide +kernel
theorem dX8_clientsHomeAt_21 : decode cX8_clientsHomeAt 21 = .ok (.iload_n 1, 1) := by decide +kernel
theorem dX8_clientsHomeAt_22 : decode cX8_clientsHomeAt 22 = .ok (.if_icmp .ne 9, 3) := by decide +kernel
theorem dX8_clientsHomeAt_25 : decode cX8_clientsHomeAt 25 = .ok (.iload_n 2, 1) := by decide +kernel
theorem dX8_clientsHomeAt_26 : decode cX8_clientsHomeAt 26 = .ok (.iconst 1, 1) := by decide +kernel
theorem dX8_clientsHomeAt_27 : decode cX8_clientsHomeAt 27 = .ok (.iload_n 3, 1) := by decide +kernel
theorem dX8_clientsHomeAt_28 : decode cX8_clientsHomeAt 28 = .ok (.ishl, 1) := by decide +kernel
theorem dX8_clientsHomeAt_29 : decode cX8_clientsHomeAt 29 = .ok (.ior, 1) := by decide +kernel
theorem dX8_clientsHomeAt_30 : decode cX8_clientsHomeAt 30 = .ok (.istore_n 2, 1) := by decide +kernel
theorem dX8_clientsHomeAt_31 : decode cX8_clientsHomeAt 31 = .ok (.iinc 3 1, 3) := by decide +kernel
theorem dX8_clientsHomeAt_34 : decode cX8_clientsHomeAt 34 = .ok (.goto (-30), 3) := by decide +kernel
theorem dX8_clientsHomeAt_37 : decode cX8_clientsHomeAt 37 = .ok (.iload_n 2, 1) := by decide +kernel
theorem dX8_clientsHomeAt_38 : decode cX8_clientsHomeAt 38 = .ok (.ireturn, 1) := by decide +kernel
theorem dX8_wishesOf_0 : decode cX8_wishesOf 0 = .ok (.iconst 0, 1) := by decide +kernel
theorem dX8_wishesOf_1 : decode cX8_wishesOf 1 = .ok (.istore_n 2, 1) := by decide +kernel
theorem dX8_wishesOf_2 : decode cX8_wishesOf 2 = .ok (.iconst 0, 1) := by decide +kernel
theorem dX8_wishesOf_3 : decode cX8_wishesOf 3 = .ok (.istore_n 3, 1) := by decide +kernel
theorem dX8_wishesOf_4 : decode cX8_wishesOf 4 = .ok (.iload_n 3, 1) := by decide +kernel
theorem dX8_wishesOf_5 : decode cX8_wishesOf 5 = .ok (.aload_n 0, 1) := by decide +kernel
theorem dX8_wishesOf_6 : decode cX8_wishesOf 6 = .ok (.getfield 38, 3) := by decide +kernel
theorem dX8_wishesOf_9 : decode cX8_wishesOf 9 = .ok (.if_icmp .ge 28, 3) := by decide +kernel
theorem dX8_wishesOf_12 : decode cX8_wishesOf 12 = .ok (.iload_n 1, 1) := by decide +kernel
theorem dX8_wishesOf_13 : decode cX8_wishesOf 13 = .ok (.aload_n 0, 1) := by decide +kernel
theorem dX8_wishesOf_14 : decode cX8_wishesOf 14 = .ok (.getfield 28, 3) := by decide +kernel
theorem dX8_wishesOf_17 : decode cX8_wishesOf 17 = .ok (.iload_n 3, 1) := by decide +kernel
theorem dX8_wishesOf_18 : decode cX8_wishesOf 18 = .ok (.iaload, 1) := by decide +kernel
theorem dX8_wishesOf_19 : decode cX8_wishesOf 19 = .ok (.invokestatic 75, 3) := by decide +kernel
theorem dX8_wishesOf_22 : decode cX8_wishesOf 22 = .ok (.ifCond .eq 9, 3) := by decide +kernel
theorem dX8_wishesOf_25 : decode cX8_wishesOf 25 = .ok (.iload_n 2, 1) := by decide +kernel
theorem dX8_wishesOf_26 : decode cX8_wishesOf 26 = .ok (.iconst 1, 1) := by decide +kernel
theorem dX8_wishesOf_27 : decode cX8_wishesOf 27 = .ok (.iload_n 3, 1) := by decide +kernel
theorem dX8_wishesOf_28 : decode cX8_wishesOf 28 = .ok (.ishl, 1) := by decide +kernel
theorem dX8_wishesOf_29 : decode cX8_wishesOf 29 = .ok (.ior, 1) := by decide +kernel
theorem dX8_wishesOf_30 : decode cX8_wishesOf 30 = .ok (.istore_n 2, 1) := by decide +kernel
theorem dX8_wishesOf_31 : decode cX8_wishesOf 31 = .ok (.iinc 3 1, 3) := by decide +kernel
theorem dX8_wishesOf_34 : decode cX8_wishesOf 34 = .ok (.goto (-30), 3) := by decide +kernel
theorem dX8_wishesOf_37 : decode cX8_wishesOf 37 = .ok (.iload_n 2, 1) := by decide +kernel
theorem dX8_wishesOf_38 : decode cX8_wishesOf 38 = .ok (.ireturn, 1) := by decide +kernel
theorem dX8_wishesCoveredBy_0 : decode cX8_wishesCoveredBy 0 = .ok (.iconst 0, 1) := by decide +kernel
theorem dX8_wishesCoveredBy_1 : decode cX8_wishesCoveredBy 1 = .ok (.istore_n 2, 1) := by decide +kernel
theorem dX8_wishesCoveredBy_2 : decode cX8_wishesCoveredBy 2 = .ok (.iconst 0, 1) := by decide +kernel
theorem dX8_wishesCoveredBy_3 : decode cX8_wishesCoveredBy 3 = .ok (.istore_n 3, 1) := by decide +kernel
theorem dX8_wishesCoveredBy_4 : decode cX8_wishesCoveredBy 4 = .ok (.iload_n 3, 1) := by decide +kernel
theorem dX8_wishesCoveredBy_5 : decode cX8_wishesCoveredBy 5 = .ok (.aload_n 0, 1) := by decide +kernel
theorem dX8_wishesCoveredBy_6 : decode cX8_wishesCoveredBy 6 = .ok (.getfield 38, 3) := by decide +kernel
theorem dX8_wishesCoveredBy_9 : decode cX8_wishesCoveredBy 9 = .ok (.if_icmp .ge 38, 3) := by decide +kernel
theorem dX8_wishesCoveredBy_12 : decode cX8_wishesCoveredBy 12 = .ok (.iload_n 3, 1) := by decide +kernel
theorem dX8_wishesCoveredBy_13 : decode cX8_wishesCoveredBy 13 = .ok (.iload_n 1, 1) := by decide +kernel
theorem dX8_wishesCoveredBy_14 : decode cX8_wishesCoveredBy 14 = .ok (.if_icmp .eq 27, 3) := by decide +kernel
theorem dX8_wishesCoveredBy_17 : decode cX8_wishesCoveredBy 17 = .ok (.aload_n 0, 1) := by decide +kernel
theorem dX8_wishesCoveredBy_18 : decode cX8_wishesCoveredBy 18 = .ok (.getfield 31, 3) := by decide +kernel
theorem dX8_wishesCoveredBy_21 : decode cX8_wishesCoveredBy 21 = .ok (.iload_n 1, 1) := by decide +kernel
theorem dX8_wishesCoveredBy_22 : decode cX8_wishesCoveredBy 22 = .ok (.iaload, 1) := by decide +kernel
theorem dX8_wishesCoveredBy_23 : decode cX8_wishesCoveredBy 23 = .ok (.aload_n 0, 1) := by decide +kernel
theorem dX8_wishesCoveredBy_24 : decode cX8_wishesCoveredBy 24 = .ok (.getfield 31, 3) := by decide +kernel
theorem dX8_wishesCoveredBy_27 : decode cX8_wishesCoveredBy 27 = .ok (.iload_n 3, 1) := by decide +kernel
theorem dX8_wishesCoveredBy_28 : decode cX8_wishesCoveredBy 28 = .ok (.iaload, 1) := by decide +kernel
theorem dX8_wishesCoveredBy_29 : decode cX8_wishesCoveredBy 29 = .ok (.invokestatic 78, 3) := by decide +kernel
theorem dX8_wishesCoveredBy_32 : decode cX8_wishesCoveredBy 32 = .ok (.ifCond .eq 9, 3) := by decide +kernel
theorem dX8_wishesCoveredBy_35 : decode cX8_wishesCoveredBy 35 = .ok (.iload_n 2, 1) := by decide +kernel
theorem dX8_wishesCoveredBy_36 : decode cX8_wishesCoveredBy 36 = .ok (.iconst 1, 1) := by decide +kernel
theorem dX8_wishesCoveredBy_37 : decode cX8_wishesCoveredBy 37 = .ok (.iload_n 3, 1) := by decide +kernel
theorem dX8_wishesCoveredBy_38 : decode cX8_wishesCoveredBy 38 = .ok (.ishl, 1) := by decide +kernel
theorem dX8_wishesCoveredBy_39 : decode cX8_wishesCoveredBy 39 = .ok (.ior, 1) := by decide +kernel
theorem dX8_wishesCoveredBy_40 : decode cX8_wishesCoveredBy 40 = .ok (.istore_n 2, 1) := by decide +kernel
theorem dX8_wishesCoveredBy_41 : decode cX8_wishesCoveredBy 41 = .ok (.iinc 3 1, 3) := by decide +kernel
theorem dX8_wishesCoveredBy_44 : decode cX8_wishesCoveredBy 44 = .ok (.goto (-40), 3) := by decide +kernel
theorem dX8_wishesCoveredBy_47 : decode cX8_wishesCoveredBy 47 = .ok (.iload_n 2, 1) := by decide +kernel
theorem dX8_wishesCoveredBy_48 : decode cX8_wishesCoveredBy 48 = .ok (.ireturn, 1) := by decide +kernel
theorem dX8_clientsWishing_0 : decode cX8_clientsWishing 0 = .ok (.iconst 0, 1) := by decide +kernel
theorem dX8_clientsWishing_1 : decode cX8_clientsWishing 1 = .ok (.istore_n 2, 1) := by decide +kernel
theorem dX8_clientsWishing_2 : decode cX8_clientsWishing 2 = .ok (.iconst 0, 1) := by decide +kernel
theorem dX8_clientsWishing_3 : decode cX8_clientsWishing 3 = .ok (.istore_n 3, 1) := by decide +kernel
theorem dX8_clientsWishing_4 : decode cX8_clientsWishing 4 = .ok (.iload_n 3, 1) := by decide +kernel
theorem dX8_clientsWishing_5 : decode cX8_clientsWishing 5 = .ok (.aload_n 0, 1) := by decide +kernel
theorem dX8_clientsWishing_6 : decode cX8_clientsWishing 6 = .ok (.getfield 38, 3) := by decide +kernel
theorem dX8_clientsWishing_9 : decode cX8_clientsWishing 9 = .ok (.if_icmp .ge 33, 3) := by decide +kernel
theorem dX8_clientsWishing_12 : decode cX8_clientsWishing 12 = .ok (.aload_n 0, 1) := by decide +kernel
theorem dX8_clientsWishing_13 : decode cX8_clientsWishing 13 = .ok (.getfield 31, 3) := by decide +kernel
theorem dX8_clientsWishing_16 : decode cX8_clientsWishing 16 = .ok (.iload_n 3, 1) := by decide +kernel
theorem dX8_clientsWishing_17 : decode cX8_clientsWishing 17 = .ok (.iaload, 1) := by decide +kernel
theorem dX8_clientsWishing_18 : decode cX8_clientsWishing 18 = .ok (.iload_n 1, 1) := by decide +kernel
theorem dX8_clientsWishing_19 : decode cX8_clientsWishing 19 = .ok (.invokestatic 78, 3) := by decide +kernel
theorem dX8_clientsWishing_22 : decode cX8_clientsWishing 22 = .ok (.ifCond .eq 14, 3) := by decide +kernel
theorem dX8_clientsWishing_25 : decode cX8_clientsWishing 25 = .ok (.iload_n 2, 1) := by decide +kernel
theorem dX8_clientsWishing_26 : decode cX8_clientsWishing 26 = .ok (.iconst 1, 1) := by decide +kernel
theorem dX8_clientsWishing_27 : decode cX8_clientsWishing 27 = .ok (.aload_n 0, 1) := by decide +kernel
theorem dX8_clientsWishing_28 : decode cX8_clientsWishing 28 = .ok (.getfield 28, 3) := by decide +kernel
theorem dX8_clientsWishing_31 : decode cX8_clientsWishing 31 = .ok (.iload_n 3, 1) := by decide +kernel
theorem dX8_clientsWishing_32 : decode cX8_clientsWishing 32 = .ok (.iaload, 1) := by decide +kernel
theorem dX8_clientsWishing_33 : decode cX8_clientsWishing 33 = .ok (.ishl, 1) := by decide +kernel
theorem dX8_clientsWishing_34 : decode cX8_clientsWishing 34 = .ok (.ior, 1) := by decide +kernel
theorem dX8_clientsWishing_35 : decode cX8_clientsWishing 35 = .ok (.istore_n 2, 1) := by decide +kernel
theorem dX8_clientsWishing_36 : decode cX8_clientsWishing 36 = .ok (.iinc 3 1, 3) := by decide +kernel
theorem dX8_clientsWishing_39 : decode cX8_clientsWishing 39 = .ok (.goto (-35), 3) := by decide +kernel
theorem dX8_clientsWishing_42 : decode cX8_clientsWishing 42 = .ok (.iload_n 2, 1) := by decide +kernel
theorem dX8_clientsWishing_43 : decode cX8_clientsWishing 43 = .ok (.ireturn, 1) := by decide +kernel
theorem dX8_isWished_0 : decode cX8_isWished 0 = .ok (.iconst 0, 1) := by decide +kernel
theorem dX8_isWished_1 : decode cX8_isWished 1 = .ok (.istore_n 2, 1) := by decide +kernel
theorem dX8_isWished_2 : decode cX8_isWished 2 = .ok (.iload_n 2, 1) := by decide +kernel
theorem dX8_isWished_3 : decode cX8_isWished 3 = .ok (.aload_n 0, 1) := by decide +kernel
theorem dX8_isWished_4 : decode cX8_isWished 4 = .ok (.getfield 38, 3) := by decide +kernel
theorem dX8_isWished_7 : decode cX8_isWished 7 = .ok (.if_icmp .ge 21, 3) := by decide +kernel
theorem dX8_isWished_10 : decode cX8_isWished 10 = .ok (.aload_n 0, 1) := by decide +kernel
theorem dX8_isWished_11 : decode cX8_isWished 11 = .ok (.getfield 31, 3) := by decide +kernel
theorem dX8_isWished_14 : decode cX8_isWished 14 = .ok (.iload_n 2, 1) := by decide +kernel
theorem dX8_isWished_15 : decode cX8_isWished 15 = .ok (.iaload, 1) := by decide +kernel
theorem dX8_isWished_16 : decode cX8_isWished 16 = .ok (.iload_n 1, 1) := by decide +kernel
theorem dX8_isWished_17 : decode cX8_isWished 17 = .ok (.if_icmp .ne 5, 3) := by decide +kernel
theorem dX8_isWished_20 : decode cX8_isWished 20 = .ok (.iconst 1, 1) := by decide +kernel
theorem dX8_isWished_21 : decode cX8_isWished 21 = .ok (.ireturn, 1) := by decide +kernel
theorem dX8_isWished_22 : decode cX8_isWished 22 = .ok (.iinc 2 1, 3) := by decide +kernel
theorem dX8_isWished_25 : decode cX8_isWished 25 = .ok (.goto (-23), 3) := by decide +kernel
theorem dX8_isWished_28 : decode cX8_isWished 28 = .ok (.iconst 0, 1) := by decide +kernel
theorem dX8_isWished_29 : decode cX8_isWished 29 = .ok (.ireturn, 1) := by decide +kernel
theorem dX8_addBroker_0 : decode cX8_addBroker 0 = .ok (.aload_n 0, 1) := by decide +kernel
theorem dX8_addBroker_1 : decode cX8_addBroker 1 = .ok (.getfield 18, 3) := by decide +kernel
theorem dX8_addBroker_4 : decode cX8_addBroker 4 = .ok (.aload_n 0, 1) := by decide +kernel
theorem dX8_addBroker_5 : decode cX8_addBroker 5 = .ok (.getfield 9, 3) := by decide +kernel
theorem dX8_addBroker_8 : decode cX8_addBroker 8 = .ok (.iload_n 1, 1) := by decide +kernel
theorem dX8_addBroker_9 : decode cX8_addBroker 9 = .ok (.iastore, 1) := by decide +kernel
theorem dX8_addBroker_10 : decode cX8_addBroker 10 = .ok (.aload_n 0, 1) := by decide +kernel
theorem dX8_addBroker_11 : decode cX8_addBroker 11 = .ok (.dup, 1) := by decide +kernel
theorem dX8_addBroker_12 : decode cX8_addBroker 12 = .ok (.getfield 9, 3) := by decide +kernel
theorem dX8_addBroker_15 : decode cX8_addBroker 15 = .ok (.iconst 1, 1) := by decide +kernel
theorem dX8_addBroker_16 : decode cX8_addBroker 16 = .ok (.iadd, 1) := by decide +kernel
theorem dX8_addBroker_17 : decode cX8_addBroker 17 = .ok (.putfield 9, 3) := by decide +kernel
theorem dX8_addBroker_20 : decode cX8_addBroker 20 = .ok (.aload_n 0, 1) := by decide +kernel
theorem dX8_addBroker_21 : decode cX8_addBroker 21 = .ok (.getfield 9, 3) := by decide +kernel
theorem dX8_addBroker_24 : decode cX8_addBroker 24 = .ok (.iconst 1, 1) := by decide +kernel
theorem dX8_addBroker_25 : decode cX8_addBroker 25 = .ok (.isub, 1) := by decide +kernel
theorem dX8_addBroker_26 : decode cX8_addBroker 26 = .ok (.ireturn, 1) := by decide +kernel
theorem dX8_addClient_0 : decode cX8_addClient 0 = .ok (.aload_n 0, 1) := by decide +kernel
theorem dX8_addClient_1 : decode cX8_addClient 1 = .ok (.getfield 24, 3) := by decide +kernel
theorem dX8_addClient_4 : decode cX8_addClient 4 = .ok (.aload_n 0, 1) := by decide +kernel
theorem dX8_addClient_5 : decode cX8_addClient 5 = .ok (.getfield 35, 3) := by decide +kernel
theorem dX8_addClient_8 : decode cX8_addClient 8 = .ok (.aaload, 1) := by decide +kernel
theorem dX8_addClient_9 : decode cX8_addClient 9 = .ok (.iload_n 1, 1) := by decide +kernel
theorem dX8_addClient_10 : decode cX8_addClient 10 = .ok (.invokevirtual 83, 3) := by decide +kernel
theorem dX8_addClient_13 : decode cX8_addClient 13 = .ok (.aload_n 0, 1) := by decide +kernel
theorem dX8_addClient_14 : decode cX8_addClient 14 = .ok (.dup, 1) := by decide +kernel
theorem dX8_addClient_15 : decode cX8_addClient 15 = .ok (.getfield 35, 3) := by decide +kernel
theorem dX8_addClient_18 : decode cX8_addClient 18 = .ok (.iconst 1, 1) := by decide +kernel
theorem dX8_addClient_19 : decode cX8_addClient 19 = .ok (.iadd, 1) := by decide +kernel
theorem dX8_addClient_20 : decode cX8_addClient 20 = .ok (.putfield 35, 3) := by decide +kernel
theorem dX8_addClient_23 : decode cX8_addClient 23 = .ok (.aload_n 0, 1) := by decide +kernel
theorem dX8_addClient_24 : decode cX8_addClient 24 = .ok (.getfield 35, 3) := by decide +kernel
theorem dX8_addClient_27 : decode cX8_addClient 27 = .ok (.iconst 1, 1) := by decide +kernel
theorem dX8_addClient_28 : decode cX8_addClient 28 = .ok (.isub, 1) := by decide +kernel
theorem dX8_addClient_29 : decode cX8_addClient 29 = .ok (.ireturn, 1) := by decide +kernel
theorem dX8_addWish_0 : decode cX8_addWish 0 = .ok (.aload_n 0, 1) := by decide +kernel
theorem dX8_addWish_1 : decode cX8_addWish 1 = .ok (.getfield 28, 3) := by decide +kernel
theorem dX8_addWish_4 : decode cX8_addWish 4 = .ok (.aload_n 0, 1) := by decide +kernel
theorem dX8_addWish_5 : decode cX8_addWish 5 = .ok (.getfield 38, 3) := by decide +kernel
theorem dX8_addWish_8 : decode cX8_addWish 8 = .ok (.iload_n 1, 1) := by decide +kernel
theorem dX8_addWish_9 : decode cX8_addWish 9 = .ok (.iastore, 1) := by decide +kernel
theorem dX8_addWish_10 : decode cX8_addWish 10 = .ok (.aload_n 0, 1) := by decide +kernel
theorem dX8_addWish_11 : decode cX8_addWish 11 = .ok (.getfield 31, 3) := by decide +kernel
theorem dX8_addWish_14 : decode cX8_addWish 14 = .ok (.aload_n 0, 1) := by decide +kernel
theorem dX8_addWish_15 : decode cX8_addWish 15 = .ok (.getfield 38, 3) := by decide +kernel
theorem dX8_addWish_18 : decode cX8_addWish 18 = .ok (.iload_n 2, 1) := by decide +kernel
theorem dX8_addWish_19 : decode cX8_addWish 19 = .ok (.iastore, 1) := by decide +kernel
theorem dX8_addWish_20 : decode cX8_addWish 20 = .ok (.aload_n 0, 1) := by decide +kernel
theorem dX8_addWish_21 : decode cX8_addWish 21 = .ok (.dup, 1) := by decide +kernel
theorem dX8_addWish_22 : decode cX8_addWish 22 = .ok (.getfield 38, 3) := by decide +kernel
theorem dX8_addWish_25 : decode cX8_addWish 25 = .ok (.iconst 1, 1) := by decide +kernel
theorem dX8_addWish_26 : decode cX8_addWish 26 = .ok (.iadd, 1) := by decide +kernel
theorem dX8_addWish_27 : decode cX8_addWish 27 = .ok (.putfield 38, 3) := by decide +kernel
theorem dX8_addWish_30 : decode cX8_addWish 30 = .ok (.aload_n 0, 1) := by decide +kernel
theorem dX8_addWish_31 : decode cX8_addWish 31 = .ok (.getfield 38, 3) := by decide +kernel
theorem dX8_addWish_34 : decode cX8_addWish 34 = .ok (.iconst 1, 1) := by decide +kernel
theorem dX8_addWish_35 : decode cX8_addWish 35 = .ok (.isub, 1) := by decide +kernel
theorem dX8_addWish_36 : decode cX8_addWish 36 = .ok (.ireturn, 1) := by decide +kernel
theorem dX8_removeWish_0 : decode cX8_removeWish 0 = .ok (.iload_n 1, 1) := by decide +kernel
theorem dX8_removeWish_1 : decode cX8_removeWish 1 = .ok (.istore_n 2, 1) := by decide +kernel
theorem dX8_removeWish_2 : decode cX8_removeWish 2 = .ok (.iload_n 2, 1) := by decide +kernel
theorem dX8_removeWish_3 : decode cX8_removeWish 3 = .ok (.aload_n 0, 1) := by decide +kernel
theorem dX8_removeWish_4 : decode cX8_removeWish 4 = .ok (.getfield 38, 3) := by decide +kernel
theorem dX8_removeWish_7 : decode cX8_removeWish 7 = .ok (.iconst 1, 1) := by decide +kernel
theorem dX8_removeWish_8 : decode cX8_removeWish 8 = .ok (.isub, 1) := by decide +kernel
theorem dX8_removeWish_9 : decode cX8_removeWish 9 = .ok (.if_icmp .ge 37, 3) := by decide +kernel
theorem dX8_removeWish_12 : decode cX8_removeWish 12 = .ok (.aload_n 0, 1) := by decide +kernel
theorem dX8_removeWish_13 : decode cX8_removeWish 13 = .ok (.getfield 28, 3) := by decide +kernel
theorem dX8_removeWish_16 : decode cX8_removeWish 16 = .ok (.iload_n 2, 1) := by decide +kernel
theorem dX8_removeWish_17 : decode cX8_removeWish 17 = .ok (.aload_n 0, 1) := by decide +kernel
theorem dX8_removeWish_18 : decode cX8_removeWish 18 = .ok (.getfield 28, 3) := by decide +kernel
theorem dX8_removeWish_21 : decode cX8_removeWish 21 = .ok (.iload_n 2, 1) := by decide +kernel
theorem dX8_removeWish_22 : decode cX8_removeWish 22 = .ok (.iconst 1, 1) := by decide +kernel
theorem dX8_removeWish_23 : decode cX8_removeWish 23 = .ok (.iadd, 1) := by decide +kernel
theorem dX8_removeWish_24 : decode cX8_removeWish 24 = .ok (.iaload, 1) := by decide +kernel
theorem dX8_removeWish_25 : decode cX8_removeWish 25 = .ok (.iastore, 1) := by decide +kernel
theorem dX8_removeWish_26 : decode cX8_removeWish 26 = .ok (.aload_n 0, 1) := by decide +kernel
theorem dX8_removeWish_27 : decode cX8_removeWish 27 = .ok (.getfield 31, 3) := by decide +kernel
theorem dX8_removeWish_30 : decode cX8_removeWish 30 = .ok (.iload_n 2, 1) := by decide +kernel
theorem dX8_removeWish_31 : decode cX8_removeWish 31 = .ok (.aload_n 0, 1) := by decide +kernel
theorem dX8_removeWish_32 : decode cX8_removeWish 32 = .ok (.getfield 31, 3) := by decide +kernel
theorem dX8_removeWish_35 : decode cX8_removeWish 35 = .ok (.iload_n 2, 1) := by decide +kernel
theorem dX8_removeWish_36 : decode cX8_removeWish 36 = .ok (.iconst 1, 1) := by decide +kernel
theorem dX8_removeWish_37 : decode cX8_removeWish 37 = .ok (.iadd, 1) := by decide +kernel
theorem dX8_removeWish_38 : decode cX8_removeWish 38 = .ok (.iaload, 1) := by decide +kernel
theorem dX8_removeWish_39 : decode cX8_removeWish 39 = .ok (.iastore, 1) := by decide +kernel
theorem dX8_removeWish_40 : decode cX8_removeWish 40 = .ok (.iinc 2 1, 3) := by decide +kernel
theorem dX8_removeWish_43 : decode cX8_removeWish 43 = .ok (.goto (-41), 3) := by decide +kernel
theorem dX8_removeWish_46 : decode cX8_removeWish 46 = .ok (.aload_n 0, 1) := by decide +kernel
theorem dX8_removeWish_47 : decode cX8_removeWish 47 = .ok (.dup, 1) := by decide +kernel
theorem dX8_removeWish_48 : decode cX8_removeWish 48 = .ok (.getfield 38, 3) := by decide +kernel
theorem dX8_removeWish_51 : decode cX8_removeWish 51 = .ok (.iconst 1, 1) := by decide +kernel
theorem dX8_removeWish_52 : decode cX8_removeWish 52 = .ok (.isub, 1) := by decide +kernel
theorem dX8_removeWish_53 : decode cX8_removeWish 53 = .ok (.putfield 38, 3) := by decide +kernel
theorem dX8_removeWish_56 : decode cX8_removeWish 56 = .ok (.return_, 1) := by decide +kernel
theorem dX8_removeLatestClient_0 : decode cX8_removeLatestClient 0 = .ok (.aload_n 0, 1) := by decide +kernel
theorem dX8_removeLatestClient_1 : decode cX8_removeLatestClient 1 = .ok (.dup, 1) := by decide +kernel
theorem dX8_removeLatestClient_2 : decode cX8_removeLatestClient 2 = .ok (.getfield 35, 3) := by decide +kernel
theorem dX8_removeLatestClient_5 : decode cX8_removeLatestClient 5 = .ok (.iconst 1, 1) := by decide +kernel
theorem dX8_removeLatestClient_6 : decode cX8_removeLatestClient 6 = .ok (.isub, 1) := by decide +kernel
theorem dX8_removeLatestClient_7 : decode cX8_removeLatestClient 7 = .ok (.putfield 35, 3) := by decide +kernel
theorem dX8_removeLatestClient_10 : decode cX8_removeLatestClient 10 = .ok (.aload_n 0, 1) := by decide +kernel
theorem dX8_removeLatestClient_11 : decode cX8_removeLatestClient 11 = .ok (.getfield 38, 3) := by decide +kernel
theorem dX8_removeLatestClient_14 : decode cX8_removeLatestClient 14 = .ok (.iconst 1, 1) := by decide +kernel
theorem dX8_removeLatestClient_15 : decode cX8_removeLatestClient 15 = .ok (.isub, 1) := by decide +kernel
theorem dX8_removeLatestClient_16 : decode cX8_removeLatestClient 16 = .ok (.istore_n 1, 1) := by decide +kernel
theorem dX8_removeLatestClient_17 : decode cX8_removeLatestClient 17 = .ok (.iload_n 1, 1) := by decide +kernel
theorem dX8_removeLatestClient_18 : decode cX8_removeLatestClient 18 = .ok (.ifCond .lt 27, 3) := by decide +kernel
theorem dX8_removeLatestClient_21 : decode cX8_removeLatestClient 21 = .ok (.aload_n 0, 1) := by decide +kernel
theorem dX8_removeLatestClient_22 : decode cX8_removeLatestClient 22 = .ok (.getfield 28, 3) := by decide +kernel
theorem dX8_removeLatestClient_25 : decode cX8_removeLatestClient 25 = .ok (.iload_n 1, 1) := by decide +kernel
theorem dX8_removeLatestClient_26 : decode cX8_removeLatestClient 26 = .ok (.iaload, 1) := by decide +kernel
theorem dX8_removeLatestClient_27 : decode cX8_removeLatestClient 27 = .ok (.aload_n 0, 1) := by decide +kernel
theorem dX8_removeLatestClient_28 : decode cX8_removeLatestClient 28 = .ok (.getfield 35, 3) := by decide +kernel
theorem dX8_removeLatestClient_31 : decode cX8_removeLatestClient 31 = .ok (.if_icmp .ne 8, 3) := by decide +kernel
theorem dX8_removeLatestClient_34 : decode cX8_removeLatestClient 34 = .ok (.aload_n 0, 1) := by decide +kernel
theorem dX8_removeLatestClient_35 : decode cX8_removeLatestClient 35 = .ok (.iload_n 1, 1) := by decide +kernel
theorem dX8_removeLatestClient_36 : decode cX8_removeLatestClient 36 = .ok (.invokevirtual 87, 3) := by decide +kernel
theorem dX8_removeLatestClient_39 : decode cX8_removeLatestClient 39 = .ok (.iinc 1 (-1), 3) := by decide +kernel
theorem dX8_removeLatestClient_42 : decode cX8_removeLatestClient 42 = .ok (.goto (-25), 3) := by decide +kernel
theorem dX8_removeLatestClient_45 : decode cX8_removeLatestClient 45 = .ok (.return_, 1) := by decide +kernel
theorem dX8_hand_0 : decode cX8_hand 0 = .ok (.iconst 0, 1) := by decide +kernel
theorem dX8_hand_1 : decode cX8_hand 1 = .ok (.istore_n 2, 1) := by decide +kernel
theorem dX8_hand_2 : decode cX8_hand 2 = .ok (.iload_n 2, 1) := by decide +kernel
theorem dX8_hand_3 : decode cX8_hand 3 = .ok (.aload_n 0, 1) := by decide +kernel
theorem dX8_hand_4 : decode cX8_hand 4 = .ok (.getfield 35, 3) := by decide +kernel
theorem dX8_hand_7 : decode cX8_hand 7 = .ok (.if_icmp .ge 33, 3) := by decide +kernel
theorem dX8_hand_10 : decode cX8_hand 10 = .ok (.aload_n 1, 1) := by decide +kernel
theorem dX8_hand_11 : decode cX8_hand 11 = .ok (.getfield 90, 3) := by decide +kernel
theorem dX8_hand_14 : decode cX8_hand 14 = .ok (.iload_n 2, 1) := by decide +kernel
theorem dX8_hand_15 : decode cX8_hand 15 = .ok (.invokestatic 75, 3) := by decide +kernel
theorem dX8_hand_18 : decode cX8_hand 18 = .ok (.ifCond .eq 16, 3) := by decide +kernel
theorem dX8_hand_21 : decode cX8_hand 21 = .ok (.aload_n 0, 1) := by decide +kernel
theorem dX8_hand_22 : decode cX8_hand 22 = .ok (.getfield 24, 3) := by decide +kernel
theorem dX8_hand_25 : decode cX8_hand 25 = .ok (.iload_n 2, 1) := by decide +kernel
theorem dX8_hand_26 : decode cX8_hand 26 = .ok (.aaload, 1) := by decide +kernel
theorem dX8_hand_27 : decode cX8_hand 27 = .ok (.aload_n 0, 1) := by decide +kernel
theorem dX8_hand_28 : decode cX8_hand 28 = .ok (.getfield 41, 3) := by decide +kernel
theorem dX8_hand_31 : decode cX8_hand 31 = .ok (.invokevirtual 95, 3) := by decide +kernel
theorem dX8_hand_34 : decode cX8_hand 34 = .ok (.iinc 2 1, 3) := by decide +kernel
theorem dX8_hand_37 : decode cX8_hand 37 = .ok (.goto (-35), 3) := by decide +kernel
theorem dX8_hand_40 : decode cX8_hand 40 = .ok (.aload_n 0, 1) := by decide +kernel
theorem dX8_hand_41 : decode cX8_hand 41 = .ok (.dup, 1) := by decide +kernel
theorem dX8_hand_42 : decode cX8_hand 42 = .ok (.getfield 41, 3) := by decide +kernel
theorem dX8_hand_45 : decode cX8_hand 45 = .ok (.iconst 1, 1) := by decide +kernel
theorem dX8_hand_46 : decode cX8_hand 46 = .ok (.iadd, 1) := by decide +kernel
theorem dX8_hand_47 : decode cX8_hand 47 = .ok (.putfield 41, 3) := by decide +kernel
theorem dX8_hand_50 : decode cX8_hand 50 = .ok (.aload_n 0, 1) := by decide +kernel
theorem dX8_hand_51 : decode cX8_hand 51 = .ok (.dup, 1) := by decide +kernel
theorem dX8_hand_52 : decode cX8_hand 52 = .ok (.getfield 44, 3) := by decide +kernel
theorem dX8_hand_55 : decode cX8_hand 55 = .ok (.aload_n 1, 1) := by decide +kernel
theorem dX8_hand_56 : decode cX8_hand 56 = .ok (.getfield 98, 3) := by decide +kernel
theorem dX8_hand_59 : decode cX8_hand 59 = .ok (.iadd, 1) := by decide +kernel
theorem dX8_hand_60 : decode cX8_hand 60 = .ok (.putfield 44, 3) := by decide +kernel
theorem dX8_hand_63 : decode cX8_hand 63 = .ok (.aload_n 0, 1) := by decide +kernel
theorem dX8_hand_64 : decode cX8_hand 64 = .ok (.dup, 1) := by decide +kernel
theorem dX8_hand_65 : decode cX8_hand 65 = .ok (.getfield 47, 3) := by decide +kernel
theorem dX8_hand_68 : decode cX8_hand 68 = .ok (.aload_n 1, 1) := by decide +kernel
theorem dX8_hand_69 : decode cX8_hand 69 = .ok (.getfield 101, 3) := by decide +kernel
theorem dX8_hand_72 : decode cX8_hand 72 = .ok (.invokestatic 104, 3) := by decide +kernel
theorem dX8_hand_75 : decode cX8_hand 75 = .ok (.iadd, 1) := by decide +kernel
theorem dX8_hand_76 : decode cX8_hand 76 = .ok (.putfield 47, 3) := by decide +kernel
theorem dX8_hand_79 : decode cX8_hand 79 = .ok (.return_, 1) := by decide +kernel
theorem dX9_init_0 : decode cX9_init 0 = .ok (.aload_n 0, 1) := by decide +kernel
theorem dX9_init_1 : decode cX9_init 1 = .ok (.invokespecial 3, 3) := by decide +kernel
theorem dX9_init_4 : decode cX9_init 4 = .ok (.aload_n 0, 1) := by decide +kernel
theorem dX9_init_5 : decode cX9_init 5 = .ok (.bipush 7, 2) := by decide +kernel
theorem dX9_init_7 : decode cX9_init 7 = .ok (.anewarray 9, 3) := by decide +kernel
theorem dX9_init_10 : decode cX9_init 10 = .ok (.putfield 11, 3) := by decide +kernel
theorem dX9_init_13 : decode cX9_init 13 = .ok (.aload_n 0, 1) := by decide +kernel
theorem dX9_init_14 : decode cX9_init 14 = .ok (.bipush 7, 2) := by decide +kernel
theorem dX9_init_16 : decode cX9_init 16 = .ok (.anewarray 9, 3) := by decide +kernel
theorem dX9_init_19 : decode cX9_init 19 = .ok (.putfield 17, 3) := by decide +kernel
theorem dX9_init_22 : decode cX9_init 22 = .ok (.iconst 0, 1) := by decide +kernel
theorem dX9_init_23 : decode cX9_init 23 = .ok (.istore_n 1, 1) := by decide +kernel
theorem dX9_init_24 : decode cX9_init 24 = .ok (.iload_n 1, 1) := by decide +kernel
theorem dX9_init_25 : decode cX9_init 25 = .ok (.bipush 7, 2) := by decide +kernel
theorem dX9_init_27 : decode cX9_init 27 = .ok (.if_icmp .ge 35, 3) := by decide +kernel
theorem dX9_init_30 : decode cX9_init 30 = .ok (.aload_n 0, 1) := by decide +kernel
theorem dX9_init_31 : decode cX9_init 31 = .ok (.getfield 11, 3) := by decide +kernel
theorem dX9_init_34 : decode cX9_init 34 = .ok (.iload_n 1, 1) := by decide +kernel
theorem dX9_init_35 : decode cX9_init 35 = .ok (.new 9, 3) := by decide +kernel
theorem dX9_init_38 : decode cX9_init 38 = .ok (.dup, 1) := by decide +kernel
theorem dX9_init_39 : decode cX9_init 39 = .ok (.invokespecial 20, 3) := by decide +kernel
theorem dX9_init_42 : decode cX9_init 42 = .ok (.aastore, 1) := by decide +kernel
theorem dX9_init_43 : decode cX9_init 43 = .ok (.aload_n 0, 1) := by decide +kernel
theorem dX9_init_44 : decode cX9_init 44 = .ok (.getfield 17, 3) := by decide +kernel
theorem dX9_init_47 : decode cX9_init 47 = .ok (.iload_n 1, 1) := by decide +kernel
theorem dX9_init_48 : decode cX9_init 48 = .ok (.new 9, 3) := by decide +kernel
theorem dX9_init_51 : decode cX9_init 51 = .ok (.dup, 1) := by decide +kernel
theorem dX9_init_52 : decode cX9_init 52 = .ok (.invokespecial 20, 3) := by decide +kernel
theorem dX9_init_55 : decode cX9_init 55 = .ok (.aastore, 1) := by decide +kernel
theorem dX9_init_56 : decode cX9_init 56 = .ok (.iinc 1 1, 3) := by decide +kernel
theorem dX9_init_59 : decode cX9_init 59 = .ok (.goto (-35), 3) := by decide +kernel
theorem dX9_init_62 : decode cX9_init 62 = .ok (.return_, 1) := by decide +kernel
theorem dX9_outdate_0 : decode cX9_outdate 0 = .ok (.aload_n 0, 1) := by decide +kernel
theorem dX9_outdate_1 : decode cX9_outdate 1 = .ok (.iconst 0, 1) := by decide +kernel
theorem dX9_outdate_2 : decode cX9_outdate 2 = .ok (.putfield 21, 3) := by decide +kernel
theorem dX9_outdate_5 : decode cX9_outdate 5 = .ok (.return_, 1) := by decide +kernel
theorem dX9_between_0 : decode cX9_between 0 = .ok (.aload_n 1, 1) := by decide +kernel
theorem dX9_between_1 : decode cX9_between 1 = .ok (.getfield 25, 3) := by decide +kernel
theorem dX9_between_4 : decode cX9_between 4 = .ok (.iload_n 2, 1) := by decide +kernel
theorem dX9_between_5 : decode cX9_between 5 = .ok (.iaload, 1) := by decide +kernel
theorem dX9_between_6 : decode cX9_between 6 = .ok (.iload_n 3, 1) := by decide +kernel
theorem dX9_between_7 : decode cX9_between 7 = .ok (.if_icmp .ne 12, 3) := by decide +kernel
theorem dX9_between_10 : decode cX9_between 10 = .ok (.aload_n 0, 1) := by decide +kernel
theorem dX9_between_11 : decode cX9_between 11 = .ok (.getfield 11, 3) := by decide +kernel
theorem dX9_between_14 : decode cX9_between 14 = .ok (.iload_n 2, 1) := by decide +kernel
theorem dX9_between_15 : decode cX9_between 15 = .ok (.aaload, 1) := by decide +kernel
theorem dX9_between_16 : decode cX9_between 16 = .ok (.goto 9, 3) := by decide +kernel
theorem dX9_between_19 : decode cX9_between 19 = .ok (.aload_n 0, 1) := by decide +kernel
theorem dX9_between_20 : decode cX9_between 20 = .ok (.getfield 17, 3) := by decide +kernel
theorem dX9_between_23 : decode cX9_between 23 = .ok (.iload_n 3, 1) := by decide +kernel
theorem dX9_between_24 : decode cX9_between 24 = .ok (.aaload, 1) := by decide +kernel
theorem dX9_between_25 : decode cX9_between 25 = .ok (.areturn, 1) := by decide +kernel
theorem dX9_countAll_0 : decode cX9_countAll 0 = .ok (.iconst 0, 1) := by decide +kernel
theorem dX9_countAll_1 : decode cX9_countAll 1 = .ok (.istore_n 2, 1) := by decide +kernel
theorem dX9_countAll_2 : decode cX9_countAll 2 = .ok (.iconst 1, 1) := by decide +kernel
theorem dX9_countAll_3 : decode cX9_countAll 3 = .ok (.istore_n 3, 1) := by decide +kernel
theorem dX9_countAll_4 : decode cX9_countAll 4 = .ok (.iload_n 3, 1) := by decide +kernel
theorem dX9_countAll_5 : decode cX9_countAll 5 = .ok (.aload_n 1, 1) := by decide +kernel
theorem dX9_countAll_6 : decode cX9_countAll 6 = .ok (.getfield 31, 3) := by decide +kernel
theorem dX9_countAll_9 : decode cX9_countAll 9 = .ok (.if_icmp .ge 31, 3) := by decide +kernel
theorem dX9_countAll_12 : decode cX9_countAll 12 = .ok (.iload_n 2, 1) := by decide +kernel
theorem dX9_countAll_13 : decode cX9_countAll 13 = .ok (.aload_n 0, 1) := by decide +kernel
theorem dX9_countAll_14 : decode cX9_countAll 14 = .ok (.getfield 11, 3) := by decide +kernel
theorem dX9_countAll_17 : decode cX9_countAll 17 = .ok (.iload_n 3, 1) := by decide +kernel
theorem dX9_countAll_18 : decode cX9_countAll 18 = .ok (.aaload, 1) := by decide +kernel
theorem dX9_countAll_19 : decode cX9_countAll 19 = .ok (.getfield 35, 3) := by decide +kernel
theorem dX9_countAll_22 : decode cX9_countAll 22 = .ok (.aload_n 0, 1) := by decide +kernel
theorem dX9_countAll_23 : decode cX9_countAll 23 = .ok (.getfield 17, 3) := by decide +kernel
theorem dX9_countAll_26 : decode cX9_countAll 26 = .ok (.iload_n 3, 1) := by decide +kernel
theorem dX9_countAll_27 : decode cX9_countAll 27 = .ok (.aaload, 1) := by decide +kernel
theorem dX9_countAll_28 : decode cX9_countAll 28 = .ok (.getfield 35, 3) := by decide +kernel
theorem dX9_countAll_31 : decode cX9_countAll 31 = .ok (.iadd, 1) := by decide +kernel
theorem dX9_countAll_32 : decode cX9_countAll 32 = .ok (.iadd, 1) := by decide +kernel
theorem dX9_countAll_33 : decode cX9_countAll 33 = .ok (.istore_n 2, 1) := by decide +kernel
theorem dX9_countAll_34 : decode cX9_countAll 34 = .ok (.iinc 3 1, 3) := by decide +kernel
theorem dX9_countAll_37 : decode cX9_countAll 37 = .ok (.goto (-33), 3) := by decide +kernel
theorem dX9_countAll_40 : decode cX9_countAll 40 = .ok (.iload_n 2, 1) := by decide +kernel
theorem dX9_countAll_41 : decode cX9_countAll 41 = .ok (.ireturn, 1) := by decide +kernel
theorem dX9_refresh_0 : decode cX9_refresh 0 = .ok (.aload_n 0, 1) := by decide +kernel
theorem dX9_refresh_1 : decode cX9_refresh 1 = .ok (.getfield 21, 3) := by decide +kernel
theorem dX9_refresh_4 : decode cX9_refresh 4 = .ok (.ifCond .eq 4, 3) := by decide +kernel
theorem dX9_refresh_7 : decode cX9_refresh 7 = .ok (.return_, 1) := by decide +kernel
theorem dX9_refresh_8 : decode cX9_refresh 8 = .ok (.aload_n 1, 1) := by decide +kernel
theorem dX9_refresh_9 : decode cX9_refresh 9 = .ok (.getfield 31, 3) := by decide +kernel
theorem dX9_refresh_12 : decode cX9_refresh 12 = .ok (.iconst 1, 1) := by decide +kernel
theorem dX9_refresh_13 : decode cX9_refresh 13 = .ok (.isub, 1) := by decide +kernel
theorem dX9_refresh_14 : decode cX9_refresh 14 = .ok (.istore_n 2, 1) := by decide +kernel
theorem dX9_refresh_15 : decode cX9_refresh 15 = .ok (.iload_n 2, 1) := by decide +kernel
theorem dX9_refresh_16 : decode cX9_refresh 16 = .ok (.ifCond .le 21, 3) := by decide +kernel
theorem dX9_refresh_19 : decode cX9_refresh 19 = .ok (.aload_n 0, 1) := by decide +kernel
theorem dX9_refresh_20 : decode cX9_refresh 20 = .ok (.aload_n 1, 1) := by decide +kernel
theorem dX9_refresh_21 : decode cX9_refresh 21 = .ok (.iload_n 2, 1) := by decide +kernel
theorem dX9_refresh_22 : decode cX9_refresh 22 = .ok (.aload_n 1, 1) := by decide +kernel
theorem dX9_refresh_23 : decode cX9_refresh 23 = .ok (.getfield 25, 3) := by decide +kernel
theorem dX9_refresh_26 : decode cX9_refresh 26 = .ok (.iload_n 2, 1) := by decide +kernel
theorem dX9_refresh_27 : decode cX9_refresh 27 = .ok (.iaload, 1) := by decide +kernel
theorem dX9_refresh_28 : decode cX9_refresh 28 = .ok (.invokevirtual 38, 3) := by decide +kernel
theorem dX9_refresh_31 : decode cX9_refresh 31 = .ok (.iinc 2 (-1), 3) := by decide +kernel
theorem dX9_refresh_34 : decode cX9_refresh 34 = .ok (.goto (-19), 3) := by decide +kernel
theorem dX9_refresh_37 : decode cX9_refresh 37 = .ok (.iconst 1, 1) := by decide +kernel
theorem dX9_refresh_38 : decode cX9_refresh 38 = .ok (.istore_n 2, 1) := by decide +kernel
theorem dX9_refresh_39 : decode cX9_refresh 39 = .ok (.iload_n 2, 1) := by decide +kernel
theorem dX9_refresh_40 : decode cX9_refresh 40 = .ok (.aload_n 1, 1) := by decide +kernel
theorem dX9_refresh_41 : decode cX9_refresh 41 = .ok (.getfield 31, 3) := by decide +kernel
theorem dX9_refresh_44 : decode cX9_refresh 44 = .ok (.if_icmp .ge 21, 3) := by decide +kernel
theorem dX9_refresh_47 : decode cX9_refresh 47 = .ok (.aload_n 0, 1) := by decide +kernel
theorem dX9_refresh_48 : decode cX9_refresh 48 = .ok (.aload_n 1, 1) := by decide +kernel
theorem dX9_refresh_49 : decode cX9_refresh 49 = .ok (.aload_n 1, 1) := by decide +kernel
theorem dX9_refresh_50 : decode cX9_refresh 50 = .ok (.getfield 25, 3) := by decide +kernel
theorem dX9_refresh_53 : decode cX9_refresh 53 = .ok (.iload_n 2, 1) := by decide +kernel
theorem dX9_refresh_54 : decode cX9_refresh 54 = .ok (.iaload, 1) := by decide +kernel
theorem dX9_refresh_55 : decode cX9_refresh 55 = .ok (.iload_n 2, 1) := by decide +kernel
theorem dX9_refresh_56 : decode cX9_refresh 56 = .ok (.invokevirtual 38, 3) := by decide +kernel
theorem dX9_refresh_59 : decode cX9_refresh 59 = .ok (.iinc 2 1, 3) := by decide +kernel
theorem dX9_refresh_62 : decode cX9_refresh 62 = .ok (.goto (-23), 3) := by decide +kernel
theorem dX9_refresh_65 : decode cX9_refresh 65 = .ok (.aload_n 0, 1) := by decide +kernel
theorem dX9_refresh_66 : decode cX9_refresh 66 = .ok (.iconst 1, 1) := by decide +kernel
theorem dX9_refresh_67 : decode cX9_refresh 67 = .ok (.putfield 21, 3) := by decide +kernel
theorem dX9_refresh_70 : decode cX9_refresh 70 = .ok (.return_, 1) := by decide +kernel
theorem dX9_gather_0 : decode cX9_gather 0 = .ok (.aload_n 0, 1) := by decide +kernel
theorem dX9_gather_1 : decode cX9_gather 1 = .ok (.aload_n 1, 1) := by decide +kernel
theorem dX9_gather_2 : decode cX9_gather 2 = .ok (.iload_n 2, 1) := by decide +kernel
theorem dX9_gather_3 : decode cX9_gather 3 = .ok (.iload_n 3, 1) := by decide +kernel
theorem dX9_gather_4 : decode cX9_gather 4 = .ok (.invokevirtual 42, 3) := by decide +kernel
theorem dX9_gather_7 : decode cX9_gather 7 = .ok (.astore 4, 2) := by decide +kernel
theorem dX9_gather_9 : decode cX9_gather 9 = .ok (.aload 4, 2) := by decide +kernel
theorem dX9_gather_11 : decode cX9_gather 11 = .ok (.iconst 0, 1) := by decide +kernel
theorem dX9_gather_12 : decode cX9_gather 12 = .ok (.putfield 35, 3) := by decide +kernel
theorem dX9_gather_15 : decode cX9_gather 15 = .ok (.aload_n 1, 1) := by decide +kernel
theorem dX9_gather_16 : decode cX9_gather 16 = .ok (.aload_n 1, 1) := by decide +kernel
theorem dX9_gather_17 : decode cX9_gather 17 = .ok (.iload_n 2, 1) := by decide +kernel
theorem dX9_gather_18 : decode cX9_gather 18 = .ok (.invokevirtual 46, 3) := by decide +kernel
theorem dX9_gather_21 : decode cX9_gather 21 = .ok (.invokevirtual 50, 3) := by decide +kernel
theorem dX9_gather_24 : decode cX9_gather 24 = .ok (.istore 5, 2) := by decide +kernel
theorem dX9_gather_26 : decode cX9_gather 26 = .ok (.iconst 0, 1) := by decide +kernel
theorem dX9_gather_27 : decode cX9_gather 27 = .ok (.istore 6, 2) := by decide +kernel
theorem dX9_gather_29 : decode cX9_gather 29 = .ok (.iload 6, 2) := by decide +kernel
theorem dX9_gather_31 : decode cX9_gather 31 = .ok (.aload_n 1, 1) := by decide +kernel
theorem dX9_gather_32 : decode cX9_gather 32 = .ok (.getfield 53, 3) := by decide +kernel
theorem dX9_gather_35 : decode cX9_gather 35 = .ok (.if_icmp .ge 31, 3) := by decide +kernel
theorem dX9_gather_38 : decode cX9_gather 38 = .ok (.iload 5, 2) := by decide +kernel
theorem dX9_gather_40 : decode cX9_gather 40 = .ok (.iload 6, 2) := by decide +kernel
theorem dX9_gather_42 : decode cX9_gather 42 = .ok (.invokestatic 56, 3) := by decide +kernel
theorem dX9_gather_45 : decode cX9_gather 45 = .ok (.ifCond .eq 15, 3) := by decide +kernel
theorem dX9_gather_48 : decode cX9_gather 48 = .ok (.aload 4, 2) := by decide +kernel
theorem dX9_gather_50 : decode cX9_gather 50 = .ok (.aload_n 1, 1) := by decide +kernel
theorem dX9_gather_51 : decode cX9_gather 51 = .ok (.getfield 60, 3) := by decide +kernel
theorem dX9_gather_54 : decode cX9_gather 54 = .ok (.iload 6, 2) := by decide +kernel
theorem dX9_gather_56 : decode cX9_gather 56 = .ok (.iaload, 1) := by decide +kernel
theorem dX9_gather_57 : decode cX9_gather 57 = .ok (.invokevirtual 63, 3) := by decide +kernel
theorem dX9_gather_60 : decode cX9_gather 60 = .ok (.iinc 6 1, 3) := by decide +kernel
theorem dX9_gather_63 : decode cX9_gather 63 = .ok (.goto (-34), 3) := by decide +kernel
theorem dX9_gather_66 : decode cX9_gather 66 = .ok (.iconst 0, 1) := by decide +kernel
theorem dX9_gather_67 : decode cX9_gather 67 = .ok (.istore 6, 2) := by decide +kernel
theorem dX9_gather_69 : decode cX9_gather 69 = .ok (.iload 6, 2) := by decide +kernel
theorem dX9_gather_71 : decode cX9_gather 71 = .ok (.aload_n 1, 1) := by decide +kernel
theorem dX9_gather_72 : decode cX9_gather 72 = .ok (.getfield 31, 3) := by decide +kernel
theorem dX9_gather_75 : decode cX9_gather 75 = .ok (.if_icmp .ge 70, 3) := by decide +kernel
theorem dX9_gather_78 : decode cX9_gather 78 = .ok (.iload 6, 2) := by decide +kernel
theorem dX9_gather_80 : decode cX9_gather 80 = .ok (.iload_n 3, 1) := by decide +kernel
theorem dX9_gather_81 : decode cX9_gather 81 = .ok (.if_icmp .eq 58, 3) := by decide +kernel
theorem dX9_gather_84 : decode cX9_gather 84 = .ok (.aload_n 1, 1) := by decide +kernel
theorem dX9_gather_85 : decode cX9_gather 85 = .ok (.iload 6, 2) := by decide +kernel
theorem dX9_gather_87 : decode cX9_gather 87 = .ok (.iload_n 2, 1) := by decide +kernel
theorem dX9_gather_88 : decode cX9_gather 88 = .ok (.invokevirtual 67, 3) := by decide +kernel
theorem dX9_gather_91 : decode cX9_gather 91 = .ok (.ifCond .ne 6, 3) := by decide +kernel
theorem dX9_gather_94 : decode cX9_gather 94 = .ok (.goto 45, 3) := by decide +kernel
theorem dX9_gather_97 : decode cX9_gather 97 = .ok (.aload_n 0, 1) := by decide +kernel
theorem dX9_gather_98 : decode cX9_gather 98 = .ok (.aload_n 1, 1) := by decide +kernel
theorem dX9_gather_99 : decode cX9_gather 99 = .ok (.iload 6, 2) := by decide +kernel
theorem dX9_gather_101 : decode cX9_gather 101 = .ok (.iload_n 2, 1) := by decide +kernel
theorem dX9_gather_102 : decode cX9_gather 102 = .ok (.invokevirtual 42, 3) := by decide +kernel
theorem dX9_gather_105 : decode cX9_gather 105 = .ok (.astore 7, 2) := by decide +kernel
theorem dX9_gather_107 : decode cX9_gather 107 = .ok (.iconst 0, 1) := by decide +kernel
theorem dX9_gather_108 : decode cX9_gather 108 = .ok (.istore 8, 2) := by decide +kernel
theorem dX9_gather_110 : decode cX9_gather 110 = .ok (.iload 8, 2) := by decide +kernel
theorem dX9_gather_112 : decode cX9_gather 112 = .ok (.aload 7, 2) := by decide +kernel
theorem dX9_gather_114 : decode cX9_gather 114 = .ok (.getfield 35, 3) := by decide +kernel
theorem dX9_gather_117 : decode cX9_gather 117 = .ok (.if_icmp .ge 22, 3) := by decide +kernel
theorem dX9_gather_120 : decode cX9_gather 120 = .ok (.aload 4, 2) := by decide +kernel
theorem dX9_gather_122 : decode cX9_gather 122 = .ok (.aload 7, 2) := by decide +kernel
theorem dX9_gather_124 : decode cX9_gather 124 = .ok (.getfield 70, 3) := by decide +kernel
theorem dX9_gather_127 : decode cX9_gather 127 = .ok (.iload 8, 2) := by decide +kernel
theorem dX9_gather_129 : decode cX9_gather 129 = .ok (.iaload, 1) := by decide +kernel
theorem dX9_gather_130 : decode cX9_gather 130 = .ok (.invokevirtual 63, 3) := by decide +kernel
theorem dX9_gather_133 : decode cX9_gather 133 = .ok (.iinc 8 1, 3) := by decide +kernel
theorem dX9_gather_136 : decode cX9_gather 136 = .ok (.goto (-26), 3) := by decide +kernel
theorem dX9_gather_139 : decode cX9_gather 139 = .ok (.iinc 6 1, 3) := by decide +kernel
theorem dX9_gather_142 : decode cX9_gather 142 = .ok (.goto (-73), 3) := by decide +kernel
theorem dX9_gather_145 : decode cX9_gather 145 = .ok (.iconst 0, 1) := by decide +kernel
theorem dX9_gather_146 : decode cX9_gather 146 = .ok (.istore 6, 2) := by decide +kernel
theorem dX9_gather_148 : decode cX9_gather 148 = .ok (.iload 6, 2) := by decide +kernel
theorem dX9_gather_150 : decode cX9_gather 150 = .ok (.bipush 12, 2) := by decide +kernel
theorem dX9_gather_152 : decode cX9_gather 152 = .ok (.if_icmp .ge 31, 3) := by decide +kernel
theorem dX9_gather_155 : decode cX9_gather 155 = .ok (.aload 4, 2) := by decide +kernel
theorem dX9_gather_157 : decode cX9_gather 157 = .ok (.getfield 35, 3) := by decide +kernel
theorem dX9_gather_160 : decode cX9_gather 160 = .ok (.aload_n 1, 1) := by decide +kernel
theorem dX9_gather_161 : decode cX9_gather 161 = .ok (.getfield 73, 3) := by decide +kernel
theorem dX9_gather_164 : decode cX9_gather 164 = .ok (.if_icmp .le 19, 3) := by decide +kernel
theorem dX9_gather_167 : decode cX9_gather 167 = .ok (.aload 4, 2) := by decide +kernel
theorem dX9_gather_169 : decode cX9_gather 169 = .ok (.aload 4, 2) := by decide +kernel
theorem dX9_gather_171 : decode cX9_gather 171 = .ok (.invokevirtual 76, 3) := by decide +kernel
theorem dX9_gather_174 : decode cX9_gather 174 = .ok (.invokevirtual 63, 3) := by decide +kernel
theorem dX9_gather_177 : decode cX9_gather 177 = .ok (.iinc 6 1, 3) := by decide +kernel
theorem dX9_gather_180 : decode cX9_gather 180 = .ok (.goto (-32), 3) := by decide +kernel
theorem dX9_gather_183 : decode cX9_gather 183 = .ok (.return_, 1) := by decide +kernel
