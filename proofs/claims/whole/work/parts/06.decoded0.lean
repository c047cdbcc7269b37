theorem dX11_init_0 : decode cX11_init 0 = .ok (.aload_n 0, 1) := by decide +kernel
theorem dX11_init_1 : decode cX11_init 1 = .ok (.invokespecial 1, 3) := by decide +kernel
theorem dX11_init_4 : decode cX11_init 4 = .ok (.aload_n 0, 1) := by decide +kernel
theorem dX11_init_5 : decode cX11_init 5 = .ok (.sipush 256, 3) := by decide +kernel
theorem dX11_init_8 : decode cX11_init 8 = .ok (.newarray .int, 2) := by decide +kernel
theorem dX11_init_10 : decode cX11_init 10 = .ok (.putfield 7, 3) := by decide +kernel
theorem dX11_init_13 : decode cX11_init 13 = .ok (.aload_n 0, 1) := by decide +kernel
theorem dX11_init_14 : decode cX11_init 14 = .ok (.sipush 4096, 3) := by decide +kernel
theorem dX11_init_17 : decode cX11_init 17 = .ok (.newarray .int, 2) := by decide +kernel
theorem dX11_init_19 : decode cX11_init 19 = .ok (.putfield 13, 3) := by decide +kernel
theorem dX11_init_22 : decode cX11_init 22 = .ok (.aload_n 0, 1) := by decide +kernel
theorem dX11_init_23 : decode cX11_init 23 = .ok (.sipush 514, 3) := by decide +kernel
theorem dX11_init_26 : decode cX11_init 26 = .ok (.newarray .int, 2) := by decide +kernel
theorem dX11_init_28 : decode cX11_init 28 = .ok (.putfield 16, 3) := by decide +kernel
theorem dX11_init_31 : decode cX11_init 31 = .ok (.aload_n 0, 1) := by decide +kernel
theorem dX11_init_32 : decode cX11_init 32 = .ok (.iconst 2, 1) := by decide +kernel
theorem dX11_init_33 : decode cX11_init 33 = .ok (.newarray .boolean, 2) := by decide +kernel
theorem dX11_init_35 : decode cX11_init 35 = .ok (.putfield 19, 3) := by decide +kernel
theorem dX11_init_38 : decode cX11_init 38 = .ok (.aload_n 0, 1) := by decide +kernel
theorem dX11_init_39 : decode cX11_init 39 = .ok (.bipush 20, 2) := by decide +kernel
theorem dX11_init_41 : decode cX11_init 41 = .ok (.newarray .int, 2) := by decide +kernel
theorem dX11_init_43 : decode cX11_init 43 = .ok (.putfield 23, 3) := by decide +kernel
theorem dX11_init_46 : decode cX11_init 46 = .ok (.aload_n 0, 1) := by decide +kernel
theorem dX11_init_47 : decode cX11_init 47 = .ok (.bipush 20, 2) := by decide +kernel
theorem dX11_init_49 : decode cX11_init 49 = .ok (.newarray .int, 2) := by decide +kernel
theorem dX11_init_51 : decode cX11_init 51 = .ok (.putfield 26, 3) := by decide +kernel
theorem dX11_init_54 : decode cX11_init 54 = .ok (.aload_n 0, 1) := by decide +kernel
theorem dX11_init_55 : decode cX11_init 55 = .ok (.bipush 14, 2) := by decide +kernel
theorem dX11_init_57 : decode cX11_init 57 = .ok (.newarray .int, 2) := by decide +kernel
theorem dX11_init_59 : decode cX11_init 59 = .ok (.putfield 29, 3) := by decide +kernel
theorem dX11_init_62 : decode cX11_init 62 = .ok (.aload_n 0, 1) := by decide +kernel
theorem dX11_init_63 : decode cX11_init 63 = .ok (.sipush 756, 3) := by decide +kernel
theorem dX11_init_66 : decode cX11_init 66 = .ok (.newarray .int, 2) := by decide +kernel
theorem dX11_init_68 : decode cX11_init 68 = .ok (.putfield 32, 3) := by decide +kernel
theorem dX11_init_71 : decode cX11_init 71 = .ok (.aload_n 0, 1) := by decide +kernel
theorem dX11_init_72 : decode cX11_init 72 = .ok (.sipush 480, 3) := by decide +kernel
theorem dX11_init_75 : decode cX11_init 75 = .ok (.newarray .int, 2) := by decide +kernel
theorem dX11_init_77 : decode cX11_init 77 = .ok (.putfield 35, 3) := by decide +kernel
theorem dX11_init_80 : decode cX11_init 80 = .ok (.aload_n 0, 1) := by decide +kernel
theorem dX11_init_81 : decode cX11_init 81 = .ok (.bipush 6, 2) := by decide +kernel
theorem dX11_init_83 : decode cX11_init 83 = .ok (.newarray .int, 2) := by decide +kernel
theorem dX11_init_85 : decode cX11_init 85 = .ok (.putfield 38, 3) := by decide +kernel
theorem dX11_init_88 : decode cX11_init 88 = .ok (.aload_n 0, 1) := by decide +kernel
theorem dX11_init_89 : decode cX11_init 89 = .ok (.getfield 7, 3) := by decide +kernel
theorem dX11_init_92 : decode cX11_init 92 = .ok (.iconst 0, 1) := by decide +kernel
theorem dX11_init_93 : decode cX11_init 93 = .ok (.iconst 1, 1) := by decide +kernel
theorem dX11_init_94 : decode cX11_init 94 = .ok (.iastore, 1) := by decide +kernel
theorem dX11_init_95 : decode cX11_init 95 = .ok (.aload_n 0, 1) := by decide +kernel
theorem dX11_init_96 : decode cX11_init 96 = .ok (.getfield 7, 3) := by decide +kernel
theorem dX11_init_99 : decode cX11_init 99 = .ok (.iconst 3, 1) := by decide +kernel
theorem dX11_init_100 : decode cX11_init 100 = .ok (.bipush 9, 2) := by decide +kernel
theorem dX11_init_102 : decode cX11_init 102 = .ok (.iastore, 1) := by decide +kernel
theorem dX11_init_103 : decode cX11_init 103 = .ok (.aload_n 0, 1) := by decide +kernel
theorem dX11_init_104 : decode cX11_init 104 = .ok (.getfield 7, 3) := by decide +kernel
theorem dX11_init_107 : decode cX11_init 107 = .ok (.bipush 8, 2) := by decide +kernel
theorem dX11_init_109 : decode cX11_init 109 = .ok (.iconst (-1), 1) := by decide +kernel
theorem dX11_init_110 : decode cX11_init 110 = .ok (.iastore, 1) := by decide +kernel
theorem dX11_init_111 : decode cX11_init 111 = .ok (.return_, 1) := by decide +kernel
theorem dX11_in_0 : decode cX11_in 0 = .ok (.iload_n 0, 1) := by decide +kernel
theorem dX11_in_1 : decode cX11_in 1 = .ok (.iload_n 1, 1) := by decide +kernel
theorem dX11_in_2 : decode cX11_in 2 = .ok (.if_icmp .lt 12, 3) := by decide +kernel
theorem dX11_in_5 : decode cX11_in 5 = .ok (.iload_n 0, 1) := by decide +kernel
theorem dX11_in_6 : decode cX11_in 6 = .ok (.iload_n 2, 1) := by decide +kernel
theorem dX11_in_7 : decode cX11_in 7 = .ok (.if_icmp .gt 7, 3) := by decide +kernel
theorem dX11_in_10 : decode cX11_in 10 = .ok (.iconst 1, 1) := by decide +kernel
theorem dX11_in_11 : decode cX11_in 11 = .ok (.goto 4, 3) := by decide +kernel
theorem dX11_in_14 : decode cX11_in 14 = .ok (.iconst 0, 1) := by decide +kernel
theorem dX11_in_15 : decode cX11_in 15 = .ok (.ireturn, 1) := by decide +kernel
theorem dX11_of_0 : decode cX11_of 0 = .ok (.aload_n 0, 1) := by decide +kernel
theorem dX11_of_1 : decode cX11_of 1 = .ok (.getfield 7, 3) := by decide +kernel
theorem dX11_of_4 : decode cX11_of 4 = .ok (.bipush 16, 2) := by decide +kernel
theorem dX11_of_6 : decode cX11_of 6 = .ok (.bipush 25, 2) := by decide +kernel
theorem dX11_of_8 : decode cX11_of 8 = .ok (.iload_n 1, 1) := by decide +kernel
theorem dX11_of_9 : decode cX11_of 9 = .ok (.imul, 1) := by decide +kernel
theorem dX11_of_10 : decode cX11_of 10 = .ok (.iadd, 1) := by decide +kernel
theorem dX11_of_11 : decode cX11_of 11 = .ok (.iload_n 2, 1) := by decide +kernel
theorem dX11_of_12 : decode cX11_of 12 = .ok (.iadd, 1) := by decide +kernel
theorem dX11_of_13 : decode cX11_of 13 = .ok (.iaload, 1) := by decide +kernel
theorem dX11_of_14 : decode cX11_of 14 = .ok (.ireturn, 1) := by decide +kernel
theorem dX11_sets_0 : decode cX11_sets 0 = .ok (.aload_n 0, 1) := by decide +kernel
theorem dX11_sets_1 : decode cX11_sets 1 = .ok (.getfield 7, 3) := by decide +kernel
theorem dX11_sets_4 : decode cX11_sets 4 = .ok (.bipush 16, 2) := by decide +kernel
theorem dX11_sets_6 : decode cX11_sets 6 = .ok (.bipush 25, 2) := by decide +kernel
theorem dX11_sets_8 : decode cX11_sets 8 = .ok (.iload_n 1, 1) := by decide +kernel
theorem dX11_sets_9 : decode cX11_sets 9 = .ok (.imul, 1) := by decide +kernel
theorem dX11_sets_10 : decode cX11_sets 10 = .ok (.iadd, 1) := by decide +kernel
theorem dX11_sets_11 : decode cX11_sets 11 = .ok (.iload_n 2, 1) := by decide +kernel
theorem dX11_sets_12 : decode cX11_sets 12 = .ok (.iadd, 1) := by decide +kernel
theorem dX11_sets_13 : decode cX11_sets 13 = .ok (.iload_n 3, 1) := by decide +kernel
theorem dX11_sets_14 : decode cX11_sets 14 = .ok (.iastore, 1) := by decide +kernel
theorem dX11_sets_15 : decode cX11_sets 15 = .ok (.return_, 1) := by decide +kernel
theorem dX11_wish_0 : decode cX11_wish 0 = .ok (.aload_n 0, 1) := by decide +kernel
theorem dX11_wish_1 : decode cX11_wish 1 = .ok (.getfield 7, 3) := by decide +kernel
theorem dX11_wish_4 : decode cX11_wish 4 = .ok (.sipush 170, 3) := by decide +kernel
theorem dX11_wish_7 : decode cX11_wish 7 = .ok (.bipush 7, 2) := by decide +kernel
theorem dX11_wish_9 : decode cX11_wish 9 = .ok (.iload_n 1, 1) := by decide +kernel
theorem dX11_wish_10 : decode cX11_wish 10 = .ok (.imul, 1) := by decide +kernel
theorem dX11_wish_11 : decode cX11_wish 11 = .ok (.iadd, 1) := by decide +kernel
theorem dX11_wish_12 : decode cX11_wish 12 = .ok (.iload_n 2, 1) := by decide +kernel
theorem dX11_wish_13 : decode cX11_wish 13 = .ok (.iadd, 1) := by decide +kernel
theorem dX11_wish_14 : decode cX11_wish 14 = .ok (.iaload, 1) := by decide +kernel
theorem dX11_wish_15 : decode cX11_wish 15 = .ok (.ireturn, 1) := by decide +kernel
theorem dX11_isBroker_0 : decode cX11_isBroker 0 = .ok (.iload_n 1, 1) := by decide +kernel
theorem dX11_isBroker_1 : decode cX11_isBroker 1 = .ok (.iconst 0, 1) := by decide +kernel
theorem dX11_isBroker_2 : decode cX11_isBroker 2 = .ok (.aload_n 0, 1) := by decide +kernel
theorem dX11_isBroker_3 : decode cX11_isBroker 3 = .ok (.getfield 7, 3) := by decide +kernel
theorem dX11_isBroker_6 : decode cX11_isBroker 6 = .ok (.iconst 0, 1) := by decide +kernel
theorem dX11_isBroker_7 : decode cX11_isBroker 7 = .ok (.iaload, 1) := by decide +kernel
theorem dX11_isBroker_8 : decode cX11_isBroker 8 = .ok (.iconst 1, 1) := by decide +kernel
theorem dX11_isBroker_9 : decode cX11_isBroker 9 = .ok (.isub, 1) := by decide +kernel
theorem dX11_isBroker_10 : decode cX11_isBroker 10 = .ok (.invokestatic 41, 3) := by decide +kernel
theorem dX11_isBroker_13 : decode cX11_isBroker 13 = .ok (.ireturn, 1) := by decide +kernel
theorem dX11_isClient_0 : decode cX11_isClient 0 = .ok (.iload_n 1, 1) := by decide +kernel
theorem dX11_isClient_1 : decode cX11_isClient 1 = .ok (.iconst 0, 1) := by decide +kernel
theorem dX11_isClient_2 : decode cX11_isClient 2 = .ok (.aload_n 0, 1) := by decide +kernel
theorem dX11_isClient_3 : decode cX11_isClient 3 = .ok (.getfield 7, 3) := by decide +kernel
theorem dX11_isClient_6 : decode cX11_isClient 6 = .ok (.iconst 1, 1) := by decide +kernel
theorem dX11_isClient_7 : decode cX11_isClient 7 = .ok (.iaload, 1) := by decide +kernel
theorem dX11_isClient_8 : decode cX11_isClient 8 = .ok (.iconst 1, 1) := by decide +kernel
theorem dX11_isClient_9 : decode cX11_isClient 9 = .ok (.isub, 1) := by decide +kernel
theorem dX11_isClient_10 : decode cX11_isClient 10 = .ok (.invokestatic 41, 3) := by decide +kernel
theorem dX11_isClient_13 : decode cX11_isClient 13 = .ok (.ireturn, 1) := by decide +kernel
theorem dX11_isWish_0 : decode cX11_isWish 0 = .ok (.iload_n 1, 1) := by decide +kernel
theorem dX11_isWish_1 : decode cX11_isWish 1 = .ok (.iconst 0, 1) := by decide +kernel
theorem dX11_isWish_2 : decode cX11_isWish 2 = .ok (.aload_n 0, 1) := by decide +kernel
theorem dX11_isWish_3 : decode cX11_isWish 3 = .ok (.getfield 7, 3) := by decide +kernel
theorem dX11_isWish_6 : decode cX11_isWish 6 = .ok (.iconst 2, 1) := by decide +kernel
theorem dX11_isWish_7 : decode cX11_isWish 7 = .ok (.iaload, 1) := by decide +kernel
theorem dX11_isWish_8 : decode cX11_isWish 8 = .ok (.iconst 1, 1) := by decide +kernel
theorem dX11_isWish_9 : decode cX11_isWish 9 = .ok (.isub, 1) := by decide +kernel
theorem dX11_isWish_10 : decode cX11_isWish 10 = .ok (.invokestatic 41, 3) := by decide +kernel
theorem dX11_isWish_13 : decode cX11_isWish 13 = .ok (.ireturn, 1) := by decide +kernel
theorem dX11_areNeighbours_0 : decode cX11_areNeighbours 0 = .ok (.aload_n 0, 1) := by decide +kernel
theorem dX11_areNeighbours_1 : decode cX11_areNeighbours 1 = .ok (.iload_n 1, 1) := by decide +kernel
theorem dX11_areNeighbours_2 : decode cX11_areNeighbours 2 = .ok (.invokevirtual 45, 3) := by decide +kernel
theorem dX11_areNeighbours_5 : decode cX11_areNeighbours 5 = .ok (.ifCond .eq 41, 3) := by decide +kernel
theorem dX11_areNeighbours_8 : decode cX11_areNeighbours 8 = .ok (.aload_n 0, 1) := by decide +kernel
theorem dX11_areNeighbours_9 : decode cX11_areNeighbours 9 = .ok (.iload_n 2, 1) := by decide +kernel
theorem dX11_areNeighbours_10 : decode cX11_areNeighbours 10 = .ok (.invokevirtual 45, 3) := by decide +kernel
theorem dX11_areNeighbours_13 : decode cX11_areNeighbours 13 = .ok (.ifCond .eq 33, 3) := by decide +kernel
theorem dX11_areNeighbours_16 : decode cX11_areNeighbours 16 = .ok (.aload_n 0, 1) := by decide +kernel
theorem dX11_areNeighbours_17 : decode cX11_areNeighbours 17 = .ok (.getfield 7, 3) := by decide +kernel
theorem dX11_areNeighbours_20 : decode cX11_areNeighbours 20 = .ok (.bipush 8, 2) := by decide +kernel
theorem dX11_areNeighbours_22 : decode cX11_areNeighbours 22 = .ok (.iload_n 1, 1) := by decide +kernel
theorem dX11_areNeighbours_23 : decode cX11_areNeighbours 23 = .ok (.iadd, 1) := by decide +kernel
theorem dX11_areNeighbours_24 : decode cX11_areNeighbours 24 = .ok (.iaload, 1) := by decide +kernel
theorem dX11_areNeighbours_25 : decode cX11_areNeighbours 25 = .ok (.iload_n 2, 1) := by decide +kernel
theorem dX11_areNeighbours_26 : decode cX11_areNeighbours 26 = .ok (.if_icmp .eq 16, 3) := by decide +kernel
theorem dX11_areNeighbours_29 : decode cX11_areNeighbours 29 = .ok (.aload_n 0, 1) := by decide +kernel
theorem dX11_areNeighbours_30 : decode cX11_areNeighbours 30 = .ok (.getfield 7, 3) := by decide +kernel
theorem dX11_areNeighbours_33 : decode cX11_areNeighbours 33 = .ok (.bipush 8, 2) := by decide +kernel
theorem dX11_areNeighbours_35 : decode cX11_areNeighbours 35 = .ok (.iload_n 2, 1) := by decide +kernel
theorem dX11_areNeighbours_36 : decode cX11_areNeighbours 36 = .ok (.iadd, 1) := by decide +kernel
theorem dX11_areNeighbours_37 : decode cX11_areNeighbours 37 = .ok (.iaload, 1) := by decide +kernel
theorem dX11_areNeighbours_38 : decode cX11_areNeighbours 38 = .ok (.iload_n 1, 1) := by decide +kernel
theorem dX11_areNeighbours_39 : decode cX11_areNeighbours 39 = .ok (.if_icmp .ne 7, 3) := by decide +kernel
theorem dX11_areNeighbours_42 : decode cX11_areNeighbours 42 = .ok (.iconst 1, 1) := by decide +kernel
theorem dX11_areNeighbours_43 : decode cX11_areNeighbours 43 = .ok (.goto 4, 3) := by decide +kernel
theorem dX11_areNeighbours_46 : decode cX11_areNeighbours 46 = .ok (.iconst 0, 1) := by decide +kernel
theorem dX11_areNeighbours_47 : decode cX11_areNeighbours 47 = .ok (.ireturn, 1) := by decide +kernel
theorem dX11_at_0 : decode cX11_at 0 = .ok (.aload_n 0, 1) := by decide +kernel
theorem dX11_at_1 : decode cX11_at 1 = .ok (.getfield 35, 3) := by decide +kernel
theorem dX11_at_4 : decode cX11_at 4 = .ok (.bipush 6, 2) := by decide +kernel
theorem dX11_at_6 : decode cX11_at 6 = .ok (.iload_n 1, 1) := by decide +kernel
theorem dX11_at_7 : decode cX11_at 7 = .ok (.imul, 1) := by decide +kernel
theorem dX11_at_8 : decode cX11_at 8 = .ok (.iload_n 2, 1) := by decide +kernel
theorem dX11_at_9 : decode cX11_at 9 = .ok (.iadd, 1) := by decide +kernel
theorem dX11_at_10 : decode cX11_at 10 = .ok (.iaload, 1) := by decide +kernel
theorem dX11_at_11 : decode cX11_at 11 = .ok (.ireturn, 1) := by decide +kernel
theorem dX11_spread_0 : decode cX11_spread 0 = .ok (.iload_n 1, 1) := by decide +kernel
theorem dX11_spread_1 : decode cX11_spread 1 = .ok (.iload_n 0, 1) := by decide +kernel
theorem dX11_spread_2 : decode cX11_spread 2 = .ok (.if_icmp .ge 7, 3) := by decide +kernel
theorem dX11_spread_5 : decode cX11_spread 5 = .ok (.iconst 0, 1) := by decide +kernel
theorem dX11_spread_6 : decode cX11_spread 6 = .ok (.goto 8, 3) := by decide +kernel
theorem dX11_spread_9 : decode cX11_spread 9 = .ok (.iload_n 1, 1) := by decide +kernel
theorem dX11_spread_10 : decode cX11_spread 10 = .ok (.iload_n 0, 1) := by decide +kernel
theorem dX11_spread_11 : decode cX11_spread 11 = .ok (.isub, 1) := by decide +kernel
theorem dX11_spread_12 : decode cX11_spread 12 = .ok (.iconst 1, 1) := by decide +kernel
theorem dX11_spread_13 : decode cX11_spread 13 = .ok (.iadd, 1) := by decide +kernel
theorem dX11_spread_14 : decode cX11_spread 14 = .ok (.ireturn, 1) := by decide +kernel
theorem dX11_sizeOf_0 : decode cX11_sizeOf 0 = .ok (.aload_n 0, 1) := by decide +kernel
theorem dX11_sizeOf_1 : decode cX11_sizeOf 1 = .ok (.iload_n 1, 1) := by decide +kernel
theorem dX11_sizeOf_2 : decode cX11_sizeOf 2 = .ok (.iconst 0, 1) := by decide +kernel
theorem dX11_sizeOf_3 : decode cX11_sizeOf 3 = .ok (.invokevirtual 49, 3) := by decide +kernel
theorem dX11_sizeOf_6 : decode cX11_sizeOf 6 = .ok (.aload_n 0, 1) := by decide +kernel
theorem dX11_sizeOf_7 : decode cX11_sizeOf 7 = .ok (.iload_n 1, 1) := by decide +kernel
theorem dX11_sizeOf_8 : decode cX11_sizeOf 8 = .ok (.iconst 1, 1) := by decide +kernel
theorem dX11_sizeOf_9 : decode cX11_sizeOf 9 = .ok (.invokevirtual 49, 3) := by decide +kernel
theorem dX11_sizeOf_12 : decode cX11_sizeOf 12 = .ok (.invokestatic 53, 3) := by decide +kernel
theorem dX11_sizeOf_15 : decode cX11_sizeOf 15 = .ok (.aload_n 0, 1) := by decide +kernel
theorem dX11_sizeOf_16 : decode cX11_sizeOf 16 = .ok (.iload_n 1, 1) := by decide +kernel
theorem dX11_sizeOf_17 : decode cX11_sizeOf 17 = .ok (.iconst 2, 1) := by decide +kernel
theorem dX11_sizeOf_18 : decode cX11_sizeOf 18 = .ok (.invokevirtual 49, 3) := by decide +kernel
theorem dX11_sizeOf_21 : decode cX11_sizeOf 21 = .ok (.aload_n 0, 1) := by decide +kernel
theorem dX11_sizeOf_22 : decode cX11_sizeOf 22 = .ok (.iload_n 1, 1) := by decide +kernel
theorem dX11_sizeOf_23 : decode cX11_sizeOf 23 = .ok (.iconst 3, 1) := by decide +kernel
theorem dX11_sizeOf_24 : decode cX11_sizeOf 24 = .ok (.invokevirtual 49, 3) := by decide +kernel
theorem dX11_sizeOf_27 : decode cX11_sizeOf 27 = .ok (.invokestatic 53, 3) := by decide +kernel
theorem dX11_sizeOf_30 : decode cX11_sizeOf 30 = .ok (.imul, 1) := by decide +kernel
theorem dX11_sizeOf_31 : decode cX11_sizeOf 31 = .ok (.aload_n 0, 1) := by decide +kernel
theorem dX11_sizeOf_32 : decode cX11_sizeOf 32 = .ok (.iload_n 1, 1) := by decide +kernel
theorem dX11_sizeOf_33 : decode cX11_sizeOf 33 = .ok (.iconst 4, 1) := by decide +kernel
theorem dX11_sizeOf_34 : decode cX11_sizeOf 34 = .ok (.invokevirtual 49, 3) := by decide +kernel
theorem dX11_sizeOf_37 : decode cX11_sizeOf 37 = .ok (.aload_n 0, 1) := by decide +kernel
theorem dX11_sizeOf_38 : decode cX11_sizeOf 38 = .ok (.iload_n 1, 1) := by decide +kernel
theorem dX11_sizeOf_39 : decode cX11_sizeOf 39 = .ok (.iconst 5, 1) := by decide +kernel
theorem dX11_sizeOf_40 : decode cX11_sizeOf 40 = .ok (.invokevirtual 49, 3) := by decide +kernel
theorem dX11_sizeOf_43 : decode cX11_sizeOf 43 = .ok (.invokestatic 53, 3) := by decide +kernel
theorem dX11_sizeOf_46 : decode cX11_sizeOf 46 = .ok (.imul, 1) := by decide +kernel
theorem dX11_sizeOf_47 : decode cX11_sizeOf 47 = .ok (.ireturn, 1) := by decide +kernel
theorem dX11_covers_0 : decode cX11_covers 0 = .ok (.iconst 1, 1) := by decide +kernel
theorem dX11_covers_1 : decode cX11_covers 1 = .ok (.istore_n 3, 1) := by decide +kernel
theorem dX11_covers_2 : decode cX11_covers 2 = .ok (.iconst 0, 1) := by decide +kernel
theorem dX11_covers_3 : decode cX11_covers 3 = .ok (.istore 4, 2) := by decide +kernel
theorem dX11_covers_5 : decode cX11_covers 5 = .ok (.iload 4, 2) := by decide +kernel
theorem dX11_covers_7 : decode cX11_covers 7 = .ok (.bipush 6, 2) := by decide +kernel
theorem dX11_covers_9 : decode cX11_covers 9 = .ok (.if_icmp .ge 57, 3) := by decide +kernel
theorem dX11_covers_12 : decode cX11_covers 12 = .ok (.iload_n 3, 1) := by decide +kernel
theorem dX11_covers_13 : decode cX11_covers 13 = .ok (.ifCond .eq 45, 3) := by decide +kernel
theorem dX11_covers_16 : decode cX11_covers 16 = .ok (.aload_n 0, 1) := by decide +kernel
theorem dX11_covers_17 : decode cX11_covers 17 = .ok (.iload_n 1, 1) := by decide +kernel
theorem dX11_covers_18 : decode cX11_covers 18 = .ok (.iload 4, 2) := by decide +kernel
theorem dX11_covers_20 : decode cX11_covers 20 = .ok (.invokevirtual 49, 3) := by decide +kernel
theorem dX11_covers_23 : decode cX11_covers 23 = .ok (.aload_n 0, 1) := by decide +kernel
theorem dX11_covers_24 : decode cX11_covers 24 = .ok (.iload_n 2, 1) := by decide +kernel
theorem dX11_covers_25 : decode cX11_covers 25 = .ok (.iload 4, 2) := by decide +kernel
theorem dX11_covers_27 : decode cX11_covers 27 = .ok (.invokevirtual 49, 3) := by decide +kernel
theorem dX11_covers_30 : decode cX11_covers 30 = .ok (.if_icmp .gt 28, 3) := by decide +kernel
theorem dX11_covers_33 : decode cX11_covers 33 = .ok (.aload_n 0, 1) := by decide +kernel
theorem dX11_covers_34 : decode cX11_covers 34 = .ok (.iload_n 1, 1) := by decide +kernel
theorem dX11_covers_35 : decode cX11_covers 35 = .ok (.iload 4, 2) := by decide +kernel
theorem dX11_covers_37 : decode cX11_covers 37 = .ok (.iconst 1, 1) := by decide +kernel
theorem dX11_covers_38 : decode cX11_covers 38 = .ok (.iadd, 1) := by decide +kernel
theorem dX11_covers_39 : decode cX11_covers 39 = .ok (.invokevirtual 49, 3) := by decide +kernel
theorem dX11_covers_42 : decode cX11_covers 42 = .ok (.aload_n 0, 1) := by decide +kernel
theorem dX11_covers_43 : decode cX11_covers 43 = .ok (.iload_n 2, 1) := by decide +kernel
theorem dX11_covers_44 : decode cX11_covers 44 = .ok (.iload 4, 2) := by decide +kernel
theorem dX11_covers_46 : decode cX11_covers 46 = .ok (.iconst 1, 1) := by decide +kernel
theorem dX11_covers_47 : decode cX11_covers 47 = .ok (.iadd, 1) := by decide +kernel
theorem dX11_covers_48 : decode cX11_covers 48 = .ok (.invokevirtual 49, 3) := by decide +kernel
theorem dX11_covers_51 : decode cX11_covers 51 = .ok (.if_icmp .lt 7, 3) := by decide +kernel
theorem dX11_covers_54 : decode cX11_covers 54 = .ok (.iconst 1, 1) := by decide +kernel
theorem dX11_covers_55 : decode cX11_covers 55 = .ok (.goto 4, 3) := by decide +kernel
theorem dX11_covers_58 : decode cX11_covers 58 = .ok (.iconst 0, 1) := by decide +kernel
theorem dX11_covers_59 : decode cX11_covers 59 = .ok (.istore_n 3, 1) := by decide +kernel
theorem dX11_covers_60 : decode cX11_covers 60 = .ok (.iinc 4 2, 3) := by decide +kernel
theorem dX11_covers_63 : decode cX11_covers 63 = .ok (.goto (-58), 3) := by decide +kernel
theorem dX11_covers_66 : decode cX11_covers 66 = .ok (.iload_n 3, 1) := by decide +kernel
theorem dX11_covers_67 : decode cX11_covers 67 = .ok (.ireturn, 1) := by decide +kernel
theorem dX11_shared_0 : decode cX11_shared 0 = .ok (.iconst 1, 1) := by decide +kernel
theorem dX11_shared_1 : decode cX11_shared 1 = .ok (.istore_n 3, 1) := by decide +kernel
theorem dX11_shared_2 : decode cX11_shared 2 = .ok (.iconst 0, 1) := by decide +kernel
theorem dX11_shared_3 : decode cX11_shared 3 = .ok (.istore 4, 2) := by decide +kernel
theorem dX11_shared_5 : decode cX11_shared 5 = .ok (.iload 4, 2) := by decide +kernel
theorem dX11_shared_7 : decode cX11_shared 7 = .ok (.bipush 6, 2) := by decide +kernel
theorem dX11_shared_9 : decode cX11_shared 9 = .ok (.if_icmp .ge 99, 3) := by decide +kernel
theorem dX11_shared_12 : decode cX11_shared 12 = .ok (.aload_n 0, 1) := by decide +kernel
theorem dX11_shared_13 : decode cX11_shared 13 = .ok (.iload_n 1, 1) := by decide +kernel
theorem dX11_shared_14 : decode cX11_shared 14 = .ok (.iload 4, 2) := by decide +kernel
theorem dX11_shared_16 : decode cX11_shared 16 = .ok (.invokevirtual 49, 3) := by decide +kernel
theorem dX11_shared_19 : decode cX11_shared 19 = .ok (.aload_n 0, 1) := by decide +kernel
theorem dX11_shared_20 : decode cX11_shared 20 = .ok (.iload_n 2, 1) := by decide +kernel
theorem dX11_shared_21 : decode cX11_shared 21 = .ok (.iload 4, 2) := by decide +kernel
theorem dX11_shared_23 : decode cX11_shared 23 = .ok (.invokevirtual 49, 3) := by decide +kernel
theorem dX11_shared_26 : decode cX11_shared 26 = .ok (.if_icmp .le 13, 3) := by decide +kernel
theorem dX11_shared_29 : decode cX11_shared 29 = .ok (.aload_n 0, 1) := by decide +kernel
theorem dX11_shared_30 : decode cX11_shared 30 = .ok (.iload_n 1, 1) := by decide +kernel
theorem dX11_shared_31 : decode cX11_shared 31 = .ok (.iload 4, 2) := by decide +kernel
theorem dX11_shared_33 : decode cX11_shared 33 = .ok (.invokevirtual 49, 3) := by decide +kernel
theorem dX11_shared_36 : decode cX11_shared 36 = .ok (.goto 10, 3) := by decide +kernel
theorem dX11_shared_39 : decode cX11_shared 39 = .ok (.aload_n 0, 1) := by decide +kernel
theorem dX11_shared_40 : decode cX11_shared 40 = .ok (.iload_n 2, 1) := by decide +kernel
theorem dX11_shared_41 : decode cX11_shared 41 = .ok (.iload 4, 2) := by decide +kernel
theorem dX11_shared_43 : decode cX11_shared 43 = .ok (.invokevirtual 49, 3) := by decide +kernel
theorem dX11_shared_46 : decode cX11_shared 46 = .ok (.istore 5, 2) := by decide +kernel
theorem dX11_shared_48 : decode cX11_shared 48 = .ok (.aload_n 0, 1) := by decide +kernel
theorem dX11_shared_49 : decode cX11_shared 49 = .ok (.iload_n 1, 1) := by decide +kernel
theorem dX11_shared_50 : decode cX11_shared 50 = .ok (.iload 4, 2) := by decide +kernel
theorem dX11_shared_52 : decode cX11_shared 52 = .ok (.iconst 1, 1) := by decide +kernel
theorem dX11_shared_53 : decode cX11_shared 53 = .ok (.iadd, 1) := by decide +kernel
theorem dX11_shared_54 : decode cX11_shared 54 = .ok (.invokevirtual 49, 3) := by decide +kernel
theorem dX11_shared_57 : decode cX11_shared 57 = .ok (.aload_n 0, 1) := by decide +kernel
theorem dX11_shared_58 : decode cX11_shared 58 = .ok (.iload_n 2, 1) := by decide +kernel
theorem dX11_shared_59 : decode cX11_shared 59 = .ok (.iload 4, 2) := by decide +kernel
theorem dX11_shared_61 : decode cX11_shared 61 = .ok (.iconst 1, 1) := by decide +kernel
theorem dX11_shared_62 : decode cX11_shared 62 = .ok (.iadd, 1) := by decide +kernel
theorem dX11_shared_63 : decode cX11_shared 63 = .ok (.invokevirtual 49, 3) := by decide +kernel
theorem dX11_shared_66 : decode cX11_shared 66 = .ok (.if_icmp .ge 15, 3) := by decide +kernel
theorem dX11_shared_69 : decode cX11_shared 69 = .ok (.aload_n 0, 1) := by decide +kernel
theorem dX11_shared_70 : decode cX11_shared 70 = .ok (.iload_n 1, 1) := by decide +kernel
theorem dX11_shared_71 : decode cX11_shared 71 = .ok (.iload 4, 2) := by decide +kernel
theorem dX11_shared_73 : decode cX11_shared 73 = .ok (.iconst 1, 1) := by decide +kernel
theorem dX11_shared_74 : decode cX11_shared 74 = .ok (.iadd, 1) := by decide +kernel
theorem dX11_shared_75 : decode cX11_shared 75 = .ok (.invokevirtual 49, 3) := by decide +kernel
theorem dX11_shared_78 : decode cX11_shared 78 = .ok (.goto 12, 3) := by decide +kernel
theorem dX11_shared_81 : decode cX11_shared 81 = .ok (.aload_n 0, 1) := by decide +kernel
theorem dX11_shared_82 : decode cX11_shared 82 = .ok (.iload_n 2, 1) := by decide +kernel
theorem dX11_shared_83 : decode cX11_shared 83 = .ok (.iload 4, 2) := by decide +kernel
theorem dX11_shared_85 : decode cX11_shared 85 = .ok (.iconst 1, 1) := by decide +kernel
theorem dX11_shared_86 : decode cX11_shared 86 = .ok (.iadd, 1) := by decide +kernel
theorem dX11_shared_87 : decode cX11_shared 87 = .ok (.invokevirtual 49, 3) := by decide +kernel
theorem dX11_shared_90 : decode cX11_shared 90 = .ok (.istore 6, 2) := by decide +kernel
theorem dX11_shared_92 : decode cX11_shared 92 = .ok (.iload_n 3, 1) := by decide +kernel
theorem dX11_shared_93 : decode cX11_shared 93 = .ok (.iload 5, 2) := by decide +kernel
theorem dX11_shared_95 : decode cX11_shared 95 = .ok (.iload 6, 2) := by decide +kernel
theorem dX11_shared_97 : decode cX11_shared 97 = .ok (.invokestatic 53, 3) := by decide +kernel
theorem dX11_shared_100 : decode cX11_shared 100 = .ok (.imul, 1) := by decide +kernel
theorem dX11_shared_101 : decode cX11_shared 101 = .ok (.istore_n 3, 1) := by decide +kernel
theorem dX11_shared_102 : decode cX11_shared 102 = .ok (.iinc 4 2, 3) := by decide +kernel
theorem dX11_shared_105 : decode cX11_shared 105 = .ok (.goto (-100), 3) := by decide +kernel
theorem dX11_shared_108 : decode cX11_shared 108 = .ok (.iload_n 3, 1) := by decide +kernel
theorem dX11_shared_109 : decode cX11_shared 109 = .ok (.ireturn, 1) := by decide +kernel
theorem dX11_order_0 : decode cX11_order 0 = .ok (.iconst 0, 1) := by decide +kernel
theorem dX11_order_1 : decode cX11_order 1 = .ok (.istore_n 3, 1) := by decide +kernel
theorem dX11_order_2 : decode cX11_order 2 = .ok (.iconst 5, 1) := by decide +kernel
theorem dX11_order_3 : decode cX11_order 3 = .ok (.istore 4, 2) := by decide +kernel
theorem dX11_order_5 : decode cX11_order 5 = .ok (.iload 4, 2) := by decide +kernel
theorem dX11_order_7 : decode cX11_order 7 = .ok (.ifCond .lt 46, 3) := by decide +kernel
theorem dX11_order_10 : decode cX11_order 10 = .ok (.aload_n 0, 1) := by decide +kernel
theorem dX11_order_11 : decode cX11_order 11 = .ok (.iload_n 1, 1) := by decide +kernel
theorem dX11_order_12 : decode cX11_order 12 = .ok (.iload 4, 2) := by decide +kernel
theorem dX11_order_14 : decode cX11_order 14 = .ok (.invokevirtual 49, 3) := by decide +kernel
theorem dX11_order_17 : decode cX11_order 17 = .ok (.aload_n 0, 1) := by decide +kernel
theorem dX11_order_18 : decode cX11_order 18 = .ok (.iload_n 2, 1) := by decide +kernel
theorem dX11_order_19 : decode cX11_order 19 = .ok (.iload 4, 2) := by decide +kernel
theorem dX11_order_21 : decode cX11_order 21 = .ok (.invokevirtual 49, 3) := by decide +kernel
theorem dX11_order_24 : decode cX11_order 24 = .ok (.if_icmp .eq 21, 3) := by decide +kernel
theorem dX11_order_27 : decode cX11_order 27 = .ok (.aload_n 0, 1) := by decide +kernel
theorem dX11_order_28 : decode cX11_order 28 = .ok (.iload_n 1, 1) := by decide +kernel
theorem dX11_order_29 : decode cX11_order 29 = .ok (.iload 4, 2) := by decide +kernel
theorem dX11_order_31 : decode cX11_order 31 = .ok (.invokevirtual 49, 3) := by decide +kernel
theorem dX11_order_34 : decode cX11_order 34 = .ok (.aload_n 0, 1) := by decide +kernel
theorem dX11_order_35 : decode cX11_order 35 = .ok (.iload_n 2, 1) := by decide +kernel
theorem dX11_order_36 : decode cX11_order 36 = .ok (.iload 4, 2) := by decide +kernel
theorem dX11_order_38 : decode cX11_order 38 = .ok (.invokevirtual 49, 3) := by decide +kernel
theorem dX11_order_41 : decode cX11_order 41 = .ok (.isub, 1) := by decide +kernel
theorem dX11_order_42 : decode cX11_order 42 = .ok (.goto 4, 3) := by decide +kernel
theorem dX11_order_45 : decode cX11_order 45 = .ok (.iload_n 3, 1) := by decide +kernel
theorem dX11_order_46 : decode cX11_order 46 = .ok (.istore_n 3, 1) := by decide +kernel
theorem dX11_order_47 : decode cX11_order 47 = .ok (.iinc 4 (-1), 3) := by decide +kernel
theorem dX11_order_50 : decode cX11_order 50 = .ok (.goto (-45), 3) := by decide +kernel
theorem dX11_order_53 : decode cX11_order 53 = .ok (.iload_n 3, 1) := by decide +kernel
theorem dX11_order_54 : decode cX11_order 54 = .ok (.ireturn, 1) := by decide +kernel
theorem dX11_copies_0 : decode cX11_copies 0 = .ok (.iconst 0, 1) := by decide +kernel
theorem dX11_copies_1 : decode cX11_copies 1 = .ok (.istore_n 3, 1) := by decide +kernel
theorem dX11_copies_2 : decode cX11_copies 2 = .ok (.iload_n 3, 1) := by decide +kernel
theorem dX11_copies_3 : decode cX11_copies 3 = .ok (.bipush 6, 2) := by decide +kernel
theorem dX11_copies_5 : decode cX11_copies 5 = .ok (.if_icmp .ge 31, 3) := by decide +kernel
theorem dX11_copies_8 : decode cX11_copies 8 = .ok (.aload_n 0, 1) := by decide +kernel
theorem dX11_copies_9 : decode cX11_copies 9 = .ok (.getfield 35, 3) := by decide +kernel
theorem dX11_copies_12 : decode cX11_copies 12 = .ok (.bipush 6, 2) := by decide +kernel
theorem dX11_copies_14 : decode cX11_copies 14 = .ok (.iload_n 1, 1) := by decide +kernel
theorem dX11_copies_15 : decode cX11_copies 15 = .ok (.imul, 1) := by decide +kernel
theorem dX11_copies_16 : decode cX11_copies 16 = .ok (.iload_n 3, 1) := by decide +kernel
theorem dX11_copies_17 : decode cX11_copies 17 = .ok (.iadd, 1) := by decide +kernel
theorem dX11_copies_18 : decode cX11_copies 18 = .ok (.aload_n 0, 1) := by decide +kernel
theorem dX11_copies_19 : decode cX11_copies 19 = .ok (.getfield 35, 3) := by decide +kernel
theorem dX11_copies_22 : decode cX11_copies 22 = .ok (.bipush 6, 2) := by decide +kernel
theorem dX11_copies_24 : decode cX11_copies 24 = .ok (.iload_n 2, 1) := by decide +kernel
theorem dX11_copies_25 : decode cX11_copies 25 = .ok (.imul, 1) := by decide +kernel
theorem dX11_copies_26 : decode cX11_copies 26 = .ok (.iload_n 3, 1) := by decide +kernel
theorem dX11_copies_27 : decode cX11_copies 27 = .ok (.iadd, 1) := by decide +kernel
theorem dX11_copies_28 : decode cX11_copies 28 = .ok (.iaload, 1) := by decide +kernel
theorem dX11_copies_29 : decode cX11_copies 29 = .ok (.iastore, 1) := by decide +kernel
theorem dX11_copies_30 : decode cX11_copies 30 = .ok (.iinc 3 1, 3) := by decide +kernel
theorem dX11_copies_33 : decode cX11_copies 33 = .ok (.goto (-31), 3) := by decide +kernel
theorem dX11_copies_36 : decode cX11_copies 36 = .ok (.return_, 1) := by decide +kernel
theorem dX11_settles_0 : decode cX11_settles 0 = .ok (.aload_n 0, 1) := by decide +kernel
theorem dX11_settles_1 : decode cX11_settles 1 = .ok (.getfield 56, 3) := by decide +kernel
theorem dX11_settles_4 : decode cX11_settles 4 = .ok (.iconst 1, 1) := by decide +kernel
theorem dX11_settles_5 : decode cX11_settles 5 = .ok (.isub, 1) := by decide +kernel
theorem dX11_settles_6 : decode cX11_settles 6 = .ok (.istore_n 1, 1) := by decide +kernel
theorem dX11_settles_7 : decode cX11_settles 7 = .ok (.iload_n 1, 1) := by decide +kernel
theorem dX11_settles_8 : decode cX11_settles 8 = .ok (.ifCond .le 75, 3) := by decide +kernel
theorem dX11_settles_11 : decode cX11_settles 11 = .ok (.aload_n 0, 1) := by decide +kernel
theorem dX11_settles_12 : decode cX11_settles 12 = .ok (.iload_n 1, 1) := by decide +kernel
theorem dX11_settles_13 : decode cX11_settles 13 = .ok (.iconst 1, 1) := by decide +kernel
theorem dX11_settles_14 : decode cX11_settles 14 = .ok (.isub, 1) := by decide +kernel
theorem dX11_settles_15 : decode cX11_settles 15 = .ok (.iload_n 1, 1) := by decide +kernel
theorem dX11_settles_16 : decode cX11_settles 16 = .ok (.invokevirtual 60, 3) := by decide +kernel
theorem dX11_settles_19 : decode cX11_settles 19 = .ok (.ifCond .le 64, 3) := by decide +kernel
theorem dX11_settles_22 : decode cX11_settles 22 = .ok (.iconst 0, 1) := by decide +kernel
theorem dX11_settles_23 : decode cX11_settles 23 = .ok (.istore_n 2, 1) := by decide +kernel
theorem dX11_settles_24 : decode cX11_settles 24 = .ok (.iload_n 2, 1) := by decide +kernel
theorem dX11_settles_25 : decode cX11_settles 25 = .ok (.bipush 6, 2) := by decide +kernel
theorem dX11_settles_27 : decode cX11_settles 27 = .ok (.if_icmp .ge 50, 3) := by decide +kernel
theorem dX11_settles_30 : decode cX11_settles 30 = .ok (.aload_n 0, 1) := by decide +kernel
theorem dX11_settles_31 : decode cX11_settles 31 = .ok (.iload_n 1, 1) := by decide +kernel
theorem dX11_settles_32 : decode cX11_settles 32 = .ok (.iload_n 2, 1) := by decide +kernel
theorem dX11_settles_33 : decode cX11_settles 33 = .ok (.invokevirtual 49, 3) := by decide +kernel
theorem dX11_settles_36 : decode cX11_settles 36 = .ok (.istore_n 3, 1) := by decide +kernel
theorem dX11_settles_37 : decode cX11_settles 37 = .ok (.aload_n 0, 1) := by decide +kernel
theorem dX11_settles_38 : decode cX11_settles 38 = .ok (.getfield 35, 3) := by decide +kernel
theorem dX11_settles_41 : decode cX11_settles 41 = .ok (.bipush 6, 2) := by decide +kernel
theorem dX11_settles_43 : decode cX11_settles 43 = .ok (.iload_n 1, 1) := by decide +kernel
theorem dX11_settles_44 : decode cX11_settles 44 = .ok (.imul, 1) := by decide +kernel
theorem dX11_settles_45 : decode cX11_settles 45 = .ok (.iload_n 2, 1) := by decide +kernel
theorem dX11_settles_46 : decode cX11_settles 46 = .ok (.iadd, 1) := by decide +kernel
theorem dX11_settles_47 : decode cX11_settles 47 = .ok (.aload_n 0, 1) := by decide +kernel
theorem dX11_settles_48 : decode cX11_settles 48 = .ok (.iload_n 1, 1) := by decide +kernel
theorem dX11_settles_49 : decode cX11_settles 49 = .ok (.iconst 1, 1) := by decide +kernel
theorem dX11_settles_50 : decode cX11_settles 50 = .ok (.isub, 1) := by decide +kernel
theorem dX11_settles_51 : decode cX11_settles 51 = .ok (.iload_n 2, 1) := by decide +kernel
theorem dX11_settles_52 : decode cX11_settles 52 = .ok (.invokevirtual 49, 3) := by decide +kernel
theorem dX11_settles_55 : decode cX11_settles 55 = .ok (.iastore, 1) := by decide +kernel
theorem dX11_settles_56 : decode cX11_settles 56 = .ok (.aload_n 0, 1) := by decide +kernel
theorem dX11_settles_57 : decode cX11_settles 57 = .ok (.getfield 35, 3) := by decide +kernel
theorem dX11_settles_60 : decode cX11_settles 60 = .ok (.bipush 6, 2) := by decide +kernel
theorem dX11_settles_62 : decode cX11_settles 62 = .ok (.iload_n 1, 1) := by decide +kernel
theorem dX11_settles_63 : decode cX11_settles 63 = .ok (.imul, 1) := by decide +kernel
theorem dX11_settles_64 : decode cX11_settles 64 = .ok (.bipush 6, 2) := by decide +kernel
theorem dX11_settles_66 : decode cX11_settles 66 = .ok (.isub, 1) := by decide +kernel
theorem dX11_settles_67 : decode cX11_settles 67 = .ok (.iload_n 2, 1) := by decide +kernel
theorem dX11_settles_68 : decode cX11_settles 68 = .ok (.iadd, 1) := by decide +kernel
theorem dX11_settles_69 : decode cX11_settles 69 = .ok (.iload_n 3, 1) := by decide +kernel
theorem dX11_settles_70 : decode cX11_settles 70 = .ok (.iastore, 1) := by decide +kernel
theorem dX11_settles_71 : decode cX11_settles 71 = .ok (.iinc 2 1, 3) := by decide +kernel
theorem dX11_settles_74 : decode cX11_settles 74 = .ok (.goto (-50), 3) := by decide +kernel
theorem dX11_settles_77 : decode cX11_settles 77 = .ok (.iinc 1 (-1), 3) := by decide +kernel
theorem dX11_settles_80 : decode cX11_settles 80 = .ok (.goto (-73), 3) := by decide +kernel
theorem dX11_settles_83 : decode cX11_settles 83 = .ok (.return_, 1) := by decide +kernel
theorem dX11_comes_0 : decode cX11_comes 0 = .ok (.aload_n 0, 1) := by decide +kernel
theorem dX11_comes_1 : decode cX11_comes 1 = .ok (.getfield 56, 3) := by decide +kernel
theorem dX11_comes_4 : decode cX11_comes 4 = .ok (.istore_n 1, 1) := by decide +kernel
theorem dX11_comes_5 : decode cX11_comes 5 = .ok (.iconst 1, 1) := by decide +kernel
theorem dX11_comes_6 : decode cX11_comes 6 = .ok (.istore_n 2, 1) := by decide +kernel
theorem dX11_comes_7 : decode cX11_comes 7 = .ok (.iconst 0, 1) := by decide +kernel
theorem dX11_comes_8 : decode cX11_comes 8 = .ok (.istore_n 3, 1) := by decide +kernel
theorem dX11_comes_9 : decode cX11_comes 9 = .ok (.iload_n 3, 1) := by decide +kernel
theorem dX11_comes_10 : decode cX11_comes 10 = .ok (.iload_n 1, 1) := by decide +kernel
theorem dX11_comes_11 : decode cX11_comes 11 = .ok (.if_icmp .ge 28, 3) := by decide +kernel
theorem dX11_comes_14 : decode cX11_comes 14 = .ok (.iload_n 2, 1) := by decide +kernel
theorem dX11_comes_15 : decode cX11_comes 15 = .ok (.ifCond .eq 16, 3) := by decide +kernel
theorem dX11_comes_18 : decode cX11_comes 18 = .ok (.aload_n 0, 1) := by decide +kernel
theorem dX11_comes_19 : decode cX11_comes 19 = .ok (.iload_n 3, 1) := by decide +kernel
theorem dX11_comes_20 : decode cX11_comes 20 = .ok (.iload_n 1, 1) := by decide +kernel
theorem dX11_comes_21 : decode cX11_comes 21 = .ok (.invokevirtual 67, 3) := by decide +kernel
theorem dX11_comes_24 : decode cX11_comes 24 = .ok (.ifCond .ne 7, 3) := by decide +kernel
theorem dX11_comes_27 : decode cX11_comes 27 = .ok (.iconst 1, 1) := by decide +kernel
theorem dX11_comes_28 : decode cX11_comes 28 = .ok (.goto 4, 3) := by decide +kernel
theorem dX11_comes_31 : decode cX11_comes 31 = .ok (.iconst 0, 1) := by decide +kernel
theorem dX11_comes_32 : decode cX11_comes 32 = .ok (.istore_n 2, 1) := by decide +kernel
theorem dX11_comes_33 : decode cX11_comes 33 = .ok (.iinc 3 1, 3) := by decide +kernel
theorem dX11_comes_36 : decode cX11_comes 36 = .ok (.goto (-27), 3) := by decide +kernel
theorem dX11_comes_39 : decode cX11_comes 39 = .ok (.iload_n 2, 1) := by decide +kernel
theorem dX11_comes_40 : decode cX11_comes 40 = .ok (.ifCond .ne 4, 3) := by decide +kernel
theorem dX11_comes_43 : decode cX11_comes 43 = .ok (.return_, 1) := by decide +kernel
theorem dX11_comes_44 : decode cX11_comes 44 = .ok (.iconst 0, 1) := by decide +kernel
theorem dX11_comes_45 : decode cX11_comes 45 = .ok (.istore_n 3, 1) := by decide +kernel
theorem dX11_comes_46 : decode cX11_comes 46 = .ok (.iconst 0, 1) := by decide +kernel
theorem dX11_comes_47 : decode cX11_comes 47 = .ok (.istore 4, 2) := by decide +kernel
theorem dX11_comes_49 : decode cX11_comes 49 = .ok (.iload 4, 2) := by decide +kernel
theorem dX11_comes_51 : decode cX11_comes 51 = .ok (.iload_n 1, 1) := by decide +kernel
theorem dX11_comes_52 : decode cX11_comes 52 = .ok (.if_icmp .ge 29, 3) := by decide +kernel
theorem dX11_comes_55 : decode cX11_comes 55 = .ok (.aload_n 0, 1) := by decide +kernel
theorem dX11_comes_56 : decode cX11_comes 56 = .ok (.iload_n 1, 1) := by decide +kernel
theorem dX11_comes_57 : decode cX11_comes 57 = .ok (.iload 4, 2) := by decide +kernel
theorem dX11_comes_59 : decode cX11_comes 59 = .ok (.invokevirtual 67, 3) := by decide +kernel
theorem dX11_comes_62 : decode cX11_comes 62 = .ok (.ifCond .ne 13, 3) := by decide +kernel
theorem dX11_comes_65 : decode cX11_comes 65 = .ok (.aload_n 0, 1) := by decide +kernel
theorem dX11_comes_66 : decode cX11_comes 66 = .ok (.iload_n 3, 1) := by decide +kernel
theorem dX11_comes_67 : decode cX11_comes 67 = .ok (.iload 4, 2) := by decide +kernel
theorem dX11_comes_69 : decode cX11_comes 69 = .ok (.invokevirtual 63, 3) := by decide +kernel
theorem dX11_comes_72 : decode cX11_comes 72 = .ok (.iinc 3 1, 3) := by decide +kernel
theorem dX11_comes_75 : decode cX11_comes 75 = .ok (.iinc 4 1, 3) := by decide +kernel
theorem dX11_comes_78 : decode cX11_comes 78 = .ok (.goto (-29), 3) := by decide +kernel
theorem dX11_comes_81 : decode cX11_comes 81 = .ok (.aload_n 0, 1) := by decide +kernel
theorem dX11_comes_82 : decode cX11_comes 82 = .ok (.iload_n 3, 1) := by decide +kernel
theorem dX11_comes_83 : decode cX11_comes 83 = .ok (.iload_n 1, 1) := by decide +kernel
theorem dX11_comes_84 : decode cX11_comes 84 = .ok (.invokevirtual 63, 3) := by decide +kernel
theorem dX11_comes_87 : decode cX11_comes 87 = .ok (.aload_n 0, 1) := by decide +kernel
theorem dX11_comes_88 : decode cX11_comes 88 = .ok (.iload_n 3, 1) := by decide +kernel
theorem dX11_comes_89 : decode cX11_comes 89 = .ok (.iconst 1, 1) := by decide +kernel
theorem dX11_comes_90 : decode cX11_comes 90 = .ok (.iadd, 1) := by decide +kernel
theorem dX11_comes_91 : decode cX11_comes 91 = .ok (.putfield 56, 3) := by decide +kernel
theorem dX11_comes_94 : decode cX11_comes 94 = .ok (.aload_n 0, 1) := by decide +kernel
theorem dX11_comes_95 : decode cX11_comes 95 = .ok (.invokevirtual 71, 3) := by decide +kernel
theorem dX11_comes_98 : decode cX11_comes 98 = .ok (.return_, 1) := by decide +kernel
theorem dX11_wasteOf_0 : decode cX11_wasteOf 0 = .ok (.iconst 1, 1) := by decide +kernel
theorem dX11_wasteOf_1 : decode cX11_wasteOf 1 = .ok (.istore_n 3, 1) := by decide +kernel
theorem dX11_wasteOf_2 : decode cX11_wasteOf 2 = .ok (.iconst 0, 1) := by decide +kernel
theorem dX11_wasteOf_3 : decode cX11_wasteOf 3 = .ok (.istore 4, 2) := by decide +kernel
theorem dX11_wasteOf_5 : decode cX11_wasteOf 5 = .ok (.iload 4, 2) := by decide +kernel
theorem dX11_wasteOf_7 : decode cX11_wasteOf 7 = .ok (.bipush 6, 2) := by decide +kernel
theorem dX11_wasteOf_9 : decode cX11_wasteOf 9 = .ok (.if_icmp .ge 119, 3) := by decide +kernel
theorem dX11_wasteOf_12 : decode cX11_wasteOf 12 = .ok (.aload_n 0, 1) := by decide +kernel
theorem dX11_wasteOf_13 : decode cX11_wasteOf 13 = .ok (.iload_n 1, 1) := by decide +kernel
theorem dX11_wasteOf_14 : decode cX11_wasteOf 14 = .ok (.iload 4, 2) := by decide +kernel
theorem dX11_wasteOf_16 : decode cX11_wasteOf 16 = .ok (.invokevirtual 49, 3) := by decide +kernel
theorem dX11_wasteOf_19 : decode cX11_wasteOf 19 = .ok (.aload_n 0, 1) := by decide +kernel
theorem dX11_wasteOf_20 : decode cX11_wasteOf 20 = .ok (.iload_n 2, 1) := by decide +kernel
theorem dX11_wasteOf_21 : decode cX11_wasteOf 21 = .ok (.iload 4, 2) := by decide +kernel
theorem dX11_wasteOf_23 : decode cX11_wasteOf 23 = .ok (.invokevirtual 49, 3) := by decide +kernel
theorem dX11_wasteOf_26 : decode cX11_wasteOf 26 = .ok (.if_icmp .ge 13, 3) := by decide +kernel
theorem dX11_wasteOf_29 : decode cX11_wasteOf 29 = .ok (.aload_n 0, 1) := by decide +kernel
theorem dX11_wasteOf_30 : decode cX11_wasteOf 30 = .ok (.iload_n 1, 1) := by decide +kernel
theorem dX11_wasteOf_31 : decode cX11_wasteOf 31 = .ok (.iload 4, 2) := by decide +kernel
theorem dX11_wasteOf_33 : decode cX11_wasteOf 33 = .ok (.invokevirtual 49, 3) := by decide +kernel
theorem dX11_wasteOf_36 : decode cX11_wasteOf 36 = .ok (.goto 10, 3) := by decide +kernel
theorem dX11_wasteOf_39 : decode cX11_wasteOf 39 = .ok (.aload_n 0, 1) := by decide +kernel
theorem dX11_wasteOf_40 : decode cX11_wasteOf 40 = .ok (.iload_n 2, 1) := by decide +kernel
theorem dX11_wasteOf_41 : decode cX11_wasteOf 41 = .ok (.iload 4, 2) := by decide +kernel
theorem dX11_wasteOf_43 : decode cX11_wasteOf 43 = .ok (.invokevirtual 49, 3) := by decide +kernel
theorem dX11_wasteOf_46 : decode cX11_wasteOf 46 = .ok (.istore 5, 2) := by decide +kernel
theorem dX11_wasteOf_48 : decode cX11_wasteOf 48 = .ok (.aload_n 0, 1) := by decide +kernel
theorem dX11_wasteOf_49 : decode cX11_wasteOf 49 = .ok (.iload_n 1, 1) := by decide +kernel
theorem dX11_wasteOf_50 : decode cX11_wasteOf 50 = .ok (.iload 4, 2) := by decide +kernel
theorem dX11_wasteOf_52 : decode cX11_wasteOf 52 = .ok (.iconst 1, 1) := by decide +kernel
theorem dX11_wasteOf_53 : decode cX11_wasteOf 53 = .ok (.iadd, 1) := by decide +kernel
theorem dX11_wasteOf_54 : decode cX11_wasteOf 54 = .ok (.invokevirtual 49, 3) := by decide +kernel
theorem dX11_wasteOf_57 : decode cX11_wasteOf 57 = .ok (.aload_n 0, 1) := by decide +kernel
theorem dX11_wasteOf_58 : decode cX11_wasteOf 58 = .ok (.iload_n 2, 1) := by decide +kernel
theorem dX11_wasteOf_59 : decode cX11_wasteOf 59 = .ok (.iload 4, 2) := by decide +kernel
theorem dX11_wasteOf_61 : decode cX11_wasteOf 61 = .ok (.iconst 1, 1) := by decide +kernel
theorem dX11_wasteOf_62 : decode cX11_wasteOf 62 = .ok (.iadd, 1) := by decide +kernel
theorem dX11_wasteOf_63 : decode cX11_wasteOf 63 = .ok (.invokevirtual 49, 3) := by decide +kernel
theorem dX11_wasteOf_66 : decode cX11_wasteOf 66 = .ok (.if_icmp .le 15, 3) := by decide +kernel
theorem dX11_wasteOf_69 : decode cX11_wasteOf 69 = .ok (.aload_n 0, 1) := by decide +kernel
theorem dX11_wasteOf_70 : decode cX11_wasteOf 70 = .ok (.iload_n 1, 1) := by decide +kernel
theorem dX11_wasteOf_71 : decode cX11_wasteOf 71 = .ok (.iload 4, 2) := by decide +kernel
theorem dX11_wasteOf_73 : decode cX11_wasteOf 73 = .ok (.iconst 1, 1) := by decide +kernel
theorem dX11_wasteOf_74 : decode cX11_wasteOf 74 = .ok (.iadd, 1) := by decide +kernel
theorem dX11_wasteOf_75 : decode cX11_wasteOf 75 = .ok (.invokevirtual 49, 3) := by decide +kernel
theorem dX11_wasteOf_78 : decode cX11_wasteOf 78 = .ok (.goto 12, 3) := by decide +kernel
theorem dX11_wasteOf_81 : decode cX11_wasteOf 81 = .ok (.aload_n 0, 1) := by decide +kernel
theorem dX11_wasteOf_82 : decode cX11_wasteOf 82 = .ok (.iload_n 2, 1) := by decide +kernel
theorem dX11_wasteOf_83 : decode cX11_wasteOf 83 = .ok (.iload 4, 2) := by decide +kernel
theorem dX11_wasteOf_85 : decode cX11_wasteOf 85 = .ok (.iconst 1, 1) := by decide +kernel
theorem dX11_wasteOf_86 : decode cX11_wasteOf 86 = .ok (.iadd, 1) := by decide +kernel
theorem dX11_wasteOf_87 : decode cX11_wasteOf 87 = .ok (.invokevirtual 49, 3) := by decide +kernel
theorem dX11_wasteOf_90 : decode cX11_wasteOf 90 = .ok (.istore 6, 2) := by decide +kernel
theorem dX11_wasteOf_92 : decode cX11_wasteOf 92 = .ok (.aload_n 0, 1) := by decide +kernel
theorem dX11_wasteOf_93 : decode cX11_wasteOf 93 = .ok (.getfield 38, 3) := by decide +kernel
theorem dX11_wasteOf_96 : decode cX11_wasteOf 96 = .ok (.iload 4, 2) := by decide +kernel
theorem dX11_wasteOf_98 : decode cX11_wasteOf 98 = .ok (.iload 5, 2) := by decide +kernel
theorem dX11_wasteOf_100 : decode cX11_wasteOf 100 = .ok (.iastore, 1) := by decide +kernel
theorem dX11_wasteOf_101 : decode cX11_wasteOf 101 = .ok (.aload_n 0, 1) := by decide +kernel
theorem dX11_wasteOf_102 : decode cX11_wasteOf 102 = .ok (.getfield 38, 3) := by decide +kernel
theorem dX11_wasteOf_105 : decode cX11_wasteOf 105 = .ok (.iload 4, 2) := by decide +kernel
theorem dX11_wasteOf_107 : decode cX11_wasteOf 107 = .ok (.iconst 1, 1) := by decide +kernel
theorem dX11_wasteOf_108 : decode cX11_wasteOf 108 = .ok (.iadd, 1) := by decide +kernel
theorem dX11_wasteOf_109 : decode cX11_wasteOf 109 = .ok (.iload 6, 2) := by decide +kernel
theorem dX11_wasteOf_111 : decode cX11_wasteOf 111 = .ok (.iastore, 1) := by decide +kernel
theorem dX11_wasteOf_112 : decode cX11_wasteOf 112 = .ok (.iload_n 3, 1) := by decide +kernel
theorem dX11_wasteOf_113 : decode cX11_wasteOf 113 = .ok (.iload 5, 2) := by decide +kernel
theorem dX11_wasteOf_115 : decode cX11_wasteOf 115 = .ok (.iload 6, 2) := by decide +kernel
theorem dX11_wasteOf_117 : decode cX11_wasteOf 117 = .ok (.invokestatic 53, 3) := by decide +kernel
theorem dX11_wasteOf_120 : decode cX11_wasteOf 120 = .ok (.imul, 1) := by decide +kernel
theorem dX11_wasteOf_121 : decode cX11_wasteOf 121 = .ok (.istore_n 3, 1) := by decide +kernel
theorem dX11_wasteOf_122 : decode cX11_wasteOf 122 = .ok (.iinc 4 2, 3) := by decide +kernel
theorem dX11_wasteOf_125 : decode cX11_wasteOf 125 = .ok (.goto (-120), 3) := by decide +kernel
theorem dX11_wasteOf_128 : decode cX11_wasteOf 128 = .ok (.iload_n 3, 1) := by decide +kernel
theorem dX11_wasteOf_129 : decode cX11_wasteOf 129 = .ok (.aload_n 0, 1) := by decide +kernel
theorem dX11_wasteOf_130 : decode cX11_wasteOf 130 = .ok (.iload_n 1, 1) := by decide +kernel
theorem dX11_wasteOf_131 : decode cX11_wasteOf 131 = .ok (.invokevirtual 74, 3) := by decide +kernel
theorem dX11_wasteOf_134 : decode cX11_wasteOf 134 = .ok (.isub, 1) := by decide +kernel
theorem dX11_wasteOf_135 : decode cX11_wasteOf 135 = .ok (.aload_n 0, 1) := by decide +kernel
theorem dX11_wasteOf_136 : decode cX11_wasteOf 136 = .ok (.iload_n 2, 1) := by decide +kernel
theorem dX11_wasteOf_137 : decode cX11_wasteOf 137 = .ok (.invokevirtual 74, 3) := by decide +kernel
theorem dX11_wasteOf_140 : decode cX11_wasteOf 140 = .ok (.isub, 1) := by decide +kernel
theorem dX11_wasteOf_141 : decode cX11_wasteOf 141 = .ok (.aload_n 0, 1) := by decide +kernel
theorem dX11_wasteOf_142 : decode cX11_wasteOf 142 = .ok (.iload_n 1, 1) := by decide +kernel
theorem dX11_wasteOf_143 : decode cX11_wasteOf 143 = .ok (.iload_n 2, 1) := by decide +kernel
theorem dX11_wasteOf_144 : decode cX11_wasteOf 144 = .ok (.invokevirtual 78, 3) := by decide +kernel
theorem dX11_wasteOf_147 : decode cX11_wasteOf 147 = .ok (.iadd, 1) := by decide +kernel
theorem dX11_wasteOf_148 : decode cX11_wasteOf 148 = .ok (.ireturn, 1) := by decide +kernel
theorem dX11_joins_0 : decode cX11_joins 0 = .ok (.iconst (-1), 1) := by decide +kernel
theorem dX11_joins_1 : decode cX11_joins 1 = .ok (.istore_n 1, 1) := by decide +kernel
theorem dX11_joins_2 : decode cX11_joins 2 = .ok (.iconst 0, 1) := by decide +kernel
theorem dX11_joins_3 : decode cX11_joins 3 = .ok (.istore_n 2, 1) := by decide +kernel
theorem dX11_joins_4 : decode cX11_joins 4 = .ok (.iconst 1, 1) := by decide +kernel
theorem dX11_joins_5 : decode cX11_joins 5 = .ok (.istore_n 3, 1) := by decide +kernel
theorem dX11_joins_6 : decode cX11_joins 6 = .ok (.iconst 0, 1) := by decide +kernel
theorem dX11_joins_7 : decode cX11_joins 7 = .ok (.istore 4, 2) := by decide +kernel
theorem dX11_joins_9 : decode cX11_joins 9 = .ok (.iload 4, 2) := by decide +kernel
theorem dX11_joins_11 : decode cX11_joins 11 = .ok (.aload_n 0, 1) := by decide +kernel
theorem dX11_joins_12 : decode cX11_joins 12 = .ok (.getfield 56, 3) := by decide +kernel
theorem dX11_joins_15 : decode cX11_joins 15 = .ok (.if_icmp .ge 60, 3) := by decide +kernel
theorem dX11_joins_18 : decode cX11_joins 18 = .ok (.iload 4, 2) := by decide +kernel
theorem dX11_joins_20 : decode cX11_joins 20 = .ok (.iconst 1, 1) := by decide +kernel
theorem dX11_joins_21 : decode cX11_joins 21 = .ok (.iadd, 1) := by decide +kernel
theorem dX11_joins_22 : decode cX11_joins 22 = .ok (.istore 5, 2) := by decide +kernel
theorem dX11_joins_24 : decode cX11_joins 24 = .ok (.iload 5, 2) := by decide +kernel
theorem dX11_joins_26 : decode cX11_joins 26 = .ok (.aload_n 0, 1) := by decide +kernel
theorem dX11_joins_27 : decode cX11_joins 27 = .ok (.getfield 56, 3) := by decide +kernel
theorem dX11_joins_30 : decode cX11_joins 30 = .ok (.if_icmp .ge 39, 3) := by decide +kernel
theorem dX11_joins_33 : decode cX11_joins 33 = .ok (.aload_n 0, 1) := by decide +kernel
theorem dX11_joins_34 : decode cX11_joins 34 = .ok (.iload 4, 2) := by decide +kernel
theorem dX11_joins_36 : decode cX11_joins 36 = .ok (.iload 5, 2) := by decide +kernel
theorem dX11_joins_38 : decode cX11_joins 38 = .ok (.invokevirtual 81, 3) := by decide +kernel
theorem dX11_joins_41 : decode cX11_joins 41 = .ok (.istore 6, 2) := by decide +kernel
theorem dX11_joins_43 : decode cX11_joins 43 = .ok (.iload_n 1, 1) := by decide +kernel
theorem dX11_joins_44 : decode cX11_joins 44 = .ok (.iconst (-1), 1) := by decide +kernel
theorem dX11_joins_45 : decode cX11_joins 45 = .ok (.if_icmp .eq 9, 3) := by decide +kernel
theorem dX11_joins_48 : decode cX11_joins 48 = .ok (.iload 6, 2) := by decide +kernel
theorem dX11_joins_50 : decode cX11_joins 50 = .ok (.iload_n 1, 1) := by decide +kernel
theorem dX11_joins_51 : decode cX11_joins 51 = .ok (.if_icmp .ge 12, 3) := by decide +kernel
theorem dX11_joins_54 : decode cX11_joins 54 = .ok (.iload 6, 2) := by decide +kernel
theorem dX11_joins_56 : decode cX11_joins 56 = .ok (.istore_n 1, 1) := by decide +kernel
theorem dX11_joins_57 : decode cX11_joins 57 = .ok (.iload 4, 2) := by decide +kernel
theorem dX11_joins_59 : decode cX11_joins 59 = .ok (.istore_n 2, 1) := by decide +kernel
theorem dX11_joins_60 : decode cX11_joins 60 = .ok (.iload 5, 2) := by decide +kernel
theorem dX11_joins_62 : decode cX11_joins 62 = .ok (.istore_n 3, 1) := by decide +kernel
theorem dX11_joins_63 : decode cX11_joins 63 = .ok (.iinc 5 1, 3) := by decide +kernel
theorem dX11_joins_66 : decode cX11_joins 66 = .ok (.goto (-42), 3) := by decide +kernel
theorem dX11_joins_69 : decode cX11_joins 69 = .ok (.iinc 4 1, 3) := by decide +kernel
theorem dX11_joins_72 : decode cX11_joins 72 = .ok (.goto (-63), 3) := by decide +kernel
theorem dX11_joins_75 : decode cX11_joins 75 = .ok (.aload_n 0, 1) := by decide +kernel
theorem dX11_joins_76 : decode cX11_joins 76 = .ok (.iload_n 2, 1) := by decide +kernel
theorem dX11_joins_77 : decode cX11_joins 77 = .ok (.iload_n 3, 1) := by decide +kernel
theorem dX11_joins_78 : decode cX11_joins 78 = .ok (.invokevirtual 81, 3) := by decide +kernel
theorem dX11_joins_81 : decode cX11_joins 81 = .ok (.pop, 1) := by decide +kernel
theorem dX11_joins_82 : decode cX11_joins 82 = .ok (.iconst 0, 1) := by decide +kernel
theorem dX11_joins_83 : decode cX11_joins 83 = .ok (.istore 4, 2) := by decide +kernel
theorem dX11_joins_85 : decode cX11_joins 85 = .ok (.iload 4, 2) := by decide +kernel
theorem dX11_joins_87 : decode cX11_joins 87 = .ok (.bipush 6, 2) := by decide +kernel
theorem dX11_joins_89 : decode cX11_joins 89 = .ok (.if_icmp .ge 31, 3) := by decide +kernel
theorem dX11_joins_92 : decode cX11_joins 92 = .ok (.aload_n 0, 1) := by decide +kernel
theorem dX11_joins_93 : decode cX11_joins 93 = .ok (.getfield 35, 3) := by decide +kernel
theorem dX11_joins_96 : decode cX11_joins 96 = .ok (.bipush 6, 2) := by decide +kernel
theorem dX11_joins_98 : decode cX11_joins 98 = .ok (.aload_n 0, 1) := by decide +kernel
theorem dX11_joins_99 : decode cX11_joins 99 = .ok (.getfield 56, 3) := by decide +kernel
theorem dX11_joins_102 : decode cX11_joins 102 = .ok (.imul, 1) := by decide +kernel
theorem dX11_joins_103 : decode cX11_joins 103 = .ok (.iload 4, 2) := by decide +kernel
theorem dX11_joins_105 : decode cX11_joins 105 = .ok (.iadd, 1) := by decide +kernel
theorem dX11_joins_106 : decode cX11_joins 106 = .ok (.aload_n 0, 1) := by decide +kernel
theorem dX11_joins_107 : decode cX11_joins 107 = .ok (.getfield 38, 3) := by decide +kernel
theorem dX11_joins_110 : decode cX11_joins 110 = .ok (.iload 4, 2) := by decide +kernel
theorem dX11_joins_112 : decode cX11_joins 112 = .ok (.iaload, 1) := by decide +kernel
theorem dX11_joins_113 : decode cX11_joins 113 = .ok (.iastore, 1) := by decide +kernel
theorem dX11_joins_114 : decode cX11_joins 114 = .ok (.iinc 4 1, 3) := by decide +kernel
theorem dX11_joins_117 : decode cX11_joins 117 = .ok (.goto (-32), 3) := by decide +kernel
theorem dX11_joins_120 : decode cX11_joins 120 = .ok (.aload_n 0, 1) := by decide +kernel
theorem dX11_joins_121 : decode cX11_joins 121 = .ok (.invokevirtual 84, 3) := by decide +kernel
theorem dX11_joins_124 : decode cX11_joins 124 = .ok (.return_, 1) := by decide +kernel
theorem dX11_gathersWishes_0 : decode cX11_gathersWishes 0 = .ok (.iconst 0, 1) := by decide +kernel
theorem dX11_gathersWishes_1 : decode cX11_gathersWishes 1 = .ok (.istore_n 2, 1) := by decide +kernel
theorem dX11_gathersWishes_2 : decode cX11_gathersWishes 2 = .ok (.iload_n 2, 1) := by decide +kernel
theorem dX11_gathersWishes_3 : decode cX11_gathersWishes 3 = .ok (.aload_n 0, 1) := by decide +kernel
theorem dX11_gathersWishes_4 : decode cX11_gathersWishes 4 = .ok (.getfield 7, 3) := by decide +kernel
theorem dX11_gathersWishes_7 : decode cX11_gathersWishes 7 = .ok (.iconst 2, 1) := by decide +kernel
theorem dX11_gathersWishes_8 : decode cX11_gathersWishes 8 = .ok (.iaload, 1) := by decide +kernel
theorem dX11_gathersWishes_9 : decode cX11_gathersWishes 9 = .ok (.if_icmp .ge 64, 3) := by decide +kernel
theorem dX11_gathersWishes_12 : decode cX11_gathersWishes 12 = .ok (.aload_n 0, 1) := by decide +kernel
theorem dX11_gathersWishes_13 : decode cX11_gathersWishes 13 = .ok (.aload_n 0, 1) := by decide +kernel
theorem dX11_gathersWishes_14 : decode cX11_gathersWishes 14 = .ok (.iload_n 2, 1) := by decide +kernel
theorem dX11_gathersWishes_15 : decode cX11_gathersWishes 15 = .ok (.iconst 0, 1) := by decide +kernel
theorem dX11_gathersWishes_16 : decode cX11_gathersWishes 16 = .ok (.invokevirtual 87, 3) := by decide +kernel
theorem dX11_gathersWishes_19 : decode cX11_gathersWishes 19 = .ok (.iconst 0, 1) := by decide +kernel
theorem dX11_gathersWishes_20 : decode cX11_gathersWishes 20 = .ok (.invokevirtual 90, 3) := by decide +kernel
theorem dX11_gathersWishes_23 : decode cX11_gathersWishes 23 = .ok (.iload_n 1, 1) := by decide +kernel
theorem dX11_gathersWishes_24 : decode cX11_gathersWishes 24 = .ok (.if_icmp .ne 43, 3) := by decide +kernel
theorem dX11_gathersWishes_27 : decode cX11_gathersWishes 27 = .ok (.iconst 0, 1) := by decide +kernel
theorem dX11_gathersWishes_28 : decode cX11_gathersWishes 28 = .ok (.istore_n 3, 1) := by decide +kernel
theorem dX11_gathersWishes_29 : decode cX11_gathersWishes 29 = .ok (.iload_n 3, 1) := by decide +kernel
theorem dX11_gathersWishes_30 : decode cX11_gathersWishes 30 = .ok (.bipush 6, 2) := by decide +kernel
theorem dX11_gathersWishes_32 : decode cX11_gathersWishes 32 = .ok (.if_icmp .ge 31, 3) := by decide +kernel
theorem dX11_gathersWishes_35 : decode cX11_gathersWishes 35 = .ok (.aload_n 0, 1) := by decide +kernel
theorem dX11_gathersWishes_36 : decode cX11_gathersWishes 36 = .ok (.getfield 35, 3) := by decide +kernel
theorem dX11_gathersWishes_39 : decode cX11_gathersWishes 39 = .ok (.bipush 6, 2) := by decide +kernel
theorem dX11_gathersWishes_41 : decode cX11_gathersWishes 41 = .ok (.aload_n 0, 1) := by decide +kernel
theorem dX11_gathersWishes_42 : decode cX11_gathersWishes 42 = .ok (.getfield 56, 3) := by decide +kernel
theorem dX11_gathersWishes_45 : decode cX11_gathersWishes 45 = .ok (.imul, 1) := by decide +kernel
theorem dX11_gathersWishes_46 : decode cX11_gathersWishes 46 = .ok (.iload_n 3, 1) := by decide +kernel
theorem dX11_gathersWishes_47 : decode cX11_gathersWishes 47 = .ok (.iadd, 1) := by decide +kernel
theorem dX11_gathersWishes_48 : decode cX11_gathersWishes 48 = .ok (.aload_n 0, 1) := by decide +kernel
theorem dX11_gathersWishes_49 : decode cX11_gathersWishes 49 = .ok (.iload_n 2, 1) := by decide +kernel
theorem dX11_gathersWishes_50 : decode cX11_gathersWishes 50 = .ok (.iconst 1, 1) := by decide +kernel
theorem dX11_gathersWishes_51 : decode cX11_gathersWishes 51 = .ok (.iload_n 3, 1) := by decide +kernel
theorem dX11_gathersWishes_52 : decode cX11_gathersWishes 52 = .ok (.iadd, 1) := by decide +kernel
theorem dX11_gathersWishes_53 : decode cX11_gathersWishes 53 = .ok (.invokevirtual 87, 3) := by decide +kernel
theorem dX11_gathersWishes_56 : decode cX11_gathersWishes 56 = .ok (.iastore, 1) := by decide +kernel
theorem dX11_gathersWishes_57 : decode cX11_gathersWishes 57 = .ok (.iinc 3 1, 3) := by decide +kernel
theorem dX11_gathersWishes_60 : decode cX11_gathersWishes 60 = .ok (.goto (-31), 3) := by decide +kernel
theorem dX11_gathersWishes_63 : decode cX11_gathersWishes 63 = .ok (.aload_n 0, 1) := by decide +kernel
theorem dX11_gathersWishes_64 : decode cX11_gathersWishes 64 = .ok (.invokevirtual 84, 3) := by decide +kernel
theorem dX11_gathersWishes_67 : decode cX11_gathersWishes 67 = .ok (.iinc 2 1, 3) := by decide +kernel
theorem dX11_gathersWishes_70 : decode cX11_gathersWishes 70 = .ok (.goto (-68), 3) := by decide +kernel
theorem dX11_gathersWishes_73 : decode cX11_gathersWishes 73 = .ok (.return_, 1) := by decide +kernel
theorem dX11_gathersLink_0 : decode cX11_gathersLink 0 = .ok (.iconst 0, 1) := by decide +kernel
theorem dX11_gathersLink_1 : decode cX11_gathersLink 1 = .ok (.istore_n 2, 1) := by decide +kernel
theorem dX11_gathersLink_2 : decode cX11_gathersLink 2 = .ok (.iload_n 2, 1) := by decide +kernel
theorem dX11_gathersLink_3 : decode cX11_gathersLink 3 = .ok (.aload_n 0, 1) := by decide +kernel
theorem dX11_gathersLink_4 : decode cX11_gathersLink 4 = .ok (.getfield 29, 3) := by decide +kernel
theorem dX11_gathersLink_7 : decode cX11_gathersLink 7 = .ok (.iload_n 1, 1) := by decide +kernel
theorem dX11_gathersLink_8 : decode cX11_gathersLink 8 = .ok (.iaload, 1) := by decide +kernel
theorem dX11_gathersLink_9 : decode cX11_gathersLink 9 = .ok (.if_icmp .ge 57, 3) := by decide +kernel
theorem dX11_gathersLink_12 : decode cX11_gathersLink 12 = .ok (.iconst 0, 1) := by decide +kernel
theorem dX11_gathersLink_13 : decode cX11_gathersLink 13 = .ok (.istore_n 3, 1) := by decide +kernel
theorem dX11_gathersLink_14 : decode cX11_gathersLink 14 = .ok (.iload_n 3, 1) := by decide +kernel
theorem dX11_gathersLink_15 : decode cX11_gathersLink 15 = .ok (.bipush 6, 2) := by decide +kernel
theorem dX11_gathersLink_17 : decode cX11_gathersLink 17 = .ok (.if_icmp .ge 39, 3) := by decide +kernel
theorem dX11_gathersLink_20 : decode cX11_gathersLink 20 = .ok (.aload_n 0, 1) := by decide +kernel
theorem dX11_gathersLink_21 : decode cX11_gathersLink 21 = .ok (.getfield 35, 3) := by decide +kernel
theorem dX11_gathersLink_24 : decode cX11_gathersLink 24 = .ok (.bipush 6, 2) := by decide +kernel
theorem dX11_gathersLink_26 : decode cX11_gathersLink 26 = .ok (.aload_n 0, 1) := by decide +kernel
theorem dX11_gathersLink_27 : decode cX11_gathersLink 27 = .ok (.getfield 56, 3) := by decide +kernel
theorem dX11_gathersLink_30 : decode cX11_gathersLink 30 = .ok (.imul, 1) := by decide +kernel
theorem dX11_gathersLink_31 : decode cX11_gathersLink 31 = .ok (.iload_n 3, 1) := by decide +kernel
theorem dX11_gathersLink_32 : decode cX11_gathersLink 32 = .ok (.iadd, 1) := by decide +kernel
theorem dX11_gathersLink_33 : decode cX11_gathersLink 33 = .ok (.aload_n 0, 1) := by decide +kernel
theorem dX11_gathersLink_34 : decode cX11_gathersLink 34 = .ok (.getfield 32, 3) := by decide +kernel
theorem dX11_gathersLink_37 : decode cX11_gathersLink 37 = .ok (.bipush 54, 2) := by decide +kernel
theorem dX11_gathersLink_39 : decode cX11_gathersLink 39 = .ok (.iload_n 1, 1) := by decide +kernel
theorem dX11_gathersLink_40 : decode cX11_gathersLink 40 = .ok (.imul, 1) := by decide +kernel
theorem dX11_gathersLink_41 : decode cX11_gathersLink 41 = .ok (.bipush 6, 2) := by decide +kernel
theorem dX11_gathersLink_43 : decode cX11_gathersLink 43 = .ok (.iload_n 2, 1) := by decide +kernel
theorem dX11_gathersLink_44 : decode cX11_gathersLink 44 = .ok (.imul, 1) := by decide +kernel
theorem dX11_gathersLink_45 : decode cX11_gathersLink 45 = .ok (.iadd, 1) := by decide +kernel
theorem dX11_gathersLink_46 : decode cX11_gathersLink 46 = .ok (.iload_n 3, 1) := by decide +kernel
theorem dX11_gathersLink_47 : decode cX11_gathersLink 47 = .ok (.iadd, 1) := by decide +kernel
theorem dX11_gathersLink_48 : decode cX11_gathersLink 48 = .ok (.iaload, 1) := by decide +kernel
theorem dX11_gathersLink_49 : decode cX11_gathersLink 49 = .ok (.iastore, 1) := by decide +kernel
theorem dX11_gathersLink_50 : decode cX11_gathersLink 50 = .ok (.iinc 3 1, 3) := by decide +kernel
theorem dX11_gathersLink_53 : decode cX11_gathersLink 53 = .ok (.goto (-39), 3) := by decide +kernel
theorem dX11_gathersLink_56 : decode cX11_gathersLink 56 = .ok (.aload_n 0, 1) := by decide +kernel
theorem dX11_gathersLink_57 : decode cX11_gathersLink 57 = .ok (.invokevirtual 84, 3) := by decide +kernel
theorem dX11_gathersLink_60 : decode cX11_gathersLink 60 = .ok (.iinc 2 1, 3) := by decide +kernel
theorem dX11_gathersLink_63 : decode cX11_gathersLink 63 = .ok (.goto (-61), 3) := by decide +kernel
theorem dX11_gathersLink_66 : decode cX11_gathersLink 66 = .ok (.return_, 1) := by decide +kernel
theorem dX11_linkOf_0 : decode cX11_linkOf 0 = .ok (.aload_n 0, 1) := by decide +kernel
theorem dX11_linkOf_1 : decode cX11_linkOf 1 = .ok (.getfield 7, 3) := by decide +kernel
theorem dX11_linkOf_4 : decode cX11_linkOf 4 = .ok (.bipush 8, 2) := by decide +kernel
theorem dX11_linkOf_6 : decode cX11_linkOf 6 = .ok (.iload_n 1, 1) := by decide +kernel
theorem dX11_linkOf_7 : decode cX11_linkOf 7 = .ok (.iadd, 1) := by decide +kernel
theorem dX11_linkOf_8 : decode cX11_linkOf 8 = .ok (.iaload, 1) := by decide +kernel
theorem dX11_linkOf_9 : decode cX11_linkOf 9 = .ok (.iload_n 2, 1) := by decide +kernel
theorem dX11_linkOf_10 : decode cX11_linkOf 10 = .ok (.if_icmp .ne 9, 3) := by decide +kernel
theorem dX11_linkOf_13 : decode cX11_linkOf 13 = .ok (.iconst 2, 1) := by decide +kernel
theorem dX11_linkOf_14 : decode cX11_linkOf 14 = .ok (.iload_n 1, 1) := by decide +kernel
theorem dX11_linkOf_15 : decode cX11_linkOf 15 = .ok (.imul, 1) := by decide +kernel
theorem dX11_linkOf_16 : decode cX11_linkOf 16 = .ok (.goto 8, 3) := by decide +kernel
theorem dX11_linkOf_19 : decode cX11_linkOf 19 = .ok (.iconst 2, 1) := by decide +kernel
theorem dX11_linkOf_20 : decode cX11_linkOf 20 = .ok (.iload_n 2, 1) := by decide +kernel
theorem dX11_linkOf_21 : decode cX11_linkOf 21 = .ok (.imul, 1) := by decide +kernel
theorem dX11_linkOf_22 : decode cX11_linkOf 22 = .ok (.iconst 1, 1) := by decide +kernel
theorem dX11_linkOf_23 : decode cX11_linkOf 23 = .ok (.iadd, 1) := by decide +kernel
theorem dX11_linkOf_24 : decode cX11_linkOf 24 = .ok (.ireturn, 1) := by decide +kernel
theorem dX11_laysLink_0 : decode cX11_laysLink 0 = .ok (.aload_n 0, 1) := by decide +kernel
theorem dX11_laysLink_1 : decode cX11_laysLink 1 = .ok (.iconst 0, 1) := by decide +kernel
theorem dX11_laysLink_2 : decode cX11_laysLink 2 = .ok (.putfield 56, 3) := by decide +kernel
theorem dX11_laysLink_5 : decode cX11_laysLink 5 = .ok (.aload_n 0, 1) := by decide +kernel
theorem dX11_laysLink_6 : decode cX11_laysLink 6 = .ok (.iload_n 1, 1) := by decide +kernel
theorem dX11_laysLink_7 : decode cX11_laysLink 7 = .ok (.invokevirtual 93, 3) := by decide +kernel
theorem dX11_laysLink_10 : decode cX11_laysLink 10 = .ok (.iconst 0, 1) := by decide +kernel
theorem dX11_laysLink_11 : decode cX11_laysLink 11 = .ok (.istore_n 3, 1) := by decide +kernel
theorem dX11_laysLink_12 : decode cX11_laysLink 12 = .ok (.iload_n 3, 1) := by decide +kernel
theorem dX11_laysLink_13 : decode cX11_laysLink 13 = .ok (.aload_n 0, 1) := by decide +kernel
theorem dX11_laysLink_14 : decode cX11_laysLink 14 = .ok (.getfield 7, 3) := by decide +kernel
theorem dX11_laysLink_17 : decode cX11_laysLink 17 = .ok (.iconst 0, 1) := by decide +kernel
theorem dX11_laysLink_18 : decode cX11_laysLink 18 = .ok (.iaload, 1) := by decide +kernel
theorem dX11_laysLink_19 : decode cX11_laysLink 19 = .ok (.if_icmp .ge 33, 3) := by decide +kernel
theorem dX11_laysLink_22 : decode cX11_laysLink 22 = .ok (.iload_n 3, 1) := by decide +kernel
theorem dX11_laysLink_23 : decode cX11_laysLink 23 = .ok (.iload_n 2, 1) := by decide +kernel
theorem dX11_laysLink_24 : decode cX11_laysLink 24 = .ok (.if_icmp .eq 22, 3) := by decide +kernel
theorem dX11_laysLink_27 : decode cX11_laysLink 27 = .ok (.aload_n 0, 1) := by decide +kernel
theorem dX11_laysLink_28 : decode cX11_laysLink 28 = .ok (.iload_n 3, 1) := by decide +kernel
theorem dX11_laysLink_29 : decode cX11_laysLink 29 = .ok (.iload_n 1, 1) := by decide +kernel
theorem dX11_laysLink_30 : decode cX11_laysLink 30 = .ok (.invokevirtual 97, 3) := by decide +kernel
theorem dX11_laysLink_33 : decode cX11_laysLink 33 = .ok (.ifCond .eq 13, 3) := by decide +kernel
theorem dX11_laysLink_36 : decode cX11_laysLink 36 = .ok (.aload_n 0, 1) := by decide +kernel
theorem dX11_laysLink_37 : decode cX11_laysLink 37 = .ok (.aload_n 0, 1) := by decide +kernel
theorem dX11_laysLink_38 : decode cX11_laysLink 38 = .ok (.iload_n 3, 1) := by decide +kernel
theorem dX11_laysLink_39 : decode cX11_laysLink 39 = .ok (.iload_n 1, 1) := by decide +kernel
theorem dX11_laysLink_40 : decode cX11_laysLink 40 = .ok (.invokevirtual 100, 3) := by decide +kernel
theorem dX11_laysLink_43 : decode cX11_laysLink 43 = .ok (.invokevirtual 103, 3) := by decide +kernel
theorem dX11_laysLink_46 : decode cX11_laysLink 46 = .ok (.iinc 3 1, 3) := by decide +kernel
theorem dX11_laysLink_49 : decode cX11_laysLink 49 = .ok (.goto (-37), 3) := by decide +kernel
theorem dX11_laysLink_52 : decode cX11_laysLink 52 = .ok (.aload_n 0, 1) := by decide +kernel
theorem dX11_laysLink_53 : decode cX11_laysLink 53 = .ok (.getfield 56, 3) := by decide +kernel
theorem dX11_laysLink_56 : decode cX11_laysLink 56 = .ok (.aload_n 0, 1) := by decide +kernel
theorem dX11_laysLink_57 : decode cX11_laysLink 57 = .ok (.getfield 7, 3) := by decide +kernel
theorem dX11_laysLink_60 : decode cX11_laysLink 60 = .ok (.iconst 3, 1) := by decide +kernel
theorem dX11_laysLink_61 : decode cX11_laysLink 61 = .ok (.iaload, 1) := by decide +kernel
theorem dX11_laysLink_62 : decode cX11_laysLink 62 = .ok (.if_icmp .le 10, 3) := by decide +kernel
theorem dX11_laysLink_65 : decode cX11_laysLink 65 = .ok (.aload_n 0, 1) := by decide +kernel
theorem dX11_laysLink_66 : decode cX11_laysLink 66 = .ok (.invokevirtual 106, 3) := by decide +kernel
theorem dX11_laysLink_69 : decode cX11_laysLink 69 = .ok (.goto (-17), 3) := by decide +kernel
theorem dX11_laysLink_72 : decode cX11_laysLink 72 = .ok (.aload_n 0, 1) := by decide +kernel
theorem dX11_laysLink_73 : decode cX11_laysLink 73 = .ok (.iload_n 1, 1) := by decide +kernel
theorem dX11_laysLink_74 : decode cX11_laysLink 74 = .ok (.iload_n 2, 1) := by decide +kernel
theorem dX11_laysLink_75 : decode cX11_laysLink 75 = .ok (.invokevirtual 100, 3) := by decide +kernel
theorem dX11_laysLink_78 : decode cX11_laysLink 78 = .ok (.istore_n 3, 1) := by decide +kernel
theorem dX11_laysLink_79 : decode cX11_laysLink 79 = .ok (.aload_n 0, 1) := by decide +kernel
theorem dX11_laysLink_80 : decode cX11_laysLink 80 = .ok (.getfield 29, 3) := by decide +kernel
theorem dX11_laysLink_83 : decode cX11_laysLink 83 = .ok (.iload_n 3, 1) := by decide +kernel
theorem dX11_laysLink_84 : decode cX11_laysLink 84 = .ok (.aload_n 0, 1) := by decide +kernel
theorem dX11_laysLink_85 : decode cX11_laysLink 85 = .ok (.getfield 56, 3) := by decide +kernel
theorem dX11_laysLink_88 : decode cX11_laysLink 88 = .ok (.iastore, 1) := by decide +kernel
theorem dX11_laysLink_89 : decode cX11_laysLink 89 = .ok (.iconst 0, 1) := by decide +kernel
theorem dX11_laysLink_90 : decode cX11_laysLink 90 = .ok (.istore 4, 2) := by decide +kernel
theorem dX11_laysLink_92 : decode cX11_laysLink 92 = .ok (.iload 4, 2) := by decide +kernel
theorem dX11_laysLink_94 : decode cX11_laysLink 94 = .ok (.bipush 6, 2) := by decide +kernel
theorem dX11_laysLink_96 : decode cX11_laysLink 96 = .ok (.aload_n 0, 1) := by decide +kernel
theorem dX11_laysLink_97 : decode cX11_laysLink 97 = .ok (.getfield 56, 3) := by decide +kernel
theorem dX11_laysLink_100 : decode cX11_laysLink 100 = .ok (.imul, 1) := by decide +kernel
theorem dX11_laysLink_101 : decode cX11_laysLink 101 = .ok (.if_icmp .ge 28, 3) := by decide +kernel
theorem dX11_laysLink_104 : decode cX11_laysLink 104 = .ok (.aload_n 0, 1) := by decide +kernel
theorem dX11_laysLink_105 : decode cX11_laysLink 105 = .ok (.getfield 32, 3) := by decide +kernel
theorem dX11_laysLink_108 : decode cX11_laysLink 108 = .ok (.bipush 54, 2) := by decide +kernel
theorem dX11_laysLink_110 : decode cX11_laysLink 110 = .ok (.iload_n 3, 1) := by decide +kernel
theorem dX11_laysLink_111 : decode cX11_laysLink 111 = .ok (.imul, 1) := by decide +kernel
theorem dX11_laysLink_112 : decode cX11_laysLink 112 = .ok (.iload 4, 2) := by decide +kernel
theorem dX11_laysLink_114 : decode cX11_laysLink 114 = .ok (.iadd, 1) := by decide +kernel
theorem dX11_laysLink_115 : decode cX11_laysLink 115 = .ok (.aload_n 0, 1) := by decide +kernel
theorem dX11_laysLink_116 : decode cX11_laysLink 116 = .ok (.getfield 35, 3) := by decide +kernel
theorem dX11_laysLink_119 : decode cX11_laysLink 119 = .ok (.iload 4, 2) := by decide +kernel
theorem dX11_laysLink_121 : decode cX11_laysLink 121 = .ok (.iaload, 1) := by decide +kernel
theorem dX11_laysLink_122 : decode cX11_laysLink 122 = .ok (.iastore, 1) := by decide +kernel
theorem dX11_laysLink_123 : decode cX11_laysLink 123 = .ok (.iinc 4 1, 3) := by decide +kernel
theorem dX11_laysLink_126 : decode cX11_laysLink 126 = .ok (.goto (-34), 3) := by decide +kernel
theorem dX11_laysLink_129 : decode cX11_laysLink 129 = .ok (.return_, 1) := by decide +kernel
theorem dX11_lays_0 : decode cX11_lays 0 = .ok (.aload_n 0, 1) := by decide +kernel
theorem dX11_lays_1 : decode cX11_lays 1 = .ok (.getfield 109, 3) := by decide +kernel
theorem dX11_lays_4 : decode cX11_lays 4 = .ok (.ifCond .eq 4, 3) := by decide +kernel
theorem dX11_lays_7 : decode cX11_lays 7 = .ok (.return_, 1) := by decide +kernel
theorem dX11_lays_8 : decode cX11_lays 8 = .ok (.aload_n 0, 1) := by decide +kernel
theorem dX11_lays_9 : decode cX11_lays 9 = .ok (.iconst 1, 1) := by decide +kernel
theorem dX11_lays_10 : decode cX11_lays 10 = .ok (.putfield 109, 3) := by decide +kernel
theorem dX11_lays_13 : decode cX11_lays 13 = .ok (.aload_n 0, 1) := by decide +kernel
theorem dX11_lays_14 : decode cX11_lays 14 = .ok (.getfield 7, 3) := by decide +kernel
theorem dX11_lays_17 : decode cX11_lays 17 = .ok (.iconst 0, 1) := by decide +kernel
theorem dX11_lays_18 : decode cX11_lays 18 = .ok (.iaload, 1) := by decide +kernel
theorem dX11_lays_19 : decode cX11_lays 19 = .ok (.iconst 1, 1) := by decide +kernel
theorem dX11_lays_20 : decode cX11_lays 20 = .ok (.isub, 1) := by decide +kernel
theorem dX11_lays_21 : decode cX11_lays 21 = .ok (.istore_n 1, 1) := by decide +kernel
theorem dX11_lays_22 : decode cX11_lays 22 = .ok (.iload_n 1, 1) := by decide +kernel
theorem dX11_lays_23 : decode cX11_lays 23 = .ok (.ifCond .le 23, 3) := by decide +kernel
theorem dX11_lays_26 : decode cX11_lays 26 = .ok (.aload_n 0, 1) := by decide +kernel
theorem dX11_lays_27 : decode cX11_lays 27 = .ok (.iload_n 1, 1) := by decide +kernel
theorem dX11_lays_28 : decode cX11_lays 28 = .ok (.aload_n 0, 1) := by decide +kernel
theorem dX11_lays_29 : decode cX11_lays 29 = .ok (.getfield 7, 3) := by decide +kernel
theorem dX11_lays_32 : decode cX11_lays 32 = .ok (.bipush 8, 2) := by decide +kernel
theorem dX11_lays_34 : decode cX11_lays 34 = .ok (.iload_n 1, 1) := by decide +kernel
theorem dX11_lays_35 : decode cX11_lays 35 = .ok (.iadd, 1) := by decide +kernel
theorem dX11_lays_36 : decode cX11_lays 36 = .ok (.iaload, 1) := by decide +kernel
theorem dX11_lays_37 : decode cX11_lays 37 = .ok (.invokevirtual 113, 3) := by decide +kernel
theorem dX11_lays_40 : decode cX11_lays 40 = .ok (.iinc 1 (-1), 3) := by decide +kernel
theorem dX11_lays_43 : decode cX11_lays 43 = .ok (.goto (-21), 3) := by decide +kernel
theorem dX11_lays_46 : decode cX11_lays 46 = .ok (.iconst 1, 1) := by decide +kernel
theorem dX11_lays_47 : decode cX11_lays 47 = .ok (.istore_n 1, 1) := by decide +kernel
theorem dX11_lays_48 : decode cX11_lays 48 = .ok (.iload_n 1, 1) := by decide +kernel
theorem dX11_lays_49 : decode cX11_lays 49 = .ok (.aload_n 0, 1) := by decide +kernel
theorem dX11_lays_50 : decode cX11_lays 50 = .ok (.getfield 7, 3) := by decide +kernel
theorem dX11_lays_53 : decode cX11_lays 53 = .ok (.iconst 0, 1) := by decide +kernel
theorem dX11_lays_54 : decode cX11_lays 54 = .ok (.iaload, 1) := by decide +kernel
theorem dX11_lays_55 : decode cX11_lays 55 = .ok (.if_icmp .ge 23, 3) := by decide +kernel
theorem dX11_lays_58 : decode cX11_lays 58 = .ok (.aload_n 0, 1) := by decide +kernel
theorem dX11_lays_59 : decode cX11_lays 59 = .ok (.aload_n 0, 1) := by decide +kernel
theorem dX11_lays_60 : decode cX11_lays 60 = .ok (.getfield 7, 3) := by decide +kernel
theorem dX11_lays_63 : decode cX11_lays 63 = .ok (.bipush 8, 2) := by decide +kernel
theorem dX11_lays_65 : decode cX11_lays 65 = .ok (.iload_n 1, 1) := by decide +kernel
theorem dX11_lays_66 : decode cX11_lays 66 = .ok (.iadd, 1) := by decide +kernel
theorem dX11_lays_67 : decode cX11_lays 67 = .ok (.iaload, 1) := by decide +kernel
theorem dX11_lays_68 : decode cX11_lays 68 = .ok (.iload_n 1, 1) := by decide +kernel
theorem dX11_lays_69 : decode cX11_lays 69 = .ok (.invokevirtual 113, 3) := by decide +kernel
theorem dX11_lays_72 : decode cX11_lays 72 = .ok (.iinc 1 1, 3) := by decide +kernel
theorem dX11_lays_75 : decode cX11_lays 75 = .ok (.goto (-27), 3) := by decide +kernel
theorem dX11_lays_78 : decode cX11_lays 78 = .ok (.return_, 1) := by decide +kernel
theorem dX11_fits_0 : decode cX11_fits 0 = .ok (.iload_n 2, 1) := by decide +kernel
theorem dX11_fits_1 : decode cX11_fits 1 = .ok (.aload_n 0, 1) := by decide +kernel
theorem dX11_fits_2 : decode cX11_fits 2 = .ok (.iload_n 1, 1) := by decide +kernel
theorem dX11_fits_3 : decode cX11_fits 3 = .ok (.iaload, 1) := by decide +kernel
theorem dX11_fits_4 : decode cX11_fits 4 = .ok (.aload_n 0, 1) := by decide +kernel
theorem dX11_fits_5 : decode cX11_fits 5 = .ok (.iload_n 1, 1) := by decide +kernel
theorem dX11_fits_6 : decode cX11_fits 6 = .ok (.iconst 1, 1) := by decide +kernel
theorem dX11_fits_7 : decode cX11_fits 7 = .ok (.iadd, 1) := by decide +kernel
theorem dX11_fits_8 : decode cX11_fits 8 = .ok (.iaload, 1) := by decide +kernel
theorem dX11_fits_9 : decode cX11_fits 9 = .ok (.invokestatic 41, 3) := by decide +kernel
theorem dX11_fits_12 : decode cX11_fits 12 = .ok (.ifCond .eq 42, 3) := by decide +kernel
theorem dX11_fits_15 : decode cX11_fits 15 = .ok (.iload_n 3, 1) := by decide +kernel
theorem dX11_fits_16 : decode cX11_fits 16 = .ok (.aload_n 0, 1) := by decide +kernel
theorem dX11_fits_17 : decode cX11_fits 17 = .ok (.iload_n 1, 1) := by decide +kernel
theorem dX11_fits_18 : decode cX11_fits 18 = .ok (.iconst 2, 1) := by decide +kernel
theorem dX11_fits_19 : decode cX11_fits 19 = .ok (.iadd, 1) := by decide +kernel
theorem dX11_fits_20 : decode cX11_fits 20 = .ok (.iaload, 1) := by decide +kernel
theorem dX11_fits_21 : decode cX11_fits 21 = .ok (.aload_n 0, 1) := by decide +kernel
theorem dX11_fits_22 : decode cX11_fits 22 = .ok (.iload_n 1, 1) := by decide +kernel
theorem dX11_fits_23 : decode cX11_fits 23 = .ok (.iconst 3, 1) := by decide +kernel
theorem dX11_fits_24 : decode cX11_fits 24 = .ok (.iadd, 1) := by decide +kernel
theorem dX11_fits_25 : decode cX11_fits 25 = .ok (.iaload, 1) := by decide +kernel
theorem dX11_fits_26 : decode cX11_fits 26 = .ok (.invokestatic 41, 3) := by decide +kernel
theorem dX11_fits_29 : decode cX11_fits 29 = .ok (.ifCond .eq 25, 3) := by decide +kernel
theorem dX11_fits_32 : decode cX11_fits 32 = .ok (.iload 4, 2) := by decide +kernel
theorem dX11_fits_34 : decode cX11_fits 34 = .ok (.aload_n 0, 1) := by decide +kernel
theorem dX11_fits_35 : decode cX11_fits 35 = .ok (.iload_n 1, 1) := by decide +kernel
theorem dX11_fits_36 : decode cX11_fits 36 = .ok (.iconst 4, 1) := by decide +kernel
theorem dX11_fits_37 : decode cX11_fits 37 = .ok (.iadd, 1) := by decide +kernel
theorem dX11_fits_38 : decode cX11_fits 38 = .ok (.iaload, 1) := by decide +kernel
theorem dX11_fits_39 : decode cX11_fits 39 = .ok (.aload_n 0, 1) := by decide +kernel
theorem dX11_fits_40 : decode cX11_fits 40 = .ok (.iload_n 1, 1) := by decide +kernel
theorem dX11_fits_41 : decode cX11_fits 41 = .ok (.iconst 5, 1) := by decide +kernel
theorem dX11_fits_42 : decode cX11_fits 42 = .ok (.iadd, 1) := by decide +kernel
theorem dX11_fits_43 : decode cX11_fits 43 = .ok (.iaload, 1) := by decide +kernel
theorem dX11_fits_44 : decode cX11_fits 44 = .ok (.invokestatic 41, 3) := by decide +kernel
theorem dX11_fits_47 : decode cX11_fits 47 = .ok (.ifCond .eq 7, 3) := by decide +kernel
theorem dX11_fits_50 : decode cX11_fits 50 = .ok (.iconst 1, 1) := by decide +kernel
theorem dX11_fits_51 : decode cX11_fits 51 = .ok (.goto 4, 3) := by decide +kernel
theorem dX11_fits_54 : decode cX11_fits 54 = .ok (.iconst 0, 1) := by decide +kernel
theorem dX11_fits_55 : decode cX11_fits 55 = .ok (.ireturn, 1) := by decide +kernel
theorem dX11_goes_0 : decode cX11_goes 0 = .ok (.aload_n 0, 1) := by decide +kernel
theorem dX11_goes_1 : decode cX11_goes 1 = .ok (.iload_n 2, 1) := by decide +kernel
theorem dX11_goes_2 : decode cX11_goes 2 = .ok (.iload_n 1, 1) := by decide +kernel
theorem dX11_goes_3 : decode cX11_goes 3 = .ok (.invokevirtual 100, 3) := by decide +kernel
theorem dX11_goes_6 : decode cX11_goes 6 = .ok (.istore 6, 2) := by decide +kernel
theorem dX11_goes_8 : decode cX11_goes 8 = .ok (.iconst 0, 1) := by decide +kernel
theorem dX11_goes_9 : decode cX11_goes 9 = .ok (.istore 7, 2) := by decide +kernel
theorem dX11_goes_11 : decode cX11_goes 11 = .ok (.iconst 0, 1) := by decide +kernel
theorem dX11_goes_12 : decode cX11_goes 12 = .ok (.istore 8, 2) := by decide +kernel
theorem dX11_goes_14 : decode cX11_goes 14 = .ok (.iload 8, 2) := by decide +kernel
theorem dX11_goes_16 : decode cX11_goes 16 = .ok (.aload_n 0, 1) := by decide +kernel
theorem dX11_goes_17 : decode cX11_goes 17 = .ok (.getfield 29, 3) := by decide +kernel
theorem dX11_goes_20 : decode cX11_goes 20 = .ok (.iload 6, 2) := by decide +kernel
theorem dX11_goes_22 : decode cX11_goes 22 = .ok (.iaload, 1) := by decide +kernel
theorem dX11_goes_23 : decode cX11_goes 23 = .ok (.if_icmp .ge 47, 3) := by decide +kernel
theorem dX11_goes_26 : decode cX11_goes 26 = .ok (.iload 7, 2) := by decide +kernel
theorem dX11_goes_28 : decode cX11_goes 28 = .ok (.ifCond .ne 29, 3) := by decide +kernel
theorem dX11_goes_31 : decode cX11_goes 31 = .ok (.aload_n 0, 1) := by decide +kernel
theorem dX11_goes_32 : decode cX11_goes 32 = .ok (.getfield 32, 3) := by decide +kernel
theorem dX11_goes_35 : decode cX11_goes 35 = .ok (.bipush 54, 2) := by decide +kernel
theorem dX11_goes_37 : decode cX11_goes 37 = .ok (.iload 6, 2) := by decide +kernel
theorem dX11_goes_39 : decode cX11_goes 39 = .ok (.imul, 1) := by decide +kernel
theorem dX11_goes_40 : decode cX11_goes 40 = .ok (.bipush 6, 2) := by decide +kernel
theorem dX11_goes_42 : decode cX11_goes 42 = .ok (.iload 8, 2) := by decide +kernel
theorem dX11_goes_44 : decode cX11_goes 44 = .ok (.imul, 1) := by decide +kernel
theorem dX11_goes_45 : decode cX11_goes 45 = .ok (.iadd, 1) := by decide +kernel
theorem dX11_goes_46 : decode cX11_goes 46 = .ok (.iload_n 3, 1) := by decide +kernel
theorem dX11_goes_47 : decode cX11_goes 47 = .ok (.iload 4, 2) := by decide +kernel
theorem dX11_goes_49 : decode cX11_goes 49 = .ok (.iload 5, 2) := by decide +kernel
theorem dX11_goes_51 : decode cX11_goes 51 = .ok (.invokestatic 116, 3) := by decide +kernel
theorem dX11_goes_54 : decode cX11_goes 54 = .ok (.ifCond .eq 7, 3) := by decide +kernel
theorem dX11_goes_57 : decode cX11_goes 57 = .ok (.iconst 1, 1) := by decide +kernel
theorem dX11_goes_58 : decode cX11_goes 58 = .ok (.goto 4, 3) := by decide +kernel
theorem dX11_goes_61 : decode cX11_goes 61 = .ok (.iconst 0, 1) := by decide +kernel
theorem dX11_goes_62 : decode cX11_goes 62 = .ok (.istore 7, 2) := by decide +kernel
theorem dX11_goes_64 : decode cX11_goes 64 = .ok (.iinc 8 1, 3) := by decide +kernel
theorem dX11_goes_67 : decode cX11_goes 67 = .ok (.goto (-53), 3) := by decide +kernel
theorem dX11_goes_70 : decode cX11_goes 70 = .ok (.iload 7, 2) := by decide +kernel
theorem dX11_goes_72 : decode cX11_goes 72 = .ok (.ireturn, 1) := by decide +kernel
theorem dX11_isWished_0 : decode cX11_isWished 0 = .ok (.iconst 0, 1) := by decide +kernel
theorem dX11_isWished_1 : decode cX11_isWished 1 = .ok (.istore 5, 2) := by decide +kernel
theorem dX11_isWished_3 : decode cX11_isWished 3 = .ok (.iconst 0, 1) := by decide +kernel
theorem dX11_isWished_4 : decode cX11_isWished 4 = .ok (.istore 6, 2) := by decide +kernel
theorem dX11_isWished_6 : decode cX11_isWished 6 = .ok (.iload 6, 2) := by decide +kernel
theorem dX11_isWished_8 : decode cX11_isWished 8 = .ok (.aload_n 0, 1) := by decide +kernel
theorem dX11_isWished_9 : decode cX11_isWished 9 = .ok (.getfield 7, 3) := by decide +kernel
theorem dX11_isWished_12 : decode cX11_isWished 12 = .ok (.iconst 2, 1) := by decide +kernel
theorem dX11_isWished_13 : decode cX11_isWished 13 = .ok (.iaload, 1) := by decide +kernel
theorem dX11_isWished_14 : decode cX11_isWished 14 = .ok (.if_icmp .ge 57, 3) := by decide +kernel
theorem dX11_isWished_17 : decode cX11_isWished 17 = .ok (.iload 5, 2) := by decide +kernel
theorem dX11_isWished_19 : decode cX11_isWished 19 = .ok (.ifCond .ne 39, 3) := by decide +kernel
theorem dX11_isWished_22 : decode cX11_isWished 22 = .ok (.aload_n 0, 1) := by decide +kernel
theorem dX11_isWished_23 : decode cX11_isWished 23 = .ok (.iload 6, 2) := by decide +kernel
theorem dX11_isWished_25 : decode cX11_isWished 25 = .ok (.iconst 0, 1) := by decide +kernel
theorem dX11_isWished_26 : decode cX11_isWished 26 = .ok (.invokevirtual 87, 3) := by decide +kernel
theorem dX11_isWished_29 : decode cX11_isWished 29 = .ok (.iload_n 1, 1) := by decide +kernel
theorem dX11_isWished_30 : decode cX11_isWished 30 = .ok (.if_icmp .ne 32, 3) := by decide +kernel
theorem dX11_isWished_33 : decode cX11_isWished 33 = .ok (.aload_n 0, 1) := by decide +kernel
theorem dX11_isWished_34 : decode cX11_isWished 34 = .ok (.getfield 7, 3) := by decide +kernel
theorem dX11_isWished_37 : decode cX11_isWished 37 = .ok (.sipush 170, 3) := by decide +kernel
theorem dX11_isWished_40 : decode cX11_isWished 40 = .ok (.bipush 7, 2) := by decide +kernel
theorem dX11_isWished_42 : decode cX11_isWished 42 = .ok (.iload 6, 2) := by decide +kernel
theorem dX11_isWished_44 : decode cX11_isWished 44 = .ok (.imul, 1) := by decide +kernel
theorem dX11_isWished_45 : decode cX11_isWished 45 = .ok (.iadd, 1) := by decide +kernel
theorem dX11_isWished_46 : decode cX11_isWished 46 = .ok (.iconst 1, 1) := by decide +kernel
theorem dX11_isWished_47 : decode cX11_isWished 47 = .ok (.iadd, 1) := by decide +kernel
theorem dX11_isWished_48 : decode cX11_isWished 48 = .ok (.iload_n 2, 1) := by decide +kernel
theorem dX11_isWished_49 : decode cX11_isWished 49 = .ok (.iload_n 3, 1) := by decide +kernel
theorem dX11_isWished_50 : decode cX11_isWished 50 = .ok (.iload 4, 2) := by decide +kernel
theorem dX11_isWished_52 : decode cX11_isWished 52 = .ok (.invokestatic 116, 3) := by decide +kernel
theorem dX11_isWished_55 : decode cX11_isWished 55 = .ok (.ifCond .eq 7, 3) := by decide +kernel
theorem dX11_isWished_58 : decode cX11_isWished 58 = .ok (.iconst 1, 1) := by decide +kernel
theorem dX11_isWished_59 : decode cX11_isWished 59 = .ok (.goto 4, 3) := by decide +kernel
theorem dX11_isWished_62 : decode cX11_isWished 62 = .ok (.iconst 0, 1) := by decide +kernel
theorem dX11_isWished_63 : decode cX11_isWished 63 = .ok (.istore 5, 2) := by decide +kernel
theorem dX11_isWished_65 : decode cX11_isWished 65 = .ok (.iinc 6 1, 3) := by decide +kernel
theorem dX11_isWished_68 : decode cX11_isWished 68 = .ok (.goto (-62), 3) := by decide +kernel
theorem dX11_isWished_71 : decode cX11_isWished 71 = .ok (.iload 5, 2) := by decide +kernel
theorem dX11_isWished_73 : decode cX11_isWished 73 = .ok (.ireturn, 1) := by decide +kernel
theorem dX11_walks_0 : decode cX11_walks 0 = .ok (.aload_n 0, 1) := by decide +kernel
theorem dX11_walks_1 : decode cX11_walks 1 = .ok (.invokevirtual 120, 3) := by decide +kernel
theorem dX11_walks_4 : decode cX11_walks 4 = .ok (.aload_n 0, 1) := by decide +kernel
theorem dX11_walks_5 : decode cX11_walks 5 = .ok (.iconst 1, 1) := by decide +kernel
theorem dX11_walks_6 : decode cX11_walks 6 = .ok (.iload_n 1, 1) := by decide +kernel
theorem dX11_walks_7 : decode cX11_walks 7 = .ok (.ishl, 1) := by decide +kernel
theorem dX11_walks_8 : decode cX11_walks 8 = .ok (.putfield 123, 3) := by decide +kernel
theorem dX11_walks_11 : decode cX11_walks 11 = .ok (.aload_n 0, 1) := by decide +kernel
theorem dX11_walks_12 : decode cX11_walks 12 = .ok (.iconst 0, 1) := by decide +kernel
theorem dX11_walks_13 : decode cX11_walks 13 = .ok (.putfield 126, 3) := by decide +kernel
theorem dX11_walks_16 : decode cX11_walks 16 = .ok (.iconst 1, 1) := by decide +kernel
theorem dX11_walks_17 : decode cX11_walks 17 = .ok (.istore 5, 2) := by decide +kernel
theorem dX11_walks_19 : decode cX11_walks 19 = .ok (.iconst 0, 1) := by decide +kernel
theorem dX11_walks_20 : decode cX11_walks 20 = .ok (.istore 6, 2) := by decide +kernel
theorem dX11_walks_22 : decode cX11_walks 22 = .ok (.iload 5, 2) := by decide +kernel
theorem dX11_walks_24 : decode cX11_walks 24 = .ok (.ifCond .eq 144, 3) := by decide +kernel
theorem dX11_walks_27 : decode cX11_walks 27 = .ok (.iconst 0, 1) := by decide +kernel
theorem dX11_walks_28 : decode cX11_walks 28 = .ok (.istore 5, 2) := by decide +kernel
theorem dX11_walks_30 : decode cX11_walks 30 = .ok (.iconst 0, 1) := by decide +kernel
theorem dX11_walks_31 : decode cX11_walks 31 = .ok (.istore 7, 2) := by decide +kernel
theorem dX11_walks_33 : decode cX11_walks 33 = .ok (.iload 7, 2) := by decide +kernel
theorem dX11_walks_35 : decode cX11_walks 35 = .ok (.aload_n 0, 1) := by decide +kernel
theorem dX11_walks_36 : decode cX11_walks 36 = .ok (.getfield 7, 3) := by decide +kernel
theorem dX11_walks_39 : decode cX11_walks 39 = .ok (.iconst 0, 1) := by decide +kernel
theorem dX11_walks_40 : decode cX11_walks 40 = .ok (.iaload, 1) := by decide +kernel
theorem dX11_walks_41 : decode cX11_walks 41 = .ok (.aload_n 0, 1) := by decide +kernel
theorem dX11_walks_42 : decode cX11_walks 42 = .ok (.getfield 7, 3) := by decide +kernel
theorem dX11_walks_45 : decode cX11_walks 45 = .ok (.iconst 0, 1) := by decide +kernel
theorem dX11_walks_46 : decode cX11_walks 46 = .ok (.iaload, 1) := by decide +kernel
theorem dX11_walks_47 : decode cX11_walks 47 = .ok (.imul, 1) := by decide +kernel
theorem dX11_walks_48 : decode cX11_walks 48 = .ok (.if_icmp .ge 117, 3) := by decide +kernel
theorem dX11_walks_51 : decode cX11_walks 51 = .ok (.iload 7, 2) := by decide +kernel
theorem dX11_walks_53 : decode cX11_walks 53 = .ok (.aload_n 0, 1) := by decide +kernel
theorem dX11_walks_54 : decode cX11_walks 54 = .ok (.getfield 7, 3) := by decide +kernel
theorem dX11_walks_57 : decode cX11_walks 57 = .ok (.iconst 0, 1) := by decide +kernel
theorem dX11_walks_58 : decode cX11_walks 58 = .ok (.iaload, 1) := by decide +kernel
theorem dX11_walks_59 : decode cX11_walks 59 = .ok (.idiv, 1) := by decide +kernel
theorem dX11_walks_60 : decode cX11_walks 60 = .ok (.istore 8, 2) := by decide +kernel
theorem dX11_walks_62 : decode cX11_walks 62 = .ok (.iload 7, 2) := by decide +kernel
theorem dX11_walks_64 : decode cX11_walks 64 = .ok (.aload_n 0, 1) := by decide +kernel
theorem dX11_walks_65 : decode cX11_walks 65 = .ok (.getfield 7, 3) := by decide +kernel
theorem dX11_walks_68 : decode cX11_walks 68 = .ok (.iconst 0, 1) := by decide +kernel
theorem dX11_walks_69 : decode cX11_walks 69 = .ok (.iaload, 1) := by decide +kernel
theorem dX11_walks_70 : decode cX11_walks 70 = .ok (.irem, 1) := by decide +kernel
theorem dX11_walks_71 : decode cX11_walks 71 = .ok (.istore 9, 2) := by decide +kernel
theorem dX11_walks_73 : decode cX11_walks 73 = .ok (.aload_n 0, 1) := by decide +kernel
theorem dX11_walks_74 : decode cX11_walks 74 = .ok (.getfield 123, 3) := by decide +kernel
theorem dX11_walks_77 : decode cX11_walks 77 = .ok (.iload 8, 2) := by decide +kernel
theorem dX11_walks_79 : decode cX11_walks 79 = .ok (.ishr, 1) := by decide +kernel
theorem dX11_walks_80 : decode cX11_walks 80 = .ok (.iconst 1, 1) := by decide +kernel
theorem dX11_walks_81 : decode cX11_walks 81 = .ok (.iand, 1) := by decide +kernel
theorem dX11_walks_82 : decode cX11_walks 82 = .ok (.iconst 1, 1) := by decide +kernel
theorem dX11_walks_83 : decode cX11_walks 83 = .ok (.if_icmp .ne 76, 3) := by decide +kernel
theorem dX11_walks_86 : decode cX11_walks 86 = .ok (.aload_n 0, 1) := by decide +kernel
theorem dX11_walks_87 : decode cX11_walks 87 = .ok (.getfield 123, 3) := by decide +kernel
theorem dX11_walks_90 : decode cX11_walks 90 = .ok (.iload 9, 2) := by decide +kernel
theorem dX11_walks_92 : decode cX11_walks 92 = .ok (.ishr, 1) := by decide +kernel
theorem dX11_walks_93 : decode cX11_walks 93 = .ok (.iconst 1, 1) := by decide +kernel
theorem dX11_walks_94 : decode cX11_walks 94 = .ok (.iand, 1) := by decide +kernel
theorem dX11_walks_95 : decode cX11_walks 95 = .ok (.ifCond .ne 64, 3) := by decide +kernel
theorem dX11_walks_98 : decode cX11_walks 98 = .ok (.aload_n 0, 1) := by decide +kernel
theorem dX11_walks_99 : decode cX11_walks 99 = .ok (.iload 8, 2) := by decide +kernel
theorem dX11_walks_101 : decode cX11_walks 101 = .ok (.iload 9, 2) := by decide +kernel
theorem dX11_walks_103 : decode cX11_walks 103 = .ok (.invokevirtual 97, 3) := by decide +kernel
theorem dX11_walks_106 : decode cX11_walks 106 = .ok (.ifCond .eq 53, 3) := by decide +kernel
theorem dX11_walks_109 : decode cX11_walks 109 = .ok (.aload_n 0, 1) := by decide +kernel
theorem dX11_walks_110 : decode cX11_walks 110 = .ok (.iload 8, 2) := by decide +kernel
theorem dX11_walks_112 : decode cX11_walks 112 = .ok (.iload 9, 2) := by decide +kernel
theorem dX11_walks_114 : decode cX11_walks 114 = .ok (.iload_n 2, 1) := by decide +kernel
theorem dX11_walks_115 : decode cX11_walks 115 = .ok (.iload_n 3, 1) := by decide +kernel
theorem dX11_walks_116 : decode cX11_walks 116 = .ok (.iload 4, 2) := by decide +kernel
theorem dX11_walks_118 : decode cX11_walks 118 = .ok (.invokevirtual 129, 3) := by decide +kernel
theorem dX11_walks_121 : decode cX11_walks 121 = .ok (.ifCond .eq 38, 3) := by decide +kernel
theorem dX11_walks_124 : decode cX11_walks 124 = .ok (.aload_n 0, 1) := by decide +kernel
theorem dX11_walks_125 : decode cX11_walks 125 = .ok (.dup, 1) := by decide +kernel
theorem dX11_walks_126 : decode cX11_walks 126 = .ok (.getfield 123, 3) := by decide +kernel
theorem dX11_walks_129 : decode cX11_walks 129 = .ok (.iconst 1, 1) := by decide +kernel
theorem dX11_walks_130 : decode cX11_walks 130 = .ok (.iload 9, 2) := by decide +kernel
theorem dX11_walks_132 : decode cX11_walks 132 = .ok (.ishl, 1) := by decide +kernel
theorem dX11_walks_133 : decode cX11_walks 133 = .ok (.ior, 1) := by decide +kernel
theorem dX11_walks_134 : decode cX11_walks 134 = .ok (.putfield 123, 3) := by decide +kernel
theorem dX11_walks_137 : decode cX11_walks 137 = .ok (.iload 6, 2) := by decide +kernel
theorem dX11_walks_139 : decode cX11_walks 139 = .ok (.iconst 1, 1) := by decide +kernel
theorem dX11_walks_140 : decode cX11_walks 140 = .ok (.iload 8, 2) := by decide +kernel
theorem dX11_walks_142 : decode cX11_walks 142 = .ok (.ishl, 1) := by decide +kernel
theorem dX11_walks_143 : decode cX11_walks 143 = .ok (.ior, 1) := by decide +kernel
theorem dX11_walks_144 : decode cX11_walks 144 = .ok (.istore 6, 2) := by decide +kernel
theorem dX11_walks_146 : decode cX11_walks 146 = .ok (.aload_n 0, 1) := by decide +kernel
theorem dX11_walks_147 : decode cX11_walks 147 = .ok (.dup, 1) := by decide +kernel
theorem dX11_walks_148 : decode cX11_walks 148 = .ok (.getfield 126, 3) := by decide +kernel
theorem dX11_walks_151 : decode cX11_walks 151 = .ok (.iconst 1, 1) := by decide +kernel
theorem dX11_walks_152 : decode cX11_walks 152 = .ok (.iadd, 1) := by decide +kernel
theorem dX11_walks_153 : decode cX11_walks 153 = .ok (.putfield 126, 3) := by decide +kernel
theorem dX11_walks_156 : decode cX11_walks 156 = .ok (.iconst 1, 1) := by decide +kernel
theorem dX11_walks_157 : decode cX11_walks 157 = .ok (.istore 5, 2) := by decide +kernel
theorem dX11_walks_159 : decode cX11_walks 159 = .ok (.iinc 7 1, 3) := by decide +kernel
theorem dX11_walks_162 : decode cX11_walks 162 = .ok (.goto (-129), 3) := by decide +kernel
theorem dX11_walks_165 : decode cX11_walks 165 = .ok (.goto (-143), 3) := by decide +kernel
theorem dX11_walks_168 : decode cX11_walks 168 = .ok (.aload_n 0, 1) := by decide +kernel
theorem dX11_walks_169 : decode cX11_walks 169 = .ok (.iconst 0, 1) := by decide +kernel
theorem dX11_walks_170 : decode cX11_walks 170 = .ok (.putfield 133, 3) := by decide +kernel
theorem dX11_walks_173 : decode cX11_walks 173 = .ok (.iload 6, 2) := by decide +kernel
theorem dX11_walks_175 : decode cX11_walks 175 = .ok (.iconst 1, 1) := by decide +kernel
theorem dX11_walks_176 : decode cX11_walks 176 = .ok (.iload_n 1, 1) := by decide +kernel
theorem dX11_walks_177 : decode cX11_walks 177 = .ok (.ishl, 1) := by decide +kernel
theorem dX11_walks_178 : decode cX11_walks 178 = .ok (.ior, 1) := by decide +kernel
theorem dX11_walks_179 : decode cX11_walks 179 = .ok (.istore 7, 2) := by decide +kernel
theorem dX11_walks_181 : decode cX11_walks 181 = .ok (.iconst 0, 1) := by decide +kernel
theorem dX11_walks_182 : decode cX11_walks 182 = .ok (.istore 8, 2) := by decide +kernel
theorem dX11_walks_184 : decode cX11_walks 184 = .ok (.iload 8, 2) := by decide +kernel
theorem dX11_walks_186 : decode cX11_walks 186 = .ok (.aload_n 0, 1) := by decide +kernel
theorem dX11_walks_187 : decode cX11_walks 187 = .ok (.getfield 7, 3) := by decide +kernel
theorem dX11_walks_190 : decode cX11_walks 190 = .ok (.iconst 1, 1) := by decide +kernel
theorem dX11_walks_191 : decode cX11_walks 191 = .ok (.iaload, 1) := by decide +kernel
theorem dX11_walks_192 : decode cX11_walks 192 = .ok (.if_icmp .ge 67, 3) := by decide +kernel
theorem dX11_walks_195 : decode cX11_walks 195 = .ok (.aload_n 0, 1) := by decide +kernel
theorem dX11_walks_196 : decode cX11_walks 196 = .ok (.getfield 123, 3) := by decide +kernel
theorem dX11_walks_199 : decode cX11_walks 199 = .ok (.aload_n 0, 1) := by decide +kernel
theorem dX11_walks_200 : decode cX11_walks 200 = .ok (.iload 8, 2) := by decide +kernel
theorem dX11_walks_202 : decode cX11_walks 202 = .ok (.iconst 0, 1) := by decide +kernel
theorem dX11_walks_203 : decode cX11_walks 203 = .ok (.invokevirtual 90, 3) := by decide +kernel
theorem dX11_walks_206 : decode cX11_walks 206 = .ok (.ishr, 1) := by decide +kernel
theorem dX11_walks_207 : decode cX11_walks 207 = .ok (.iconst 1, 1) := by decide +kernel
theorem dX11_walks_208 : decode cX11_walks 208 = .ok (.iand, 1) := by decide +kernel
theorem dX11_walks_209 : decode cX11_walks 209 = .ok (.iconst 1, 1) := by decide +kernel
theorem dX11_walks_210 : decode cX11_walks 210 = .ok (.if_icmp .ne 43, 3) := by decide +kernel
theorem dX11_walks_213 : decode cX11_walks 213 = .ok (.aload_n 0, 1) := by decide +kernel
theorem dX11_walks_214 : decode cX11_walks 214 = .ok (.iload 8, 2) := by decide +kernel
theorem dX11_walks_216 : decode cX11_walks 216 = .ok (.iload_n 2, 1) := by decide +kernel
theorem dX11_walks_217 : decode cX11_walks 217 = .ok (.iload_n 3, 1) := by decide +kernel
theorem dX11_walks_218 : decode cX11_walks 218 = .ok (.iload 4, 2) := by decide +kernel
theorem dX11_walks_220 : decode cX11_walks 220 = .ok (.invokevirtual 136, 3) := by decide +kernel
theorem dX11_walks_223 : decode cX11_walks 223 = .ok (.ifCond .eq 30, 3) := by decide +kernel
theorem dX11_walks_226 : decode cX11_walks 226 = .ok (.aload_n 0, 1) := by decide +kernel
theorem dX11_walks_227 : decode cX11_walks 227 = .ok (.dup, 1) := by decide +kernel
theorem dX11_walks_228 : decode cX11_walks 228 = .ok (.getfield 133, 3) := by decide +kernel
theorem dX11_walks_231 : decode cX11_walks 231 = .ok (.iconst 1, 1) := by decide +kernel
theorem dX11_walks_232 : decode cX11_walks 232 = .ok (.iload 8, 2) := by decide +kernel
theorem dX11_walks_234 : decode cX11_walks 234 = .ok (.ishl, 1) := by decide +kernel
theorem dX11_walks_235 : decode cX11_walks 235 = .ok (.ior, 1) := by decide +kernel
theorem dX11_walks_236 : decode cX11_walks 236 = .ok (.putfield 133, 3) := by decide +kernel
theorem dX11_walks_239 : decode cX11_walks 239 = .ok (.iload 7, 2) := by decide +kernel
theorem dX11_walks_241 : decode cX11_walks 241 = .ok (.iconst 1, 1) := by decide +kernel
theorem dX11_walks_242 : decode cX11_walks 242 = .ok (.aload_n 0, 1) := by decide +kernel
theorem dX11_walks_243 : decode cX11_walks 243 = .ok (.iload 8, 2) := by decide +kernel
theorem dX11_walks_245 : decode cX11_walks 245 = .ok (.iconst 0, 1) := by decide +kernel
theorem dX11_walks_246 : decode cX11_walks 246 = .ok (.invokevirtual 90, 3) := by decide +kernel
theorem dX11_walks_249 : decode cX11_walks 249 = .ok (.ishl, 1) := by decide +kernel
theorem dX11_walks_250 : decode cX11_walks 250 = .ok (.ior, 1) := by decide +kernel
theorem dX11_walks_251 : decode cX11_walks 251 = .ok (.istore 7, 2) := by decide +kernel
theorem dX11_walks_253 : decode cX11_walks 253 = .ok (.iinc 8 1, 3) := by decide +kernel
theorem dX11_walks_256 : decode cX11_walks 256 = .ok (.goto (-72), 3) := by decide +kernel
theorem dX11_walks_259 : decode cX11_walks 259 = .ok (.aload_n 0, 1) := by decide +kernel
theorem dX11_walks_260 : decode cX11_walks 260 = .ok (.aload_n 0, 1) := by decide +kernel
theorem dX11_walks_261 : decode cX11_walks 261 = .ok (.getfield 123, 3) := by decide +kernel
theorem dX11_walks_264 : decode cX11_walks 264 = .ok (.iload 7, 2) := by decide +kernel
theorem dX11_walks_266 : decode cX11_walks 266 = .ok (.iconst (-1), 1) := by decide +kernel
theorem dX11_walks_267 : decode cX11_walks 267 = .ok (.ixor, 1) := by decide +kernel
theorem dX11_walks_268 : decode cX11_walks 268 = .ok (.iand, 1) := by decide +kernel
theorem dX11_walks_269 : decode cX11_walks 269 = .ok (.putfield 140, 3) := by decide +kernel
theorem dX11_walks_272 : decode cX11_walks 272 = .ok (.return_, 1) := by decide +kernel
theorem dX11_bits_0 : decode cX11_bits 0 = .ok (.iconst 0, 1) := by decide +kernel
theorem dX11_bits_1 : decode cX11_bits 1 = .ok (.istore_n 1, 1) := by decide +kernel
theorem dX11_bits_2 : decode cX11_bits 2 = .ok (.iload_n 0, 1) := by decide +kernel
theorem dX11_bits_3 : decode cX11_bits 3 = .ok (.istore_n 2, 1) := by decide +kernel
theorem dX11_bits_4 : decode cX11_bits 4 = .ok (.iload_n 2, 1) := by decide +kernel
theorem dX11_bits_5 : decode cX11_bits 5 = .ok (.ifCond .le 16, 3) := by decide +kernel
theorem dX11_bits_8 : decode cX11_bits 8 = .ok (.iload_n 1, 1) := by decide +kernel
theorem dX11_bits_9 : decode cX11_bits 9 = .ok (.iload_n 2, 1) := by decide +kernel
theorem dX11_bits_10 : decode cX11_bits 10 = .ok (.iconst 1, 1) := by decide +kernel
theorem dX11_bits_11 : decode cX11_bits 11 = .ok (.iand, 1) := by decide +kernel
theorem dX11_bits_12 : decode cX11_bits 12 = .ok (.iadd, 1) := by decide +kernel
theorem dX11_bits_13 : decode cX11_bits 13 = .ok (.istore_n 1, 1) := by decide +kernel
theorem dX11_bits_14 : decode cX11_bits 14 = .ok (.iload_n 2, 1) := by decide +kernel
theorem dX11_bits_15 : decode cX11_bits 15 = .ok (.iconst 1, 1) := by decide +kernel
theorem dX11_bits_16 : decode cX11_bits 16 = .ok (.ishr, 1) := by decide +kernel
theorem dX11_bits_17 : decode cX11_bits 17 = .ok (.istore_n 2, 1) := by decide +kernel
theorem dX11_bits_18 : decode cX11_bits 18 = .ok (.goto (-14), 3) := by decide +kernel
theorem dX11_bits_21 : decode cX11_bits 21 = .ok (.iload_n 1, 1) := by decide +kernel
theorem dX11_bits_22 : decode cX11_bits 22 = .ok (.ireturn, 1) := by decide +kernel
theorem dX11_logs_0 : decode cX11_logs 0 = .ok (.bipush 11, 2) := by decide +kernel
theorem dX11_logs_2 : decode cX11_logs 2 = .ok (.istore_n 3, 1) := by decide +kernel
theorem dX11_logs_3 : decode cX11_logs 3 = .ok (.iload_n 3, 1) := by decide +kernel
theorem dX11_logs_4 : decode cX11_logs 4 = .ok (.ifCond .le 27, 3) := by decide +kernel
theorem dX11_logs_7 : decode cX11_logs 7 = .ok (.aload_n 0, 1) := by decide +kernel
theorem dX11_logs_8 : decode cX11_logs 8 = .ok (.iload_n 1, 1) := by decide +kernel
theorem dX11_logs_9 : decode cX11_logs 9 = .ok (.iconst 5, 1) := by decide +kernel
theorem dX11_logs_10 : decode cX11_logs 10 = .ok (.iload_n 3, 1) := by decide +kernel
theorem dX11_logs_11 : decode cX11_logs 11 = .ok (.iadd, 1) := by decide +kernel
theorem dX11_logs_12 : decode cX11_logs 12 = .ok (.aload_n 0, 1) := by decide +kernel
theorem dX11_logs_13 : decode cX11_logs 13 = .ok (.iload_n 1, 1) := by decide +kernel
theorem dX11_logs_14 : decode cX11_logs 14 = .ok (.iconst 5, 1) := by decide +kernel
theorem dX11_logs_15 : decode cX11_logs 15 = .ok (.iload_n 3, 1) := by decide +kernel
theorem dX11_logs_16 : decode cX11_logs 16 = .ok (.iadd, 1) := by decide +kernel
theorem dX11_logs_17 : decode cX11_logs 17 = .ok (.iconst 1, 1) := by decide +kernel
theorem dX11_logs_18 : decode cX11_logs 18 = .ok (.isub, 1) := by decide +kernel
theorem dX11_logs_19 : decode cX11_logs 19 = .ok (.invokevirtual 90, 3) := by decide +kernel
theorem dX11_logs_22 : decode cX11_logs 22 = .ok (.invokevirtual 143, 3) := by decide +kernel
theorem dX11_logs_25 : decode cX11_logs 25 = .ok (.iinc 3 (-1), 3) := by decide +kernel
theorem dX11_logs_28 : decode cX11_logs 28 = .ok (.goto (-25), 3) := by decide +kernel
theorem dX11_logs_31 : decode cX11_logs 31 = .ok (.aload_n 0, 1) := by decide +kernel
theorem dX11_logs_32 : decode cX11_logs 32 = .ok (.iload_n 1, 1) := by decide +kernel
theorem dX11_logs_33 : decode cX11_logs 33 = .ok (.iconst 5, 1) := by decide +kernel
theorem dX11_logs_34 : decode cX11_logs 34 = .ok (.iload_n 2, 1) := by decide +kernel
theorem dX11_logs_35 : decode cX11_logs 35 = .ok (.invokevirtual 143, 3) := by decide +kernel
theorem dX11_logs_38 : decode cX11_logs 38 = .ok (.aload_n 0, 1) := by decide +kernel
theorem dX11_logs_39 : decode cX11_logs 39 = .ok (.iload_n 1, 1) := by decide +kernel
theorem dX11_logs_40 : decode cX11_logs 40 = .ok (.iconst 2, 1) := by decide +kernel
theorem dX11_logs_41 : decode cX11_logs 41 = .ok (.aload_n 0, 1) := by decide +kernel
theorem dX11_logs_42 : decode cX11_logs 42 = .ok (.iload_n 1, 1) := by decide +kernel
theorem dX11_logs_43 : decode cX11_logs 43 = .ok (.iconst 2, 1) := by decide +kernel
theorem dX11_logs_44 : decode cX11_logs 44 = .ok (.invokevirtual 90, 3) := by decide +kernel
theorem dX11_logs_47 : decode cX11_logs 47 = .ok (.iconst 1, 1) := by decide +kernel
theorem dX11_logs_48 : decode cX11_logs 48 = .ok (.iadd, 1) := by decide +kernel
theorem dX11_logs_49 : decode cX11_logs 49 = .ok (.invokevirtual 143, 3) := by decide +kernel
theorem dX11_logs_52 : decode cX11_logs 52 = .ok (.return_, 1) := by decide +kernel
theorem dX11_waits_0 : decode cX11_waits 0 = .ok (.aload_n 0, 1) := by decide +kernel
theorem dX11_waits_1 : decode cX11_waits 1 = .ok (.iload_n 1, 1) := by decide +kernel
theorem dX11_waits_2 : decode cX11_waits 2 = .ok (.iconst 4, 1) := by decide +kernel
theorem dX11_waits_3 : decode cX11_waits 3 = .ok (.invokevirtual 90, 3) := by decide +kernel
theorem dX11_waits_6 : decode cX11_waits 6 = .ok (.bipush 8, 2) := by decide +kernel
theorem dX11_waits_8 : decode cX11_waits 8 = .ok (.if_icmp .ne 59, 3) := by decide +kernel
theorem dX11_waits_11 : decode cX11_waits 11 = .ok (.iconst 0, 1) := by decide +kernel
theorem dX11_waits_12 : decode cX11_waits 12 = .ok (.istore_n 3, 1) := by decide +kernel
theorem dX11_waits_13 : decode cX11_waits 13 = .ok (.iload_n 3, 1) := by decide +kernel
theorem dX11_waits_14 : decode cX11_waits 14 = .ok (.bipush 7, 2) := by decide +kernel
theorem dX11_waits_16 : decode cX11_waits 16 = .ok (.if_icmp .ge 29, 3) := by decide +kernel
theorem dX11_waits_19 : decode cX11_waits 19 = .ok (.aload_n 0, 1) := by decide +kernel
theorem dX11_waits_20 : decode cX11_waits 20 = .ok (.iload_n 1, 1) := by decide +kernel
theorem dX11_waits_21 : decode cX11_waits 21 = .ok (.bipush 17, 2) := by decide +kernel
theorem dX11_waits_23 : decode cX11_waits 23 = .ok (.iload_n 3, 1) := by decide +kernel
theorem dX11_waits_24 : decode cX11_waits 24 = .ok (.iadd, 1) := by decide +kernel
theorem dX11_waits_25 : decode cX11_waits 25 = .ok (.aload_n 0, 1) := by decide +kernel
theorem dX11_waits_26 : decode cX11_waits 26 = .ok (.iload_n 1, 1) := by decide +kernel
theorem dX11_waits_27 : decode cX11_waits 27 = .ok (.bipush 17, 2) := by decide +kernel
theorem dX11_waits_29 : decode cX11_waits 29 = .ok (.iload_n 3, 1) := by decide +kernel
theorem dX11_waits_30 : decode cX11_waits 30 = .ok (.iadd, 1) := by decide +kernel
theorem dX11_waits_31 : decode cX11_waits 31 = .ok (.iconst 1, 1) := by decide +kernel
theorem dX11_waits_32 : decode cX11_waits 32 = .ok (.iadd, 1) := by decide +kernel
theorem dX11_waits_33 : decode cX11_waits 33 = .ok (.invokevirtual 90, 3) := by decide +kernel
theorem dX11_waits_36 : decode cX11_waits 36 = .ok (.invokevirtual 143, 3) := by decide +kernel
theorem dX11_waits_39 : decode cX11_waits 39 = .ok (.iinc 3 1, 3) := by decide +kernel
theorem dX11_waits_42 : decode cX11_waits 42 = .ok (.goto (-29), 3) := by decide +kernel
theorem dX11_waits_45 : decode cX11_waits 45 = .ok (.aload_n 0, 1) := by decide +kernel
theorem dX11_waits_46 : decode cX11_waits 46 = .ok (.iload_n 1, 1) := by decide +kernel
theorem dX11_waits_47 : decode cX11_waits 47 = .ok (.iconst 4, 1) := by decide +kernel
theorem dX11_waits_48 : decode cX11_waits 48 = .ok (.bipush 7, 2) := by decide +kernel
theorem dX11_waits_50 : decode cX11_waits 50 = .ok (.invokevirtual 143, 3) := by decide +kernel
theorem dX11_waits_53 : decode cX11_waits 53 = .ok (.aload_n 0, 1) := by decide +kernel
theorem dX11_waits_54 : decode cX11_waits 54 = .ok (.iload_n 1, 1) := by decide +kernel
theorem dX11_waits_55 : decode cX11_waits 55 = .ok (.iconst 3, 1) := by decide +kernel
theorem dX11_waits_56 : decode cX11_waits 56 = .ok (.aload_n 0, 1) := by decide +kernel
theorem dX11_waits_57 : decode cX11_waits 57 = .ok (.iload_n 1, 1) := by decide +kernel
theorem dX11_waits_58 : decode cX11_waits 58 = .ok (.iconst 3, 1) := by decide +kernel
theorem dX11_waits_59 : decode cX11_waits 59 = .ok (.invokevirtual 90, 3) := by decide +kernel
theorem dX11_waits_62 : decode cX11_waits 62 = .ok (.iconst 1, 1) := by decide +kernel
theorem dX11_waits_63 : decode cX11_waits 63 = .ok (.iadd, 1) := by decide +kernel
theorem dX11_waits_64 : decode cX11_waits 64 = .ok (.invokevirtual 143, 3) := by decide +kernel
theorem dX11_waits_67 : decode cX11_waits 67 = .ok (.aload_n 0, 1) := by decide +kernel
theorem dX11_waits_68 : decode cX11_waits 68 = .ok (.iload_n 1, 1) := by decide +kernel
theorem dX11_waits_69 : decode cX11_waits 69 = .ok (.bipush 17, 2) := by decide +kernel
theorem dX11_waits_71 : decode cX11_waits 71 = .ok (.aload_n 0, 1) := by decide +kernel
theorem dX11_waits_72 : decode cX11_waits 72 = .ok (.iload_n 1, 1) := by decide +kernel
theorem dX11_waits_73 : decode cX11_waits 73 = .ok (.iconst 4, 1) := by decide +kernel
theorem dX11_waits_74 : decode cX11_waits 74 = .ok (.invokevirtual 90, 3) := by decide +kernel
theorem dX11_waits_77 : decode cX11_waits 77 = .ok (.iadd, 1) := by decide +kernel
theorem dX11_waits_78 : decode cX11_waits 78 = .ok (.iload_n 2, 1) := by decide +kernel
theorem dX11_waits_79 : decode cX11_waits 79 = .ok (.invokevirtual 143, 3) := by decide +kernel
theorem dX11_waits_82 : decode cX11_waits 82 = .ok (.aload_n 0, 1) := by decide +kernel
theorem dX11_waits_83 : decode cX11_waits 83 = .ok (.iload_n 1, 1) := by decide +kernel
theorem dX11_waits_84 : decode cX11_waits 84 = .ok (.iconst 4, 1) := by decide +kernel
theorem dX11_waits_85 : decode cX11_waits 85 = .ok (.aload_n 0, 1) := by decide +kernel
theorem dX11_waits_86 : decode cX11_waits 86 = .ok (.iload_n 1, 1) := by decide +kernel
theorem dX11_waits_87 : decode cX11_waits 87 = .ok (.iconst 4, 1) := by decide +kernel
theorem dX11_waits_88 : decode cX11_waits 88 = .ok (.invokevirtual 90, 3) := by decide +kernel
theorem dX11_waits_91 : decode cX11_waits 91 = .ok (.iconst 1, 1) := by decide +kernel
theorem dX11_waits_92 : decode cX11_waits 92 = .ok (.iadd, 1) := by decide +kernel
theorem dX11_waits_93 : decode cX11_waits 93 = .ok (.invokevirtual 143, 3) := by decide +kernel
theorem dX11_waits_96 : decode cX11_waits 96 = .ok (.return_, 1) := by decide +kernel
theorem dX11_puts_0 : decode cX11_puts 0 = .ok (.aload_n 0, 1) := by decide +kernel
theorem dX11_puts_1 : decode cX11_puts 1 = .ok (.iload_n 1, 1) := by decide +kernel
theorem dX11_puts_2 : decode cX11_puts 2 = .ok (.iload_n 2, 1) := by decide +kernel
theorem dX11_puts_3 : decode cX11_puts 3 = .ok (.iload_n 3, 1) := by decide +kernel
theorem dX11_puts_4 : decode cX11_puts 4 = .ok (.iload 4, 2) := by decide +kernel
theorem dX11_puts_6 : decode cX11_puts 6 = .ok (.invokevirtual 147, 3) := by decide +kernel
theorem dX11_puts_9 : decode cX11_puts 9 = .ok (.iconst 0, 1) := by decide +kernel
theorem dX11_puts_10 : decode cX11_puts 10 = .ok (.istore 5, 2) := by decide +kernel
theorem dX11_puts_12 : decode cX11_puts 12 = .ok (.iload 5, 2) := by decide +kernel
theorem dX11_puts_14 : decode cX11_puts 14 = .ok (.aload_n 0, 1) := by decide +kernel
theorem dX11_puts_15 : decode cX11_puts 15 = .ok (.getfield 7, 3) := by decide +kernel
theorem dX11_puts_18 : decode cX11_puts 18 = .ok (.iconst 1, 1) := by decide +kernel
theorem dX11_puts_19 : decode cX11_puts 19 = .ok (.iaload, 1) := by decide +kernel
theorem dX11_puts_20 : decode cX11_puts 20 = .ok (.if_icmp .ge 73, 3) := by decide +kernel
theorem dX11_puts_23 : decode cX11_puts 23 = .ok (.aload_n 0, 1) := by decide +kernel
theorem dX11_puts_24 : decode cX11_puts 24 = .ok (.getfield 133, 3) := by decide +kernel
theorem dX11_puts_27 : decode cX11_puts 27 = .ok (.iload 5, 2) := by decide +kernel
theorem dX11_puts_29 : decode cX11_puts 29 = .ok (.ishr, 1) := by decide +kernel
theorem dX11_puts_30 : decode cX11_puts 30 = .ok (.iconst 1, 1) := by decide +kernel
theorem dX11_puts_31 : decode cX11_puts 31 = .ok (.iand, 1) := by decide +kernel
theorem dX11_puts_32 : decode cX11_puts 32 = .ok (.iconst 1, 1) := by decide +kernel
theorem dX11_puts_33 : decode cX11_puts 33 = .ok (.if_icmp .ne 29, 3) := by decide +kernel
theorem dX11_puts_36 : decode cX11_puts 36 = .ok (.aload_n 0, 1) := by decide +kernel
theorem dX11_puts_37 : decode cX11_puts 37 = .ok (.iload 5, 2) := by decide +kernel
theorem dX11_puts_39 : decode cX11_puts 39 = .ok (.iconst 1, 1) := by decide +kernel
theorem dX11_puts_40 : decode cX11_puts 40 = .ok (.invokevirtual 90, 3) := by decide +kernel
theorem dX11_puts_43 : decode cX11_puts 43 = .ok (.iconst 1, 1) := by decide +kernel
theorem dX11_puts_44 : decode cX11_puts 44 = .ok (.if_icmp .ne 18, 3) := by decide +kernel
theorem dX11_puts_47 : decode cX11_puts 47 = .ok (.aload_n 0, 1) := by decide +kernel
theorem dX11_puts_48 : decode cX11_puts 48 = .ok (.iload 5, 2) := by decide +kernel
theorem dX11_puts_50 : decode cX11_puts 50 = .ok (.aload_n 0, 1) := by decide +kernel
theorem dX11_puts_51 : decode cX11_puts 51 = .ok (.getfield 7, 3) := by decide +kernel
theorem dX11_puts_54 : decode cX11_puts 54 = .ok (.iconst 4, 1) := by decide +kernel
theorem dX11_puts_55 : decode cX11_puts 55 = .ok (.iaload, 1) := by decide +kernel
theorem dX11_puts_56 : decode cX11_puts 56 = .ok (.invokevirtual 151, 3) := by decide +kernel
theorem dX11_puts_59 : decode cX11_puts 59 = .ok (.goto 28, 3) := by decide +kernel
theorem dX11_puts_62 : decode cX11_puts 62 = .ok (.aload_n 0, 1) := by decide +kernel
theorem dX11_puts_63 : decode cX11_puts 63 = .ok (.getfield 133, 3) := by decide +kernel
theorem dX11_puts_66 : decode cX11_puts 66 = .ok (.iload 5, 2) := by decide +kernel
theorem dX11_puts_68 : decode cX11_puts 68 = .ok (.ishr, 1) := by decide +kernel
theorem dX11_puts_69 : decode cX11_puts 69 = .ok (.iconst 1, 1) := by decide +kernel
theorem dX11_puts_70 : decode cX11_puts 70 = .ok (.iand, 1) := by decide +kernel
theorem dX11_puts_71 : decode cX11_puts 71 = .ok (.iconst 1, 1) := by decide +kernel
theorem dX11_puts_72 : decode cX11_puts 72 = .ok (.if_icmp .ne 15, 3) := by decide +kernel
theorem dX11_puts_75 : decode cX11_puts 75 = .ok (.aload_n 0, 1) := by decide +kernel
theorem dX11_puts_76 : decode cX11_puts 76 = .ok (.iload 5, 2) := by decide +kernel
theorem dX11_puts_78 : decode cX11_puts 78 = .ok (.aload_n 0, 1) := by decide +kernel
theorem dX11_puts_79 : decode cX11_puts 79 = .ok (.getfield 7, 3) := by decide +kernel
theorem dX11_puts_82 : decode cX11_puts 82 = .ok (.iconst 4, 1) := by decide +kernel
theorem dX11_puts_83 : decode cX11_puts 83 = .ok (.iaload, 1) := by decide +kernel
theorem dX11_puts_84 : decode cX11_puts 84 = .ok (.invokevirtual 154, 3) := by decide +kernel
theorem dX11_puts_87 : decode cX11_puts 87 = .ok (.iinc 5 1, 3) := by decide +kernel
theorem dX11_puts_90 : decode cX11_puts 90 = .ok (.goto (-78), 3) := by decide +kernel
theorem dX11_puts_93 : decode cX11_puts 93 = .ok (.aload_n 0, 1) := by decide +kernel
theorem dX11_puts_94 : decode cX11_puts 94 = .ok (.getfield 7, 3) := by decide +kernel
theorem dX11_puts_97 : decode cX11_puts 97 = .ok (.iconst 4, 1) := by decide +kernel
theorem dX11_puts_98 : decode cX11_puts 98 = .ok (.dup2, 1) := by decide +kernel
theorem dX11_puts_99 : decode cX11_puts 99 = .ok (.iaload, 1) := by decide +kernel
theorem dX11_puts_100 : decode cX11_puts 100 = .ok (.iconst 1, 1) := by decide +kernel
theorem dX11_puts_101 : decode cX11_puts 101 = .ok (.iadd, 1) := by decide +kernel
theorem dX11_puts_102 : decode cX11_puts 102 = .ok (.iastore, 1) := by decide +kernel
theorem dX11_puts_103 : decode cX11_puts 103 = .ok (.aload_n 0, 1) := by decide +kernel
theorem dX11_puts_104 : decode cX11_puts 104 = .ok (.getfield 7, 3) := by decide +kernel
theorem dX11_puts_107 : decode cX11_puts 107 = .ok (.iconst 5, 1) := by decide +kernel
theorem dX11_puts_108 : decode cX11_puts 108 = .ok (.dup2, 1) := by decide +kernel
theorem dX11_puts_109 : decode cX11_puts 109 = .ok (.iaload, 1) := by decide +kernel
theorem dX11_puts_110 : decode cX11_puts 110 = .ok (.aload_n 0, 1) := by decide +kernel
theorem dX11_puts_111 : decode cX11_puts 111 = .ok (.getfield 126, 3) := by decide +kernel
theorem dX11_puts_114 : decode cX11_puts 114 = .ok (.iadd, 1) := by decide +kernel
theorem dX11_puts_115 : decode cX11_puts 115 = .ok (.iastore, 1) := by decide +kernel
theorem dX11_puts_116 : decode cX11_puts 116 = .ok (.aload_n 0, 1) := by decide +kernel
theorem dX11_puts_117 : decode cX11_puts 117 = .ok (.getfield 7, 3) := by decide +kernel
theorem dX11_puts_120 : decode cX11_puts 120 = .ok (.bipush 6, 2) := by decide +kernel
theorem dX11_puts_122 : decode cX11_puts 122 = .ok (.dup2, 1) := by decide +kernel
theorem dX11_puts_123 : decode cX11_puts 123 = .ok (.iaload, 1) := by decide +kernel
theorem dX11_puts_124 : decode cX11_puts 124 = .ok (.aload_n 0, 1) := by decide +kernel
theorem dX11_puts_125 : decode cX11_puts 125 = .ok (.getfield 140, 3) := by decide +kernel
theorem dX11_puts_128 : decode cX11_puts 128 = .ok (.invokestatic 157, 3) := by decide +kernel
theorem dX11_puts_131 : decode cX11_puts 131 = .ok (.iadd, 1) := by decide +kernel
theorem dX11_puts_132 : decode cX11_puts 132 = .ok (.iastore, 1) := by decide +kernel
theorem dX11_puts_133 : decode cX11_puts 133 = .ok (.aload_n 0, 1) := by decide +kernel
theorem dX11_puts_134 : decode cX11_puts 134 = .ok (.getfield 133, 3) := by decide +kernel
theorem dX11_puts_137 : decode cX11_puts 137 = .ok (.invokestatic 157, 3) := by decide +kernel
theorem dX11_puts_140 : decode cX11_puts 140 = .ok (.ireturn, 1) := by decide +kernel
theorem dX11_areThings_0 : decode cX11_areThings 0 = .ok (.iload_n 0, 1) := by decide +kernel
theorem dX11_areThings_1 : decode cX11_areThings 1 = .ok (.iconst 0, 1) := by decide +kernel
theorem dX11_areThings_2 : decode cX11_areThings 2 = .ok (.bipush 9, 2) := by decide +kernel
theorem dX11_areThings_4 : decode cX11_areThings 4 = .ok (.invokestatic 41, 3) := by decide +kernel
theorem dX11_areThings_7 : decode cX11_areThings 7 = .ok (.ifCond .eq 27, 3) := by decide +kernel
theorem dX11_areThings_10 : decode cX11_areThings 10 = .ok (.iload_n 1, 1) := by decide +kernel
theorem dX11_areThings_11 : decode cX11_areThings 11 = .ok (.iconst 0, 1) := by decide +kernel
theorem dX11_areThings_12 : decode cX11_areThings 12 = .ok (.bipush 9, 2) := by decide +kernel
theorem dX11_areThings_14 : decode cX11_areThings 14 = .ok (.invokestatic 41, 3) := by decide +kernel
theorem dX11_areThings_17 : decode cX11_areThings 17 = .ok (.ifCond .eq 17, 3) := by decide +kernel
theorem dX11_areThings_20 : decode cX11_areThings 20 = .ok (.iload_n 2, 1) := by decide +kernel
theorem dX11_areThings_21 : decode cX11_areThings 21 = .ok (.iconst 0, 1) := by decide +kernel
theorem dX11_areThings_22 : decode cX11_areThings 22 = .ok (.bipush 9, 2) := by decide +kernel
theorem dX11_areThings_24 : decode cX11_areThings 24 = .ok (.invokestatic 41, 3) := by decide +kernel
theorem dX11_areThings_27 : decode cX11_areThings 27 = .ok (.ifCond .eq 7, 3) := by decide +kernel
theorem dX11_areThings_30 : decode cX11_areThings 30 = .ok (.iconst 1, 1) := by decide +kernel
theorem dX11_areThings_31 : decode cX11_areThings 31 = .ok (.goto 4, 3) := by decide +kernel
theorem dX11_areThings_34 : decode cX11_areThings 34 = .ok (.iconst 0, 1) := by decide +kernel
theorem dX11_areThings_35 : decode cX11_areThings 35 = .ok (.ireturn, 1) := by decide +kernel
theorem dX11_allTold_0 : decode cX11_allTold 0 = .ok (.aload_n 0, 1) := by decide +kernel
theorem dX11_allTold_1 : decode cX11_allTold 1 = .ok (.invokevirtual 120, 3) := by decide +kernel
theorem dX11_allTold_4 : decode cX11_allTold 4 = .ok (.iconst 0, 1) := by decide +kernel
theorem dX11_allTold_5 : decode cX11_allTold 5 = .ok (.istore_n 1, 1) := by decide +kernel
theorem dX11_allTold_6 : decode cX11_allTold 6 = .ok (.iconst 1, 1) := by decide +kernel
theorem dX11_allTold_7 : decode cX11_allTold 7 = .ok (.istore_n 2, 1) := by decide +kernel
theorem dX11_allTold_8 : decode cX11_allTold 8 = .ok (.iload_n 2, 1) := by decide +kernel
theorem dX11_allTold_9 : decode cX11_allTold 9 = .ok (.aload_n 0, 1) := by decide +kernel
theorem dX11_allTold_10 : decode cX11_allTold 10 = .ok (.getfield 7, 3) := by decide +kernel
theorem dX11_allTold_13 : decode cX11_allTold 13 = .ok (.iconst 0, 1) := by decide +kernel
theorem dX11_allTold_14 : decode cX11_allTold 14 = .ok (.iaload, 1) := by decide +kernel
theorem dX11_allTold_15 : decode cX11_allTold 15 = .ok (.if_icmp .ge 31, 3) := by decide +kernel
theorem dX11_allTold_18 : decode cX11_allTold 18 = .ok (.iload_n 1, 1) := by decide +kernel
theorem dX11_allTold_19 : decode cX11_allTold 19 = .ok (.aload_n 0, 1) := by decide +kernel
theorem dX11_allTold_20 : decode cX11_allTold 20 = .ok (.getfield 29, 3) := by decide +kernel
theorem dX11_allTold_23 : decode cX11_allTold 23 = .ok (.iconst 2, 1) := by decide +kernel
theorem dX11_allTold_24 : decode cX11_allTold 24 = .ok (.iload_n 2, 1) := by decide +kernel
theorem dX11_allTold_25 : decode cX11_allTold 25 = .ok (.imul, 1) := by decide +kernel
theorem dX11_allTold_26 : decode cX11_allTold 26 = .ok (.iaload, 1) := by decide +kernel
theorem dX11_allTold_27 : decode cX11_allTold 27 = .ok (.aload_n 0, 1) := by decide +kernel
theorem dX11_allTold_28 : decode cX11_allTold 28 = .ok (.getfield 29, 3) := by decide +kernel
theorem dX11_allTold_31 : decode cX11_allTold 31 = .ok (.iconst 2, 1) := by decide +kernel
theorem dX11_allTold_32 : decode cX11_allTold 32 = .ok (.iload_n 2, 1) := by decide +kernel
theorem dX11_allTold_33 : decode cX11_allTold 33 = .ok (.imul, 1) := by decide +kernel
theorem dX11_allTold_34 : decode cX11_allTold 34 = .ok (.iconst 1, 1) := by decide +kernel
theorem dX11_allTold_35 : decode cX11_allTold 35 = .ok (.iadd, 1) := by decide +kernel
theorem dX11_allTold_36 : decode cX11_allTold 36 = .ok (.iaload, 1) := by decide +kernel
theorem dX11_allTold_37 : decode cX11_allTold 37 = .ok (.iadd, 1) := by decide +kernel
theorem dX11_allTold_38 : decode cX11_allTold 38 = .ok (.iadd, 1) := by decide +kernel
theorem dX11_allTold_39 : decode cX11_allTold 39 = .ok (.istore_n 1, 1) := by decide +kernel
theorem dX11_allTold_40 : decode cX11_allTold 40 = .ok (.iinc 2 1, 3) := by decide +kernel
theorem dX11_allTold_43 : decode cX11_allTold 43 = .ok (.goto (-35), 3) := by decide +kernel
theorem dX11_allTold_46 : decode cX11_allTold 46 = .ok (.iload_n 1, 1) := by decide +kernel
theorem dX11_allTold_47 : decode cX11_allTold 47 = .ok (.ireturn, 1) := by decide +kernel
theorem dX11_wrong_0 : decode cX11_wrong 0 = .ok (.iconst (-1), 1) := by decide +kernel
theorem dX11_wrong_1 : decode cX11_wrong 1 = .ok (.istore_n 1, 1) := by decide +kernel
theorem dX11_wrong_2 : decode cX11_wrong 2 = .ok (.aload_n 0, 1) := by decide +kernel
theorem dX11_wrong_3 : decode cX11_wrong 3 = .ok (.getfield 160, 3) := by decide +kernel
theorem dX11_wrong_6 : decode cX11_wrong 6 = .ok (.iconst 1, 1) := by decide +kernel
theorem dX11_wrong_7 : decode cX11_wrong 7 = .ok (.isub, 1) := by decide +kernel
theorem dX11_wrong_8 : decode cX11_wrong 8 = .ok (.istore_n 2, 1) := by decide +kernel
theorem dX11_wrong_9 : decode cX11_wrong 9 = .ok (.iload_n 2, 1) := by decide +kernel
theorem dX11_wrong_10 : decode cX11_wrong 10 = .ok (.ifCond .lt 48, 3) := by decide +kernel
theorem dX11_wrong_13 : decode cX11_wrong 13 = .ok (.aload_n 0, 1) := by decide +kernel
theorem dX11_wrong_14 : decode cX11_wrong 14 = .ok (.aload_n 0, 1) := by decide +kernel
theorem dX11_wrong_15 : decode cX11_wrong 15 = .ok (.getfield 23, 3) := by decide +kernel
theorem dX11_wrong_18 : decode cX11_wrong 18 = .ok (.iload_n 2, 1) := by decide +kernel
theorem dX11_wrong_19 : decode cX11_wrong 19 = .ok (.iaload, 1) := by decide +kernel
theorem dX11_wrong_20 : decode cX11_wrong 20 = .ok (.invokevirtual 163, 3) := by decide +kernel
theorem dX11_wrong_23 : decode cX11_wrong 23 = .ok (.ifCond .eq 23, 3) := by decide +kernel
theorem dX11_wrong_26 : decode cX11_wrong 26 = .ok (.aload_n 0, 1) := by decide +kernel
theorem dX11_wrong_27 : decode cX11_wrong 27 = .ok (.aload_n 0, 1) := by decide +kernel
theorem dX11_wrong_28 : decode cX11_wrong 28 = .ok (.getfield 23, 3) := by decide +kernel
theorem dX11_wrong_31 : decode cX11_wrong 31 = .ok (.iload_n 2, 1) := by decide +kernel
theorem dX11_wrong_32 : decode cX11_wrong 32 = .ok (.iaload, 1) := by decide +kernel
theorem dX11_wrong_33 : decode cX11_wrong 33 = .ok (.iconst 2, 1) := by decide +kernel
theorem dX11_wrong_34 : decode cX11_wrong 34 = .ok (.invokevirtual 90, 3) := by decide +kernel
theorem dX11_wrong_37 : decode cX11_wrong 37 = .ok (.aload_n 0, 1) := by decide +kernel
theorem dX11_wrong_38 : decode cX11_wrong 38 = .ok (.getfield 26, 3) := by decide +kernel
theorem dX11_wrong_41 : decode cX11_wrong 41 = .ok (.iload_n 2, 1) := by decide +kernel
theorem dX11_wrong_42 : decode cX11_wrong 42 = .ok (.iaload, 1) := by decide +kernel
theorem dX11_wrong_43 : decode cX11_wrong 43 = .ok (.if_icmp .eq 7, 3) := by decide +kernel
theorem dX11_wrong_46 : decode cX11_wrong 46 = .ok (.iload_n 2, 1) := by decide +kernel
theorem dX11_wrong_47 : decode cX11_wrong 47 = .ok (.goto 4, 3) := by decide +kernel
theorem dX11_wrong_50 : decode cX11_wrong 50 = .ok (.iload_n 1, 1) := by decide +kernel
theorem dX11_wrong_51 : decode cX11_wrong 51 = .ok (.istore_n 1, 1) := by decide +kernel
theorem dX11_wrong_52 : decode cX11_wrong 52 = .ok (.iinc 2 (-1), 3) := by decide +kernel
theorem dX11_wrong_55 : decode cX11_wrong 55 = .ok (.goto (-46), 3) := by decide +kernel
theorem dX11_wrong_58 : decode cX11_wrong 58 = .ok (.iload_n 1, 1) := by decide +kernel
theorem dX11_wrong_59 : decode cX11_wrong 59 = .ok (.ireturn, 1) := by decide +kernel
theorem dX11_told_0 : decode cX11_told 0 = .ok (.iload_n 1, 1) := by decide +kernel
theorem dX11_told_1 : decode cX11_told 1 = .ok (.tableswitch 110 0 11 #[63, 63, 63, 63, 63, 70, 75, 82, 90, 95, 100, 105], 63) := by decide +kernel
theorem dX11_told_64 : decode cX11_told 64 = .ok (.aload_n 0, 1) := by decide +kernel
theorem dX11_told_65 : decode cX11_told 65 = .ok (.getfield 7, 3) := by decide +kernel
theorem dX11_told_68 : decode cX11_told 68 = .ok (.iload_n 1, 1) := by decide +kernel
theorem dX11_told_69 : decode cX11_told 69 = .ok (.iaload, 1) := by decide +kernel
theorem dX11_told_70 : decode cX11_told 70 = .ok (.ireturn, 1) := by decide +kernel
theorem dX11_told_71 : decode cX11_told 71 = .ok (.aload_n 0, 1) := by decide +kernel
theorem dX11_told_72 : decode cX11_told 72 = .ok (.invokevirtual 166, 3) := by decide +kernel
theorem dX11_told_75 : decode cX11_told 75 = .ok (.ireturn, 1) := by decide +kernel
theorem dX11_told_76 : decode cX11_told 76 = .ok (.aload_n 0, 1) := by decide +kernel
theorem dX11_told_77 : decode cX11_told 77 = .ok (.getfield 7, 3) := by decide +kernel
theorem dX11_told_80 : decode cX11_told 80 = .ok (.iconst 5, 1) := by decide +kernel
theorem dX11_told_81 : decode cX11_told 81 = .ok (.iaload, 1) := by decide +kernel
theorem dX11_told_82 : decode cX11_told 82 = .ok (.ireturn, 1) := by decide +kernel
theorem dX11_told_83 : decode cX11_told 83 = .ok (.aload_n 0, 1) := by decide +kernel
theorem dX11_told_84 : decode cX11_told 84 = .ok (.getfield 7, 3) := by decide +kernel
theorem dX11_told_87 : decode cX11_told 87 = .ok (.bipush 6, 2) := by decide +kernel
theorem dX11_told_89 : decode cX11_told 89 = .ok (.iaload, 1) := by decide +kernel
theorem dX11_told_90 : decode cX11_told 90 = .ok (.ireturn, 1) := by decide +kernel
theorem dX11_told_91 : decode cX11_told 91 = .ok (.aload_n 0, 1) := by decide +kernel
theorem dX11_told_92 : decode cX11_told 92 = .ok (.getfield 160, 3) := by decide +kernel
theorem dX11_told_95 : decode cX11_told 95 = .ok (.ireturn, 1) := by decide +kernel
theorem dX11_told_96 : decode cX11_told 96 = .ok (.aload_n 0, 1) := by decide +kernel
theorem dX11_told_97 : decode cX11_told 97 = .ok (.invokevirtual 170, 3) := by decide +kernel
theorem dX11_told_100 : decode cX11_told 100 = .ok (.ireturn, 1) := by decide +kernel
theorem dX11_told_101 : decode cX11_told 101 = .ok (.aload_n 0, 1) := by decide +kernel
theorem dX11_told_102 : decode cX11_told 102 = .ok (.getfield 173, 3) := by decide +kernel
theorem dX11_told_105 : decode cX11_told 105 = .ok (.ireturn, 1) := by decide +kernel
theorem dX11_told_106 : decode cX11_told 106 = .ok (.aload_n 0, 1) := by decide +kernel
theorem dX11_told_107 : decode cX11_told 107 = .ok (.getfield 176, 3) := by decide +kernel
theorem dX11_told_110 : decode cX11_told 110 = .ok (.ireturn, 1) := by decide +kernel
theorem dX11_told_111 : decode cX11_told 111 = .ok (.ldc 179, 2) := by decide +kernel
theorem dX11_told_113 : decode cX11_told 113 = .ok (.ireturn, 1) := by decide +kernel
theorem dX11_brokerAt_0 : decode cX11_brokerAt 0 = .ok (.aload_n 0, 1) := by decide +kernel
theorem dX11_brokerAt_1 : decode cX11_brokerAt 1 = .ok (.iload_n 1, 1) := by decide +kernel
theorem dX11_brokerAt_2 : decode cX11_brokerAt 2 = .ok (.invokevirtual 45, 3) := by decide +kernel
theorem dX11_brokerAt_5 : decode cX11_brokerAt 5 = .ok (.ifCond .ne 6, 3) := by decide +kernel
theorem dX11_brokerAt_8 : decode cX11_brokerAt 8 = .ok (.ldc 180, 2) := by decide +kernel
theorem dX11_brokerAt_10 : decode cX11_brokerAt 10 = .ok (.ireturn, 1) := by decide +kernel
theorem dX11_brokerAt_11 : decode cX11_brokerAt 11 = .ok (.iconst 0, 1) := by decide +kernel
theorem dX11_brokerAt_12 : decode cX11_brokerAt 12 = .ok (.istore_n 3, 1) := by decide +kernel
theorem dX11_brokerAt_13 : decode cX11_brokerAt 13 = .ok (.iload_n 2, 1) := by decide +kernel
theorem dX11_brokerAt_14 : decode cX11_brokerAt 14 = .ok (.tableswitch 176 0 3 #[30, 40, 83, 127], 30) := by decide +kernel
theorem dX11_brokerAt_44 : decode cX11_brokerAt 44 = .ok (.aload_n 0, 1) := by decide +kernel
theorem dX11_brokerAt_45 : decode cX11_brokerAt 45 = .ok (.getfield 7, 3) := by decide +kernel
theorem dX11_brokerAt_48 : decode cX11_brokerAt 48 = .ok (.bipush 8, 2) := by decide +kernel
theorem dX11_brokerAt_50 : decode cX11_brokerAt 50 = .ok (.iload_n 1, 1) := by decide +kernel
theorem dX11_brokerAt_51 : decode cX11_brokerAt 51 = .ok (.iadd, 1) := by decide +kernel
theorem dX11_brokerAt_52 : decode cX11_brokerAt 52 = .ok (.iaload, 1) := by decide +kernel
theorem dX11_brokerAt_53 : decode cX11_brokerAt 53 = .ok (.ireturn, 1) := by decide +kernel
theorem dX11_brokerAt_54 : decode cX11_brokerAt 54 = .ok (.iconst 0, 1) := by decide +kernel
theorem dX11_brokerAt_55 : decode cX11_brokerAt 55 = .ok (.istore 4, 2) := by decide +kernel
theorem dX11_brokerAt_57 : decode cX11_brokerAt 57 = .ok (.iload 4, 2) := by decide +kernel
theorem dX11_brokerAt_59 : decode cX11_brokerAt 59 = .ok (.aload_n 0, 1) := by decide +kernel
theorem dX11_brokerAt_60 : decode cX11_brokerAt 60 = .ok (.getfield 7, 3) := by decide +kernel
theorem dX11_brokerAt_63 : decode cX11_brokerAt 63 = .ok (.iconst 0, 1) := by decide +kernel
theorem dX11_brokerAt_64 : decode cX11_brokerAt 64 = .ok (.iaload, 1) := by decide +kernel
theorem dX11_brokerAt_65 : decode cX11_brokerAt 65 = .ok (.if_icmp .ge 30, 3) := by decide +kernel
theorem dX11_brokerAt_68 : decode cX11_brokerAt 68 = .ok (.iload_n 3, 1) := by decide +kernel
theorem dX11_brokerAt_69 : decode cX11_brokerAt 69 = .ok (.aload_n 0, 1) := by decide +kernel
theorem dX11_brokerAt_70 : decode cX11_brokerAt 70 = .ok (.iload_n 1, 1) := by decide +kernel
theorem dX11_brokerAt_71 : decode cX11_brokerAt 71 = .ok (.iload 4, 2) := by decide +kernel
theorem dX11_brokerAt_73 : decode cX11_brokerAt 73 = .ok (.invokevirtual 97, 3) := by decide +kernel
theorem dX11_brokerAt_76 : decode cX11_brokerAt 76 = .ok (.ifCond .eq 10, 3) := by decide +kernel
theorem dX11_brokerAt_79 : decode cX11_brokerAt 79 = .ok (.iconst 1, 1) := by decide +kernel
theorem dX11_brokerAt_80 : decode cX11_brokerAt 80 = .ok (.iload 4, 2) := by decide +kernel
theorem dX11_brokerAt_82 : decode cX11_brokerAt 82 = .ok (.ishl, 1) := by decide +kernel
theorem dX11_brokerAt_83 : decode cX11_brokerAt 83 = .ok (.goto 4, 3) := by decide +kernel
