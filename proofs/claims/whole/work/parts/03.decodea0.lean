theorem dX0_init_0 : decode cX0_init 0 = .ok (.aload_n 0, 1) := by decide +kernel
theorem dX0_init_1 : decode cX0_init 1 = .ok (.invokespecial 3, 3) := by decide +kernel
theorem dX0_init_4 : decode cX0_init 4 = .ok (.aload_n 0, 1) := by decide +kernel
theorem dX0_init_5 : decode cX0_init 5 = .ok (.bipush 20, 2) := by decide +kernel
theorem dX0_init_7 : decode cX0_init 7 = .ok (.newarray .int, 2) := by decide +kernel
theorem dX0_init_9 : decode cX0_init 9 = .ok (.putfield 9, 3) := by decide +kernel
theorem dX0_init_12 : decode cX0_init 12 = .ok (.aload_n 0, 1) := by decide +kernel
theorem dX0_init_13 : decode cX0_init 13 = .ok (.bipush 20, 2) := by decide +kernel
theorem dX0_init_15 : decode cX0_init 15 = .ok (.newarray .int, 2) := by decide +kernel
theorem dX0_init_17 : decode cX0_init 17 = .ok (.putfield 15, 3) := by decide +kernel
theorem dX0_init_20 : decode cX0_init 20 = .ok (.return_, 1) := by decide +kernel
theorem dX0_add_0 : decode cX0_add 0 = .ok (.aload_n 0, 1) := by decide +kernel
theorem dX0_add_1 : decode cX0_add 1 = .ok (.getfield 9, 3) := by decide +kernel
theorem dX0_add_4 : decode cX0_add 4 = .ok (.aload_n 0, 1) := by decide +kernel
theorem dX0_add_5 : decode cX0_add 5 = .ok (.getfield 18, 3) := by decide +kernel
theorem dX0_add_8 : decode cX0_add 8 = .ok (.iload_n 1, 1) := by decide +kernel
theorem dX0_add_9 : decode cX0_add 9 = .ok (.iastore, 1) := by decide +kernel
theorem dX0_add_10 : decode cX0_add 10 = .ok (.aload_n 0, 1) := by decide +kernel
theorem dX0_add_11 : decode cX0_add 11 = .ok (.getfield 15, 3) := by decide +kernel
theorem dX0_add_14 : decode cX0_add 14 = .ok (.aload_n 0, 1) := by decide +kernel
theorem dX0_add_15 : decode cX0_add 15 = .ok (.getfield 18, 3) := by decide +kernel
theorem dX0_add_18 : decode cX0_add 18 = .ok (.iload_n 2, 1) := by decide +kernel
theorem dX0_add_19 : decode cX0_add 19 = .ok (.iastore, 1) := by decide +kernel
theorem dX0_add_20 : decode cX0_add 20 = .ok (.aload_n 0, 1) := by decide +kernel
theorem dX0_add_21 : decode cX0_add 21 = .ok (.dup, 1) := by decide +kernel
theorem dX0_add_22 : decode cX0_add 22 = .ok (.getfield 18, 3) := by decide +kernel
theorem dX0_add_25 : decode cX0_add 25 = .ok (.iconst 1, 1) := by decide +kernel
theorem dX0_add_26 : decode cX0_add 26 = .ok (.iadd, 1) := by decide +kernel
theorem dX0_add_27 : decode cX0_add 27 = .ok (.putfield 18, 3) := by decide +kernel
theorem dX0_add_30 : decode cX0_add 30 = .ok (.return_, 1) := by decide +kernel
theorem dX0_firstWrong_0 : decode cX0_firstWrong 0 = .ok (.iconst 0, 1) := by decide +kernel
theorem dX0_firstWrong_1 : decode cX0_firstWrong 1 = .ok (.istore_n 2, 1) := by decide +kernel
theorem dX0_firstWrong_2 : decode cX0_firstWrong 2 = .ok (.iload_n 2, 1) := by decide +kernel
theorem dX0_firstWrong_3 : decode cX0_firstWrong 3 = .ok (.aload_n 0, 1) := by decide +kernel
theorem dX0_firstWrong_4 : decode cX0_firstWrong 4 = .ok (.getfield 18, 3) := by decide +kernel
theorem dX0_firstWrong_7 : decode cX0_firstWrong 7 = .ok (.if_icmp .ge 44, 3) := by decide +kernel
theorem dX0_firstWrong_10 : decode cX0_firstWrong 10 = .ok (.aload_n 0, 1) := by decide +kernel
theorem dX0_firstWrong_11 : decode cX0_firstWrong 11 = .ok (.getfield 9, 3) := by decide +kernel
theorem dX0_firstWrong_14 : decode cX0_firstWrong 14 = .ok (.iload_n 2, 1) := by decide +kernel
theorem dX0_firstWrong_15 : decode cX0_firstWrong 15 = .ok (.iaload, 1) := by decide +kernel
theorem dX0_firstWrong_16 : decode cX0_firstWrong 16 = .ok (.istore_n 3, 1) := by decide +kernel
theorem dX0_firstWrong_17 : decode cX0_firstWrong 17 = .ok (.aload_n 1, 1) := by decide +kernel
theorem dX0_firstWrong_18 : decode cX0_firstWrong 18 = .ok (.iload_n 3, 1) := by decide +kernel
theorem dX0_firstWrong_19 : decode cX0_firstWrong 19 = .ok (.invokevirtual 22, 3) := by decide +kernel
theorem dX0_firstWrong_22 : decode cX0_firstWrong 22 = .ok (.ifCond .eq 21, 3) := by decide +kernel
theorem dX0_firstWrong_25 : decode cX0_firstWrong 25 = .ok (.aload_n 1, 1) := by decide +kernel
theorem dX0_firstWrong_26 : decode cX0_firstWrong 26 = .ok (.getfield 28, 3) := by decide +kernel
theorem dX0_firstWrong_29 : decode cX0_firstWrong 29 = .ok (.iload_n 3, 1) := by decide +kernel
theorem dX0_firstWrong_30 : decode cX0_firstWrong 30 = .ok (.aaload, 1) := by decide +kernel
theorem dX0_firstWrong_31 : decode cX0_firstWrong 31 = .ok (.getfield 32, 3) := by decide +kernel
theorem dX0_firstWrong_34 : decode cX0_firstWrong 34 = .ok (.aload_n 0, 1) := by decide +kernel
theorem dX0_firstWrong_35 : decode cX0_firstWrong 35 = .ok (.getfield 15, 3) := by decide +kernel
theorem dX0_firstWrong_38 : decode cX0_firstWrong 38 = .ok (.iload_n 2, 1) := by decide +kernel
theorem dX0_firstWrong_39 : decode cX0_firstWrong 39 = .ok (.iaload, 1) := by decide +kernel
theorem dX0_firstWrong_40 : decode cX0_firstWrong 40 = .ok (.if_icmp .eq 5, 3) := by decide +kernel
theorem dX0_firstWrong_43 : decode cX0_firstWrong 43 = .ok (.iload_n 2, 1) := by decide +kernel
theorem dX0_firstWrong_44 : decode cX0_firstWrong 44 = .ok (.ireturn, 1) := by decide +kernel
theorem dX0_firstWrong_45 : decode cX0_firstWrong 45 = .ok (.iinc 2 1, 3) := by decide +kernel
theorem dX0_firstWrong_48 : decode cX0_firstWrong 48 = .ok (.goto (-46), 3) := by decide +kernel
theorem dX0_firstWrong_51 : decode cX0_firstWrong 51 = .ok (.iconst (-1), 1) := by decide +kernel
theorem dX0_firstWrong_52 : decode cX0_firstWrong 52 = .ok (.ireturn, 1) := by decide +kernel
theorem dX1_ofNotice_0 : decode cX1_ofNotice 0 = .ok (.iconst 0, 1) := by decide +kernel
theorem dX1_ofNotice_1 : decode cX1_ofNotice 1 = .ok (.iload_n 0, 1) := by decide +kernel
theorem dX1_ofNotice_2 : decode cX1_ofNotice 2 = .ok (.iload_n 0, 1) := by decide +kernel
theorem dX1_ofNotice_3 : decode cX1_ofNotice 3 = .ok (.invokestatic 9, 3) := by decide +kernel
theorem dX1_ofNotice_6 : decode cX1_ofNotice 6 = .ok (.iload_n 1, 1) := by decide +kernel
theorem dX1_ofNotice_7 : decode cX1_ofNotice 7 = .ok (.iload_n 1, 1) := by decide +kernel
theorem dX1_ofNotice_8 : decode cX1_ofNotice 8 = .ok (.invokestatic 9, 3) := by decide +kernel
theorem dX1_ofNotice_11 : decode cX1_ofNotice 11 = .ok (.iload_n 2, 1) := by decide +kernel
theorem dX1_ofNotice_12 : decode cX1_ofNotice 12 = .ok (.iload_n 2, 1) := by decide +kernel
theorem dX1_ofNotice_13 : decode cX1_ofNotice 13 = .ok (.invokestatic 9, 3) := by decide +kernel
theorem dX1_ofNotice_16 : decode cX1_ofNotice 16 = .ok (.ireturn, 1) := by decide +kernel
theorem dX1_withBounds_0 : decode cX1_withBounds 0 = .ok (.iload_n 0, 1) := by decide +kernel
theorem dX1_withBounds_1 : decode cX1_withBounds 1 = .ok (.bipush 8, 2) := by decide +kernel
theorem dX1_withBounds_3 : decode cX1_withBounds 3 = .ok (.ishl, 1) := by decide +kernel
theorem dX1_withBounds_4 : decode cX1_withBounds 4 = .ok (.iload_n 1, 1) := by decide +kernel
theorem dX1_withBounds_5 : decode cX1_withBounds 5 = .ok (.iconst 4, 1) := by decide +kernel
theorem dX1_withBounds_6 : decode cX1_withBounds 6 = .ok (.ishl, 1) := by decide +kernel
theorem dX1_withBounds_7 : decode cX1_withBounds 7 = .ok (.ior, 1) := by decide +kernel
theorem dX1_withBounds_8 : decode cX1_withBounds 8 = .ok (.iload_n 2, 1) := by decide +kernel
theorem dX1_withBounds_9 : decode cX1_withBounds 9 = .ok (.ior, 1) := by decide +kernel
theorem dX1_withBounds_10 : decode cX1_withBounds 10 = .ok (.ireturn, 1) := by decide +kernel
theorem dX1_withKind_0 : decode cX1_withKind 0 = .ok (.iload_n 1, 1) := by decide +kernel
theorem dX1_withKind_1 : decode cX1_withKind 1 = .ok (.iconst 2, 1) := by decide +kernel
theorem dX1_withKind_2 : decode cX1_withKind 2 = .ok (.if_icmp .eq 8, 3) := by decide +kernel
theorem dX1_withKind_5 : decode cX1_withKind 5 = .ok (.iload_n 1, 1) := by decide +kernel
theorem dX1_withKind_6 : decode cX1_withKind 6 = .ok (.iconst 3, 1) := by decide +kernel
theorem dX1_withKind_7 : decode cX1_withKind 7 = .ok (.if_icmp .ne 7, 3) := by decide +kernel
theorem dX1_withKind_10 : decode cX1_withKind 10 = .ok (.iload_n 2, 1) := by decide +kernel
theorem dX1_withKind_11 : decode cX1_withKind 11 = .ok (.goto 4, 3) := by decide +kernel
theorem dX1_withKind_14 : decode cX1_withKind 14 = .ok (.iconst 0, 1) := by decide +kernel
theorem dX1_withKind_15 : decode cX1_withKind 15 = .ok (.istore_n 3, 1) := by decide +kernel
theorem dX1_withKind_16 : decode cX1_withKind 16 = .ok (.iload_n 1, 1) := by decide +kernel
theorem dX1_withKind_17 : decode cX1_withKind 17 = .ok (.iconst 1, 1) := by decide +kernel
theorem dX1_withKind_18 : decode cX1_withKind 18 = .ok (.if_icmp .eq 8, 3) := by decide +kernel
theorem dX1_withKind_21 : decode cX1_withKind 21 = .ok (.iload_n 1, 1) := by decide +kernel
theorem dX1_withKind_22 : decode cX1_withKind 22 = .ok (.iconst 3, 1) := by decide +kernel
theorem dX1_withKind_23 : decode cX1_withKind 23 = .ok (.if_icmp .ne 7, 3) := by decide +kernel
theorem dX1_withKind_26 : decode cX1_withKind 26 = .ok (.iload_n 2, 1) := by decide +kernel
theorem dX1_withKind_27 : decode cX1_withKind 27 = .ok (.goto 5, 3) := by decide +kernel
theorem dX1_withKind_30 : decode cX1_withKind 30 = .ok (.bipush 9, 2) := by decide +kernel
theorem dX1_withKind_32 : decode cX1_withKind 32 = .ok (.istore 4, 2) := by decide +kernel
theorem dX1_withKind_34 : decode cX1_withKind 34 = .ok (.iload_n 0, 1) := by decide +kernel
theorem dX1_withKind_35 : decode cX1_withKind 35 = .ok (.iload_n 3, 1) := by decide +kernel
theorem dX1_withKind_36 : decode cX1_withKind 36 = .ok (.iload 4, 2) := by decide +kernel
theorem dX1_withKind_38 : decode cX1_withKind 38 = .ok (.invokestatic 9, 3) := by decide +kernel
theorem dX1_withKind_41 : decode cX1_withKind 41 = .ok (.ireturn, 1) := by decide +kernel
theorem dX1_bound_0 : decode cX1_bound 0 = .ok (.iload_n 0, 1) := by decide +kernel
theorem dX1_bound_1 : decode cX1_bound 1 = .ok (.bipush 20, 2) := by decide +kernel
theorem dX1_bound_3 : decode cX1_bound 3 = .ok (.iconst 4, 1) := by decide +kernel
theorem dX1_bound_4 : decode cX1_bound 4 = .ok (.iload_n 1, 1) := by decide +kernel
theorem dX1_bound_5 : decode cX1_bound 5 = .ok (.imul, 1) := by decide +kernel
theorem dX1_bound_6 : decode cX1_bound 6 = .ok (.isub, 1) := by decide +kernel
theorem dX1_bound_7 : decode cX1_bound 7 = .ok (.ishr, 1) := by decide +kernel
theorem dX1_bound_8 : decode cX1_bound 8 = .ok (.bipush 15, 2) := by decide +kernel
theorem dX1_bound_10 : decode cX1_bound 10 = .ok (.iand, 1) := by decide +kernel
theorem dX1_bound_11 : decode cX1_bound 11 = .ok (.ireturn, 1) := by decide +kernel
theorem dX1_from_0 : decode cX1_from 0 = .ok (.iload_n 0, 1) := by decide +kernel
theorem dX1_from_1 : decode cX1_from 1 = .ok (.bipush 20, 2) := by decide +kernel
theorem dX1_from_3 : decode cX1_from 3 = .ok (.bipush 8, 2) := by decide +kernel
theorem dX1_from_5 : decode cX1_from 5 = .ok (.iload_n 1, 1) := by decide +kernel
theorem dX1_from_6 : decode cX1_from 6 = .ok (.imul, 1) := by decide +kernel
theorem dX1_from_7 : decode cX1_from 7 = .ok (.isub, 1) := by decide +kernel
theorem dX1_from_8 : decode cX1_from 8 = .ok (.ishr, 1) := by decide +kernel
theorem dX1_from_9 : decode cX1_from 9 = .ok (.bipush 15, 2) := by decide +kernel
theorem dX1_from_11 : decode cX1_from 11 = .ok (.iand, 1) := by decide +kernel
theorem dX1_from_12 : decode cX1_from 12 = .ok (.ireturn, 1) := by decide +kernel
theorem dX1_to_0 : decode cX1_to 0 = .ok (.iload_n 0, 1) := by decide +kernel
theorem dX1_to_1 : decode cX1_to 1 = .ok (.bipush 16, 2) := by decide +kernel
theorem dX1_to_3 : decode cX1_to 3 = .ok (.bipush 8, 2) := by decide +kernel
theorem dX1_to_5 : decode cX1_to 5 = .ok (.iload_n 1, 1) := by decide +kernel
theorem dX1_to_6 : decode cX1_to 6 = .ok (.imul, 1) := by decide +kernel
theorem dX1_to_7 : decode cX1_to 7 = .ok (.isub, 1) := by decide +kernel
theorem dX1_to_8 : decode cX1_to 8 = .ok (.ishr, 1) := by decide +kernel
theorem dX1_to_9 : decode cX1_to 9 = .ok (.bipush 15, 2) := by decide +kernel
theorem dX1_to_11 : decode cX1_to 11 = .ok (.iand, 1) := by decide +kernel
theorem dX1_to_12 : decode cX1_to 12 = .ok (.ireturn, 1) := by decide +kernel
theorem dX1_size_0 : decode cX1_size 0 = .ok (.iconst 1, 1) := by decide +kernel
theorem dX1_size_1 : decode cX1_size 1 = .ok (.istore_n 1, 1) := by decide +kernel
theorem dX1_size_2 : decode cX1_size 2 = .ok (.iconst 0, 1) := by decide +kernel
theorem dX1_size_3 : decode cX1_size 3 = .ok (.istore_n 2, 1) := by decide +kernel
theorem dX1_size_4 : decode cX1_size 4 = .ok (.iload_n 2, 1) := by decide +kernel
theorem dX1_size_5 : decode cX1_size 5 = .ok (.iconst 3, 1) := by decide +kernel
theorem dX1_size_6 : decode cX1_size 6 = .ok (.if_icmp .ge 25, 3) := by decide +kernel
theorem dX1_size_9 : decode cX1_size 9 = .ok (.iload_n 1, 1) := by decide +kernel
theorem dX1_size_10 : decode cX1_size 10 = .ok (.iload_n 0, 1) := by decide +kernel
theorem dX1_size_11 : decode cX1_size 11 = .ok (.iload_n 2, 1) := by decide +kernel
theorem dX1_size_12 : decode cX1_size 12 = .ok (.invokestatic 15, 3) := by decide +kernel
theorem dX1_size_15 : decode cX1_size 15 = .ok (.iload_n 0, 1) := by decide +kernel
theorem dX1_size_16 : decode cX1_size 16 = .ok (.iload_n 2, 1) := by decide +kernel
theorem dX1_size_17 : decode cX1_size 17 = .ok (.invokestatic 19, 3) := by decide +kernel
theorem dX1_size_20 : decode cX1_size 20 = .ok (.isub, 1) := by decide +kernel
theorem dX1_size_21 : decode cX1_size 21 = .ok (.iconst 1, 1) := by decide +kernel
theorem dX1_size_22 : decode cX1_size 22 = .ok (.iadd, 1) := by decide +kernel
theorem dX1_size_23 : decode cX1_size 23 = .ok (.imul, 1) := by decide +kernel
theorem dX1_size_24 : decode cX1_size 24 = .ok (.istore_n 1, 1) := by decide +kernel
theorem dX1_size_25 : decode cX1_size 25 = .ok (.iinc 2 1, 3) := by decide +kernel
theorem dX1_size_28 : decode cX1_size 28 = .ok (.goto (-24), 3) := by decide +kernel
theorem dX1_size_31 : decode cX1_size 31 = .ok (.iload_n 1, 1) := by decide +kernel
theorem dX1_size_32 : decode cX1_size 32 = .ok (.ireturn, 1) := by decide +kernel
theorem dX1_sizeOfCommon_0 : decode cX1_sizeOfCommon 0 = .ok (.iconst 1, 1) := by decide +kernel
theorem dX1_sizeOfCommon_1 : decode cX1_sizeOfCommon 1 = .ok (.istore_n 2, 1) := by decide +kernel
theorem dX1_sizeOfCommon_2 : decode cX1_sizeOfCommon 2 = .ok (.iconst 0, 1) := by decide +kernel
theorem dX1_sizeOfCommon_3 : decode cX1_sizeOfCommon 3 = .ok (.istore_n 3, 1) := by decide +kernel
theorem dX1_sizeOfCommon_4 : decode cX1_sizeOfCommon 4 = .ok (.iload_n 3, 1) := by decide +kernel
theorem dX1_sizeOfCommon_5 : decode cX1_sizeOfCommon 5 = .ok (.iconst 3, 1) := by decide +kernel
theorem dX1_sizeOfCommon_6 : decode cX1_sizeOfCommon 6 = .ok (.if_icmp .ge 53, 3) := by decide +kernel
theorem dX1_sizeOfCommon_9 : decode cX1_sizeOfCommon 9 = .ok (.iload_n 0, 1) := by decide +kernel
theorem dX1_sizeOfCommon_10 : decode cX1_sizeOfCommon 10 = .ok (.iload_n 3, 1) := by decide +kernel
theorem dX1_sizeOfCommon_11 : decode cX1_sizeOfCommon 11 = .ok (.invokestatic 19, 3) := by decide +kernel
theorem dX1_sizeOfCommon_14 : decode cX1_sizeOfCommon 14 = .ok (.iload_n 1, 1) := by decide +kernel
theorem dX1_sizeOfCommon_15 : decode cX1_sizeOfCommon 15 = .ok (.iload_n 3, 1) := by decide +kernel
theorem dX1_sizeOfCommon_16 : decode cX1_sizeOfCommon 16 = .ok (.invokestatic 19, 3) := by decide +kernel
theorem dX1_sizeOfCommon_19 : decode cX1_sizeOfCommon 19 = .ok (.invokestatic 22, 3) := by decide +kernel
theorem dX1_sizeOfCommon_22 : decode cX1_sizeOfCommon 22 = .ok (.istore 4, 2) := by decide +kernel
theorem dX1_sizeOfCommon_24 : decode cX1_sizeOfCommon 24 = .ok (.iload_n 0, 1) := by decide +kernel
theorem dX1_sizeOfCommon_25 : decode cX1_sizeOfCommon 25 = .ok (.iload_n 3, 1) := by decide +kernel
theorem dX1_sizeOfCommon_26 : decode cX1_sizeOfCommon 26 = .ok (.invokestatic 15, 3) := by decide +kernel
theorem dX1_sizeOfCommon_29 : decode cX1_sizeOfCommon 29 = .ok (.iload_n 1, 1) := by decide +kernel
theorem dX1_sizeOfCommon_30 : decode cX1_sizeOfCommon 30 = .ok (.iload_n 3, 1) := by decide +kernel
theorem dX1_sizeOfCommon_31 : decode cX1_sizeOfCommon 31 = .ok (.invokestatic 15, 3) := by decide +kernel
theorem dX1_sizeOfCommon_34 : decode cX1_sizeOfCommon 34 = .ok (.invokestatic 27, 3) := by decide +kernel
theorem dX1_sizeOfCommon_37 : decode cX1_sizeOfCommon 37 = .ok (.istore 5, 2) := by decide +kernel
theorem dX1_sizeOfCommon_39 : decode cX1_sizeOfCommon 39 = .ok (.iload_n 2, 1) := by decide +kernel
theorem dX1_sizeOfCommon_40 : decode cX1_sizeOfCommon 40 = .ok (.iconst 0, 1) := by decide +kernel
theorem dX1_sizeOfCommon_41 : decode cX1_sizeOfCommon 41 = .ok (.iload 5, 2) := by decide +kernel
theorem dX1_sizeOfCommon_43 : decode cX1_sizeOfCommon 43 = .ok (.iload 4, 2) := by decide +kernel
theorem dX1_sizeOfCommon_45 : decode cX1_sizeOfCommon 45 = .ok (.isub, 1) := by decide +kernel
theorem dX1_sizeOfCommon_46 : decode cX1_sizeOfCommon 46 = .ok (.iconst 1, 1) := by decide +kernel
theorem dX1_sizeOfCommon_47 : decode cX1_sizeOfCommon 47 = .ok (.iadd, 1) := by decide +kernel
theorem dX1_sizeOfCommon_48 : decode cX1_sizeOfCommon 48 = .ok (.invokestatic 22, 3) := by decide +kernel
theorem dX1_sizeOfCommon_51 : decode cX1_sizeOfCommon 51 = .ok (.imul, 1) := by decide +kernel
theorem dX1_sizeOfCommon_52 : decode cX1_sizeOfCommon 52 = .ok (.istore_n 2, 1) := by decide +kernel
theorem dX1_sizeOfCommon_53 : decode cX1_sizeOfCommon 53 = .ok (.iinc 3 1, 3) := by decide +kernel
theorem dX1_sizeOfCommon_56 : decode cX1_sizeOfCommon 56 = .ok (.goto (-52), 3) := by decide +kernel
theorem dX1_sizeOfCommon_59 : decode cX1_sizeOfCommon 59 = .ok (.iload_n 2, 1) := by decide +kernel
theorem dX1_sizeOfCommon_60 : decode cX1_sizeOfCommon 60 = .ok (.ireturn, 1) := by decide +kernel
theorem dX1_covers_0 : decode cX1_covers 0 = .ok (.iconst 0, 1) := by decide +kernel
theorem dX1_covers_1 : decode cX1_covers 1 = .ok (.istore_n 2, 1) := by decide +kernel
theorem dX1_covers_2 : decode cX1_covers 2 = .ok (.iload_n 2, 1) := by decide +kernel
theorem dX1_covers_3 : decode cX1_covers 3 = .ok (.iconst 3, 1) := by decide +kernel
theorem dX1_covers_4 : decode cX1_covers 4 = .ok (.if_icmp .ge 37, 3) := by decide +kernel
theorem dX1_covers_7 : decode cX1_covers 7 = .ok (.iload_n 1, 1) := by decide +kernel
theorem dX1_covers_8 : decode cX1_covers 8 = .ok (.iload_n 2, 1) := by decide +kernel
theorem dX1_covers_9 : decode cX1_covers 9 = .ok (.invokestatic 19, 3) := by decide +kernel
theorem dX1_covers_12 : decode cX1_covers 12 = .ok (.iload_n 0, 1) := by decide +kernel
theorem dX1_covers_13 : decode cX1_covers 13 = .ok (.iload_n 2, 1) := by decide +kernel
theorem dX1_covers_14 : decode cX1_covers 14 = .ok (.invokestatic 19, 3) := by decide +kernel
theorem dX1_covers_17 : decode cX1_covers 17 = .ok (.if_icmp .lt 16, 3) := by decide +kernel
theorem dX1_covers_20 : decode cX1_covers 20 = .ok (.iload_n 1, 1) := by decide +kernel
theorem dX1_covers_21 : decode cX1_covers 21 = .ok (.iload_n 2, 1) := by decide +kernel
theorem dX1_covers_22 : decode cX1_covers 22 = .ok (.invokestatic 15, 3) := by decide +kernel
theorem dX1_covers_25 : decode cX1_covers 25 = .ok (.iload_n 0, 1) := by decide +kernel
theorem dX1_covers_26 : decode cX1_covers 26 = .ok (.iload_n 2, 1) := by decide +kernel
theorem dX1_covers_27 : decode cX1_covers 27 = .ok (.invokestatic 15, 3) := by decide +kernel
theorem dX1_covers_30 : decode cX1_covers 30 = .ok (.if_icmp .le 5, 3) := by decide +kernel
theorem dX1_covers_33 : decode cX1_covers 33 = .ok (.iconst 0, 1) := by decide +kernel
theorem dX1_covers_34 : decode cX1_covers 34 = .ok (.ireturn, 1) := by decide +kernel
theorem dX1_covers_35 : decode cX1_covers 35 = .ok (.iinc 2 1, 3) := by decide +kernel
theorem dX1_covers_38 : decode cX1_covers 38 = .ok (.goto (-36), 3) := by decide +kernel
theorem dX1_covers_41 : decode cX1_covers 41 = .ok (.iconst 1, 1) := by decide +kernel
theorem dX1_covers_42 : decode cX1_covers 42 = .ok (.ireturn, 1) := by decide +kernel
theorem dX1_joined_0 : decode cX1_joined 0 = .ok (.iconst 0, 1) := by decide +kernel
theorem dX1_joined_1 : decode cX1_joined 1 = .ok (.istore_n 2, 1) := by decide +kernel
theorem dX1_joined_2 : decode cX1_joined 2 = .ok (.iconst 0, 1) := by decide +kernel
theorem dX1_joined_3 : decode cX1_joined 3 = .ok (.istore_n 3, 1) := by decide +kernel
theorem dX1_joined_4 : decode cX1_joined 4 = .ok (.iload_n 3, 1) := by decide +kernel
theorem dX1_joined_5 : decode cX1_joined 5 = .ok (.iconst 3, 1) := by decide +kernel
theorem dX1_joined_6 : decode cX1_joined 6 = .ok (.if_icmp .ge 40, 3) := by decide +kernel
theorem dX1_joined_9 : decode cX1_joined 9 = .ok (.iload_n 2, 1) := by decide +kernel
theorem dX1_joined_10 : decode cX1_joined 10 = .ok (.iload_n 0, 1) := by decide +kernel
theorem dX1_joined_11 : decode cX1_joined 11 = .ok (.iload_n 3, 1) := by decide +kernel
theorem dX1_joined_12 : decode cX1_joined 12 = .ok (.invokestatic 19, 3) := by decide +kernel
theorem dX1_joined_15 : decode cX1_joined 15 = .ok (.iload_n 1, 1) := by decide +kernel
theorem dX1_joined_16 : decode cX1_joined 16 = .ok (.iload_n 3, 1) := by decide +kernel
theorem dX1_joined_17 : decode cX1_joined 17 = .ok (.invokestatic 19, 3) := by decide +kernel
theorem dX1_joined_20 : decode cX1_joined 20 = .ok (.invokestatic 27, 3) := by decide +kernel
theorem dX1_joined_23 : decode cX1_joined 23 = .ok (.iload_n 0, 1) := by decide +kernel
theorem dX1_joined_24 : decode cX1_joined 24 = .ok (.iload_n 3, 1) := by decide +kernel
theorem dX1_joined_25 : decode cX1_joined 25 = .ok (.invokestatic 15, 3) := by decide +kernel
theorem dX1_joined_28 : decode cX1_joined 28 = .ok (.iload_n 1, 1) := by decide +kernel
theorem dX1_joined_29 : decode cX1_joined 29 = .ok (.iload_n 3, 1) := by decide +kernel
theorem dX1_joined_30 : decode cX1_joined 30 = .ok (.invokestatic 15, 3) := by decide +kernel
theorem dX1_joined_33 : decode cX1_joined 33 = .ok (.invokestatic 22, 3) := by decide +kernel
theorem dX1_joined_36 : decode cX1_joined 36 = .ok (.invokestatic 9, 3) := by decide +kernel
theorem dX1_joined_39 : decode cX1_joined 39 = .ok (.istore_n 2, 1) := by decide +kernel
theorem dX1_joined_40 : decode cX1_joined 40 = .ok (.iinc 3 1, 3) := by decide +kernel
theorem dX1_joined_43 : decode cX1_joined 43 = .ok (.goto (-39), 3) := by decide +kernel
theorem dX1_joined_46 : decode cX1_joined 46 = .ok (.iload_n 2, 1) := by decide +kernel
theorem dX1_joined_47 : decode cX1_joined 47 = .ok (.ireturn, 1) := by decide +kernel
theorem dX1_waste_0 : decode cX1_waste 0 = .ok (.iload_n 0, 1) := by decide +kernel
theorem dX1_waste_1 : decode cX1_waste 1 = .ok (.iload_n 1, 1) := by decide +kernel
theorem dX1_waste_2 : decode cX1_waste 2 = .ok (.invokestatic 30, 3) := by decide +kernel
theorem dX1_waste_5 : decode cX1_waste 5 = .ok (.invokestatic 33, 3) := by decide +kernel
theorem dX1_waste_8 : decode cX1_waste 8 = .ok (.iload_n 0, 1) := by decide +kernel
theorem dX1_waste_9 : decode cX1_waste 9 = .ok (.invokestatic 33, 3) := by decide +kernel
theorem dX1_waste_12 : decode cX1_waste 12 = .ok (.iload_n 1, 1) := by decide +kernel
theorem dX1_waste_13 : decode cX1_waste 13 = .ok (.invokestatic 33, 3) := by decide +kernel
theorem dX1_waste_16 : decode cX1_waste 16 = .ok (.iadd, 1) := by decide +kernel
theorem dX1_waste_17 : decode cX1_waste 17 = .ok (.iload_n 0, 1) := by decide +kernel
theorem dX1_waste_18 : decode cX1_waste 18 = .ok (.iload_n 1, 1) := by decide +kernel
theorem dX1_waste_19 : decode cX1_waste 19 = .ok (.invokestatic 37, 3) := by decide +kernel
theorem dX1_waste_22 : decode cX1_waste 22 = .ok (.isub, 1) := by decide +kernel
theorem dX1_waste_23 : decode cX1_waste 23 = .ok (.isub, 1) := by decide +kernel
theorem dX1_waste_24 : decode cX1_waste 24 = .ok (.ireturn, 1) := by decide +kernel
theorem dX2_init_0 : decode cX2_init 0 = .ok (.aload_n 0, 1) := by decide +kernel
theorem dX2_init_1 : decode cX2_init 1 = .ok (.invokespecial 3, 3) := by decide +kernel
theorem dX2_init_4 : decode cX2_init 4 = .ok (.aload_n 0, 1) := by decide +kernel
theorem dX2_init_5 : decode cX2_init 5 = .ok (.bipush 12, 2) := by decide +kernel
theorem dX2_init_7 : decode cX2_init 7 = .ok (.newarray .int, 2) := by decide +kernel
theorem dX2_init_9 : decode cX2_init 9 = .ok (.putfield 9, 3) := by decide +kernel
theorem dX2_init_12 : decode cX2_init 12 = .ok (.return_, 1) := by decide +kernel
theorem dX2_covers_0 : decode cX2_covers 0 = .ok (.iconst 0, 1) := by decide +kernel
theorem dX2_covers_1 : decode cX2_covers 1 = .ok (.istore_n 2, 1) := by decide +kernel
theorem dX2_covers_2 : decode cX2_covers 2 = .ok (.iload_n 2, 1) := by decide +kernel
theorem dX2_covers_3 : decode cX2_covers 3 = .ok (.aload_n 0, 1) := by decide +kernel
theorem dX2_covers_4 : decode cX2_covers 4 = .ok (.getfield 15, 3) := by decide +kernel
theorem dX2_covers_7 : decode cX2_covers 7 = .ok (.if_icmp .ge 24, 3) := by decide +kernel
theorem dX2_covers_10 : decode cX2_covers 10 = .ok (.aload_n 0, 1) := by decide +kernel
theorem dX2_covers_11 : decode cX2_covers 11 = .ok (.getfield 9, 3) := by decide +kernel
theorem dX2_covers_14 : decode cX2_covers 14 = .ok (.iload_n 2, 1) := by decide +kernel
theorem dX2_covers_15 : decode cX2_covers 15 = .ok (.iaload, 1) := by decide +kernel
theorem dX2_covers_16 : decode cX2_covers 16 = .ok (.iload_n 1, 1) := by decide +kernel
theorem dX2_covers_17 : decode cX2_covers 17 = .ok (.invokestatic 19, 3) := by decide +kernel
theorem dX2_covers_20 : decode cX2_covers 20 = .ok (.ifCond .eq 5, 3) := by decide +kernel
theorem dX2_covers_23 : decode cX2_covers 23 = .ok (.iconst 1, 1) := by decide +kernel
theorem dX2_covers_24 : decode cX2_covers 24 = .ok (.ireturn, 1) := by decide +kernel
theorem dX2_covers_25 : decode cX2_covers 25 = .ok (.iinc 2 1, 3) := by decide +kernel
theorem dX2_covers_28 : decode cX2_covers 28 = .ok (.goto (-26), 3) := by decide +kernel
theorem dX2_covers_31 : decode cX2_covers 31 = .ok (.iconst 0, 1) := by decide +kernel
theorem dX2_covers_32 : decode cX2_covers 32 = .ok (.ireturn, 1) := by decide +kernel
theorem dX2_add_0 : decode cX2_add 0 = .ok (.aload_n 0, 1) := by decide +kernel
theorem dX2_add_1 : decode cX2_add 1 = .ok (.iload_n 1, 1) := by decide +kernel
theorem dX2_add_2 : decode cX2_add 2 = .ok (.invokevirtual 25, 3) := by decide +kernel
theorem dX2_add_5 : decode cX2_add 5 = .ok (.ifCond .eq 4, 3) := by decide +kernel
theorem dX2_add_8 : decode cX2_add 8 = .ok (.return_, 1) := by decide +kernel
theorem dX2_add_9 : decode cX2_add 9 = .ok (.aload_n 0, 1) := by decide +kernel
theorem dX2_add_10 : decode cX2_add 10 = .ok (.iload_n 1, 1) := by decide +kernel
theorem dX2_add_11 : decode cX2_add 11 = .ok (.invokevirtual 28, 3) := by decide +kernel
theorem dX2_add_14 : decode cX2_add 14 = .ok (.aload_n 0, 1) := by decide +kernel
theorem dX2_add_15 : decode cX2_add 15 = .ok (.iload_n 1, 1) := by decide +kernel
theorem dX2_add_16 : decode cX2_add 16 = .ok (.invokevirtual 32, 3) := by decide +kernel
theorem dX2_add_19 : decode cX2_add 19 = .ok (.return_, 1) := by decide +kernel
theorem dX2_cheapestJoin_0 : decode cX2_cheapestJoin 0 = .ok (.sipush 1000, 3) := by decide +kernel
theorem dX2_cheapestJoin_3 : decode cX2_cheapestJoin 3 = .ok (.istore_n 1, 1) := by decide +kernel
theorem dX2_cheapestJoin_4 : decode cX2_cheapestJoin 4 = .ok (.iconst 0, 1) := by decide +kernel
theorem dX2_cheapestJoin_5 : decode cX2_cheapestJoin 5 = .ok (.istore_n 2, 1) := by decide +kernel
theorem dX2_cheapestJoin_6 : decode cX2_cheapestJoin 6 = .ok (.iconst 0, 1) := by decide +kernel
theorem dX2_cheapestJoin_7 : decode cX2_cheapestJoin 7 = .ok (.istore_n 3, 1) := by decide +kernel
theorem dX2_cheapestJoin_8 : decode cX2_cheapestJoin 8 = .ok (.iload_n 3, 1) := by decide +kernel
theorem dX2_cheapestJoin_9 : decode cX2_cheapestJoin 9 = .ok (.aload_n 0, 1) := by decide +kernel
theorem dX2_cheapestJoin_10 : decode cX2_cheapestJoin 10 = .ok (.getfield 15, 3) := by decide +kernel
theorem dX2_cheapestJoin_13 : decode cX2_cheapestJoin 13 = .ok (.if_icmp .ge 73, 3) := by decide +kernel
theorem dX2_cheapestJoin_16 : decode cX2_cheapestJoin 16 = .ok (.iload_n 3, 1) := by decide +kernel
theorem dX2_cheapestJoin_17 : decode cX2_cheapestJoin 17 = .ok (.iconst 1, 1) := by decide +kernel
theorem dX2_cheapestJoin_18 : decode cX2_cheapestJoin 18 = .ok (.iadd, 1) := by decide +kernel
theorem dX2_cheapestJoin_19 : decode cX2_cheapestJoin 19 = .ok (.istore 4, 2) := by decide +kernel
theorem dX2_cheapestJoin_21 : decode cX2_cheapestJoin 21 = .ok (.iload 4, 2) := by decide +kernel
theorem dX2_cheapestJoin_23 : decode cX2_cheapestJoin 23 = .ok (.aload_n 0, 1) := by decide +kernel
theorem dX2_cheapestJoin_24 : decode cX2_cheapestJoin 24 = .ok (.getfield 15, 3) := by decide +kernel
theorem dX2_cheapestJoin_27 : decode cX2_cheapestJoin 27 = .ok (.if_icmp .ge 53, 3) := by decide +kernel
theorem dX2_cheapestJoin_30 : decode cX2_cheapestJoin 30 = .ok (.aload_n 0, 1) := by decide +kernel
theorem dX2_cheapestJoin_31 : decode cX2_cheapestJoin 31 = .ok (.getfield 9, 3) := by decide +kernel
theorem dX2_cheapestJoin_34 : decode cX2_cheapestJoin 34 = .ok (.iload_n 3, 1) := by decide +kernel
theorem dX2_cheapestJoin_35 : decode cX2_cheapestJoin 35 = .ok (.iaload, 1) := by decide +kernel
theorem dX2_cheapestJoin_36 : decode cX2_cheapestJoin 36 = .ok (.aload_n 0, 1) := by decide +kernel
theorem dX2_cheapestJoin_37 : decode cX2_cheapestJoin 37 = .ok (.getfield 9, 3) := by decide +kernel
theorem dX2_cheapestJoin_40 : decode cX2_cheapestJoin 40 = .ok (.iload 4, 2) := by decide +kernel
theorem dX2_cheapestJoin_42 : decode cX2_cheapestJoin 42 = .ok (.iaload, 1) := by decide +kernel
theorem dX2_cheapestJoin_43 : decode cX2_cheapestJoin 43 = .ok (.invokestatic 35, 3) := by decide +kernel
theorem dX2_cheapestJoin_46 : decode cX2_cheapestJoin 46 = .ok (.istore 5, 2) := by decide +kernel
theorem dX2_cheapestJoin_48 : decode cX2_cheapestJoin 48 = .ok (.iload 5, 2) := by decide +kernel
theorem dX2_cheapestJoin_50 : decode cX2_cheapestJoin 50 = .ok (.iload_n 1, 1) := by decide +kernel
theorem dX2_cheapestJoin_51 : decode cX2_cheapestJoin 51 = .ok (.if_icmp .ge 23, 3) := by decide +kernel
theorem dX2_cheapestJoin_54 : decode cX2_cheapestJoin 54 = .ok (.iload 5, 2) := by decide +kernel
theorem dX2_cheapestJoin_56 : decode cX2_cheapestJoin 56 = .ok (.istore_n 1, 1) := by decide +kernel
theorem dX2_cheapestJoin_57 : decode cX2_cheapestJoin 57 = .ok (.aload_n 0, 1) := by decide +kernel
theorem dX2_cheapestJoin_58 : decode cX2_cheapestJoin 58 = .ok (.getfield 9, 3) := by decide +kernel
theorem dX2_cheapestJoin_61 : decode cX2_cheapestJoin 61 = .ok (.iload_n 3, 1) := by decide +kernel
theorem dX2_cheapestJoin_62 : decode cX2_cheapestJoin 62 = .ok (.iaload, 1) := by decide +kernel
theorem dX2_cheapestJoin_63 : decode cX2_cheapestJoin 63 = .ok (.aload_n 0, 1) := by decide +kernel
theorem dX2_cheapestJoin_64 : decode cX2_cheapestJoin 64 = .ok (.getfield 9, 3) := by decide +kernel
theorem dX2_cheapestJoin_67 : decode cX2_cheapestJoin 67 = .ok (.iload 4, 2) := by decide +kernel
theorem dX2_cheapestJoin_69 : decode cX2_cheapestJoin 69 = .ok (.iaload, 1) := by decide +kernel
theorem dX2_cheapestJoin_70 : decode cX2_cheapestJoin 70 = .ok (.invokestatic 39, 3) := by decide +kernel
theorem dX2_cheapestJoin_73 : decode cX2_cheapestJoin 73 = .ok (.istore_n 2, 1) := by decide +kernel
theorem dX2_cheapestJoin_74 : decode cX2_cheapestJoin 74 = .ok (.iinc 4 1, 3) := by decide +kernel
theorem dX2_cheapestJoin_77 : decode cX2_cheapestJoin 77 = .ok (.goto (-56), 3) := by decide +kernel
theorem dX2_cheapestJoin_80 : decode cX2_cheapestJoin 80 = .ok (.iinc 3 1, 3) := by decide +kernel
theorem dX2_cheapestJoin_83 : decode cX2_cheapestJoin 83 = .ok (.goto (-75), 3) := by decide +kernel
theorem dX2_cheapestJoin_86 : decode cX2_cheapestJoin 86 = .ok (.iload_n 2, 1) := by decide +kernel
theorem dX2_cheapestJoin_87 : decode cX2_cheapestJoin 87 = .ok (.ireturn, 1) := by decide +kernel
theorem dX2_removeCoveredBy_0 : decode cX2_removeCoveredBy 0 = .ok (.iconst 0, 1) := by decide +kernel
theorem dX2_removeCoveredBy_1 : decode cX2_removeCoveredBy 1 = .ok (.istore_n 2, 1) := by decide +kernel
theorem dX2_removeCoveredBy_2 : decode cX2_removeCoveredBy 2 = .ok (.iconst 0, 1) := by decide +kernel
theorem dX2_removeCoveredBy_3 : decode cX2_removeCoveredBy 3 = .ok (.istore_n 3, 1) := by decide +kernel
theorem dX2_removeCoveredBy_4 : decode cX2_removeCoveredBy 4 = .ok (.iload_n 3, 1) := by decide +kernel
theorem dX2_removeCoveredBy_5 : decode cX2_removeCoveredBy 5 = .ok (.aload_n 0, 1) := by decide +kernel
theorem dX2_removeCoveredBy_6 : decode cX2_removeCoveredBy 6 = .ok (.getfield 15, 3) := by decide +kernel
theorem dX2_removeCoveredBy_9 : decode cX2_removeCoveredBy 9 = .ok (.if_icmp .ge 37, 3) := by decide +kernel
theorem dX2_removeCoveredBy_12 : decode cX2_removeCoveredBy 12 = .ok (.iload_n 1, 1) := by decide +kernel
theorem dX2_removeCoveredBy_13 : decode cX2_removeCoveredBy 13 = .ok (.aload_n 0, 1) := by decide +kernel
theorem dX2_removeCoveredBy_14 : decode cX2_removeCoveredBy 14 = .ok (.getfield 9, 3) := by decide +kernel
theorem dX2_removeCoveredBy_17 : decode cX2_removeCoveredBy 17 = .ok (.iload_n 3, 1) := by decide +kernel
theorem dX2_removeCoveredBy_18 : decode cX2_removeCoveredBy 18 = .ok (.iaload, 1) := by decide +kernel
theorem dX2_removeCoveredBy_19 : decode cX2_removeCoveredBy 19 = .ok (.invokestatic 19, 3) := by decide +kernel
theorem dX2_removeCoveredBy_22 : decode cX2_removeCoveredBy 22 = .ok (.ifCond .ne 18, 3) := by decide +kernel
theorem dX2_removeCoveredBy_25 : decode cX2_removeCoveredBy 25 = .ok (.aload_n 0, 1) := by decide +kernel
theorem dX2_removeCoveredBy_26 : decode cX2_removeCoveredBy 26 = .ok (.getfield 9, 3) := by decide +kernel
theorem dX2_removeCoveredBy_29 : decode cX2_removeCoveredBy 29 = .ok (.iload_n 2, 1) := by decide +kernel
theorem dX2_removeCoveredBy_30 : decode cX2_removeCoveredBy 30 = .ok (.aload_n 0, 1) := by decide +kernel
theorem dX2_removeCoveredBy_31 : decode cX2_removeCoveredBy 31 = .ok (.getfield 9, 3) := by decide +kernel
theorem dX2_removeCoveredBy_34 : decode cX2_removeCoveredBy 34 = .ok (.iload_n 3, 1) := by decide +kernel
theorem dX2_removeCoveredBy_35 : decode cX2_removeCoveredBy 35 = .ok (.iaload, 1) := by decide +kernel
theorem dX2_removeCoveredBy_36 : decode cX2_removeCoveredBy 36 = .ok (.iastore, 1) := by decide +kernel
theorem dX2_removeCoveredBy_37 : decode cX2_removeCoveredBy 37 = .ok (.iinc 2 1, 3) := by decide +kernel
theorem dX2_removeCoveredBy_40 : decode cX2_removeCoveredBy 40 = .ok (.iinc 3 1, 3) := by decide +kernel
theorem dX2_removeCoveredBy_43 : decode cX2_removeCoveredBy 43 = .ok (.goto (-39), 3) := by decide +kernel
theorem dX2_removeCoveredBy_46 : decode cX2_removeCoveredBy 46 = .ok (.aload_n 0, 1) := by decide +kernel
theorem dX2_removeCoveredBy_47 : decode cX2_removeCoveredBy 47 = .ok (.iload_n 2, 1) := by decide +kernel
theorem dX2_removeCoveredBy_48 : decode cX2_removeCoveredBy 48 = .ok (.putfield 15, 3) := by decide +kernel
theorem dX2_removeCoveredBy_51 : decode cX2_removeCoveredBy 51 = .ok (.return_, 1) := by decide +kernel
theorem dX2_insert_0 : decode cX2_insert 0 = .ok (.aload_n 0, 1) := by decide +kernel
theorem dX2_insert_1 : decode cX2_insert 1 = .ok (.getfield 15, 3) := by decide +kernel
theorem dX2_insert_4 : decode cX2_insert 4 = .ok (.aload_n 0, 1) := by decide +kernel
theorem dX2_insert_5 : decode cX2_insert 5 = .ok (.getfield 9, 3) := by decide +kernel
theorem dX2_insert_8 : decode cX2_insert 8 = .ok (.arraylength, 1) := by decide +kernel
theorem dX2_insert_9 : decode cX2_insert 9 = .ok (.if_icmp .lt 4, 3) := by decide +kernel
theorem dX2_insert_12 : decode cX2_insert 12 = .ok (.return_, 1) := by decide +kernel
theorem dX2_insert_13 : decode cX2_insert 13 = .ok (.aload_n 0, 1) := by decide +kernel
theorem dX2_insert_14 : decode cX2_insert 14 = .ok (.getfield 15, 3) := by decide +kernel
theorem dX2_insert_17 : decode cX2_insert 17 = .ok (.istore_n 2, 1) := by decide +kernel
theorem dX2_insert_18 : decode cX2_insert 18 = .ok (.iload_n 2, 1) := by decide +kernel
theorem dX2_insert_19 : decode cX2_insert 19 = .ok (.ifCond .le 35, 3) := by decide +kernel
theorem dX2_insert_22 : decode cX2_insert 22 = .ok (.aload_n 0, 1) := by decide +kernel
theorem dX2_insert_23 : decode cX2_insert 23 = .ok (.getfield 9, 3) := by decide +kernel
theorem dX2_insert_26 : decode cX2_insert 26 = .ok (.iload_n 2, 1) := by decide +kernel
theorem dX2_insert_27 : decode cX2_insert 27 = .ok (.iconst 1, 1) := by decide +kernel
theorem dX2_insert_28 : decode cX2_insert 28 = .ok (.isub, 1) := by decide +kernel
theorem dX2_insert_29 : decode cX2_insert 29 = .ok (.iaload, 1) := by decide +kernel
theorem dX2_insert_30 : decode cX2_insert 30 = .ok (.iload_n 1, 1) := by decide +kernel
theorem dX2_insert_31 : decode cX2_insert 31 = .ok (.if_icmp .le 23, 3) := by decide +kernel
theorem dX2_insert_34 : decode cX2_insert 34 = .ok (.aload_n 0, 1) := by decide +kernel
theorem dX2_insert_35 : decode cX2_insert 35 = .ok (.getfield 9, 3) := by decide +kernel
theorem dX2_insert_38 : decode cX2_insert 38 = .ok (.iload_n 2, 1) := by decide +kernel
theorem dX2_insert_39 : decode cX2_insert 39 = .ok (.aload_n 0, 1) := by decide +kernel
theorem dX2_insert_40 : decode cX2_insert 40 = .ok (.getfield 9, 3) := by decide +kernel
theorem dX2_insert_43 : decode cX2_insert 43 = .ok (.iload_n 2, 1) := by decide +kernel
theorem dX2_insert_44 : decode cX2_insert 44 = .ok (.iconst 1, 1) := by decide +kernel
theorem dX2_insert_45 : decode cX2_insert 45 = .ok (.isub, 1) := by decide +kernel
theorem dX2_insert_46 : decode cX2_insert 46 = .ok (.iaload, 1) := by decide +kernel
theorem dX2_insert_47 : decode cX2_insert 47 = .ok (.iastore, 1) := by decide +kernel
theorem dX2_insert_48 : decode cX2_insert 48 = .ok (.iinc 2 (-1), 3) := by decide +kernel
theorem dX2_insert_51 : decode cX2_insert 51 = .ok (.goto (-33), 3) := by decide +kernel
theorem dX2_insert_54 : decode cX2_insert 54 = .ok (.aload_n 0, 1) := by decide +kernel
theorem dX2_insert_55 : decode cX2_insert 55 = .ok (.getfield 9, 3) := by decide +kernel
theorem dX2_insert_58 : decode cX2_insert 58 = .ok (.iload_n 2, 1) := by decide +kernel
theorem dX2_insert_59 : decode cX2_insert 59 = .ok (.iload_n 1, 1) := by decide +kernel
theorem dX2_insert_60 : decode cX2_insert 60 = .ok (.iastore, 1) := by decide +kernel
theorem dX2_insert_61 : decode cX2_insert 61 = .ok (.aload_n 0, 1) := by decide +kernel
theorem dX2_insert_62 : decode cX2_insert 62 = .ok (.dup, 1) := by decide +kernel
theorem dX2_insert_63 : decode cX2_insert 63 = .ok (.getfield 15, 3) := by decide +kernel
theorem dX2_insert_66 : decode cX2_insert 66 = .ok (.iconst 1, 1) := by decide +kernel
theorem dX2_insert_67 : decode cX2_insert 67 = .ok (.iadd, 1) := by decide +kernel
theorem dX2_insert_68 : decode cX2_insert 68 = .ok (.putfield 15, 3) := by decide +kernel
theorem dX2_insert_71 : decode cX2_insert 71 = .ok (.return_, 1) := by decide +kernel
theorem dX3_init_0 : decode cX3_init 0 = .ok (.aload_n 0, 1) := by decide +kernel
theorem dX3_init_1 : decode cX3_init 1 = .ok (.invokespecial 3, 3) := by decide +kernel
theorem dX3_init_4 : decode cX3_init 4 = .ok (.aload_n 0, 1) := by decide +kernel
theorem dX3_init_5 : decode cX3_init 5 = .ok (.bipush 8, 2) := by decide +kernel
theorem dX3_init_7 : decode cX3_init 7 = .ok (.newarray .int, 2) := by decide +kernel
theorem dX3_init_9 : decode cX3_init 9 = .ok (.putfield 9, 3) := by decide +kernel
theorem dX3_init_12 : decode cX3_init 12 = .ok (.aload_n 0, 1) := by decide +kernel
theorem dX3_init_13 : decode cX3_init 13 = .ok (.bipush 12, 2) := by decide +kernel
theorem dX3_init_15 : decode cX3_init 15 = .ok (.newarray .int, 2) := by decide +kernel
theorem dX3_init_17 : decode cX3_init 17 = .ok (.putfield 15, 3) := by decide +kernel
theorem dX3_init_20 : decode cX3_init 20 = .ok (.return_, 1) := by decide +kernel
theorem dX3_begin_0 : decode cX3_begin 0 = .ok (.aload_n 0, 1) := by decide +kernel
theorem dX3_begin_1 : decode cX3_begin 1 = .ok (.iload_n 1, 1) := by decide +kernel
theorem dX3_begin_2 : decode cX3_begin 2 = .ok (.putfield 18, 3) := by decide +kernel
theorem dX3_begin_5 : decode cX3_begin 5 = .ok (.aload_n 0, 1) := by decide +kernel
theorem dX3_begin_6 : decode cX3_begin 6 = .ok (.iconst 1, 1) := by decide +kernel
theorem dX3_begin_7 : decode cX3_begin 7 = .ok (.putfield 22, 3) := by decide +kernel
theorem dX3_begin_10 : decode cX3_begin 10 = .ok (.aload_n 0, 1) := by decide +kernel
theorem dX3_begin_11 : decode cX3_begin 11 = .ok (.iconst 0, 1) := by decide +kernel
theorem dX3_begin_12 : decode cX3_begin 12 = .ok (.putfield 26, 3) := by decide +kernel
theorem dX3_begin_15 : decode cX3_begin 15 = .ok (.aload_n 0, 1) := by decide +kernel
theorem dX3_begin_16 : decode cX3_begin 16 = .ok (.iconst 0, 1) := by decide +kernel
theorem dX3_begin_17 : decode cX3_begin 17 = .ok (.putfield 29, 3) := by decide +kernel
theorem dX3_begin_20 : decode cX3_begin 20 = .ok (.aload_n 0, 1) := by decide +kernel
theorem dX3_begin_21 : decode cX3_begin 21 = .ok (.iconst 0, 1) := by decide +kernel
theorem dX3_begin_22 : decode cX3_begin 22 = .ok (.putfield 32, 3) := by decide +kernel
theorem dX3_begin_25 : decode cX3_begin 25 = .ok (.return_, 1) := by decide +kernel
theorem dX3_copyFrom_0 : decode cX3_copyFrom 0 = .ok (.aload_n 0, 1) := by decide +kernel
theorem dX3_copyFrom_1 : decode cX3_copyFrom 1 = .ok (.aload_n 1, 1) := by decide +kernel
theorem dX3_copyFrom_2 : decode cX3_copyFrom 2 = .ok (.getfield 18, 3) := by decide +kernel
theorem dX3_copyFrom_5 : decode cX3_copyFrom 5 = .ok (.putfield 18, 3) := by decide +kernel
theorem dX3_copyFrom_8 : decode cX3_copyFrom 8 = .ok (.aload_n 0, 1) := by decide +kernel
theorem dX3_copyFrom_9 : decode cX3_copyFrom 9 = .ok (.aload_n 1, 1) := by decide +kernel
theorem dX3_copyFrom_10 : decode cX3_copyFrom 10 = .ok (.getfield 22, 3) := by decide +kernel
theorem dX3_copyFrom_13 : decode cX3_copyFrom 13 = .ok (.putfield 22, 3) := by decide +kernel
theorem dX3_copyFrom_16 : decode cX3_copyFrom 16 = .ok (.aload_n 0, 1) := by decide +kernel
theorem dX3_copyFrom_17 : decode cX3_copyFrom 17 = .ok (.aload_n 1, 1) := by decide +kernel
theorem dX3_copyFrom_18 : decode cX3_copyFrom 18 = .ok (.getfield 26, 3) := by decide +kernel
theorem dX3_copyFrom_21 : decode cX3_copyFrom 21 = .ok (.putfield 26, 3) := by decide +kernel
theorem dX3_copyFrom_24 : decode cX3_copyFrom 24 = .ok (.aload_n 0, 1) := by decide +kernel
theorem dX3_copyFrom_25 : decode cX3_copyFrom 25 = .ok (.aload_n 1, 1) := by decide +kernel
theorem dX3_copyFrom_26 : decode cX3_copyFrom 26 = .ok (.getfield 29, 3) := by decide +kernel
theorem dX3_copyFrom_29 : decode cX3_copyFrom 29 = .ok (.putfield 29, 3) := by decide +kernel
theorem dX3_copyFrom_32 : decode cX3_copyFrom 32 = .ok (.aload_n 0, 1) := by decide +kernel
theorem dX3_copyFrom_33 : decode cX3_copyFrom 33 = .ok (.aload_n 1, 1) := by decide +kernel
theorem dX3_copyFrom_34 : decode cX3_copyFrom 34 = .ok (.getfield 32, 3) := by decide +kernel
theorem dX3_copyFrom_37 : decode cX3_copyFrom 37 = .ok (.putfield 32, 3) := by decide +kernel
theorem dX3_copyFrom_40 : decode cX3_copyFrom 40 = .ok (.aload_n 1, 1) := by decide +kernel
theorem dX3_copyFrom_41 : decode cX3_copyFrom 41 = .ok (.getfield 9, 3) := by decide +kernel
theorem dX3_copyFrom_44 : decode cX3_copyFrom 44 = .ok (.iconst 0, 1) := by decide +kernel
theorem dX3_copyFrom_45 : decode cX3_copyFrom 45 = .ok (.aload_n 0, 1) := by decide +kernel
theorem dX3_copyFrom_46 : decode cX3_copyFrom 46 = .ok (.getfield 9, 3) := by decide +kernel
theorem dX3_copyFrom_49 : decode cX3_copyFrom 49 = .ok (.iconst 0, 1) := by decide +kernel
theorem dX3_copyFrom_50 : decode cX3_copyFrom 50 = .ok (.bipush 8, 2) := by decide +kernel
theorem dX3_copyFrom_52 : decode cX3_copyFrom 52 = .ok (.invokestatic 35, 3) := by decide +kernel
theorem dX3_copyFrom_55 : decode cX3_copyFrom 55 = .ok (.aload_n 1, 1) := by decide +kernel
theorem dX3_copyFrom_56 : decode cX3_copyFrom 56 = .ok (.getfield 15, 3) := by decide +kernel
theorem dX3_copyFrom_59 : decode cX3_copyFrom 59 = .ok (.iconst 0, 1) := by decide +kernel
theorem dX3_copyFrom_60 : decode cX3_copyFrom 60 = .ok (.aload_n 0, 1) := by decide +kernel
theorem dX3_copyFrom_61 : decode cX3_copyFrom 61 = .ok (.getfield 15, 3) := by decide +kernel
theorem dX3_copyFrom_64 : decode cX3_copyFrom 64 = .ok (.iconst 0, 1) := by decide +kernel
theorem dX3_copyFrom_65 : decode cX3_copyFrom 65 = .ok (.bipush 12, 2) := by decide +kernel
theorem dX3_copyFrom_67 : decode cX3_copyFrom 67 = .ok (.invokestatic 35, 3) := by decide +kernel
theorem dX3_copyFrom_70 : decode cX3_copyFrom 70 = .ok (.return_, 1) := by decide +kernel
theorem dX3_latest_0 : decode cX3_latest 0 = .ok (.iload_n 1, 1) := by decide +kernel
theorem dX3_latest_1 : decode cX3_latest 1 = .ok (.aload_n 0, 1) := by decide +kernel
theorem dX3_latest_2 : decode cX3_latest 2 = .ok (.getfield 26, 3) := by decide +kernel
theorem dX3_latest_5 : decode cX3_latest 5 = .ok (.if_icmp .ge 12, 3) := by decide +kernel
theorem dX3_latest_8 : decode cX3_latest 8 = .ok (.aload_n 0, 1) := by decide +kernel
theorem dX3_latest_9 : decode cX3_latest 9 = .ok (.getfield 15, 3) := by decide +kernel
theorem dX3_latest_12 : decode cX3_latest 12 = .ok (.iload_n 1, 1) := by decide +kernel
theorem dX3_latest_13 : decode cX3_latest 13 = .ok (.iaload, 1) := by decide +kernel
theorem dX3_latest_14 : decode cX3_latest 14 = .ok (.goto 4, 3) := by decide +kernel
theorem dX3_latest_17 : decode cX3_latest 17 = .ok (.iconst (-1), 1) := by decide +kernel
theorem dX3_latest_18 : decode cX3_latest 18 = .ok (.ireturn, 1) := by decide +kernel
theorem dX3_receive_0 : decode cX3_receive 0 = .ok (.aload_n 0, 1) := by decide +kernel
theorem dX3_receive_1 : decode cX3_receive 1 = .ok (.getfield 22, 3) := by decide +kernel
theorem dX3_receive_4 : decode cX3_receive 4 = .ok (.ifCond .eq 11, 3) := by decide +kernel
theorem dX3_receive_7 : decode cX3_receive 7 = .ok (.aload_n 0, 1) := by decide +kernel
theorem dX3_receive_8 : decode cX3_receive 8 = .ok (.iload_n 1, 1) := by decide +kernel
theorem dX3_receive_9 : decode cX3_receive 9 = .ok (.invokevirtual 41, 3) := by decide +kernel
theorem dX3_receive_12 : decode cX3_receive 12 = .ok (.goto 8, 3) := by decide +kernel
theorem dX3_receive_15 : decode cX3_receive 15 = .ok (.aload_n 0, 1) := by decide +kernel
theorem dX3_receive_16 : decode cX3_receive 16 = .ok (.iload_n 1, 1) := by decide +kernel
theorem dX3_receive_17 : decode cX3_receive 17 = .ok (.invokevirtual 45, 3) := by decide +kernel
theorem dX3_receive_20 : decode cX3_receive 20 = .ok (.return_, 1) := by decide +kernel
theorem dX3_arrive_0 : decode cX3_arrive 0 = .ok (.aload_n 0, 1) := by decide +kernel
theorem dX3_arrive_1 : decode cX3_arrive 1 = .ok (.getfield 32, 3) := by decide +kernel
theorem dX3_arrive_4 : decode cX3_arrive 4 = .ok (.istore_n 2, 1) := by decide +kernel
theorem dX3_arrive_5 : decode cX3_arrive 5 = .ok (.aload_n 0, 1) := by decide +kernel
theorem dX3_arrive_6 : decode cX3_arrive 6 = .ok (.iload_n 1, 1) := by decide +kernel
theorem dX3_arrive_7 : decode cX3_arrive 7 = .ok (.putfield 18, 3) := by decide +kernel
theorem dX3_arrive_10 : decode cX3_arrive 10 = .ok (.aload_n 0, 1) := by decide +kernel
theorem dX3_arrive_11 : decode cX3_arrive 11 = .ok (.iconst 1, 1) := by decide +kernel
theorem dX3_arrive_12 : decode cX3_arrive 12 = .ok (.putfield 22, 3) := by decide +kernel
theorem dX3_arrive_15 : decode cX3_arrive 15 = .ok (.iconst 0, 1) := by decide +kernel
theorem dX3_arrive_16 : decode cX3_arrive 16 = .ok (.istore_n 3, 1) := by decide +kernel
theorem dX3_arrive_17 : decode cX3_arrive 17 = .ok (.iload_n 3, 1) := by decide +kernel
theorem dX3_arrive_18 : decode cX3_arrive 18 = .ok (.iload_n 2, 1) := by decide +kernel
theorem dX3_arrive_19 : decode cX3_arrive 19 = .ok (.if_icmp .ge 19, 3) := by decide +kernel
theorem dX3_arrive_22 : decode cX3_arrive 22 = .ok (.aload_n 0, 1) := by decide +kernel
theorem dX3_arrive_23 : decode cX3_arrive 23 = .ok (.aload_n 0, 1) := by decide +kernel
theorem dX3_arrive_24 : decode cX3_arrive 24 = .ok (.getfield 9, 3) := by decide +kernel
theorem dX3_arrive_27 : decode cX3_arrive 27 = .ok (.iload_n 3, 1) := by decide +kernel
theorem dX3_arrive_28 : decode cX3_arrive 28 = .ok (.iaload, 1) := by decide +kernel
theorem dX3_arrive_29 : decode cX3_arrive 29 = .ok (.invokevirtual 41, 3) := by decide +kernel
theorem dX3_arrive_32 : decode cX3_arrive 32 = .ok (.iinc 3 1, 3) := by decide +kernel
theorem dX3_arrive_35 : decode cX3_arrive 35 = .ok (.goto (-18), 3) := by decide +kernel
theorem dX3_arrive_38 : decode cX3_arrive 38 = .ok (.aload_n 0, 1) := by decide +kernel
theorem dX3_arrive_39 : decode cX3_arrive 39 = .ok (.iconst 0, 1) := by decide +kernel
theorem dX3_arrive_40 : decode cX3_arrive 40 = .ok (.putfield 32, 3) := by decide +kernel
theorem dX3_arrive_43 : decode cX3_arrive 43 = .ok (.iload_n 2, 1) := by decide +kernel
theorem dX3_arrive_44 : decode cX3_arrive 44 = .ok (.ireturn, 1) := by decide +kernel
theorem dX3_enter_0 : decode cX3_enter 0 = .ok (.bipush 11, 2) := by decide +kernel
theorem dX3_enter_2 : decode cX3_enter 2 = .ok (.istore_n 2, 1) := by decide +kernel
theorem dX3_enter_3 : decode cX3_enter 3 = .ok (.iload_n 2, 1) := by decide +kernel
theorem dX3_enter_4 : decode cX3_enter 4 = .ok (.ifCond .le 23, 3) := by decide +kernel
theorem dX3_enter_7 : decode cX3_enter 7 = .ok (.aload_n 0, 1) := by decide +kernel
theorem dX3_enter_8 : decode cX3_enter 8 = .ok (.getfield 15, 3) := by decide +kernel
theorem dX3_enter_11 : decode cX3_enter 11 = .ok (.iload_n 2, 1) := by decide +kernel
theorem dX3_enter_12 : decode cX3_enter 12 = .ok (.aload_n 0, 1) := by decide +kernel
theorem dX3_enter_13 : decode cX3_enter 13 = .ok (.getfield 15, 3) := by decide +kernel
theorem dX3_enter_16 : decode cX3_enter 16 = .ok (.iload_n 2, 1) := by decide +kernel
theorem dX3_enter_17 : decode cX3_enter 17 = .ok (.iconst 1, 1) := by decide +kernel
theorem dX3_enter_18 : decode cX3_enter 18 = .ok (.isub, 1) := by decide +kernel
theorem dX3_enter_19 : decode cX3_enter 19 = .ok (.iaload, 1) := by decide +kernel
theorem dX3_enter_20 : decode cX3_enter 20 = .ok (.iastore, 1) := by decide +kernel
theorem dX3_enter_21 : decode cX3_enter 21 = .ok (.iinc 2 (-1), 3) := by decide +kernel
theorem dX3_enter_24 : decode cX3_enter 24 = .ok (.goto (-21), 3) := by decide +kernel
theorem dX3_enter_27 : decode cX3_enter 27 = .ok (.aload_n 0, 1) := by decide +kernel
theorem dX3_enter_28 : decode cX3_enter 28 = .ok (.getfield 15, 3) := by decide +kernel
theorem dX3_enter_31 : decode cX3_enter 31 = .ok (.iconst 0, 1) := by decide +kernel
theorem dX3_enter_32 : decode cX3_enter 32 = .ok (.iload_n 1, 1) := by decide +kernel
theorem dX3_enter_33 : decode cX3_enter 33 = .ok (.iastore, 1) := by decide +kernel
theorem dX3_enter_34 : decode cX3_enter 34 = .ok (.aload_n 0, 1) := by decide +kernel
theorem dX3_enter_35 : decode cX3_enter 35 = .ok (.dup, 1) := by decide +kernel
theorem dX3_enter_36 : decode cX3_enter 36 = .ok (.getfield 26, 3) := by decide +kernel
theorem dX3_enter_39 : decode cX3_enter 39 = .ok (.iconst 1, 1) := by decide +kernel
theorem dX3_enter_40 : decode cX3_enter 40 = .ok (.iadd, 1) := by decide +kernel
theorem dX3_enter_41 : decode cX3_enter 41 = .ok (.putfield 26, 3) := by decide +kernel
theorem dX3_enter_44 : decode cX3_enter 44 = .ok (.return_, 1) := by decide +kernel
theorem dX3_store_0 : decode cX3_store 0 = .ok (.aload_n 0, 1) := by decide +kernel
theorem dX3_store_1 : decode cX3_store 1 = .ok (.getfield 32, 3) := by decide +kernel
theorem dX3_store_4 : decode cX3_store 4 = .ok (.bipush 8, 2) := by decide +kernel
theorem dX3_store_6 : decode cX3_store 6 = .ok (.if_icmp .lt 7, 3) := by decide +kernel
theorem dX3_store_9 : decode cX3_store 9 = .ok (.aload_n 0, 1) := by decide +kernel
theorem dX3_store_10 : decode cX3_store 10 = .ok (.invokevirtual 48, 3) := by decide +kernel
theorem dX3_store_13 : decode cX3_store 13 = .ok (.aload_n 0, 1) := by decide +kernel
theorem dX3_store_14 : decode cX3_store 14 = .ok (.getfield 9, 3) := by decide +kernel
theorem dX3_store_17 : decode cX3_store 17 = .ok (.aload_n 0, 1) := by decide +kernel
theorem dX3_store_18 : decode cX3_store 18 = .ok (.getfield 32, 3) := by decide +kernel
theorem dX3_store_21 : decode cX3_store 21 = .ok (.iload_n 1, 1) := by decide +kernel
theorem dX3_store_22 : decode cX3_store 22 = .ok (.iastore, 1) := by decide +kernel
theorem dX3_store_23 : decode cX3_store 23 = .ok (.aload_n 0, 1) := by decide +kernel
theorem dX3_store_24 : decode cX3_store 24 = .ok (.dup, 1) := by decide +kernel
theorem dX3_store_25 : decode cX3_store 25 = .ok (.getfield 32, 3) := by decide +kernel
theorem dX3_store_28 : decode cX3_store 28 = .ok (.iconst 1, 1) := by decide +kernel
theorem dX3_store_29 : decode cX3_store 29 = .ok (.iadd, 1) := by decide +kernel
theorem dX3_store_30 : decode cX3_store 30 = .ok (.putfield 32, 3) := by decide +kernel
theorem dX3_store_33 : decode cX3_store 33 = .ok (.return_, 1) := by decide +kernel
theorem dX3_loseFirst_0 : decode cX3_loseFirst 0 = .ok (.iconst 0, 1) := by decide +kernel
theorem dX3_loseFirst_1 : decode cX3_loseFirst 1 = .ok (.istore_n 1, 1) := by decide +kernel
theorem dX3_loseFirst_2 : decode cX3_loseFirst 2 = .ok (.iload_n 1, 1) := by decide +kernel
theorem dX3_loseFirst_3 : decode cX3_loseFirst 3 = .ok (.bipush 7, 2) := by decide +kernel
theorem dX3_loseFirst_5 : decode cX3_loseFirst 5 = .ok (.if_icmp .ge 23, 3) := by decide +kernel
theorem dX3_loseFirst_8 : decode cX3_loseFirst 8 = .ok (.aload_n 0, 1) := by decide +kernel
theorem dX3_loseFirst_9 : decode cX3_loseFirst 9 = .ok (.getfield 9, 3) := by decide +kernel
theorem dX3_loseFirst_12 : decode cX3_loseFirst 12 = .ok (.iload_n 1, 1) := by decide +kernel
theorem dX3_loseFirst_13 : decode cX3_loseFirst 13 = .ok (.aload_n 0, 1) := by decide +kernel
theorem dX3_loseFirst_14 : decode cX3_loseFirst 14 = .ok (.getfield 9, 3) := by decide +kernel
theorem dX3_loseFirst_17 : decode cX3_loseFirst 17 = .ok (.iload_n 1, 1) := by decide +kernel
theorem dX3_loseFirst_18 : decode cX3_loseFirst 18 = .ok (.iconst 1, 1) := by decide +kernel
theorem dX3_loseFirst_19 : decode cX3_loseFirst 19 = .ok (.iadd, 1) := by decide +kernel
theorem dX3_loseFirst_20 : decode cX3_loseFirst 20 = .ok (.iaload, 1) := by decide +kernel
theorem dX3_loseFirst_21 : decode cX3_loseFirst 21 = .ok (.iastore, 1) := by decide +kernel
theorem dX3_loseFirst_22 : decode cX3_loseFirst 22 = .ok (.iinc 1 1, 3) := by decide +kernel
theorem dX3_loseFirst_25 : decode cX3_loseFirst 25 = .ok (.goto (-23), 3) := by decide +kernel
theorem dX3_loseFirst_28 : decode cX3_loseFirst 28 = .ok (.aload_n 0, 1) := by decide +kernel
theorem dX3_loseFirst_29 : decode cX3_loseFirst 29 = .ok (.bipush 7, 2) := by decide +kernel
theorem dX3_loseFirst_31 : decode cX3_loseFirst 31 = .ok (.putfield 32, 3) := by decide +kernel
theorem dX3_loseFirst_34 : decode cX3_loseFirst 34 = .ok (.aload_n 0, 1) := by decide +kernel
theorem dX3_loseFirst_35 : decode cX3_loseFirst 35 = .ok (.dup, 1) := by decide +kernel
theorem dX3_loseFirst_36 : decode cX3_loseFirst 36 = .ok (.getfield 29, 3) := by decide +kernel
theorem dX3_loseFirst_39 : decode cX3_loseFirst 39 = .ok (.iconst 1, 1) := by decide +kernel
theorem dX3_loseFirst_40 : decode cX3_loseFirst 40 = .ok (.iadd, 1) := by decide +kernel
theorem dX3_loseFirst_41 : decode cX3_loseFirst 41 = .ok (.putfield 29, 3) := by decide +kernel
theorem dX3_loseFirst_44 : decode cX3_loseFirst 44 = .ok (.return_, 1) := by decide +kernel
theorem dX4_init_0 : decode cX4_init 0 = .ok (.aload_n 0, 1) := by decide +kernel
theorem dX4_init_1 : decode cX4_init 1 = .ok (.invokespecial 3, 3) := by decide +kernel
theorem dX4_init_4 : decode cX4_init 4 = .ok (.return_, 1) := by decide +kernel
theorem dX4_draw_0 : decode cX4_draw 0 = .ok (.aload_n 0, 1) := by decide +kernel
theorem dX4_draw_1 : decode cX4_draw 1 = .ok (.aload_n 0, 1) := by decide +kernel
theorem dX4_draw_2 : decode cX4_draw 2 = .ok (.getfield 9, 3) := by decide +kernel
theorem dX4_draw_5 : decode cX4_draw 5 = .ok (.ldc 15, 2) := by decide +kernel
theorem dX4_draw_7 : decode cX4_draw 7 = .ok (.imul, 1) := by decide +kernel
theorem dX4_draw_8 : decode cX4_draw 8 = .ok (.sipush 12345, 3) := by decide +kernel
theorem dX4_draw_11 : decode cX4_draw 11 = .ok (.iadd, 1) := by decide +kernel
theorem dX4_draw_12 : decode cX4_draw 12 = .ok (.ldc 16, 2) := by decide +kernel
theorem dX4_draw_14 : decode cX4_draw 14 = .ok (.iand, 1) := by decide +kernel
theorem dX4_draw_15 : decode cX4_draw 15 = .ok (.putfield 9, 3) := by decide +kernel
theorem dX4_draw_18 : decode cX4_draw 18 = .ok (.iload_n 1, 1) := by decide +kernel
theorem dX4_draw_19 : decode cX4_draw 19 = .ok (.ifCond .le 15, 3) := by decide +kernel
theorem dX4_draw_22 : decode cX4_draw 22 = .ok (.aload_n 0, 1) := by decide +kernel
theorem dX4_draw_23 : decode cX4_draw 23 = .ok (.getfield 9, 3) := by decide +kernel
theorem dX4_draw_26 : decode cX4_draw 26 = .ok (.ldc 17, 2) := by decide +kernel
theorem dX4_draw_28 : decode cX4_draw 28 = .ok (.idiv, 1) := by decide +kernel
theorem dX4_draw_29 : decode cX4_draw 29 = .ok (.iload_n 1, 1) := by decide +kernel
theorem dX4_draw_30 : decode cX4_draw 30 = .ok (.irem, 1) := by decide +kernel
theorem dX4_draw_31 : decode cX4_draw 31 = .ok (.goto 4, 3) := by decide +kernel
theorem dX4_draw_34 : decode cX4_draw 34 = .ok (.iconst 0, 1) := by decide +kernel
theorem dX4_draw_35 : decode cX4_draw 35 = .ok (.ireturn, 1) := by decide +kernel
theorem dX5_init_0 : decode cX5_init 0 = .ok (.aload_n 0, 1) := by decide +kernel
theorem dX5_init_1 : decode cX5_init 1 = .ok (.invokespecial 1, 3) := by decide +kernel
theorem dX5_init_4 : decode cX5_init 4 = .ok (.aload_n 0, 1) := by decide +kernel
theorem dX5_init_5 : decode cX5_init 5 = .ok (.new 7, 3) := by decide +kernel
theorem dX5_init_8 : decode cX5_init 8 = .ok (.dup, 1) := by decide +kernel
theorem dX5_init_9 : decode cX5_init 9 = .ok (.invokespecial 9, 3) := by decide +kernel
theorem dX5_init_12 : decode cX5_init 12 = .ok (.putfield 10, 3) := by decide +kernel
theorem dX5_init_15 : decode cX5_init 15 = .ok (.return_, 1) := by decide +kernel
theorem dX5_take_0 : decode cX5_take 0 = .ok (.aload_n 0, 1) := by decide +kernel
theorem dX5_take_1 : decode cX5_take 1 = .ok (.getfield 10, 3) := by decide +kernel
theorem dX5_take_4 : decode cX5_take 4 = .ok (.aload_n 1, 1) := by decide +kernel
theorem dX5_take_5 : decode cX5_take 5 = .ok (.invokevirtual 16, 3) := by decide +kernel
theorem dX5_take_8 : decode cX5_take 8 = .ok (.aload_n 0, 1) := by decide +kernel
theorem dX5_take_9 : decode cX5_take 9 = .ok (.aload_n 2, 1) := by decide +kernel
theorem dX5_take_10 : decode cX5_take 10 = .ok (.getfield 20, 3) := by decide +kernel
theorem dX5_take_13 : decode cX5_take 13 = .ok (.putfield 26, 3) := by decide +kernel
theorem dX5_take_16 : decode cX5_take 16 = .ok (.aload_n 0, 1) := by decide +kernel
theorem dX5_take_17 : decode cX5_take 17 = .ok (.iconst 1, 1) := by decide +kernel
theorem dX5_take_18 : decode cX5_take 18 = .ok (.putfield 29, 3) := by decide +kernel
theorem dX5_take_21 : decode cX5_take 21 = .ok (.return_, 1) := by decide +kernel
theorem dX5_giveBack_0 : decode cX5_giveBack 0 = .ok (.aload_n 1, 1) := by decide +kernel
theorem dX5_giveBack_1 : decode cX5_giveBack 1 = .ok (.aload_n 0, 1) := by decide +kernel
theorem dX5_giveBack_2 : decode cX5_giveBack 2 = .ok (.getfield 10, 3) := by decide +kernel
theorem dX5_giveBack_5 : decode cX5_giveBack 5 = .ok (.invokevirtual 16, 3) := by decide +kernel
theorem dX5_giveBack_8 : decode cX5_giveBack 8 = .ok (.aload_n 2, 1) := by decide +kernel
theorem dX5_giveBack_9 : decode cX5_giveBack 9 = .ok (.aload_n 0, 1) := by decide +kernel
theorem dX5_giveBack_10 : decode cX5_giveBack 10 = .ok (.getfield 26, 3) := by decide +kernel
theorem dX5_giveBack_13 : decode cX5_giveBack 13 = .ok (.putfield 20, 3) := by decide +kernel
theorem dX5_giveBack_16 : decode cX5_giveBack 16 = .ok (.return_, 1) := by decide +kernel
theorem dX6_init_0 : decode cX6_init 0 = .ok (.aload_n 0, 1) := by decide +kernel
theorem dX6_init_1 : decode cX6_init 1 = .ok (.invokespecial 3, 3) := by decide +kernel
theorem dX6_init_4 : decode cX6_init 4 = .ok (.aload_n 0, 1) := by decide +kernel
theorem dX6_init_5 : decode cX6_init 5 = .ok (.bipush 7, 2) := by decide +kernel
theorem dX6_init_7 : decode cX6_init 7 = .ok (.newarray .int, 2) := by decide +kernel
theorem dX6_init_9 : decode cX6_init 9 = .ok (.putfield 9, 3) := by decide +kernel
theorem dX6_init_12 : decode cX6_init 12 = .ok (.return_, 1) := by decide +kernel
theorem dX6_travel_0 : decode cX6_travel 0 = .ok (.aload_n 1, 1) := by decide +kernel
theorem dX6_travel_1 : decode cX6_travel 1 = .ok (.iload 4, 2) := by decide +kernel
theorem dX6_travel_3 : decode cX6_travel 3 = .ok (.invokevirtual 15, 3) := by decide +kernel
theorem dX6_travel_6 : decode cX6_travel 6 = .ok (.istore 5, 2) := by decide +kernel
theorem dX6_travel_8 : decode cX6_travel 8 = .ok (.iconst 1, 1) := by decide +kernel
theorem dX6_travel_9 : decode cX6_travel 9 = .ok (.iload_n 3, 1) := by decide +kernel
theorem dX6_travel_10 : decode cX6_travel 10 = .ok (.ishl, 1) := by decide +kernel
theorem dX6_travel_11 : decode cX6_travel 11 = .ok (.istore 6, 2) := by decide +kernel
theorem dX6_travel_13 : decode cX6_travel 13 = .ok (.aload_n 0, 1) := by decide +kernel
theorem dX6_travel_14 : decode cX6_travel 14 = .ok (.iconst 1, 1) := by decide +kernel
theorem dX6_travel_15 : decode cX6_travel 15 = .ok (.iload_n 3, 1) := by decide +kernel
theorem dX6_travel_16 : decode cX6_travel 16 = .ok (.ishl, 1) := by decide +kernel
theorem dX6_travel_17 : decode cX6_travel 17 = .ok (.putfield 21, 3) := by decide +kernel
theorem dX6_travel_20 : decode cX6_travel 20 = .ok (.aload_n 0, 1) := by decide +kernel
theorem dX6_travel_21 : decode cX6_travel 21 = .ok (.iconst 0, 1) := by decide +kernel
theorem dX6_travel_22 : decode cX6_travel 22 = .ok (.putfield 25, 3) := by decide +kernel
theorem dX6_travel_25 : decode cX6_travel 25 = .ok (.aload_n 0, 1) := by decide +kernel
theorem dX6_travel_26 : decode cX6_travel 26 = .ok (.iconst 0, 1) := by decide +kernel
theorem dX6_travel_27 : decode cX6_travel 27 = .ok (.putfield 28, 3) := by decide +kernel
theorem dX6_travel_30 : decode cX6_travel 30 = .ok (.aload_n 0, 1) := by decide +kernel
theorem dX6_travel_31 : decode cX6_travel 31 = .ok (.getfield 9, 3) := by decide +kernel
theorem dX6_travel_34 : decode cX6_travel 34 = .ok (.iconst 0, 1) := by decide +kernel
theorem dX6_travel_35 : decode cX6_travel 35 = .ok (.iload_n 3, 1) := by decide +kernel
theorem dX6_travel_36 : decode cX6_travel 36 = .ok (.iastore, 1) := by decide +kernel
theorem dX6_travel_37 : decode cX6_travel 37 = .ok (.iconst 0, 1) := by decide +kernel
theorem dX6_travel_38 : decode cX6_travel 38 = .ok (.istore 7, 2) := by decide +kernel
theorem dX6_travel_40 : decode cX6_travel 40 = .ok (.iload 7, 2) := by decide +kernel
theorem dX6_travel_42 : decode cX6_travel 42 = .ok (.aload_n 0, 1) := by decide +kernel
theorem dX6_travel_43 : decode cX6_travel 43 = .ok (.getfield 28, 3) := by decide +kernel
theorem dX6_travel_46 : decode cX6_travel 46 = .ok (.if_icmp .gt 74, 3) := by decide +kernel
theorem dX6_travel_49 : decode cX6_travel 49 = .ok (.iload 7, 2) := by decide +kernel
theorem dX6_travel_51 : decode cX6_travel 51 = .ok (.bipush 7, 2) := by decide +kernel
theorem dX6_travel_53 : decode cX6_travel 53 = .ok (.if_icmp .ge 67, 3) := by decide +kernel
theorem dX6_travel_56 : decode cX6_travel 56 = .ok (.aload_n 0, 1) := by decide +kernel
theorem dX6_travel_57 : decode cX6_travel 57 = .ok (.getfield 9, 3) := by decide +kernel
theorem dX6_travel_60 : decode cX6_travel 60 = .ok (.iload 7, 2) := by decide +kernel
theorem dX6_travel_62 : decode cX6_travel 62 = .ok (.iaload, 1) := by decide +kernel
theorem dX6_travel_63 : decode cX6_travel 63 = .ok (.istore 8, 2) := by decide +kernel
theorem dX6_travel_65 : decode cX6_travel 65 = .ok (.iload 5, 2) := by decide +kernel
theorem dX6_travel_67 : decode cX6_travel 67 = .ok (.aload_n 1, 1) := by decide +kernel
theorem dX6_travel_68 : decode cX6_travel 68 = .ok (.iload 8, 2) := by decide +kernel
theorem dX6_travel_70 : decode cX6_travel 70 = .ok (.invokevirtual 31, 3) := by decide +kernel
theorem dX6_travel_73 : decode cX6_travel 73 = .ok (.iand, 1) := by decide +kernel
theorem dX6_travel_74 : decode cX6_travel 74 = .ok (.istore 9, 2) := by decide +kernel
theorem dX6_travel_76 : decode cX6_travel 76 = .ok (.aload_n 0, 1) := by decide +kernel
theorem dX6_travel_77 : decode cX6_travel 77 = .ok (.dup, 1) := by decide +kernel
theorem dX6_travel_78 : decode cX6_travel 78 = .ok (.getfield 25, 3) := by decide +kernel
theorem dX6_travel_81 : decode cX6_travel 81 = .ok (.iload 9, 2) := by decide +kernel
theorem dX6_travel_83 : decode cX6_travel 83 = .ok (.ior, 1) := by decide +kernel
theorem dX6_travel_84 : decode cX6_travel 84 = .ok (.putfield 25, 3) := by decide +kernel
theorem dX6_travel_87 : decode cX6_travel 87 = .ok (.aload_n 0, 1) := by decide +kernel
theorem dX6_travel_88 : decode cX6_travel 88 = .ok (.aload_n 1, 1) := by decide +kernel
theorem dX6_travel_89 : decode cX6_travel 89 = .ok (.aload_n 2, 1) := by decide +kernel
theorem dX6_travel_90 : decode cX6_travel 90 = .ok (.iload 8, 2) := by decide +kernel
theorem dX6_travel_92 : decode cX6_travel 92 = .ok (.iload 4, 2) := by decide +kernel
theorem dX6_travel_94 : decode cX6_travel 94 = .ok (.invokevirtual 34, 3) := by decide +kernel
theorem dX6_travel_97 : decode cX6_travel 97 = .ok (.ifCond .ne 8, 3) := by decide +kernel
theorem dX6_travel_100 : decode cX6_travel 100 = .ok (.iload 9, 2) := by decide +kernel
theorem dX6_travel_102 : decode cX6_travel 102 = .ok (.ifCond .eq 12, 3) := by decide +kernel
theorem dX6_travel_105 : decode cX6_travel 105 = .ok (.iload 6, 2) := by decide +kernel
theorem dX6_travel_107 : decode cX6_travel 107 = .ok (.iconst 1, 1) := by decide +kernel
theorem dX6_travel_108 : decode cX6_travel 108 = .ok (.iload 8, 2) := by decide +kernel
theorem dX6_travel_110 : decode cX6_travel 110 = .ok (.ishl, 1) := by decide +kernel
theorem dX6_travel_111 : decode cX6_travel 111 = .ok (.ior, 1) := by decide +kernel
theorem dX6_travel_112 : decode cX6_travel 112 = .ok (.istore 6, 2) := by decide +kernel
theorem dX6_travel_114 : decode cX6_travel 114 = .ok (.iinc 7 1, 3) := by decide +kernel
theorem dX6_travel_117 : decode cX6_travel 117 = .ok (.goto (-77), 3) := by decide +kernel
theorem dX6_travel_120 : decode cX6_travel 120 = .ok (.aload_n 0, 1) := by decide +kernel
theorem dX6_travel_121 : decode cX6_travel 121 = .ok (.aload_n 0, 1) := by decide +kernel
theorem dX6_travel_122 : decode cX6_travel 122 = .ok (.getfield 21, 3) := by decide +kernel
theorem dX6_travel_125 : decode cX6_travel 125 = .ok (.iload 6, 2) := by decide +kernel
theorem dX6_travel_127 : decode cX6_travel 127 = .ok (.iconst (-1), 1) := by decide +kernel
theorem dX6_travel_128 : decode cX6_travel 128 = .ok (.ixor, 1) := by decide +kernel
theorem dX6_travel_129 : decode cX6_travel 129 = .ok (.iand, 1) := by decide +kernel
theorem dX6_travel_130 : decode cX6_travel 130 = .ok (.putfield 38, 3) := by decide +kernel
theorem dX6_travel_133 : decode cX6_travel 133 = .ok (.return_, 1) := by decide +kernel
theorem dX6_goOn_0 : decode cX6_goOn 0 = .ok (.aload_n 0, 1) := by decide +kernel
theorem dX6_goOn_1 : decode cX6_goOn 1 = .ok (.getfield 28, 3) := by decide +kernel
theorem dX6_goOn_4 : decode cX6_goOn 4 = .ok (.istore 5, 2) := by decide +kernel
theorem dX6_goOn_6 : decode cX6_goOn 6 = .ok (.iconst 0, 1) := by decide +kernel
theorem dX6_goOn_7 : decode cX6_goOn 7 = .ok (.istore 6, 2) := by decide +kernel
theorem dX6_goOn_9 : decode cX6_goOn 9 = .ok (.iload 6, 2) := by decide +kernel
theorem dX6_goOn_11 : decode cX6_goOn 11 = .ok (.aload_n 1, 1) := by decide +kernel
theorem dX6_goOn_12 : decode cX6_goOn 12 = .ok (.getfield 41, 3) := by decide +kernel
theorem dX6_goOn_15 : decode cX6_goOn 15 = .ok (.if_icmp .ge 102, 3) := by decide +kernel
theorem dX6_goOn_18 : decode cX6_goOn 18 = .ok (.aload_n 0, 1) := by decide +kernel
theorem dX6_goOn_19 : decode cX6_goOn 19 = .ok (.getfield 28, 3) := by decide +kernel
theorem dX6_goOn_22 : decode cX6_goOn 22 = .ok (.bipush 6, 2) := by decide +kernel
theorem dX6_goOn_24 : decode cX6_goOn 24 = .ok (.if_icmp .ge 93, 3) := by decide +kernel
theorem dX6_goOn_27 : decode cX6_goOn 27 = .ok (.aload_n 0, 1) := by decide +kernel
theorem dX6_goOn_28 : decode cX6_goOn 28 = .ok (.getfield 21, 3) := by decide +kernel
theorem dX6_goOn_31 : decode cX6_goOn 31 = .ok (.iload 6, 2) := by decide +kernel
theorem dX6_goOn_33 : decode cX6_goOn 33 = .ok (.invokestatic 44, 3) := by decide +kernel
theorem dX6_goOn_36 : decode cX6_goOn 36 = .ok (.ifCond .ne 7, 3) := by decide +kernel
theorem dX6_goOn_39 : decode cX6_goOn 39 = .ok (.iconst 1, 1) := by decide +kernel
theorem dX6_goOn_40 : decode cX6_goOn 40 = .ok (.goto 4, 3) := by decide +kernel
theorem dX6_goOn_43 : decode cX6_goOn 43 = .ok (.iconst 0, 1) := by decide +kernel
theorem dX6_goOn_44 : decode cX6_goOn 44 = .ok (.istore 7, 2) := by decide +kernel
theorem dX6_goOn_46 : decode cX6_goOn 46 = .ok (.iload 7, 2) := by decide +kernel
theorem dX6_goOn_48 : decode cX6_goOn 48 = .ok (.ifCond .eq 63, 3) := by decide +kernel
theorem dX6_goOn_51 : decode cX6_goOn 51 = .ok (.aload_n 1, 1) := by decide +kernel
theorem dX6_goOn_52 : decode cX6_goOn 52 = .ok (.iload 6, 2) := by decide +kernel
theorem dX6_goOn_54 : decode cX6_goOn 54 = .ok (.iload_n 3, 1) := by decide +kernel
theorem dX6_goOn_55 : decode cX6_goOn 55 = .ok (.invokevirtual 48, 3) := by decide +kernel
theorem dX6_goOn_58 : decode cX6_goOn 58 = .ok (.ifCond .eq 53, 3) := by decide +kernel
theorem dX6_goOn_61 : decode cX6_goOn 61 = .ok (.aload_n 2, 1) := by decide +kernel
theorem dX6_goOn_62 : decode cX6_goOn 62 = .ok (.aload_n 1, 1) := by decide +kernel
theorem dX6_goOn_63 : decode cX6_goOn 63 = .ok (.iload 6, 2) := by decide +kernel
theorem dX6_goOn_65 : decode cX6_goOn 65 = .ok (.iload_n 3, 1) := by decide +kernel
theorem dX6_goOn_66 : decode cX6_goOn 66 = .ok (.invokevirtual 51, 3) := by decide +kernel
theorem dX6_goOn_69 : decode cX6_goOn 69 = .ok (.iload 4, 2) := by decide +kernel
theorem dX6_goOn_71 : decode cX6_goOn 71 = .ok (.invokevirtual 57, 3) := by decide +kernel
theorem dX6_goOn_74 : decode cX6_goOn 74 = .ok (.ifCond .eq 37, 3) := by decide +kernel
theorem dX6_goOn_77 : decode cX6_goOn 77 = .ok (.aload_n 0, 1) := by decide +kernel
theorem dX6_goOn_78 : decode cX6_goOn 78 = .ok (.dup, 1) := by decide +kernel
theorem dX6_goOn_79 : decode cX6_goOn 79 = .ok (.getfield 21, 3) := by decide +kernel
theorem dX6_goOn_82 : decode cX6_goOn 82 = .ok (.iconst 1, 1) := by decide +kernel
theorem dX6_goOn_83 : decode cX6_goOn 83 = .ok (.iload 6, 2) := by decide +kernel
theorem dX6_goOn_85 : decode cX6_goOn 85 = .ok (.ishl, 1) := by decide +kernel
theorem dX6_goOn_86 : decode cX6_goOn 86 = .ok (.ior, 1) := by decide +kernel
theorem dX6_goOn_87 : decode cX6_goOn 87 = .ok (.putfield 21, 3) := by decide +kernel
theorem dX6_goOn_90 : decode cX6_goOn 90 = .ok (.aload_n 0, 1) := by decide +kernel
theorem dX6_goOn_91 : decode cX6_goOn 91 = .ok (.dup, 1) := by decide +kernel
theorem dX6_goOn_92 : decode cX6_goOn 92 = .ok (.getfield 28, 3) := by decide +kernel
theorem dX6_goOn_95 : decode cX6_goOn 95 = .ok (.iconst 1, 1) := by decide +kernel
theorem dX6_goOn_96 : decode cX6_goOn 96 = .ok (.iadd, 1) := by decide +kernel
theorem dX6_goOn_97 : decode cX6_goOn 97 = .ok (.putfield 28, 3) := by decide +kernel
theorem dX6_goOn_100 : decode cX6_goOn 100 = .ok (.aload_n 0, 1) := by decide +kernel
theorem dX6_goOn_101 : decode cX6_goOn 101 = .ok (.getfield 9, 3) := by decide +kernel
theorem dX6_goOn_104 : decode cX6_goOn 104 = .ok (.aload_n 0, 1) := by decide +kernel
theorem dX6_goOn_105 : decode cX6_goOn 105 = .ok (.getfield 28, 3) := by decide +kernel
theorem dX6_goOn_108 : decode cX6_goOn 108 = .ok (.iload 6, 2) := by decide +kernel
theorem dX6_goOn_110 : decode cX6_goOn 110 = .ok (.iastore, 1) := by decide +kernel
theorem dX6_goOn_111 : decode cX6_goOn 111 = .ok (.iinc 6 1, 3) := by decide +kernel
theorem dX6_goOn_114 : decode cX6_goOn 114 = .ok (.goto (-105), 3) := by decide +kernel
theorem dX6_goOn_117 : decode cX6_goOn 117 = .ok (.aload_n 0, 1) := by decide +kernel
theorem dX6_goOn_118 : decode cX6_goOn 118 = .ok (.getfield 28, 3) := by decide +kernel
theorem dX6_goOn_121 : decode cX6_goOn 121 = .ok (.iload 5, 2) := by decide +kernel
theorem dX6_goOn_123 : decode cX6_goOn 123 = .ok (.if_icmp .le 7, 3) := by decide +kernel
theorem dX6_goOn_126 : decode cX6_goOn 126 = .ok (.iconst 1, 1) := by decide +kernel
theorem dX6_goOn_127 : decode cX6_goOn 127 = .ok (.goto 4, 3) := by decide +kernel
theorem dX6_goOn_130 : decode cX6_goOn 130 = .ok (.iconst 0, 1) := by decide +kernel
theorem dX6_goOn_131 : decode cX6_goOn 131 = .ok (.ireturn, 1) := by decide +kernel
theorem dX7_init_0 : decode cX7_init 0 = .ok (.aload_n 0, 1) := by decide +kernel
theorem dX7_init_1 : decode cX7_init 1 = .ok (.invokespecial 3, 3) := by decide +kernel
theorem dX7_init_4 : decode cX7_init 4 = .ok (.aload_n 0, 1) := by decide +kernel
theorem dX7_init_5 : decode cX7_init 5 = .ok (.bipush 16, 2) := by decide +kernel
theorem dX7_init_7 : decode cX7_init 7 = .ok (.anewarray 9, 3) := by decide +kernel
theorem dX7_init_10 : decode cX7_init 10 = .ok (.putfield 11, 3) := by decide +kernel
theorem dX7_init_13 : decode cX7_init 13 = .ok (.iconst 0, 1) := by decide +kernel
theorem dX7_init_14 : decode cX7_init 14 = .ok (.istore_n 1, 1) := by decide +kernel
theorem dX7_init_15 : decode cX7_init 15 = .ok (.iload_n 1, 1) := by decide +kernel
theorem dX7_init_16 : decode cX7_init 16 = .ok (.bipush 16, 2) := by decide +kernel
theorem dX7_init_18 : decode cX7_init 18 = .ok (.if_icmp .ge 22, 3) := by decide +kernel
theorem dX7_init_21 : decode cX7_init 21 = .ok (.aload_n 0, 1) := by decide +kernel
theorem dX7_init_22 : decode cX7_init 22 = .ok (.getfield 11, 3) := by decide +kernel
theorem dX7_init_25 : decode cX7_init 25 = .ok (.iload_n 1, 1) := by decide +kernel
theorem dX7_init_26 : decode cX7_init 26 = .ok (.new 9, 3) := by decide +kernel
theorem dX7_init_29 : decode cX7_init 29 = .ok (.dup, 1) := by decide +kernel
theorem dX7_init_30 : decode cX7_init 30 = .ok (.invokespecial 17, 3) := by decide +kernel
theorem dX7_init_33 : decode cX7_init 33 = .ok (.aastore, 1) := by decide +kernel
theorem dX7_init_34 : decode cX7_init 34 = .ok (.iinc 1 1, 3) := by decide +kernel
theorem dX7_init_37 : decode cX7_init 37 = .ok (.goto (-22), 3) := by decide +kernel
theorem dX7_init_40 : decode cX7_init 40 = .ok (.return_, 1) := by decide +kernel
theorem dX7_remember_0 : decode cX7_remember 0 = .ok (.aload_n 0, 1) := by decide +kernel
theorem dX7_remember_1 : decode cX7_remember 1 = .ok (.getfield 18, 3) := by decide +kernel
theorem dX7_remember_4 : decode cX7_remember 4 = .ok (.bipush 16, 2) := by decide +kernel
theorem dX7_remember_6 : decode cX7_remember 6 = .ok (.if_icmp .ne 26, 3) := by decide +kernel
theorem dX7_remember_9 : decode cX7_remember 9 = .ok (.aload_n 0, 1) := by decide +kernel
theorem dX7_remember_10 : decode cX7_remember 10 = .ok (.aload_n 0, 1) := by decide +kernel
theorem dX7_remember_11 : decode cX7_remember 11 = .ok (.getfield 22, 3) := by decide +kernel
theorem dX7_remember_14 : decode cX7_remember 14 = .ok (.iconst 1, 1) := by decide +kernel
theorem dX7_remember_15 : decode cX7_remember 15 = .ok (.iadd, 1) := by decide +kernel
theorem dX7_remember_16 : decode cX7_remember 16 = .ok (.bipush 16, 2) := by decide +kernel
theorem dX7_remember_18 : decode cX7_remember 18 = .ok (.irem, 1) := by decide +kernel
theorem dX7_remember_19 : decode cX7_remember 19 = .ok (.putfield 22, 3) := by decide +kernel
theorem dX7_remember_22 : decode cX7_remember 22 = .ok (.aload_n 0, 1) := by decide +kernel
theorem dX7_remember_23 : decode cX7_remember 23 = .ok (.dup, 1) := by decide +kernel
theorem dX7_remember_24 : decode cX7_remember 24 = .ok (.getfield 18, 3) := by decide +kernel
theorem dX7_remember_27 : decode cX7_remember 27 = .ok (.iconst 1, 1) := by decide +kernel
theorem dX7_remember_28 : decode cX7_remember 28 = .ok (.isub, 1) := by decide +kernel
theorem dX7_remember_29 : decode cX7_remember 29 = .ok (.putfield 18, 3) := by decide +kernel
theorem dX7_remember_32 : decode cX7_remember 32 = .ok (.aload_n 0, 1) := by decide +kernel
theorem dX7_remember_33 : decode cX7_remember 33 = .ok (.getfield 11, 3) := by decide +kernel
theorem dX7_remember_36 : decode cX7_remember 36 = .ok (.aload_n 0, 1) := by decide +kernel
theorem dX7_remember_37 : decode cX7_remember 37 = .ok (.getfield 22, 3) := by decide +kernel
theorem dX7_remember_40 : decode cX7_remember 40 = .ok (.aload_n 0, 1) := by decide +kernel
theorem dX7_remember_41 : decode cX7_remember 41 = .ok (.getfield 18, 3) := by decide +kernel
theorem dX7_remember_44 : decode cX7_remember 44 = .ok (.iadd, 1) := by decide +kernel
theorem dX7_remember_45 : decode cX7_remember 45 = .ok (.bipush 16, 2) := by decide +kernel
theorem dX7_remember_47 : decode cX7_remember 47 = .ok (.irem, 1) := by decide +kernel
theorem dX7_remember_48 : decode cX7_remember 48 = .ok (.aaload, 1) := by decide +kernel
theorem dX7_remember_49 : decode cX7_remember 49 = .ok (.aload_n 1, 1) := by decide +kernel
theorem dX7_remember_50 : decode cX7_remember 50 = .ok (.invokevirtual 25, 3) := by decide +kernel
theorem dX7_remember_53 : decode cX7_remember 53 = .ok (.aload_n 0, 1) := by decide +kernel
theorem dX7_remember_54 : decode cX7_remember 54 = .ok (.dup, 1) := by decide +kernel
theorem dX7_remember_55 : decode cX7_remember 55 = .ok (.getfield 18, 3) := by decide +kernel
theorem dX7_remember_58 : decode cX7_remember 58 = .ok (.iconst 1, 1) := by decide +kernel
theorem dX7_remember_59 : decode cX7_remember 59 = .ok (.iadd, 1) := by decide +kernel
theorem dX7_remember_60 : decode cX7_remember 60 = .ok (.putfield 18, 3) := by decide +kernel
theorem dX7_remember_63 : decode cX7_remember 63 = .ok (.return_, 1) := by decide +kernel
theorem dX7_restore_0 : decode cX7_restore 0 = .ok (.aload_n 0, 1) := by decide +kernel
theorem dX7_restore_1 : decode cX7_restore 1 = .ok (.dup, 1) := by decide +kernel
theorem dX7_restore_2 : decode cX7_restore 2 = .ok (.getfield 18, 3) := by decide +kernel
theorem dX7_restore_5 : decode cX7_restore 5 = .ok (.iload_n 2, 1) := by decide +kernel
theorem dX7_restore_6 : decode cX7_restore 6 = .ok (.isub, 1) := by decide +kernel
theorem dX7_restore_7 : decode cX7_restore 7 = .ok (.putfield 18, 3) := by decide +kernel
theorem dX7_restore_10 : decode cX7_restore 10 = .ok (.aload_n 1, 1) := by decide +kernel
theorem dX7_restore_11 : decode cX7_restore 11 = .ok (.aload_n 0, 1) := by decide +kernel
theorem dX7_restore_12 : decode cX7_restore 12 = .ok (.getfield 11, 3) := by decide +kernel
theorem dX7_restore_15 : decode cX7_restore 15 = .ok (.aload_n 0, 1) := by decide +kernel
theorem dX7_restore_16 : decode cX7_restore 16 = .ok (.getfield 22, 3) := by decide +kernel
theorem dX7_restore_19 : decode cX7_restore 19 = .ok (.aload_n 0, 1) := by decide +kernel
theorem dX7_restore_20 : decode cX7_restore 20 = .ok (.getfield 18, 3) := by decide +kernel
theorem dX7_restore_23 : decode cX7_restore 23 = .ok (.iadd, 1) := by decide +kernel
theorem dX7_restore_24 : decode cX7_restore 24 = .ok (.bipush 16, 2) := by decide +kernel
theorem dX7_restore_26 : decode cX7_restore 26 = .ok (.irem, 1) := by decide +kernel
theorem dX7_restore_27 : decode cX7_restore 27 = .ok (.aaload, 1) := by decide +kernel
theorem dX7_restore_28 : decode cX7_restore 28 = .ok (.invokevirtual 25, 3) := by decide +kernel
theorem dX7_restore_31 : decode cX7_restore 31 = .ok (.return_, 1) := by decide +kernel
theorem dX7_forget_0 : decode cX7_forget 0 = .ok (.aload_n 0, 1) := by decide +kernel
theorem dX7_forget_1 : decode cX7_forget 1 = .ok (.iconst 0, 1) := by decide +kernel
theorem dX7_forget_2 : decode cX7_forget 2 = .ok (.putfield 18, 3) := by decide +kernel
theorem dX7_forget_5 : decode cX7_forget 5 = .ok (.return_, 1) := by decide +kernel
theorem dJ6_bitCount_0f7a4_0 : decode cJ6_bitCount_0f7a4 0 = .ok (.iload_n 0, 1) := by decide +kernel
theorem dJ6_bitCount_0f7a4_1 : decode cJ6_bitCount_0f7a4 1 = .ok (.iload_n 0, 1) := by decide +kernel
theorem dJ6_bitCount_0f7a4_2 : decode cJ6_bitCount_0f7a4 2 = .ok (.iconst 1, 1) := by decide +kernel
theorem dJ6_bitCount_0f7a4_3 : decode cJ6_bitCount_0f7a4 3 = .ok (.iushr, 1) := by decide +kernel
theorem dJ6_bitCount_0f7a4_4 : decode cJ6_bitCount_0f7a4 4 = .ok (.ldc_w 265, 3) := by decide +kernel
theorem dJ6_bitCount_0f7a4_7 : decode cJ6_bitCount_0f7a4 7 = .ok (.iand, 1) := by decide +kernel
theorem dJ6_bitCount_0f7a4_8 : decode cJ6_bitCount_0f7a4 8 = .ok (.isub, 1) := by decide +kernel
theorem dJ6_bitCount_0f7a4_9 : decode cJ6_bitCount_0f7a4 9 = .ok (.istore_n 0, 1) := by decide +kernel
theorem dJ6_bitCount_0f7a4_10 : decode cJ6_bitCount_0f7a4 10 = .ok (.iload_n 0, 1) := by decide +kernel
theorem dJ6_bitCount_0f7a4_11 : decode cJ6_bitCount_0f7a4 11 = .ok (.ldc_w 266, 3) := by decide +kernel
theorem dJ6_bitCount_0f7a4_14 : decode cJ6_bitCount_0f7a4 14 = .ok (.iand, 1) := by decide +kernel
theorem dJ6_bitCount_0f7a4_15 : decode cJ6_bitCount_0f7a4 15 = .ok (.iload_n 0, 1) := by decide +kernel
theorem dJ6_bitCount_0f7a4_16 : decode cJ6_bitCount_0f7a4 16 = .ok (.iconst 2, 1) := by decide +kernel
theorem dJ6_bitCount_0f7a4_17 : decode cJ6_bitCount_0f7a4 17 = .ok (.iushr, 1) := by decide +kernel
theorem dJ6_bitCount_0f7a4_18 : decode cJ6_bitCount_0f7a4 18 = .ok (.ldc_w 266, 3) := by decide +kernel
theorem dJ6_bitCount_0f7a4_21 : decode cJ6_bitCount_0f7a4 21 = .ok (.iand, 1) := by decide +kernel
theorem dJ6_bitCount_0f7a4_22 : decode cJ6_bitCount_0f7a4 22 = .ok (.iadd, 1) := by decide +kernel
theorem dJ6_bitCount_0f7a4_23 : decode cJ6_bitCount_0f7a4 23 = .ok (.istore_n 0, 1) := by decide +kernel
theorem dJ6_bitCount_0f7a4_24 : decode cJ6_bitCount_0f7a4 24 = .ok (.iload_n 0, 1) := by decide +kernel
theorem dJ6_bitCount_0f7a4_25 : decode cJ6_bitCount_0f7a4 25 = .ok (.iload_n 0, 1) := by decide +kernel
theorem dJ6_bitCount_0f7a4_26 : decode cJ6_bitCount_0f7a4 26 = .ok (.iconst 4, 1) := by decide +kernel
theorem dJ6_bitCount_0f7a4_27 : decode cJ6_bitCount_0f7a4 27 = .ok (.iushr, 1) := by decide +kernel
theorem dJ6_bitCount_0f7a4_28 : decode cJ6_bitCount_0f7a4 28 = .ok (.iadd, 1) := by decide +kernel
theorem dJ6_bitCount_0f7a4_29 : decode cJ6_bitCount_0f7a4 29 = .ok (.ldc_w 267, 3) := by decide +kernel
theorem dJ6_bitCount_0f7a4_32 : decode cJ6_bitCount_0f7a4 32 = .ok (.iand, 1) := by decide +kernel
theorem dJ6_bitCount_0f7a4_33 : decode cJ6_bitCount_0f7a4 33 = .ok (.istore_n 0, 1) := by decide +kernel
theorem dJ6_bitCount_0f7a4_34 : decode cJ6_bitCount_0f7a4 34 = .ok (.iload_n 0, 1) := by decide +kernel
theorem dJ6_bitCount_0f7a4_35 : decode cJ6_bitCount_0f7a4 35 = .ok (.iload_n 0, 1) := by decide +kernel
theorem dJ6_bitCount_0f7a4_36 : decode cJ6_bitCount_0f7a4 36 = .ok (.bipush 8, 2) := by decide +kernel
theorem dJ6_bitCount_0f7a4_38 : decode cJ6_bitCount_0f7a4 38 = .ok (.iushr, 1) := by decide +kernel
theorem dJ6_bitCount_0f7a4_39 : decode cJ6_bitCount_0f7a4 39 = .ok (.iadd, 1) := by decide +kernel
theorem dJ6_bitCount_0f7a4_40 : decode cJ6_bitCount_0f7a4 40 = .ok (.istore_n 0, 1) := by decide +kernel
theorem dJ6_bitCount_0f7a4_41 : decode cJ6_bitCount_0f7a4 41 = .ok (.iload_n 0, 1) := by decide +kernel
theorem dJ6_bitCount_0f7a4_42 : decode cJ6_bitCount_0f7a4 42 = .ok (.iload_n 0, 1) := by decide +kernel
theorem dJ6_bitCount_0f7a4_43 : decode cJ6_bitCount_0f7a4 43 = .ok (.bipush 16, 2) := by decide +kernel
theorem dJ6_bitCount_0f7a4_45 : decode cJ6_bitCount_0f7a4 45 = .ok (.iushr, 1) := by decide +kernel
theorem dJ6_bitCount_0f7a4_46 : decode cJ6_bitCount_0f7a4 46 = .ok (.iadd, 1) := by decide +kernel
theorem dJ6_bitCount_0f7a4_47 : decode cJ6_bitCount_0f7a4 47 = .ok (.istore_n 0, 1) := by decide +kernel
theorem dJ6_bitCount_0f7a4_48 : decode cJ6_bitCount_0f7a4 48 = .ok (.iload_n 0, 1) := by decide +kernel
theorem dJ6_bitCount_0f7a4_49 : decode cJ6_bitCount_0f7a4 49 = .ok (.bipush 63, 2) := by decide +kernel
theorem dJ6_bitCount_0f7a4_51 : decode cJ6_bitCount_0f7a4 51 = .ok (.iand, 1) := by decide +kernel
theorem dJ6_bitCount_0f7a4_52 : decode cJ6_bitCount_0f7a4 52 = .ok (.ireturn, 1) := by decide +kernel
theorem dJ9_max_7cf53_0 : decode cJ9_max_7cf53 0 = .ok (.iload_n 0, 1) := by decide +kernel
theorem dJ9_max_7cf53_1 : decode cJ9_max_7cf53 1 = .ok (.iload_n 1, 1) := by decide +kernel
theorem dJ9_max_7cf53_2 : decode cJ9_max_7cf53 2 = .ok (.if_icmp .lt 7, 3) := by decide +kernel
theorem dJ9_max_7cf53_5 : decode cJ9_max_7cf53 5 = .ok (.iload_n 0, 1) := by decide +kernel
theorem dJ9_max_7cf53_6 : decode cJ9_max_7cf53 6 = .ok (.goto 4, 3) := by decide +kernel
theorem dJ9_max_7cf53_9 : decode cJ9_max_7cf53 9 = .ok (.iload_n 1, 1) := by decide +kernel
theorem dJ9_max_7cf53_10 : decode cJ9_max_7cf53 10 = .ok (.ireturn, 1) := by decide +kernel
theorem dJ9_min_7cf53_0 : decode cJ9_min_7cf53 0 = .ok (.iload_n 0, 1) := by decide +kernel
theorem dJ9_min_7cf53_1 : decode cJ9_min_7cf53 1 = .ok (.iload_n 1, 1) := by decide +kernel
theorem dJ9_min_7cf53_2 : decode cJ9_min_7cf53 2 = .ok (.if_icmp .gt 7, 3) := by decide +kernel
theorem dJ9_min_7cf53_5 : decode cJ9_min_7cf53 5 = .ok (.iload_n 0, 1) := by decide +kernel
theorem dJ9_min_7cf53_6 : decode cJ9_min_7cf53 6 = .ok (.goto 4, 3) := by decide +kernel
theorem dJ9_min_7cf53_9 : decode cJ9_min_7cf53 9 = .ok (.iload_n 1, 1) := by decide +kernel
theorem dJ9_min_7cf53_10 : decode cJ9_min_7cf53 10 = .ok (.ireturn, 1) := by decide +kernel
