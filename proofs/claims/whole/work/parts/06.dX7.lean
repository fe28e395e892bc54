theorem dX7_init_0 : decode cX7_init 0 = .ok (.aload_n 0, 1) := by decide +kernel
theorem dX7_init_1 : decode cX7_init 1 = .ok (.invokespecial 1, 3) := by decide +kernel
theorem dX7_init_4 : decode cX7_init 4 = .ok (.aload_n 0, 1) := by decide +kernel
theorem dX7_init_5 : decode cX7_init 5 = .ok (.bipush 6, 2) := by decide +kernel
theorem dX7_init_7 : decode cX7_init 7 = .ok (.putfield 7, 3) := by decide +kernel
theorem dX7_init_10 : decode cX7_init 10 = .ok (.aload_n 0, 1) := by decide +kernel
theorem dX7_init_11 : decode cX7_init 11 = .ok (.bipush 12, 2) := by decide +kernel
theorem dX7_init_13 : decode cX7_init 13 = .ok (.newarray .int, 2) := by decide +kernel
theorem dX7_init_15 : decode cX7_init 15 = .ok (.putfield 13, 3) := by decide +kernel
theorem dX7_init_18 : decode cX7_init 18 = .ok (.aload_n 0, 1) := by decide +kernel
theorem dX7_init_19 : decode cX7_init 19 = .ok (.bipush 12, 2) := by decide +kernel
theorem dX7_init_21 : decode cX7_init 21 = .ok (.newarray .int, 2) := by decide +kernel
theorem dX7_init_23 : decode cX7_init 23 = .ok (.putfield 17, 3) := by decide +kernel
theorem dX7_init_26 : decode cX7_init 26 = .ok (.aload_n 0, 1) := by decide +kernel
theorem dX7_init_27 : decode cX7_init 27 = .ok (.bipush 96, 2) := by decide +kernel
theorem dX7_init_29 : decode cX7_init 29 = .ok (.newarray .int, 2) := by decide +kernel
theorem dX7_init_31 : decode cX7_init 31 = .ok (.putfield 20, 3) := by decide +kernel
theorem dX7_init_34 : decode cX7_init 34 = .ok (.aload_n 0, 1) := by decide +kernel
theorem dX7_init_35 : decode cX7_init 35 = .ok (.bipush 60, 2) := by decide +kernel
theorem dX7_init_37 : decode cX7_init 37 = .ok (.newarray .int, 2) := by decide +kernel
theorem dX7_init_39 : decode cX7_init 39 = .ok (.putfield 23, 3) := by decide +kernel
theorem dX7_init_42 : decode cX7_init 42 = .ok (.aload_n 0, 1) := by decide +kernel
theorem dX7_init_43 : decode cX7_init 43 = .ok (.sipush 4096, 3) := by decide +kernel
theorem dX7_init_46 : decode cX7_init 46 = .ok (.newarray .int, 2) := by decide +kernel
theorem dX7_init_48 : decode cX7_init 48 = .ok (.putfield 26, 3) := by decide +kernel
theorem dX7_init_51 : decode cX7_init 51 = .ok (.aload_n 0, 1) := by decide +kernel
theorem dX7_init_52 : decode cX7_init 52 = .ok (.sipush 4096, 3) := by decide +kernel
theorem dX7_init_55 : decode cX7_init 55 = .ok (.newarray .int, 2) := by decide +kernel
theorem dX7_init_57 : decode cX7_init 57 = .ok (.putfield 29, 3) := by decide +kernel
theorem dX7_init_60 : decode cX7_init 60 = .ok (.aload_n 0, 1) := by decide +kernel
theorem dX7_init_61 : decode cX7_init 61 = .ok (.bipush 12, 2) := by decide +kernel
theorem dX7_init_63 : decode cX7_init 63 = .ok (.newarray .int, 2) := by decide +kernel
theorem dX7_init_65 : decode cX7_init 65 = .ok (.putfield 32, 3) := by decide +kernel
theorem dX7_init_68 : decode cX7_init 68 = .ok (.aload_n 0, 1) := by decide +kernel
theorem dX7_init_69 : decode cX7_init 69 = .ok (.bipush 14, 2) := by decide +kernel
theorem dX7_init_71 : decode cX7_init 71 = .ok (.newarray .int, 2) := by decide +kernel
theorem dX7_init_73 : decode cX7_init 73 = .ok (.putfield 35, 3) := by decide +kernel
theorem dX7_init_76 : decode cX7_init 76 = .ok (.aload_n 0, 1) := by decide +kernel
theorem dX7_init_77 : decode cX7_init 77 = .ok (.bipush 14, 2) := by decide +kernel
theorem dX7_init_79 : decode cX7_init 79 = .ok (.newarray .int, 2) := by decide +kernel
theorem dX7_init_81 : decode cX7_init 81 = .ok (.putfield 38, 3) := by decide +kernel
theorem dX7_init_84 : decode cX7_init 84 = .ok (.aload_n 0, 1) := by decide +kernel
theorem dX7_init_85 : decode cX7_init 85 = .ok (.bipush 90, 2) := by decide +kernel
theorem dX7_init_87 : decode cX7_init 87 = .ok (.newarray .int, 2) := by decide +kernel
theorem dX7_init_89 : decode cX7_init 89 = .ok (.putfield 41, 3) := by decide +kernel
theorem dX7_init_92 : decode cX7_init 92 = .ok (.aload_n 0, 1) := by decide +kernel
theorem dX7_init_93 : decode cX7_init 93 = .ok (.invokevirtual 44, 3) := by decide +kernel
theorem dX7_init_96 : decode cX7_init 96 = .ok (.return_, 1) := by decide +kernel
theorem dX7_thrown_0 : decode cX7_thrown 0 = .ok (.aload_n 0, 1) := by decide +kernel
theorem dX7_thrown_1 : decode cX7_thrown 1 = .ok (.getfield 47, 3) := by decide +kernel
theorem dX7_thrown_4 : decode cX7_thrown 4 = .ok (.ireturn, 1) := by decide +kernel
theorem dX7_within_0 : decode cX7_within 0 = .ok (.iload_n 0, 1) := by decide +kernel
theorem dX7_within_1 : decode cX7_within 1 = .ok (.iload_n 1, 1) := by decide +kernel
theorem dX7_within_2 : decode cX7_within 2 = .ok (.if_icmp .lt 12, 3) := by decide +kernel
theorem dX7_within_5 : decode cX7_within 5 = .ok (.iload_n 0, 1) := by decide +kernel
theorem dX7_within_6 : decode cX7_within 6 = .ok (.iload_n 2, 1) := by decide +kernel
theorem dX7_within_7 : decode cX7_within 7 = .ok (.if_icmp .gt 7, 3) := by decide +kernel
theorem dX7_within_10 : decode cX7_within 10 = .ok (.iconst 1, 1) := by decide +kernel
theorem dX7_within_11 : decode cX7_within 11 = .ok (.goto 4, 3) := by decide +kernel
theorem dX7_within_14 : decode cX7_within 14 = .ok (.iconst 0, 1) := by decide +kernel
theorem dX7_within_15 : decode cX7_within 15 = .ok (.ireturn, 1) := by decide +kernel
theorem dX7_has_0 : decode cX7_has 0 = .ok (.iload_n 0, 1) := by decide +kernel
theorem dX7_has_1 : decode cX7_has 1 = .ok (.iload_n 1, 1) := by decide +kernel
theorem dX7_has_2 : decode cX7_has 2 = .ok (.ishr, 1) := by decide +kernel
theorem dX7_has_3 : decode cX7_has 3 = .ok (.iconst 1, 1) := by decide +kernel
theorem dX7_has_4 : decode cX7_has 4 = .ok (.iand, 1) := by decide +kernel
theorem dX7_has_5 : decode cX7_has 5 = .ok (.iconst 1, 1) := by decide +kernel
theorem dX7_has_6 : decode cX7_has 6 = .ok (.if_icmp .ne 7, 3) := by decide +kernel
theorem dX7_has_9 : decode cX7_has 9 = .ok (.iconst 1, 1) := by decide +kernel
theorem dX7_has_10 : decode cX7_has 10 = .ok (.goto 4, 3) := by decide +kernel
theorem dX7_has_13 : decode cX7_has 13 = .ok (.iconst 0, 1) := by decide +kernel
theorem dX7_has_14 : decode cX7_has 14 = .ok (.ireturn, 1) := by decide +kernel
theorem dX7_bits_0 : decode cX7_bits 0 = .ok (.iconst 0, 1) := by decide +kernel
theorem dX7_bits_1 : decode cX7_bits 1 = .ok (.istore_n 1, 1) := by decide +kernel
theorem dX7_bits_2 : decode cX7_bits 2 = .ok (.iconst 0, 1) := by decide +kernel
theorem dX7_bits_3 : decode cX7_bits 3 = .ok (.istore_n 2, 1) := by decide +kernel
theorem dX7_bits_4 : decode cX7_bits 4 = .ok (.iload_n 2, 1) := by decide +kernel
theorem dX7_bits_5 : decode cX7_bits 5 = .ok (.bipush 12, 2) := by decide +kernel
theorem dX7_bits_7 : decode cX7_bits 7 = .ok (.if_icmp .ge 17, 3) := by decide +kernel
theorem dX7_bits_10 : decode cX7_bits 10 = .ok (.iload_n 1, 1) := by decide +kernel
theorem dX7_bits_11 : decode cX7_bits 11 = .ok (.iload_n 0, 1) := by decide +kernel
theorem dX7_bits_12 : decode cX7_bits 12 = .ok (.iload_n 2, 1) := by decide +kernel
theorem dX7_bits_13 : decode cX7_bits 13 = .ok (.ishr, 1) := by decide +kernel
theorem dX7_bits_14 : decode cX7_bits 14 = .ok (.iconst 1, 1) := by decide +kernel
theorem dX7_bits_15 : decode cX7_bits 15 = .ok (.iand, 1) := by decide +kernel
theorem dX7_bits_16 : decode cX7_bits 16 = .ok (.iadd, 1) := by decide +kernel
theorem dX7_bits_17 : decode cX7_bits 17 = .ok (.istore_n 1, 1) := by decide +kernel
theorem dX7_bits_18 : decode cX7_bits 18 = .ok (.iinc 2 1, 3) := by decide +kernel
theorem dX7_bits_21 : decode cX7_bits 21 = .ok (.goto (-17), 3) := by decide +kernel
theorem dX7_bits_24 : decode cX7_bits 24 = .ok (.iload_n 1, 1) := by decide +kernel
theorem dX7_bits_25 : decode cX7_bits 25 = .ok (.ireturn, 1) := by decide +kernel
theorem dX7_isNode_0 : decode cX7_isNode 0 = .ok (.iload_n 1, 1) := by decide +kernel
theorem dX7_isNode_1 : decode cX7_isNode 1 = .ok (.iconst 0, 1) := by decide +kernel
theorem dX7_isNode_2 : decode cX7_isNode 2 = .ok (.aload_n 0, 1) := by decide +kernel
theorem dX7_isNode_3 : decode cX7_isNode 3 = .ok (.getfield 7, 3) := by decide +kernel
theorem dX7_isNode_6 : decode cX7_isNode 6 = .ok (.iconst 1, 1) := by decide +kernel
theorem dX7_isNode_7 : decode cX7_isNode 7 = .ok (.isub, 1) := by decide +kernel
theorem dX7_isNode_8 : decode cX7_isNode 8 = .ok (.invokestatic 50, 3) := by decide +kernel
theorem dX7_isNode_11 : decode cX7_isNode 11 = .ok (.ireturn, 1) := by decide +kernel
theorem dX7_all_0 : decode cX7_all 0 = .ok (.iconst 1, 1) := by decide +kernel
theorem dX7_all_1 : decode cX7_all 1 = .ok (.aload_n 0, 1) := by decide +kernel
theorem dX7_all_2 : decode cX7_all 2 = .ok (.getfield 7, 3) := by decide +kernel
theorem dX7_all_5 : decode cX7_all 5 = .ok (.ishl, 1) := by decide +kernel
theorem dX7_all_6 : decode cX7_all 6 = .ok (.iconst 1, 1) := by decide +kernel
theorem dX7_all_7 : decode cX7_all 7 = .ok (.isub, 1) := by decide +kernel
theorem dX7_all_8 : decode cX7_all 8 = .ok (.ireturn, 1) := by decide +kernel
theorem dX7_clearAll_0 : decode cX7_clearAll 0 = .ok (.iconst 0, 1) := by decide +kernel
theorem dX7_clearAll_1 : decode cX7_clearAll 1 = .ok (.istore_n 1, 1) := by decide +kernel
theorem dX7_clearAll_2 : decode cX7_clearAll 2 = .ok (.iload_n 1, 1) := by decide +kernel
theorem dX7_clearAll_3 : decode cX7_clearAll 3 = .ok (.bipush 12, 2) := by decide +kernel
theorem dX7_clearAll_5 : decode cX7_clearAll 5 = .ok (.if_icmp .ge 23, 3) := by decide +kernel
theorem dX7_clearAll_8 : decode cX7_clearAll 8 = .ok (.aload_n 0, 1) := by decide +kernel
theorem dX7_clearAll_9 : decode cX7_clearAll 9 = .ok (.getfield 13, 3) := by decide +kernel
theorem dX7_clearAll_12 : decode cX7_clearAll 12 = .ok (.iload_n 1, 1) := by decide +kernel
theorem dX7_clearAll_13 : decode cX7_clearAll 13 = .ok (.iconst 0, 1) := by decide +kernel
theorem dX7_clearAll_14 : decode cX7_clearAll 14 = .ok (.iastore, 1) := by decide +kernel
theorem dX7_clearAll_15 : decode cX7_clearAll 15 = .ok (.aload_n 0, 1) := by decide +kernel
theorem dX7_clearAll_16 : decode cX7_clearAll 16 = .ok (.getfield 17, 3) := by decide +kernel
theorem dX7_clearAll_19 : decode cX7_clearAll 19 = .ok (.iload_n 1, 1) := by decide +kernel
theorem dX7_clearAll_20 : decode cX7_clearAll 20 = .ok (.iconst (-1), 1) := by decide +kernel
theorem dX7_clearAll_21 : decode cX7_clearAll 21 = .ok (.iastore, 1) := by decide +kernel
theorem dX7_clearAll_22 : decode cX7_clearAll 22 = .ok (.iinc 1 1, 3) := by decide +kernel
theorem dX7_clearAll_25 : decode cX7_clearAll 25 = .ok (.goto (-23), 3) := by decide +kernel
theorem dX7_clearAll_28 : decode cX7_clearAll 28 = .ok (.aload_n 0, 1) := by decide +kernel
theorem dX7_clearAll_29 : decode cX7_clearAll 29 = .ok (.iconst 0, 1) := by decide +kernel
theorem dX7_clearAll_30 : decode cX7_clearAll 30 = .ok (.putfield 54, 3) := by decide +kernel
theorem dX7_clearAll_33 : decode cX7_clearAll 33 = .ok (.return_, 1) := by decide +kernel
theorem dX7_flip_0 : decode cX7_flip 0 = .ok (.aload_n 0, 1) := by decide +kernel
theorem dX7_flip_1 : decode cX7_flip 1 = .ok (.getfield 13, 3) := by decide +kernel
theorem dX7_flip_4 : decode cX7_flip 4 = .ok (.iload_n 1, 1) := by decide +kernel
theorem dX7_flip_5 : decode cX7_flip 5 = .ok (.dup2, 1) := by decide +kernel
theorem dX7_flip_6 : decode cX7_flip 6 = .ok (.iaload, 1) := by decide +kernel
theorem dX7_flip_7 : decode cX7_flip 7 = .ok (.iconst 1, 1) := by decide +kernel
theorem dX7_flip_8 : decode cX7_flip 8 = .ok (.iload_n 2, 1) := by decide +kernel
theorem dX7_flip_9 : decode cX7_flip 9 = .ok (.ishl, 1) := by decide +kernel
theorem dX7_flip_10 : decode cX7_flip 10 = .ok (.ixor, 1) := by decide +kernel
theorem dX7_flip_11 : decode cX7_flip 11 = .ok (.iastore, 1) := by decide +kernel
theorem dX7_flip_12 : decode cX7_flip 12 = .ok (.aload_n 0, 1) := by decide +kernel
theorem dX7_flip_13 : decode cX7_flip 13 = .ok (.getfield 13, 3) := by decide +kernel
theorem dX7_flip_16 : decode cX7_flip 16 = .ok (.iload_n 2, 1) := by decide +kernel
theorem dX7_flip_17 : decode cX7_flip 17 = .ok (.dup2, 1) := by decide +kernel
theorem dX7_flip_18 : decode cX7_flip 18 = .ok (.iaload, 1) := by decide +kernel
theorem dX7_flip_19 : decode cX7_flip 19 = .ok (.iconst 1, 1) := by decide +kernel
theorem dX7_flip_20 : decode cX7_flip 20 = .ok (.iload_n 1, 1) := by decide +kernel
theorem dX7_flip_21 : decode cX7_flip 21 = .ok (.ishl, 1) := by decide +kernel
theorem dX7_flip_22 : decode cX7_flip 22 = .ok (.ixor, 1) := by decide +kernel
theorem dX7_flip_23 : decode cX7_flip 23 = .ok (.iastore, 1) := by decide +kernel
theorem dX7_flip_24 : decode cX7_flip 24 = .ok (.return_, 1) := by decide +kernel
theorem dX7_pair_0 : decode cX7_pair 0 = .ok (.aload_n 0, 1) := by decide +kernel
theorem dX7_pair_1 : decode cX7_pair 1 = .ok (.getfield 17, 3) := by decide +kernel
theorem dX7_pair_4 : decode cX7_pair 4 = .ok (.iload_n 1, 1) := by decide +kernel
theorem dX7_pair_5 : decode cX7_pair 5 = .ok (.iload_n 2, 1) := by decide +kernel
theorem dX7_pair_6 : decode cX7_pair 6 = .ok (.iastore, 1) := by decide +kernel
theorem dX7_pair_7 : decode cX7_pair 7 = .ok (.aload_n 0, 1) := by decide +kernel
theorem dX7_pair_8 : decode cX7_pair 8 = .ok (.getfield 17, 3) := by decide +kernel
theorem dX7_pair_11 : decode cX7_pair 11 = .ok (.iload_n 2, 1) := by decide +kernel
theorem dX7_pair_12 : decode cX7_pair 12 = .ok (.iload_n 1, 1) := by decide +kernel
theorem dX7_pair_13 : decode cX7_pair 13 = .ok (.iastore, 1) := by decide +kernel
theorem dX7_pair_14 : decode cX7_pair 14 = .ok (.return_, 1) := by decide +kernel
theorem dX7_part_0 : decode cX7_part 0 = .ok (.aload_n 0, 1) := by decide +kernel
theorem dX7_part_1 : decode cX7_part 1 = .ok (.getfield 17, 3) := by decide +kernel
theorem dX7_part_4 : decode cX7_part 4 = .ok (.aload_n 0, 1) := by decide +kernel
theorem dX7_part_5 : decode cX7_part 5 = .ok (.getfield 17, 3) := by decide +kernel
theorem dX7_part_8 : decode cX7_part 8 = .ok (.iload_n 1, 1) := by decide +kernel
theorem dX7_part_9 : decode cX7_part 9 = .ok (.iaload, 1) := by decide +kernel
theorem dX7_part_10 : decode cX7_part 10 = .ok (.iconst (-1), 1) := by decide +kernel
theorem dX7_part_11 : decode cX7_part 11 = .ok (.iastore, 1) := by decide +kernel
theorem dX7_part_12 : decode cX7_part 12 = .ok (.aload_n 0, 1) := by decide +kernel
theorem dX7_part_13 : decode cX7_part 13 = .ok (.getfield 17, 3) := by decide +kernel
theorem dX7_part_16 : decode cX7_part 16 = .ok (.iload_n 1, 1) := by decide +kernel
theorem dX7_part_17 : decode cX7_part 17 = .ok (.iconst (-1), 1) := by decide +kernel
theorem dX7_part_18 : decode cX7_part 18 = .ok (.iastore, 1) := by decide +kernel
theorem dX7_part_19 : decode cX7_part 19 = .ok (.return_, 1) := by decide +kernel
theorem dX7_keep_0 : decode cX7_keep 0 = .ok (.aload_n 0, 1) := by decide +kernel
theorem dX7_keep_1 : decode cX7_keep 1 = .ok (.getfield 54, 3) := by decide +kernel
theorem dX7_keep_4 : decode cX7_keep 4 = .ok (.iconst 4, 1) := by decide +kernel
theorem dX7_keep_5 : decode cX7_keep 5 = .ok (.if_icmp .ne 42, 3) := by decide +kernel
theorem dX7_keep_8 : decode cX7_keep 8 = .ok (.iconst 0, 1) := by decide +kernel
theorem dX7_keep_9 : decode cX7_keep 9 = .ok (.istore_n 1, 1) := by decide +kernel
theorem dX7_keep_10 : decode cX7_keep 10 = .ok (.iload_n 1, 1) := by decide +kernel
theorem dX7_keep_11 : decode cX7_keep 11 = .ok (.bipush 72, 2) := by decide +kernel
theorem dX7_keep_13 : decode cX7_keep 13 = .ok (.if_icmp .ge 24, 3) := by decide +kernel
theorem dX7_keep_16 : decode cX7_keep 16 = .ok (.aload_n 0, 1) := by decide +kernel
theorem dX7_keep_17 : decode cX7_keep 17 = .ok (.getfield 20, 3) := by decide +kernel
theorem dX7_keep_20 : decode cX7_keep 20 = .ok (.iload_n 1, 1) := by decide +kernel
theorem dX7_keep_21 : decode cX7_keep 21 = .ok (.aload_n 0, 1) := by decide +kernel
theorem dX7_keep_22 : decode cX7_keep 22 = .ok (.getfield 20, 3) := by decide +kernel
theorem dX7_keep_25 : decode cX7_keep 25 = .ok (.iload_n 1, 1) := by decide +kernel
theorem dX7_keep_26 : decode cX7_keep 26 = .ok (.bipush 24, 2) := by decide +kernel
theorem dX7_keep_28 : decode cX7_keep 28 = .ok (.iadd, 1) := by decide +kernel
theorem dX7_keep_29 : decode cX7_keep 29 = .ok (.iaload, 1) := by decide +kernel
theorem dX7_keep_30 : decode cX7_keep 30 = .ok (.iastore, 1) := by decide +kernel
theorem dX7_keep_31 : decode cX7_keep 31 = .ok (.iinc 1 1, 3) := by decide +kernel
theorem dX7_keep_34 : decode cX7_keep 34 = .ok (.goto (-24), 3) := by decide +kernel
theorem dX7_keep_37 : decode cX7_keep 37 = .ok (.aload_n 0, 1) := by decide +kernel
theorem dX7_keep_38 : decode cX7_keep 38 = .ok (.dup, 1) := by decide +kernel
theorem dX7_keep_39 : decode cX7_keep 39 = .ok (.getfield 54, 3) := by decide +kernel
theorem dX7_keep_42 : decode cX7_keep 42 = .ok (.iconst 1, 1) := by decide +kernel
theorem dX7_keep_43 : decode cX7_keep 43 = .ok (.isub, 1) := by decide +kernel
theorem dX7_keep_44 : decode cX7_keep 44 = .ok (.putfield 54, 3) := by decide +kernel
theorem dX7_keep_47 : decode cX7_keep 47 = .ok (.iconst 0, 1) := by decide +kernel
theorem dX7_keep_48 : decode cX7_keep 48 = .ok (.istore_n 1, 1) := by decide +kernel
theorem dX7_keep_49 : decode cX7_keep 49 = .ok (.iload_n 1, 1) := by decide +kernel
theorem dX7_keep_50 : decode cX7_keep 50 = .ok (.bipush 12, 2) := by decide +kernel
theorem dX7_keep_52 : decode cX7_keep 52 = .ok (.if_icmp .ge 52, 3) := by decide +kernel
theorem dX7_keep_55 : decode cX7_keep 55 = .ok (.aload_n 0, 1) := by decide +kernel
theorem dX7_keep_56 : decode cX7_keep 56 = .ok (.getfield 20, 3) := by decide +kernel
theorem dX7_keep_59 : decode cX7_keep 59 = .ok (.bipush 24, 2) := by decide +kernel
theorem dX7_keep_61 : decode cX7_keep 61 = .ok (.aload_n 0, 1) := by decide +kernel
theorem dX7_keep_62 : decode cX7_keep 62 = .ok (.getfield 54, 3) := by decide +kernel
theorem dX7_keep_65 : decode cX7_keep 65 = .ok (.imul, 1) := by decide +kernel
theorem dX7_keep_66 : decode cX7_keep 66 = .ok (.iload_n 1, 1) := by decide +kernel
theorem dX7_keep_67 : decode cX7_keep 67 = .ok (.iadd, 1) := by decide +kernel
theorem dX7_keep_68 : decode cX7_keep 68 = .ok (.aload_n 0, 1) := by decide +kernel
theorem dX7_keep_69 : decode cX7_keep 69 = .ok (.getfield 13, 3) := by decide +kernel
theorem dX7_keep_72 : decode cX7_keep 72 = .ok (.iload_n 1, 1) := by decide +kernel
theorem dX7_keep_73 : decode cX7_keep 73 = .ok (.iaload, 1) := by decide +kernel
theorem dX7_keep_74 : decode cX7_keep 74 = .ok (.iastore, 1) := by decide +kernel
theorem dX7_keep_75 : decode cX7_keep 75 = .ok (.aload_n 0, 1) := by decide +kernel
theorem dX7_keep_76 : decode cX7_keep 76 = .ok (.getfield 20, 3) := by decide +kernel
theorem dX7_keep_79 : decode cX7_keep 79 = .ok (.bipush 24, 2) := by decide +kernel
theorem dX7_keep_81 : decode cX7_keep 81 = .ok (.aload_n 0, 1) := by decide +kernel
theorem dX7_keep_82 : decode cX7_keep 82 = .ok (.getfield 54, 3) := by decide +kernel
theorem dX7_keep_85 : decode cX7_keep 85 = .ok (.imul, 1) := by decide +kernel
theorem dX7_keep_86 : decode cX7_keep 86 = .ok (.bipush 12, 2) := by decide +kernel
theorem dX7_keep_88 : decode cX7_keep 88 = .ok (.iadd, 1) := by decide +kernel
theorem dX7_keep_89 : decode cX7_keep 89 = .ok (.iload_n 1, 1) := by decide +kernel
theorem dX7_keep_90 : decode cX7_keep 90 = .ok (.iadd, 1) := by decide +kernel
theorem dX7_keep_91 : decode cX7_keep 91 = .ok (.aload_n 0, 1) := by decide +kernel
theorem dX7_keep_92 : decode cX7_keep 92 = .ok (.getfield 17, 3) := by decide +kernel
theorem dX7_keep_95 : decode cX7_keep 95 = .ok (.iload_n 1, 1) := by decide +kernel
theorem dX7_keep_96 : decode cX7_keep 96 = .ok (.iaload, 1) := by decide +kernel
theorem dX7_keep_97 : decode cX7_keep 97 = .ok (.iastore, 1) := by decide +kernel
theorem dX7_keep_98 : decode cX7_keep 98 = .ok (.iinc 1 1, 3) := by decide +kernel
theorem dX7_keep_101 : decode cX7_keep 101 = .ok (.goto (-52), 3) := by decide +kernel
theorem dX7_keep_104 : decode cX7_keep 104 = .ok (.aload_n 0, 1) := by decide +kernel
theorem dX7_keep_105 : decode cX7_keep 105 = .ok (.dup, 1) := by decide +kernel
theorem dX7_keep_106 : decode cX7_keep 106 = .ok (.getfield 54, 3) := by decide +kernel
theorem dX7_keep_109 : decode cX7_keep 109 = .ok (.iconst 1, 1) := by decide +kernel
theorem dX7_keep_110 : decode cX7_keep 110 = .ok (.iadd, 1) := by decide +kernel
theorem dX7_keep_111 : decode cX7_keep 111 = .ok (.putfield 54, 3) := by decide +kernel
theorem dX7_keep_114 : decode cX7_keep 114 = .ok (.return_, 1) := by decide +kernel
theorem dX7_note_0 : decode cX7_note 0 = .ok (.iload_n 2, 1) := by decide +kernel
theorem dX7_note_1 : decode cX7_note 1 = .ok (.aload_n 0, 1) := by decide +kernel
theorem dX7_note_2 : decode cX7_note 2 = .ok (.getfield 26, 3) := by decide +kernel
theorem dX7_note_5 : decode cX7_note 5 = .ok (.iload_n 1, 1) := by decide +kernel
theorem dX7_note_6 : decode cX7_note 6 = .ok (.iaload, 1) := by decide +kernel
theorem dX7_note_7 : decode cX7_note 7 = .ok (.if_icmp .le 17, 3) := by decide +kernel
theorem dX7_note_10 : decode cX7_note 10 = .ok (.aload_n 0, 1) := by decide +kernel
theorem dX7_note_11 : decode cX7_note 11 = .ok (.getfield 26, 3) := by decide +kernel
theorem dX7_note_14 : decode cX7_note 14 = .ok (.iload_n 1, 1) := by decide +kernel
theorem dX7_note_15 : decode cX7_note 15 = .ok (.iload_n 2, 1) := by decide +kernel
theorem dX7_note_16 : decode cX7_note 16 = .ok (.iastore, 1) := by decide +kernel
theorem dX7_note_17 : decode cX7_note 17 = .ok (.aload_n 0, 1) := by decide +kernel
theorem dX7_note_18 : decode cX7_note 18 = .ok (.getfield 29, 3) := by decide +kernel
theorem dX7_note_21 : decode cX7_note 21 = .ok (.iload_n 1, 1) := by decide +kernel
theorem dX7_note_22 : decode cX7_note 22 = .ok (.iconst 0, 1) := by decide +kernel
theorem dX7_note_23 : decode cX7_note 23 = .ok (.iastore, 1) := by decide +kernel
theorem dX7_note_24 : decode cX7_note 24 = .ok (.aload_n 0, 1) := by decide +kernel
theorem dX7_note_25 : decode cX7_note 25 = .ok (.getfield 29, 3) := by decide +kernel
theorem dX7_note_28 : decode cX7_note 28 = .ok (.iload_n 1, 1) := by decide +kernel
theorem dX7_note_29 : decode cX7_note 29 = .ok (.dup2, 1) := by decide +kernel
theorem dX7_note_30 : decode cX7_note 30 = .ok (.iaload, 1) := by decide +kernel
theorem dX7_note_31 : decode cX7_note 31 = .ok (.iload_n 2, 1) := by decide +kernel
theorem dX7_note_32 : decode cX7_note 32 = .ok (.aload_n 0, 1) := by decide +kernel
theorem dX7_note_33 : decode cX7_note 33 = .ok (.getfield 26, 3) := by decide +kernel
theorem dX7_note_36 : decode cX7_note 36 = .ok (.iload_n 1, 1) := by decide +kernel
theorem dX7_note_37 : decode cX7_note 37 = .ok (.iaload, 1) := by decide +kernel
theorem dX7_note_38 : decode cX7_note 38 = .ok (.if_icmp .ne 7, 3) := by decide +kernel
theorem dX7_note_41 : decode cX7_note 41 = .ok (.iload_n 3, 1) := by decide +kernel
theorem dX7_note_42 : decode cX7_note 42 = .ok (.goto 4, 3) := by decide +kernel
theorem dX7_note_45 : decode cX7_note 45 = .ok (.iconst 0, 1) := by decide +kernel
theorem dX7_note_46 : decode cX7_note 46 = .ok (.iadd, 1) := by decide +kernel
theorem dX7_note_47 : decode cX7_note 47 = .ok (.iastore, 1) := by decide +kernel
theorem dX7_note_48 : decode cX7_note 48 = .ok (.return_, 1) := by decide +kernel
theorem dX7_laySets_0 : decode cX7_laySets 0 = .ok (.aload_n 0, 1) := by decide +kernel
theorem dX7_laySets_1 : decode cX7_laySets 1 = .ok (.getfield 26, 3) := by decide +kernel
theorem dX7_laySets_4 : decode cX7_laySets 4 = .ok (.iconst 0, 1) := by decide +kernel
theorem dX7_laySets_5 : decode cX7_laySets 5 = .ok (.iconst 0, 1) := by decide +kernel
theorem dX7_laySets_6 : decode cX7_laySets 6 = .ok (.iastore, 1) := by decide +kernel
theorem dX7_laySets_7 : decode cX7_laySets 7 = .ok (.aload_n 0, 1) := by decide +kernel
theorem dX7_laySets_8 : decode cX7_laySets 8 = .ok (.getfield 29, 3) := by decide +kernel
theorem dX7_laySets_11 : decode cX7_laySets 11 = .ok (.iconst 0, 1) := by decide +kernel
theorem dX7_laySets_12 : decode cX7_laySets 12 = .ok (.iconst 1, 1) := by decide +kernel
theorem dX7_laySets_13 : decode cX7_laySets 13 = .ok (.iastore, 1) := by decide +kernel
theorem dX7_laySets_14 : decode cX7_laySets 14 = .ok (.iconst 1, 1) := by decide +kernel
theorem dX7_laySets_15 : decode cX7_laySets 15 = .ok (.istore_n 1, 1) := by decide +kernel
theorem dX7_laySets_16 : decode cX7_laySets 16 = .ok (.iload_n 1, 1) := by decide +kernel
theorem dX7_laySets_17 : decode cX7_laySets 17 = .ok (.aload_n 0, 1) := by decide +kernel
theorem dX7_laySets_18 : decode cX7_laySets 18 = .ok (.invokevirtual 57, 3) := by decide +kernel
theorem dX7_laySets_21 : decode cX7_laySets 21 = .ok (.if_icmp .gt 126, 3) := by decide +kernel
theorem dX7_laySets_24 : decode cX7_laySets 24 = .ok (.iconst 0, 1) := by decide +kernel
theorem dX7_laySets_25 : decode cX7_laySets 25 = .ok (.istore_n 2, 1) := by decide +kernel
theorem dX7_laySets_26 : decode cX7_laySets 26 = .ok (.iload_n 1, 1) := by decide +kernel
theorem dX7_laySets_27 : decode cX7_laySets 27 = .ok (.iload_n 2, 1) := by decide +kernel
theorem dX7_laySets_28 : decode cX7_laySets 28 = .ok (.invokestatic 61, 3) := by decide +kernel
theorem dX7_laySets_31 : decode cX7_laySets 31 = .ok (.ifCond .ne 9, 3) := by decide +kernel
theorem dX7_laySets_34 : decode cX7_laySets 34 = .ok (.iinc 2 1, 3) := by decide +kernel
theorem dX7_laySets_37 : decode cX7_laySets 37 = .ok (.goto (-11), 3) := by decide +kernel
theorem dX7_laySets_40 : decode cX7_laySets 40 = .ok (.iload_n 1, 1) := by decide +kernel
theorem dX7_laySets_41 : decode cX7_laySets 41 = .ok (.iconst 1, 1) := by decide +kernel
theorem dX7_laySets_42 : decode cX7_laySets 42 = .ok (.iload_n 2, 1) := by decide +kernel
theorem dX7_laySets_43 : decode cX7_laySets 43 = .ok (.ishl, 1) := by decide +kernel
theorem dX7_laySets_44 : decode cX7_laySets 44 = .ok (.iconst (-1), 1) := by decide +kernel
theorem dX7_laySets_45 : decode cX7_laySets 45 = .ok (.ixor, 1) := by decide +kernel
theorem dX7_laySets_46 : decode cX7_laySets 46 = .ok (.iand, 1) := by decide +kernel
theorem dX7_laySets_47 : decode cX7_laySets 47 = .ok (.istore_n 3, 1) := by decide +kernel
theorem dX7_laySets_48 : decode cX7_laySets 48 = .ok (.aload_n 0, 1) := by decide +kernel
theorem dX7_laySets_49 : decode cX7_laySets 49 = .ok (.getfield 26, 3) := by decide +kernel
theorem dX7_laySets_52 : decode cX7_laySets 52 = .ok (.iload_n 1, 1) := by decide +kernel
theorem dX7_laySets_53 : decode cX7_laySets 53 = .ok (.iconst (-1), 1) := by decide +kernel
theorem dX7_laySets_54 : decode cX7_laySets 54 = .ok (.iastore, 1) := by decide +kernel
theorem dX7_laySets_55 : decode cX7_laySets 55 = .ok (.aload_n 0, 1) := by decide +kernel
theorem dX7_laySets_56 : decode cX7_laySets 56 = .ok (.iload_n 1, 1) := by decide +kernel
theorem dX7_laySets_57 : decode cX7_laySets 57 = .ok (.aload_n 0, 1) := by decide +kernel
theorem dX7_laySets_58 : decode cX7_laySets 58 = .ok (.getfield 26, 3) := by decide +kernel
theorem dX7_laySets_61 : decode cX7_laySets 61 = .ok (.iload_n 3, 1) := by decide +kernel
theorem dX7_laySets_62 : decode cX7_laySets 62 = .ok (.iaload, 1) := by decide +kernel
theorem dX7_laySets_63 : decode cX7_laySets 63 = .ok (.aload_n 0, 1) := by decide +kernel
theorem dX7_laySets_64 : decode cX7_laySets 64 = .ok (.getfield 29, 3) := by decide +kernel
theorem dX7_laySets_67 : decode cX7_laySets 67 = .ok (.iload_n 3, 1) := by decide +kernel
theorem dX7_laySets_68 : decode cX7_laySets 68 = .ok (.iaload, 1) := by decide +kernel
theorem dX7_laySets_69 : decode cX7_laySets 69 = .ok (.invokevirtual 65, 3) := by decide +kernel
theorem dX7_laySets_72 : decode cX7_laySets 72 = .ok (.iload_n 2, 1) := by decide +kernel
theorem dX7_laySets_73 : decode cX7_laySets 73 = .ok (.iconst 1, 1) := by decide +kernel
theorem dX7_laySets_74 : decode cX7_laySets 74 = .ok (.iadd, 1) := by decide +kernel
theorem dX7_laySets_75 : decode cX7_laySets 75 = .ok (.istore 4, 2) := by decide +kernel
theorem dX7_laySets_77 : decode cX7_laySets 77 = .ok (.iload 4, 2) := by decide +kernel
theorem dX7_laySets_79 : decode cX7_laySets 79 = .ok (.aload_n 0, 1) := by decide +kernel
theorem dX7_laySets_80 : decode cX7_laySets 80 = .ok (.getfield 7, 3) := by decide +kernel
theorem dX7_laySets_83 : decode cX7_laySets 83 = .ok (.if_icmp .ge 58, 3) := by decide +kernel
theorem dX7_laySets_86 : decode cX7_laySets 86 = .ok (.iload_n 3, 1) := by decide +kernel
theorem dX7_laySets_87 : decode cX7_laySets 87 = .ok (.aload_n 0, 1) := by decide +kernel
theorem dX7_laySets_88 : decode cX7_laySets 88 = .ok (.getfield 13, 3) := by decide +kernel
theorem dX7_laySets_91 : decode cX7_laySets 91 = .ok (.iload_n 2, 1) := by decide +kernel
theorem dX7_laySets_92 : decode cX7_laySets 92 = .ok (.iaload, 1) := by decide +kernel
theorem dX7_laySets_93 : decode cX7_laySets 93 = .ok (.iand, 1) := by decide +kernel
theorem dX7_laySets_94 : decode cX7_laySets 94 = .ok (.iload 4, 2) := by decide +kernel
theorem dX7_laySets_96 : decode cX7_laySets 96 = .ok (.invokestatic 61, 3) := by decide +kernel
theorem dX7_laySets_99 : decode cX7_laySets 99 = .ok (.ifCond .eq 36, 3) := by decide +kernel
theorem dX7_laySets_102 : decode cX7_laySets 102 = .ok (.aload_n 0, 1) := by decide +kernel
theorem dX7_laySets_103 : decode cX7_laySets 103 = .ok (.iload_n 1, 1) := by decide +kernel
theorem dX7_laySets_104 : decode cX7_laySets 104 = .ok (.aload_n 0, 1) := by decide +kernel
theorem dX7_laySets_105 : decode cX7_laySets 105 = .ok (.getfield 26, 3) := by decide +kernel
theorem dX7_laySets_108 : decode cX7_laySets 108 = .ok (.iload_n 3, 1) := by decide +kernel
theorem dX7_laySets_109 : decode cX7_laySets 109 = .ok (.iconst 1, 1) := by decide +kernel
theorem dX7_laySets_110 : decode cX7_laySets 110 = .ok (.iload 4, 2) := by decide +kernel
theorem dX7_laySets_112 : decode cX7_laySets 112 = .ok (.ishl, 1) := by decide +kernel
theorem dX7_laySets_113 : decode cX7_laySets 113 = .ok (.iconst (-1), 1) := by decide +kernel
theorem dX7_laySets_114 : decode cX7_laySets 114 = .ok (.ixor, 1) := by decide +kernel
theorem dX7_laySets_115 : decode cX7_laySets 115 = .ok (.iand, 1) := by decide +kernel
theorem dX7_laySets_116 : decode cX7_laySets 116 = .ok (.iaload, 1) := by decide +kernel
theorem dX7_laySets_117 : decode cX7_laySets 117 = .ok (.iconst 1, 1) := by decide +kernel
theorem dX7_laySets_118 : decode cX7_laySets 118 = .ok (.iadd, 1) := by decide +kernel
theorem dX7_laySets_119 : decode cX7_laySets 119 = .ok (.aload_n 0, 1) := by decide +kernel
theorem dX7_laySets_120 : decode cX7_laySets 120 = .ok (.getfield 29, 3) := by decide +kernel
theorem dX7_laySets_123 : decode cX7_laySets 123 = .ok (.iload_n 3, 1) := by decide +kernel
theorem dX7_laySets_124 : decode cX7_laySets 124 = .ok (.iconst 1, 1) := by decide +kernel
theorem dX7_laySets_125 : decode cX7_laySets 125 = .ok (.iload 4, 2) := by decide +kernel
theorem dX7_laySets_127 : decode cX7_laySets 127 = .ok (.ishl, 1) := by decide +kernel
theorem dX7_laySets_128 : decode cX7_laySets 128 = .ok (.iconst (-1), 1) := by decide +kernel
theorem dX7_laySets_129 : decode cX7_laySets 129 = .ok (.ixor, 1) := by decide +kernel
theorem dX7_laySets_130 : decode cX7_laySets 130 = .ok (.iand, 1) := by decide +kernel
theorem dX7_laySets_131 : decode cX7_laySets 131 = .ok (.iaload, 1) := by decide +kernel
theorem dX7_laySets_132 : decode cX7_laySets 132 = .ok (.invokevirtual 65, 3) := by decide +kernel
theorem dX7_laySets_135 : decode cX7_laySets 135 = .ok (.iinc 4 1, 3) := by decide +kernel
theorem dX7_laySets_138 : decode cX7_laySets 138 = .ok (.goto (-61), 3) := by decide +kernel
theorem dX7_laySets_141 : decode cX7_laySets 141 = .ok (.iinc 1 1, 3) := by decide +kernel
theorem dX7_laySets_144 : decode cX7_laySets 144 = .ok (.goto (-128), 3) := by decide +kernel
theorem dX7_laySets_147 : decode cX7_laySets 147 = .ok (.return_, 1) := by decide +kernel
theorem dX7_layFirst_0 : decode cX7_layFirst 0 = .ok (.aload_n 0, 1) := by decide +kernel
theorem dX7_layFirst_1 : decode cX7_layFirst 1 = .ok (.invokevirtual 57, 3) := by decide +kernel
theorem dX7_layFirst_4 : decode cX7_layFirst 4 = .ok (.istore_n 1, 1) := by decide +kernel
theorem dX7_layFirst_5 : decode cX7_layFirst 5 = .ok (.iconst 0, 1) := by decide +kernel
theorem dX7_layFirst_6 : decode cX7_layFirst 6 = .ok (.istore_n 2, 1) := by decide +kernel
theorem dX7_layFirst_7 : decode cX7_layFirst 7 = .ok (.iload_n 2, 1) := by decide +kernel
theorem dX7_layFirst_8 : decode cX7_layFirst 8 = .ok (.aload_n 0, 1) := by decide +kernel
theorem dX7_layFirst_9 : decode cX7_layFirst 9 = .ok (.getfield 7, 3) := by decide +kernel
theorem dX7_layFirst_12 : decode cX7_layFirst 12 = .ok (.if_icmp .ge 134, 3) := by decide +kernel
theorem dX7_layFirst_15 : decode cX7_layFirst 15 = .ok (.iload_n 1, 1) := by decide +kernel
theorem dX7_layFirst_16 : decode cX7_layFirst 16 = .ok (.iload_n 2, 1) := by decide +kernel
theorem dX7_layFirst_17 : decode cX7_layFirst 17 = .ok (.invokestatic 61, 3) := by decide +kernel
theorem dX7_layFirst_20 : decode cX7_layFirst 20 = .ok (.ifCond .eq 120, 3) := by decide +kernel
theorem dX7_layFirst_23 : decode cX7_layFirst 23 = .ok (.iload_n 1, 1) := by decide +kernel
theorem dX7_layFirst_24 : decode cX7_layFirst 24 = .ok (.iconst 1, 1) := by decide +kernel
theorem dX7_layFirst_25 : decode cX7_layFirst 25 = .ok (.iload_n 2, 1) := by decide +kernel
theorem dX7_layFirst_26 : decode cX7_layFirst 26 = .ok (.ishl, 1) := by decide +kernel
theorem dX7_layFirst_27 : decode cX7_layFirst 27 = .ok (.iconst (-1), 1) := by decide +kernel
theorem dX7_layFirst_28 : decode cX7_layFirst 28 = .ok (.ixor, 1) := by decide +kernel
theorem dX7_layFirst_29 : decode cX7_layFirst 29 = .ok (.iand, 1) := by decide +kernel
theorem dX7_layFirst_30 : decode cX7_layFirst 30 = .ok (.istore_n 3, 1) := by decide +kernel
theorem dX7_layFirst_31 : decode cX7_layFirst 31 = .ok (.iload_n 2, 1) := by decide +kernel
theorem dX7_layFirst_32 : decode cX7_layFirst 32 = .ok (.iconst 1, 1) := by decide +kernel
theorem dX7_layFirst_33 : decode cX7_layFirst 33 = .ok (.iadd, 1) := by decide +kernel
theorem dX7_layFirst_34 : decode cX7_layFirst 34 = .ok (.istore 4, 2) := by decide +kernel
theorem dX7_layFirst_36 : decode cX7_layFirst 36 = .ok (.iload 4, 2) := by decide +kernel
theorem dX7_layFirst_38 : decode cX7_layFirst 38 = .ok (.aload_n 0, 1) := by decide +kernel
theorem dX7_layFirst_39 : decode cX7_layFirst 39 = .ok (.getfield 7, 3) := by decide +kernel
theorem dX7_layFirst_42 : decode cX7_layFirst 42 = .ok (.if_icmp .ge 49, 3) := by decide +kernel
theorem dX7_layFirst_45 : decode cX7_layFirst 45 = .ok (.iload_n 3, 1) := by decide +kernel
theorem dX7_layFirst_46 : decode cX7_layFirst 46 = .ok (.aload_n 0, 1) := by decide +kernel
theorem dX7_layFirst_47 : decode cX7_layFirst 47 = .ok (.getfield 13, 3) := by decide +kernel
theorem dX7_layFirst_50 : decode cX7_layFirst 50 = .ok (.iload_n 2, 1) := by decide +kernel
theorem dX7_layFirst_51 : decode cX7_layFirst 51 = .ok (.iaload, 1) := by decide +kernel
theorem dX7_layFirst_52 : decode cX7_layFirst 52 = .ok (.iand, 1) := by decide +kernel
theorem dX7_layFirst_53 : decode cX7_layFirst 53 = .ok (.iload 4, 2) := by decide +kernel
theorem dX7_layFirst_55 : decode cX7_layFirst 55 = .ok (.invokestatic 61, 3) := by decide +kernel
theorem dX7_layFirst_58 : decode cX7_layFirst 58 = .ok (.ifCond .eq 27, 3) := by decide +kernel
theorem dX7_layFirst_61 : decode cX7_layFirst 61 = .ok (.aload_n 0, 1) := by decide +kernel
theorem dX7_layFirst_62 : decode cX7_layFirst 62 = .ok (.getfield 26, 3) := by decide +kernel
theorem dX7_layFirst_65 : decode cX7_layFirst 65 = .ok (.iload_n 3, 1) := by decide +kernel
theorem dX7_layFirst_66 : decode cX7_layFirst 66 = .ok (.iconst 1, 1) := by decide +kernel
theorem dX7_layFirst_67 : decode cX7_layFirst 67 = .ok (.iload 4, 2) := by decide +kernel
theorem dX7_layFirst_69 : decode cX7_layFirst 69 = .ok (.ishl, 1) := by decide +kernel
theorem dX7_layFirst_70 : decode cX7_layFirst 70 = .ok (.iconst (-1), 1) := by decide +kernel
theorem dX7_layFirst_71 : decode cX7_layFirst 71 = .ok (.ixor, 1) := by decide +kernel
theorem dX7_layFirst_72 : decode cX7_layFirst 72 = .ok (.iand, 1) := by decide +kernel
theorem dX7_layFirst_73 : decode cX7_layFirst 73 = .ok (.iaload, 1) := by decide +kernel
theorem dX7_layFirst_74 : decode cX7_layFirst 74 = .ok (.iconst 1, 1) := by decide +kernel
theorem dX7_layFirst_75 : decode cX7_layFirst 75 = .ok (.iadd, 1) := by decide +kernel
theorem dX7_layFirst_76 : decode cX7_layFirst 76 = .ok (.aload_n 0, 1) := by decide +kernel
theorem dX7_layFirst_77 : decode cX7_layFirst 77 = .ok (.getfield 26, 3) := by decide +kernel
theorem dX7_layFirst_80 : decode cX7_layFirst 80 = .ok (.iload_n 1, 1) := by decide +kernel
theorem dX7_layFirst_81 : decode cX7_layFirst 81 = .ok (.iaload, 1) := by decide +kernel
theorem dX7_layFirst_82 : decode cX7_layFirst 82 = .ok (.if_icmp .eq 9, 3) := by decide +kernel
theorem dX7_layFirst_85 : decode cX7_layFirst 85 = .ok (.iinc 4 1, 3) := by decide +kernel
theorem dX7_layFirst_88 : decode cX7_layFirst 88 = .ok (.goto (-52), 3) := by decide +kernel
theorem dX7_layFirst_91 : decode cX7_layFirst 91 = .ok (.aload_n 0, 1) := by decide +kernel
theorem dX7_layFirst_92 : decode cX7_layFirst 92 = .ok (.getfield 32, 3) := by decide +kernel
theorem dX7_layFirst_95 : decode cX7_layFirst 95 = .ok (.iload_n 2, 1) := by decide +kernel
theorem dX7_layFirst_96 : decode cX7_layFirst 96 = .ok (.iload 4, 2) := by decide +kernel
theorem dX7_layFirst_98 : decode cX7_layFirst 98 = .ok (.aload_n 0, 1) := by decide +kernel
theorem dX7_layFirst_99 : decode cX7_layFirst 99 = .ok (.getfield 7, 3) := by decide +kernel
theorem dX7_layFirst_102 : decode cX7_layFirst 102 = .ok (.if_icmp .ge 8, 3) := by decide +kernel
theorem dX7_layFirst_105 : decode cX7_layFirst 105 = .ok (.iload 4, 2) := by decide +kernel
theorem dX7_layFirst_107 : decode cX7_layFirst 107 = .ok (.goto 4, 3) := by decide +kernel
theorem dX7_layFirst_110 : decode cX7_layFirst 110 = .ok (.iconst (-1), 1) := by decide +kernel
theorem dX7_layFirst_111 : decode cX7_layFirst 111 = .ok (.iastore, 1) := by decide +kernel
theorem dX7_layFirst_112 : decode cX7_layFirst 112 = .ok (.iload_n 3, 1) := by decide +kernel
theorem dX7_layFirst_113 : decode cX7_layFirst 113 = .ok (.istore_n 1, 1) := by decide +kernel
theorem dX7_layFirst_114 : decode cX7_layFirst 114 = .ok (.iload 4, 2) := by decide +kernel
theorem dX7_layFirst_116 : decode cX7_layFirst 116 = .ok (.aload_n 0, 1) := by decide +kernel
theorem dX7_layFirst_117 : decode cX7_layFirst 117 = .ok (.getfield 7, 3) := by decide +kernel
theorem dX7_layFirst_120 : decode cX7_layFirst 120 = .ok (.if_icmp .ge 20, 3) := by decide +kernel
theorem dX7_layFirst_123 : decode cX7_layFirst 123 = .ok (.aload_n 0, 1) := by decide +kernel
theorem dX7_layFirst_124 : decode cX7_layFirst 124 = .ok (.getfield 32, 3) := by decide +kernel
theorem dX7_layFirst_127 : decode cX7_layFirst 127 = .ok (.iload 4, 2) := by decide +kernel
theorem dX7_layFirst_129 : decode cX7_layFirst 129 = .ok (.iload_n 2, 1) := by decide +kernel
theorem dX7_layFirst_130 : decode cX7_layFirst 130 = .ok (.iastore, 1) := by decide +kernel
theorem dX7_layFirst_131 : decode cX7_layFirst 131 = .ok (.iload_n 1, 1) := by decide +kernel
theorem dX7_layFirst_132 : decode cX7_layFirst 132 = .ok (.iconst 1, 1) := by decide +kernel
theorem dX7_layFirst_133 : decode cX7_layFirst 133 = .ok (.iload 4, 2) := by decide +kernel
theorem dX7_layFirst_135 : decode cX7_layFirst 135 = .ok (.ishl, 1) := by decide +kernel
theorem dX7_layFirst_136 : decode cX7_layFirst 136 = .ok (.iconst (-1), 1) := by decide +kernel
theorem dX7_layFirst_137 : decode cX7_layFirst 137 = .ok (.ixor, 1) := by decide +kernel
theorem dX7_layFirst_138 : decode cX7_layFirst 138 = .ok (.iand, 1) := by decide +kernel
theorem dX7_layFirst_139 : decode cX7_layFirst 139 = .ok (.istore_n 1, 1) := by decide +kernel
theorem dX7_layFirst_140 : decode cX7_layFirst 140 = .ok (.iinc 2 1, 3) := by decide +kernel
theorem dX7_layFirst_143 : decode cX7_layFirst 143 = .ok (.goto (-136), 3) := by decide +kernel
theorem dX7_layFirst_146 : decode cX7_layFirst 146 = .ok (.return_, 1) := by decide +kernel
theorem dX7_exposing_0 : decode cX7_exposing 0 = .ok (.aload_n 0, 1) := by decide +kernel
theorem dX7_exposing_1 : decode cX7_exposing 1 = .ok (.invokevirtual 57, 3) := by decide +kernel
theorem dX7_exposing_4 : decode cX7_exposing 4 = .ok (.iconst 1, 1) := by decide +kernel
theorem dX7_exposing_5 : decode cX7_exposing 5 = .ok (.iload_n 1, 1) := by decide +kernel
theorem dX7_exposing_6 : decode cX7_exposing 6 = .ok (.ishl, 1) := by decide +kernel
theorem dX7_exposing_7 : decode cX7_exposing 7 = .ok (.iconst (-1), 1) := by decide +kernel
theorem dX7_exposing_8 : decode cX7_exposing 8 = .ok (.ixor, 1) := by decide +kernel
theorem dX7_exposing_9 : decode cX7_exposing 9 = .ok (.iand, 1) := by decide +kernel
theorem dX7_exposing_10 : decode cX7_exposing 10 = .ok (.istore_n 2, 1) := by decide +kernel
theorem dX7_exposing_11 : decode cX7_exposing 11 = .ok (.aload_n 0, 1) := by decide +kernel
theorem dX7_exposing_12 : decode cX7_exposing 12 = .ok (.getfield 26, 3) := by decide +kernel
theorem dX7_exposing_15 : decode cX7_exposing 15 = .ok (.iload_n 2, 1) := by decide +kernel
theorem dX7_exposing_16 : decode cX7_exposing 16 = .ok (.iaload, 1) := by decide +kernel
theorem dX7_exposing_17 : decode cX7_exposing 17 = .ok (.aload_n 0, 1) := by decide +kernel
theorem dX7_exposing_18 : decode cX7_exposing 18 = .ok (.getfield 26, 3) := by decide +kernel
theorem dX7_exposing_21 : decode cX7_exposing 21 = .ok (.aload_n 0, 1) := by decide +kernel
theorem dX7_exposing_22 : decode cX7_exposing 22 = .ok (.invokevirtual 57, 3) := by decide +kernel
theorem dX7_exposing_25 : decode cX7_exposing 25 = .ok (.iaload, 1) := by decide +kernel
theorem dX7_exposing_26 : decode cX7_exposing 26 = .ok (.if_icmp .ne 12, 3) := by decide +kernel
theorem dX7_exposing_29 : decode cX7_exposing 29 = .ok (.aload_n 0, 1) := by decide +kernel
theorem dX7_exposing_30 : decode cX7_exposing 30 = .ok (.getfield 29, 3) := by decide +kernel
theorem dX7_exposing_33 : decode cX7_exposing 33 = .ok (.iload_n 2, 1) := by decide +kernel
theorem dX7_exposing_34 : decode cX7_exposing 34 = .ok (.iaload, 1) := by decide +kernel
theorem dX7_exposing_35 : decode cX7_exposing 35 = .ok (.goto 4, 3) := by decide +kernel
theorem dX7_exposing_38 : decode cX7_exposing 38 = .ok (.iconst 0, 1) := by decide +kernel
theorem dX7_exposing_39 : decode cX7_exposing 39 = .ok (.ireturn, 1) := by decide +kernel
theorem dX7_using_0 : decode cX7_using 0 = .ok (.iload_n 1, 1) := by decide +kernel
theorem dX7_using_1 : decode cX7_using 1 = .ok (.iload_n 2, 1) := by decide +kernel
theorem dX7_using_2 : decode cX7_using 2 = .ok (.if_icmp .eq 20, 3) := by decide +kernel
theorem dX7_using_5 : decode cX7_using 5 = .ok (.aload_n 0, 1) := by decide +kernel
theorem dX7_using_6 : decode cX7_using 6 = .ok (.getfield 13, 3) := by decide +kernel
theorem dX7_using_9 : decode cX7_using 9 = .ok (.iload_n 1, 1) := by decide +kernel
theorem dX7_using_10 : decode cX7_using 10 = .ok (.iaload, 1) := by decide +kernel
theorem dX7_using_11 : decode cX7_using 11 = .ok (.iload_n 2, 1) := by decide +kernel
theorem dX7_using_12 : decode cX7_using 12 = .ok (.invokestatic 61, 3) := by decide +kernel
theorem dX7_using_15 : decode cX7_using 15 = .ok (.ifCond .eq 7, 3) := by decide +kernel
theorem dX7_using_18 : decode cX7_using 18 = .ok (.iconst 1, 1) := by decide +kernel
theorem dX7_using_19 : decode cX7_using 19 = .ok (.goto 4, 3) := by decide +kernel
theorem dX7_using_22 : decode cX7_using 22 = .ok (.iconst 0, 1) := by decide +kernel
theorem dX7_using_23 : decode cX7_using 23 = .ok (.istore_n 3, 1) := by decide +kernel
theorem dX7_using_24 : decode cX7_using 24 = .ok (.aload_n 0, 1) := by decide +kernel
theorem dX7_using_25 : decode cX7_using 25 = .ok (.invokevirtual 57, 3) := by decide +kernel
theorem dX7_using_28 : decode cX7_using 28 = .ok (.iconst 1, 1) := by decide +kernel
theorem dX7_using_29 : decode cX7_using 29 = .ok (.iload_n 1, 1) := by decide +kernel
theorem dX7_using_30 : decode cX7_using 30 = .ok (.ishl, 1) := by decide +kernel
theorem dX7_using_31 : decode cX7_using 31 = .ok (.iconst (-1), 1) := by decide +kernel
theorem dX7_using_32 : decode cX7_using 32 = .ok (.ixor, 1) := by decide +kernel
theorem dX7_using_33 : decode cX7_using 33 = .ok (.iand, 1) := by decide +kernel
theorem dX7_using_34 : decode cX7_using 34 = .ok (.iconst 1, 1) := by decide +kernel
theorem dX7_using_35 : decode cX7_using 35 = .ok (.iload_n 2, 1) := by decide +kernel
theorem dX7_using_36 : decode cX7_using 36 = .ok (.ishl, 1) := by decide +kernel
theorem dX7_using_37 : decode cX7_using 37 = .ok (.iconst (-1), 1) := by decide +kernel
theorem dX7_using_38 : decode cX7_using 38 = .ok (.ixor, 1) := by decide +kernel
theorem dX7_using_39 : decode cX7_using 39 = .ok (.iand, 1) := by decide +kernel
theorem dX7_using_40 : decode cX7_using 40 = .ok (.istore 4, 2) := by decide +kernel
theorem dX7_using_42 : decode cX7_using 42 = .ok (.iload_n 3, 1) := by decide +kernel
theorem dX7_using_43 : decode cX7_using 43 = .ok (.ifCond .eq 34, 3) := by decide +kernel
theorem dX7_using_46 : decode cX7_using 46 = .ok (.aload_n 0, 1) := by decide +kernel
theorem dX7_using_47 : decode cX7_using 47 = .ok (.getfield 26, 3) := by decide +kernel
theorem dX7_using_50 : decode cX7_using 50 = .ok (.iload 4, 2) := by decide +kernel
theorem dX7_using_52 : decode cX7_using 52 = .ok (.iaload, 1) := by decide +kernel
theorem dX7_using_53 : decode cX7_using 53 = .ok (.iconst 1, 1) := by decide +kernel
theorem dX7_using_54 : decode cX7_using 54 = .ok (.iadd, 1) := by decide +kernel
theorem dX7_using_55 : decode cX7_using 55 = .ok (.aload_n 0, 1) := by decide +kernel
theorem dX7_using_56 : decode cX7_using 56 = .ok (.getfield 26, 3) := by decide +kernel
theorem dX7_using_59 : decode cX7_using 59 = .ok (.aload_n 0, 1) := by decide +kernel
theorem dX7_using_60 : decode cX7_using 60 = .ok (.invokevirtual 57, 3) := by decide +kernel
theorem dX7_using_63 : decode cX7_using 63 = .ok (.iaload, 1) := by decide +kernel
theorem dX7_using_64 : decode cX7_using 64 = .ok (.if_icmp .ne 13, 3) := by decide +kernel
theorem dX7_using_67 : decode cX7_using 67 = .ok (.aload_n 0, 1) := by decide +kernel
theorem dX7_using_68 : decode cX7_using 68 = .ok (.getfield 29, 3) := by decide +kernel
theorem dX7_using_71 : decode cX7_using 71 = .ok (.iload 4, 2) := by decide +kernel
theorem dX7_using_73 : decode cX7_using 73 = .ok (.iaload, 1) := by decide +kernel
theorem dX7_using_74 : decode cX7_using 74 = .ok (.goto 4, 3) := by decide +kernel
theorem dX7_using_77 : decode cX7_using 77 = .ok (.iconst 0, 1) := by decide +kernel
theorem dX7_using_78 : decode cX7_using 78 = .ok (.ireturn, 1) := by decide +kernel
theorem dX7_partOf_0 : decode cX7_partOf 0 = .ok (.aload_n 0, 1) := by decide +kernel
theorem dX7_partOf_1 : decode cX7_partOf 1 = .ok (.iload_n 1, 1) := by decide +kernel
theorem dX7_partOf_2 : decode cX7_partOf 2 = .ok (.invokevirtual 69, 3) := by decide +kernel
theorem dX7_partOf_5 : decode cX7_partOf 5 = .ok (.ifCond .le 5, 3) := by decide +kernel
theorem dX7_partOf_8 : decode cX7_partOf 8 = .ok (.iconst 0, 1) := by decide +kernel
theorem dX7_partOf_9 : decode cX7_partOf 9 = .ok (.ireturn, 1) := by decide +kernel
theorem dX7_partOf_10 : decode cX7_partOf 10 = .ok (.iconst 0, 1) := by decide +kernel
theorem dX7_partOf_11 : decode cX7_partOf 11 = .ok (.istore_n 2, 1) := by decide +kernel
theorem dX7_partOf_12 : decode cX7_partOf 12 = .ok (.iconst 0, 1) := by decide +kernel
theorem dX7_partOf_13 : decode cX7_partOf 13 = .ok (.istore_n 3, 1) := by decide +kernel
theorem dX7_partOf_14 : decode cX7_partOf 14 = .ok (.iload_n 3, 1) := by decide +kernel
theorem dX7_partOf_15 : decode cX7_partOf 15 = .ok (.aload_n 0, 1) := by decide +kernel
theorem dX7_partOf_16 : decode cX7_partOf 16 = .ok (.getfield 7, 3) := by decide +kernel
theorem dX7_partOf_19 : decode cX7_partOf 19 = .ok (.if_icmp .ge 40, 3) := by decide +kernel
theorem dX7_partOf_22 : decode cX7_partOf 22 = .ok (.iload_n 2, 1) := by decide +kernel
theorem dX7_partOf_23 : decode cX7_partOf 23 = .ok (.ifCond .ne 24, 3) := by decide +kernel
theorem dX7_partOf_26 : decode cX7_partOf 26 = .ok (.aload_n 0, 1) := by decide +kernel
theorem dX7_partOf_27 : decode cX7_partOf 27 = .ok (.getfield 13, 3) := by decide +kernel
theorem dX7_partOf_30 : decode cX7_partOf 30 = .ok (.iload_n 1, 1) := by decide +kernel
theorem dX7_partOf_31 : decode cX7_partOf 31 = .ok (.iaload, 1) := by decide +kernel
theorem dX7_partOf_32 : decode cX7_partOf 32 = .ok (.iload_n 3, 1) := by decide +kernel
theorem dX7_partOf_33 : decode cX7_partOf 33 = .ok (.invokestatic 61, 3) := by decide +kernel
theorem dX7_partOf_36 : decode cX7_partOf 36 = .ok (.ifCond .eq 15, 3) := by decide +kernel
theorem dX7_partOf_39 : decode cX7_partOf 39 = .ok (.aload_n 0, 1) := by decide +kernel
theorem dX7_partOf_40 : decode cX7_partOf 40 = .ok (.iload_n 3, 1) := by decide +kernel
theorem dX7_partOf_41 : decode cX7_partOf 41 = .ok (.invokevirtual 69, 3) := by decide +kernel
theorem dX7_partOf_44 : decode cX7_partOf 44 = .ok (.ifCond .le 7, 3) := by decide +kernel
theorem dX7_partOf_47 : decode cX7_partOf 47 = .ok (.iconst 1, 1) := by decide +kernel
theorem dX7_partOf_48 : decode cX7_partOf 48 = .ok (.goto 4, 3) := by decide +kernel
theorem dX7_partOf_51 : decode cX7_partOf 51 = .ok (.iconst 0, 1) := by decide +kernel
theorem dX7_partOf_52 : decode cX7_partOf 52 = .ok (.istore_n 2, 1) := by decide +kernel
theorem dX7_partOf_53 : decode cX7_partOf 53 = .ok (.iinc 3 1, 3) := by decide +kernel
theorem dX7_partOf_56 : decode cX7_partOf 56 = .ok (.goto (-42), 3) := by decide +kernel
theorem dX7_partOf_59 : decode cX7_partOf 59 = .ok (.iload_n 2, 1) := by decide +kernel
theorem dX7_partOf_60 : decode cX7_partOf 60 = .ok (.ifCond .eq 7, 3) := by decide +kernel
theorem dX7_partOf_63 : decode cX7_partOf 63 = .ok (.iconst 1, 1) := by decide +kernel
theorem dX7_partOf_64 : decode cX7_partOf 64 = .ok (.goto 4, 3) := by decide +kernel
theorem dX7_partOf_67 : decode cX7_partOf 67 = .ok (.iconst 2, 1) := by decide +kernel
theorem dX7_partOf_68 : decode cX7_partOf 68 = .ok (.ireturn, 1) := by decide +kernel
theorem dX7_isCritical_0 : decode cX7_isCritical 0 = .ok (.iconst 1, 1) := by decide +kernel
theorem dX7_isCritical_1 : decode cX7_isCritical 1 = .ok (.istore_n 1, 1) := by decide +kernel
theorem dX7_isCritical_2 : decode cX7_isCritical 2 = .ok (.iconst 0, 1) := by decide +kernel
theorem dX7_isCritical_3 : decode cX7_isCritical 3 = .ok (.istore_n 2, 1) := by decide +kernel
theorem dX7_isCritical_4 : decode cX7_isCritical 4 = .ok (.iload_n 2, 1) := by decide +kernel
theorem dX7_isCritical_5 : decode cX7_isCritical 5 = .ok (.aload_n 0, 1) := by decide +kernel
theorem dX7_isCritical_6 : decode cX7_isCritical 6 = .ok (.getfield 7, 3) := by decide +kernel
theorem dX7_isCritical_9 : decode cX7_isCritical 9 = .ok (.if_icmp .ge 45, 3) := by decide +kernel
theorem dX7_isCritical_12 : decode cX7_isCritical 12 = .ok (.iload_n 1, 1) := by decide +kernel
theorem dX7_isCritical_13 : decode cX7_isCritical 13 = .ok (.ifCond .eq 33, 3) := by decide +kernel
theorem dX7_isCritical_16 : decode cX7_isCritical 16 = .ok (.iconst 2, 1) := by decide +kernel
theorem dX7_isCritical_17 : decode cX7_isCritical 17 = .ok (.aload_n 0, 1) := by decide +kernel
theorem dX7_isCritical_18 : decode cX7_isCritical 18 = .ok (.getfield 26, 3) := by decide +kernel
theorem dX7_isCritical_21 : decode cX7_isCritical 21 = .ok (.aload_n 0, 1) := by decide +kernel
theorem dX7_isCritical_22 : decode cX7_isCritical 22 = .ok (.invokevirtual 57, 3) := by decide +kernel
theorem dX7_isCritical_25 : decode cX7_isCritical 25 = .ok (.iconst 1, 1) := by decide +kernel
theorem dX7_isCritical_26 : decode cX7_isCritical 26 = .ok (.iload_n 2, 1) := by decide +kernel
theorem dX7_isCritical_27 : decode cX7_isCritical 27 = .ok (.ishl, 1) := by decide +kernel
theorem dX7_isCritical_28 : decode cX7_isCritical 28 = .ok (.iconst (-1), 1) := by decide +kernel
theorem dX7_isCritical_29 : decode cX7_isCritical 29 = .ok (.ixor, 1) := by decide +kernel
theorem dX7_isCritical_30 : decode cX7_isCritical 30 = .ok (.iand, 1) := by decide +kernel
theorem dX7_isCritical_31 : decode cX7_isCritical 31 = .ok (.iaload, 1) := by decide +kernel
theorem dX7_isCritical_32 : decode cX7_isCritical 32 = .ok (.imul, 1) := by decide +kernel
theorem dX7_isCritical_33 : decode cX7_isCritical 33 = .ok (.aload_n 0, 1) := by decide +kernel
theorem dX7_isCritical_34 : decode cX7_isCritical 34 = .ok (.getfield 7, 3) := by decide +kernel
theorem dX7_isCritical_37 : decode cX7_isCritical 37 = .ok (.iconst 1, 1) := by decide +kernel
theorem dX7_isCritical_38 : decode cX7_isCritical 38 = .ok (.isub, 1) := by decide +kernel
theorem dX7_isCritical_39 : decode cX7_isCritical 39 = .ok (.if_icmp .ne 7, 3) := by decide +kernel
theorem dX7_isCritical_42 : decode cX7_isCritical 42 = .ok (.iconst 1, 1) := by decide +kernel
theorem dX7_isCritical_43 : decode cX7_isCritical 43 = .ok (.goto 4, 3) := by decide +kernel
theorem dX7_isCritical_46 : decode cX7_isCritical 46 = .ok (.iconst 0, 1) := by decide +kernel
theorem dX7_isCritical_47 : decode cX7_isCritical 47 = .ok (.istore_n 1, 1) := by decide +kernel
theorem dX7_isCritical_48 : decode cX7_isCritical 48 = .ok (.iinc 2 1, 3) := by decide +kernel
theorem dX7_isCritical_51 : decode cX7_isCritical 51 = .ok (.goto (-47), 3) := by decide +kernel
theorem dX7_isCritical_54 : decode cX7_isCritical 54 = .ok (.iload_n 1, 1) := by decide +kernel
theorem dX7_isCritical_55 : decode cX7_isCritical 55 = .ok (.ireturn, 1) := by decide +kernel
theorem dX7_componentOf_0 : decode cX7_componentOf 0 = .ok (.iconst 1, 1) := by decide +kernel
theorem dX7_componentOf_1 : decode cX7_componentOf 1 = .ok (.iload_n 1, 1) := by decide +kernel
theorem dX7_componentOf_2 : decode cX7_componentOf 2 = .ok (.ishl, 1) := by decide +kernel
theorem dX7_componentOf_3 : decode cX7_componentOf 3 = .ok (.istore_n 3, 1) := by decide +kernel
theorem dX7_componentOf_4 : decode cX7_componentOf 4 = .ok (.iconst 0, 1) := by decide +kernel
theorem dX7_componentOf_5 : decode cX7_componentOf 5 = .ok (.istore 4, 2) := by decide +kernel
theorem dX7_componentOf_7 : decode cX7_componentOf 7 = .ok (.iload_n 3, 1) := by decide +kernel
theorem dX7_componentOf_8 : decode cX7_componentOf 8 = .ok (.iload 4, 2) := by decide +kernel
theorem dX7_componentOf_10 : decode cX7_componentOf 10 = .ok (.if_icmp .eq 52, 3) := by decide +kernel
theorem dX7_componentOf_13 : decode cX7_componentOf 13 = .ok (.iload_n 3, 1) := by decide +kernel
theorem dX7_componentOf_14 : decode cX7_componentOf 14 = .ok (.istore 4, 2) := by decide +kernel
theorem dX7_componentOf_16 : decode cX7_componentOf 16 = .ok (.iconst 0, 1) := by decide +kernel
theorem dX7_componentOf_17 : decode cX7_componentOf 17 = .ok (.istore 5, 2) := by decide +kernel
theorem dX7_componentOf_19 : decode cX7_componentOf 19 = .ok (.iload 5, 2) := by decide +kernel
theorem dX7_componentOf_21 : decode cX7_componentOf 21 = .ok (.aload_n 0, 1) := by decide +kernel
theorem dX7_componentOf_22 : decode cX7_componentOf 22 = .ok (.getfield 7, 3) := by decide +kernel
theorem dX7_componentOf_25 : decode cX7_componentOf 25 = .ok (.if_icmp .ge 34, 3) := by decide +kernel
theorem dX7_componentOf_28 : decode cX7_componentOf 28 = .ok (.iload_n 3, 1) := by decide +kernel
theorem dX7_componentOf_29 : decode cX7_componentOf 29 = .ok (.iload_n 3, 1) := by decide +kernel
theorem dX7_componentOf_30 : decode cX7_componentOf 30 = .ok (.iload 5, 2) := by decide +kernel
theorem dX7_componentOf_32 : decode cX7_componentOf 32 = .ok (.invokestatic 61, 3) := by decide +kernel
theorem dX7_componentOf_35 : decode cX7_componentOf 35 = .ok (.ifCond .eq 15, 3) := by decide +kernel
theorem dX7_componentOf_38 : decode cX7_componentOf 38 = .ok (.aload_n 0, 1) := by decide +kernel
theorem dX7_componentOf_39 : decode cX7_componentOf 39 = .ok (.getfield 13, 3) := by decide +kernel
theorem dX7_componentOf_42 : decode cX7_componentOf 42 = .ok (.iload 5, 2) := by decide +kernel
theorem dX7_componentOf_44 : decode cX7_componentOf 44 = .ok (.iaload, 1) := by decide +kernel
theorem dX7_componentOf_45 : decode cX7_componentOf 45 = .ok (.iload_n 2, 1) := by decide +kernel
theorem dX7_componentOf_46 : decode cX7_componentOf 46 = .ok (.iand, 1) := by decide +kernel
theorem dX7_componentOf_47 : decode cX7_componentOf 47 = .ok (.goto 4, 3) := by decide +kernel
theorem dX7_componentOf_50 : decode cX7_componentOf 50 = .ok (.iconst 0, 1) := by decide +kernel
theorem dX7_componentOf_51 : decode cX7_componentOf 51 = .ok (.ior, 1) := by decide +kernel
theorem dX7_componentOf_52 : decode cX7_componentOf 52 = .ok (.istore_n 3, 1) := by decide +kernel
theorem dX7_componentOf_53 : decode cX7_componentOf 53 = .ok (.iinc 5 1, 3) := by decide +kernel
theorem dX7_componentOf_56 : decode cX7_componentOf 56 = .ok (.goto (-37), 3) := by decide +kernel
theorem dX7_componentOf_59 : decode cX7_componentOf 59 = .ok (.goto (-52), 3) := by decide +kernel
theorem dX7_componentOf_62 : decode cX7_componentOf 62 = .ok (.iload_n 3, 1) := by decide +kernel
theorem dX7_componentOf_63 : decode cX7_componentOf 63 = .ok (.ireturn, 1) := by decide +kernel
theorem dX7_componentsOf_0 : decode cX7_componentsOf 0 = .ok (.iload_n 1, 1) := by decide +kernel
theorem dX7_componentsOf_1 : decode cX7_componentsOf 1 = .ok (.istore_n 3, 1) := by decide +kernel
theorem dX7_componentsOf_2 : decode cX7_componentsOf 2 = .ok (.iconst 0, 1) := by decide +kernel
theorem dX7_componentsOf_3 : decode cX7_componentsOf 3 = .ok (.istore 4, 2) := by decide +kernel
theorem dX7_componentsOf_5 : decode cX7_componentsOf 5 = .ok (.iconst 0, 1) := by decide +kernel
theorem dX7_componentsOf_6 : decode cX7_componentsOf 6 = .ok (.istore 5, 2) := by decide +kernel
theorem dX7_componentsOf_8 : decode cX7_componentsOf 8 = .ok (.iload 5, 2) := by decide +kernel
theorem dX7_componentsOf_10 : decode cX7_componentsOf 10 = .ok (.aload_n 0, 1) := by decide +kernel
theorem dX7_componentsOf_11 : decode cX7_componentsOf 11 = .ok (.getfield 7, 3) := by decide +kernel
theorem dX7_componentsOf_14 : decode cX7_componentsOf 14 = .ok (.if_icmp .ge 59, 3) := by decide +kernel
theorem dX7_componentsOf_17 : decode cX7_componentsOf 17 = .ok (.iload_n 3, 1) := by decide +kernel
theorem dX7_componentsOf_18 : decode cX7_componentsOf 18 = .ok (.iload 5, 2) := by decide +kernel
theorem dX7_componentsOf_20 : decode cX7_componentsOf 20 = .ok (.invokestatic 61, 3) := by decide +kernel
theorem dX7_componentsOf_23 : decode cX7_componentsOf 23 = .ok (.ifCond .eq 44, 3) := by decide +kernel
theorem dX7_componentsOf_26 : decode cX7_componentsOf 26 = .ok (.aload_n 0, 1) := by decide +kernel
theorem dX7_componentsOf_27 : decode cX7_componentsOf 27 = .ok (.iload 5, 2) := by decide +kernel
theorem dX7_componentsOf_29 : decode cX7_componentsOf 29 = .ok (.iload_n 1, 1) := by decide +kernel
theorem dX7_componentsOf_30 : decode cX7_componentsOf 30 = .ok (.invokevirtual 73, 3) := by decide +kernel
theorem dX7_componentsOf_33 : decode cX7_componentsOf 33 = .ok (.istore 6, 2) := by decide +kernel
theorem dX7_componentsOf_35 : decode cX7_componentsOf 35 = .ok (.iload_n 3, 1) := by decide +kernel
theorem dX7_componentsOf_36 : decode cX7_componentsOf 36 = .ok (.iload 6, 2) := by decide +kernel
theorem dX7_componentsOf_38 : decode cX7_componentsOf 38 = .ok (.iconst (-1), 1) := by decide +kernel
theorem dX7_componentsOf_39 : decode cX7_componentsOf 39 = .ok (.ixor, 1) := by decide +kernel
theorem dX7_componentsOf_40 : decode cX7_componentsOf 40 = .ok (.iand, 1) := by decide +kernel
theorem dX7_componentsOf_41 : decode cX7_componentsOf 41 = .ok (.istore_n 3, 1) := by decide +kernel
theorem dX7_componentsOf_42 : decode cX7_componentsOf 42 = .ok (.iload 4, 2) := by decide +kernel
theorem dX7_componentsOf_44 : decode cX7_componentsOf 44 = .ok (.iload_n 2, 1) := by decide +kernel
theorem dX7_componentsOf_45 : decode cX7_componentsOf 45 = .ok (.ifCond .eq 14, 3) := by decide +kernel
theorem dX7_componentsOf_48 : decode cX7_componentsOf 48 = .ok (.iload 6, 2) := by decide +kernel
theorem dX7_componentsOf_50 : decode cX7_componentsOf 50 = .ok (.invokestatic 77, 3) := by decide +kernel
theorem dX7_componentsOf_53 : decode cX7_componentsOf 53 = .ok (.iconst 2, 1) := by decide +kernel
theorem dX7_componentsOf_54 : decode cX7_componentsOf 54 = .ok (.irem, 1) := by decide +kernel
theorem dX7_componentsOf_55 : decode cX7_componentsOf 55 = .ok (.iconst 1, 1) := by decide +kernel
theorem dX7_componentsOf_56 : decode cX7_componentsOf 56 = .ok (.if_icmp .ne 7, 3) := by decide +kernel
theorem dX7_componentsOf_59 : decode cX7_componentsOf 59 = .ok (.iconst 1, 1) := by decide +kernel
theorem dX7_componentsOf_60 : decode cX7_componentsOf 60 = .ok (.goto 4, 3) := by decide +kernel
theorem dX7_componentsOf_63 : decode cX7_componentsOf 63 = .ok (.iconst 0, 1) := by decide +kernel
theorem dX7_componentsOf_64 : decode cX7_componentsOf 64 = .ok (.iadd, 1) := by decide +kernel
theorem dX7_componentsOf_65 : decode cX7_componentsOf 65 = .ok (.istore 4, 2) := by decide +kernel
theorem dX7_componentsOf_67 : decode cX7_componentsOf 67 = .ok (.iinc 5 1, 3) := by decide +kernel
theorem dX7_componentsOf_70 : decode cX7_componentsOf 70 = .ok (.goto (-62), 3) := by decide +kernel
theorem dX7_componentsOf_73 : decode cX7_componentsOf 73 = .ok (.iload 4, 2) := by decide +kernel
theorem dX7_componentsOf_75 : decode cX7_componentsOf 75 = .ok (.ireturn, 1) := by decide +kernel
theorem dX7_lowest_0 : decode cX7_lowest 0 = .ok (.aload_n 0, 1) := by decide +kernel
theorem dX7_lowest_1 : decode cX7_lowest 1 = .ok (.iload_n 1, 1) := by decide +kernel
theorem dX7_lowest_2 : decode cX7_lowest 2 = .ok (.aload_n 0, 1) := by decide +kernel
theorem dX7_lowest_3 : decode cX7_lowest 3 = .ok (.invokevirtual 57, 3) := by decide +kernel
theorem dX7_lowest_6 : decode cX7_lowest 6 = .ok (.invokevirtual 73, 3) := by decide +kernel
theorem dX7_lowest_9 : decode cX7_lowest 9 = .ok (.istore_n 2, 1) := by decide +kernel
theorem dX7_lowest_10 : decode cX7_lowest 10 = .ok (.iconst 0, 1) := by decide +kernel
theorem dX7_lowest_11 : decode cX7_lowest 11 = .ok (.istore_n 3, 1) := by decide +kernel
theorem dX7_lowest_12 : decode cX7_lowest 12 = .ok (.iload_n 2, 1) := by decide +kernel
theorem dX7_lowest_13 : decode cX7_lowest 13 = .ok (.iload_n 3, 1) := by decide +kernel
theorem dX7_lowest_14 : decode cX7_lowest 14 = .ok (.invokestatic 61, 3) := by decide +kernel
theorem dX7_lowest_17 : decode cX7_lowest 17 = .ok (.ifCond .ne 9, 3) := by decide +kernel
theorem dX7_lowest_20 : decode cX7_lowest 20 = .ok (.iinc 3 1, 3) := by decide +kernel
theorem dX7_lowest_23 : decode cX7_lowest 23 = .ok (.goto (-11), 3) := by decide +kernel
theorem dX7_lowest_26 : decode cX7_lowest 26 = .ok (.iload_n 3, 1) := by decide +kernel
theorem dX7_lowest_27 : decode cX7_lowest 27 = .ok (.ireturn, 1) := by decide +kernel
theorem dX7_proofNow_0 : decode cX7_proofNow 0 = .ok (.aload_n 0, 1) := by decide +kernel
theorem dX7_proofNow_1 : decode cX7_proofNow 1 = .ok (.getfield 7, 3) := by decide +kernel
theorem dX7_proofNow_4 : decode cX7_proofNow 4 = .ok (.iconst 2, 1) := by decide +kernel
theorem dX7_proofNow_5 : decode cX7_proofNow 5 = .ok (.aload_n 0, 1) := by decide +kernel
theorem dX7_proofNow_6 : decode cX7_proofNow 6 = .ok (.getfield 26, 3) := by decide +kernel
theorem dX7_proofNow_9 : decode cX7_proofNow 9 = .ok (.aload_n 0, 1) := by decide +kernel
theorem dX7_proofNow_10 : decode cX7_proofNow 10 = .ok (.invokevirtual 57, 3) := by decide +kernel
theorem dX7_proofNow_13 : decode cX7_proofNow 13 = .ok (.iaload, 1) := by decide +kernel
theorem dX7_proofNow_14 : decode cX7_proofNow 14 = .ok (.imul, 1) := by decide +kernel
theorem dX7_proofNow_15 : decode cX7_proofNow 15 = .ok (.isub, 1) := by decide +kernel
theorem dX7_proofNow_16 : decode cX7_proofNow 16 = .ok (.istore_n 1, 1) := by decide +kernel
theorem dX7_proofNow_17 : decode cX7_proofNow 17 = .ok (.iconst (-1), 1) := by decide +kernel
theorem dX7_proofNow_18 : decode cX7_proofNow 18 = .ok (.istore_n 2, 1) := by decide +kernel
theorem dX7_proofNow_19 : decode cX7_proofNow 19 = .ok (.bipush 13, 2) := by decide +kernel
theorem dX7_proofNow_21 : decode cX7_proofNow 21 = .ok (.istore_n 3, 1) := by decide +kernel
theorem dX7_proofNow_22 : decode cX7_proofNow 22 = .ok (.iconst 0, 1) := by decide +kernel
theorem dX7_proofNow_23 : decode cX7_proofNow 23 = .ok (.istore 4, 2) := by decide +kernel
theorem dX7_proofNow_25 : decode cX7_proofNow 25 = .ok (.iload 4, 2) := by decide +kernel
theorem dX7_proofNow_27 : decode cX7_proofNow 27 = .ok (.aload_n 0, 1) := by decide +kernel
theorem dX7_proofNow_28 : decode cX7_proofNow 28 = .ok (.invokevirtual 57, 3) := by decide +kernel
theorem dX7_proofNow_31 : decode cX7_proofNow 31 = .ok (.if_icmp .gt 76, 3) := by decide +kernel
theorem dX7_proofNow_34 : decode cX7_proofNow 34 = .ok (.iload 4, 2) := by decide +kernel
theorem dX7_proofNow_36 : decode cX7_proofNow 36 = .ok (.invokestatic 77, 3) := by decide +kernel
theorem dX7_proofNow_39 : decode cX7_proofNow 39 = .ok (.iload_n 3, 1) := by decide +kernel
theorem dX7_proofNow_40 : decode cX7_proofNow 40 = .ok (.if_icmp .ge 31, 3) := by decide +kernel
theorem dX7_proofNow_43 : decode cX7_proofNow 43 = .ok (.aload_n 0, 1) := by decide +kernel
theorem dX7_proofNow_44 : decode cX7_proofNow 44 = .ok (.aload_n 0, 1) := by decide +kernel
theorem dX7_proofNow_45 : decode cX7_proofNow 45 = .ok (.invokevirtual 57, 3) := by decide +kernel
theorem dX7_proofNow_48 : decode cX7_proofNow 48 = .ok (.iload 4, 2) := by decide +kernel
theorem dX7_proofNow_50 : decode cX7_proofNow 50 = .ok (.iconst (-1), 1) := by decide +kernel
theorem dX7_proofNow_51 : decode cX7_proofNow 51 = .ok (.ixor, 1) := by decide +kernel
theorem dX7_proofNow_52 : decode cX7_proofNow 52 = .ok (.iand, 1) := by decide +kernel
theorem dX7_proofNow_53 : decode cX7_proofNow 53 = .ok (.iconst 1, 1) := by decide +kernel
theorem dX7_proofNow_54 : decode cX7_proofNow 54 = .ok (.invokevirtual 80, 3) := by decide +kernel
theorem dX7_proofNow_57 : decode cX7_proofNow 57 = .ok (.iload 4, 2) := by decide +kernel
theorem dX7_proofNow_59 : decode cX7_proofNow 59 = .ok (.invokestatic 77, 3) := by decide +kernel
theorem dX7_proofNow_62 : decode cX7_proofNow 62 = .ok (.iload_n 1, 1) := by decide +kernel
theorem dX7_proofNow_63 : decode cX7_proofNow 63 = .ok (.iadd, 1) := by decide +kernel
theorem dX7_proofNow_64 : decode cX7_proofNow 64 = .ok (.if_icmp .ne 7, 3) := by decide +kernel
theorem dX7_proofNow_67 : decode cX7_proofNow 67 = .ok (.iconst 1, 1) := by decide +kernel
theorem dX7_proofNow_68 : decode cX7_proofNow 68 = .ok (.goto 4, 3) := by decide +kernel
theorem dX7_proofNow_71 : decode cX7_proofNow 71 = .ok (.iconst 0, 1) := by decide +kernel
theorem dX7_proofNow_72 : decode cX7_proofNow 72 = .ok (.istore 5, 2) := by decide +kernel
theorem dX7_proofNow_74 : decode cX7_proofNow 74 = .ok (.iload 5, 2) := by decide +kernel
theorem dX7_proofNow_76 : decode cX7_proofNow 76 = .ok (.ifCond .eq 11, 3) := by decide +kernel
theorem dX7_proofNow_79 : decode cX7_proofNow 79 = .ok (.iload 4, 2) := by decide +kernel
theorem dX7_proofNow_81 : decode cX7_proofNow 81 = .ok (.invokestatic 77, 3) := by decide +kernel
theorem dX7_proofNow_84 : decode cX7_proofNow 84 = .ok (.goto 4, 3) := by decide +kernel
theorem dX7_proofNow_87 : decode cX7_proofNow 87 = .ok (.iload_n 3, 1) := by decide +kernel
theorem dX7_proofNow_88 : decode cX7_proofNow 88 = .ok (.istore_n 3, 1) := by decide +kernel
theorem dX7_proofNow_89 : decode cX7_proofNow 89 = .ok (.iload 5, 2) := by decide +kernel
theorem dX7_proofNow_91 : decode cX7_proofNow 91 = .ok (.ifCond .eq 8, 3) := by decide +kernel
theorem dX7_proofNow_94 : decode cX7_proofNow 94 = .ok (.iload 4, 2) := by decide +kernel
theorem dX7_proofNow_96 : decode cX7_proofNow 96 = .ok (.goto 4, 3) := by decide +kernel
theorem dX7_proofNow_99 : decode cX7_proofNow 99 = .ok (.iload_n 2, 1) := by decide +kernel
theorem dX7_proofNow_100 : decode cX7_proofNow 100 = .ok (.istore_n 2, 1) := by decide +kernel
theorem dX7_proofNow_101 : decode cX7_proofNow 101 = .ok (.iinc 4 1, 3) := by decide +kernel
theorem dX7_proofNow_104 : decode cX7_proofNow 104 = .ok (.goto (-79), 3) := by decide +kernel
theorem dX7_proofNow_107 : decode cX7_proofNow 107 = .ok (.iload_n 2, 1) := by decide +kernel
theorem dX7_proofNow_108 : decode cX7_proofNow 108 = .ok (.ireturn, 1) := by decide +kernel
theorem dX7_step_0 : decode cX7_step 0 = .ok (.iload_n 3, 1) := by decide +kernel
theorem dX7_step_1 : decode cX7_step 1 = .ok (.istore 4, 2) := by decide +kernel
theorem dX7_step_3 : decode cX7_step 3 = .ok (.iload 4, 2) := by decide +kernel
theorem dX7_step_5 : decode cX7_step 5 = .ok (.aload_n 0, 1) := by decide +kernel
theorem dX7_step_6 : decode cX7_step 6 = .ok (.getfield 7, 3) := by decide +kernel
theorem dX7_step_9 : decode cX7_step 9 = .ok (.if_icmp .ge 32, 3) := by decide +kernel
theorem dX7_step_12 : decode cX7_step 12 = .ok (.aload_n 0, 1) := by decide +kernel
theorem dX7_step_13 : decode cX7_step 13 = .ok (.getfield 13, 3) := by decide +kernel
theorem dX7_step_16 : decode cX7_step 16 = .ok (.iload_n 1, 1) := by decide +kernel
theorem dX7_step_17 : decode cX7_step 17 = .ok (.iaload, 1) := by decide +kernel
theorem dX7_step_18 : decode cX7_step 18 = .ok (.iload 4, 2) := by decide +kernel
theorem dX7_step_20 : decode cX7_step 20 = .ok (.invokestatic 61, 3) := by decide +kernel
theorem dX7_step_23 : decode cX7_step 23 = .ok (.ifCond .eq 12, 3) := by decide +kernel
theorem dX7_step_26 : decode cX7_step 26 = .ok (.iload_n 2, 1) := by decide +kernel
theorem dX7_step_27 : decode cX7_step 27 = .ok (.iload 4, 2) := by decide +kernel
theorem dX7_step_29 : decode cX7_step 29 = .ok (.invokestatic 61, 3) := by decide +kernel
theorem dX7_step_32 : decode cX7_step 32 = .ok (.ifCond .eq 9, 3) := by decide +kernel
theorem dX7_step_35 : decode cX7_step 35 = .ok (.iinc 4 1, 3) := by decide +kernel
theorem dX7_step_38 : decode cX7_step 38 = .ok (.goto (-35), 3) := by decide +kernel
theorem dX7_step_41 : decode cX7_step 41 = .ok (.iload 4, 2) := by decide +kernel
theorem dX7_step_43 : decode cX7_step 43 = .ok (.aload_n 0, 1) := by decide +kernel
theorem dX7_step_44 : decode cX7_step 44 = .ok (.getfield 7, 3) := by decide +kernel
theorem dX7_step_47 : decode cX7_step 47 = .ok (.if_icmp .ge 8, 3) := by decide +kernel
theorem dX7_step_50 : decode cX7_step 50 = .ok (.iload 4, 2) := by decide +kernel
theorem dX7_step_52 : decode cX7_step 52 = .ok (.goto 4, 3) := by decide +kernel
theorem dX7_step_55 : decode cX7_step 55 = .ok (.iconst (-1), 1) := by decide +kernel
theorem dX7_step_56 : decode cX7_step 56 = .ok (.ireturn, 1) := by decide +kernel
theorem dX7_goThrough_0 : decode cX7_goThrough 0 = .ok (.iconst 0, 1) := by decide +kernel
theorem dX7_goThrough_1 : decode cX7_goThrough 1 = .ok (.istore_n 3, 1) := by decide +kernel
theorem dX7_goThrough_2 : decode cX7_goThrough 2 = .ok (.iconst 1, 1) := by decide +kernel
theorem dX7_goThrough_3 : decode cX7_goThrough 3 = .ok (.iload_n 1, 1) := by decide +kernel
theorem dX7_goThrough_4 : decode cX7_goThrough 4 = .ok (.ishl, 1) := by decide +kernel
theorem dX7_goThrough_5 : decode cX7_goThrough 5 = .ok (.istore 4, 2) := by decide +kernel
theorem dX7_goThrough_7 : decode cX7_goThrough 7 = .ok (.aload_n 0, 1) := by decide +kernel
theorem dX7_goThrough_8 : decode cX7_goThrough 8 = .ok (.getfield 35, 3) := by decide +kernel
theorem dX7_goThrough_11 : decode cX7_goThrough 11 = .ok (.iconst 0, 1) := by decide +kernel
theorem dX7_goThrough_12 : decode cX7_goThrough 12 = .ok (.iload_n 1, 1) := by decide +kernel
theorem dX7_goThrough_13 : decode cX7_goThrough 13 = .ok (.iastore, 1) := by decide +kernel
theorem dX7_goThrough_14 : decode cX7_goThrough 14 = .ok (.aload_n 0, 1) := by decide +kernel
theorem dX7_goThrough_15 : decode cX7_goThrough 15 = .ok (.getfield 38, 3) := by decide +kernel
theorem dX7_goThrough_18 : decode cX7_goThrough 18 = .ok (.iconst 0, 1) := by decide +kernel
theorem dX7_goThrough_19 : decode cX7_goThrough 19 = .ok (.iconst 0, 1) := by decide +kernel
theorem dX7_goThrough_20 : decode cX7_goThrough 20 = .ok (.iastore, 1) := by decide +kernel
theorem dX7_goThrough_21 : decode cX7_goThrough 21 = .ok (.aload_n 0, 1) := by decide +kernel
theorem dX7_goThrough_22 : decode cX7_goThrough 22 = .ok (.iconst 0, 1) := by decide +kernel
theorem dX7_goThrough_23 : decode cX7_goThrough 23 = .ok (.putfield 84, 3) := by decide +kernel
theorem dX7_goThrough_26 : decode cX7_goThrough 26 = .ok (.aload_n 0, 1) := by decide +kernel
theorem dX7_goThrough_27 : decode cX7_goThrough 27 = .ok (.iconst 1, 1) := by decide +kernel
theorem dX7_goThrough_28 : decode cX7_goThrough 28 = .ok (.iload_n 1, 1) := by decide +kernel
theorem dX7_goThrough_29 : decode cX7_goThrough 29 = .ok (.ishl, 1) := by decide +kernel
theorem dX7_goThrough_30 : decode cX7_goThrough 30 = .ok (.putfield 87, 3) := by decide +kernel
theorem dX7_goThrough_33 : decode cX7_goThrough 33 = .ok (.iload_n 3, 1) := by decide +kernel
theorem dX7_goThrough_34 : decode cX7_goThrough 34 = .ok (.ifCond .lt 212, 3) := by decide +kernel
theorem dX7_goThrough_37 : decode cX7_goThrough 37 = .ok (.iload_n 3, 1) := by decide +kernel
theorem dX7_goThrough_38 : decode cX7_goThrough 38 = .ok (.iconst 1, 1) := by decide +kernel
theorem dX7_goThrough_39 : decode cX7_goThrough 39 = .ok (.iadd, 1) := by decide +kernel
theorem dX7_goThrough_40 : decode cX7_goThrough 40 = .ok (.iload_n 2, 1) := by decide +kernel
theorem dX7_goThrough_41 : decode cX7_goThrough 41 = .ok (.if_icmp .gt 24, 3) := by decide +kernel
theorem dX7_goThrough_44 : decode cX7_goThrough 44 = .ok (.aload_n 0, 1) := by decide +kernel
theorem dX7_goThrough_45 : decode cX7_goThrough 45 = .ok (.aload_n 0, 1) := by decide +kernel
theorem dX7_goThrough_46 : decode cX7_goThrough 46 = .ok (.getfield 35, 3) := by decide +kernel
theorem dX7_goThrough_49 : decode cX7_goThrough 49 = .ok (.iload_n 3, 1) := by decide +kernel
theorem dX7_goThrough_50 : decode cX7_goThrough 50 = .ok (.iaload, 1) := by decide +kernel
theorem dX7_goThrough_51 : decode cX7_goThrough 51 = .ok (.iload 4, 2) := by decide +kernel
theorem dX7_goThrough_53 : decode cX7_goThrough 53 = .ok (.aload_n 0, 1) := by decide +kernel
theorem dX7_goThrough_54 : decode cX7_goThrough 54 = .ok (.getfield 38, 3) := by decide +kernel
theorem dX7_goThrough_57 : decode cX7_goThrough 57 = .ok (.iload_n 3, 1) := by decide +kernel
theorem dX7_goThrough_58 : decode cX7_goThrough 58 = .ok (.iaload, 1) := by decide +kernel
theorem dX7_goThrough_59 : decode cX7_goThrough 59 = .ok (.invokevirtual 90, 3) := by decide +kernel
theorem dX7_goThrough_62 : decode cX7_goThrough 62 = .ok (.goto 4, 3) := by decide +kernel
theorem dX7_goThrough_65 : decode cX7_goThrough 65 = .ok (.iconst (-1), 1) := by decide +kernel
theorem dX7_goThrough_66 : decode cX7_goThrough 66 = .ok (.istore 5, 2) := by decide +kernel
theorem dX7_goThrough_68 : decode cX7_goThrough 68 = .ok (.iload 5, 2) := by decide +kernel
theorem dX7_goThrough_70 : decode cX7_goThrough 70 = .ok (.iconst (-1), 1) := by decide +kernel
theorem dX7_goThrough_71 : decode cX7_goThrough 71 = .ok (.if_icmp .ne 46, 3) := by decide +kernel
theorem dX7_goThrough_74 : decode cX7_goThrough 74 = .ok (.iload 4, 2) := by decide +kernel
theorem dX7_goThrough_76 : decode cX7_goThrough 76 = .ok (.iload_n 3, 1) := by decide +kernel
theorem dX7_goThrough_77 : decode cX7_goThrough 77 = .ok (.ifCond .le 29, 3) := by decide +kernel
theorem dX7_goThrough_80 : decode cX7_goThrough 80 = .ok (.iconst 1, 1) := by decide +kernel
theorem dX7_goThrough_81 : decode cX7_goThrough 81 = .ok (.aload_n 0, 1) := by decide +kernel
theorem dX7_goThrough_82 : decode cX7_goThrough 82 = .ok (.getfield 35, 3) := by decide +kernel
theorem dX7_goThrough_85 : decode cX7_goThrough 85 = .ok (.iload_n 3, 1) := by decide +kernel
theorem dX7_goThrough_86 : decode cX7_goThrough 86 = .ok (.iaload, 1) := by decide +kernel
theorem dX7_goThrough_87 : decode cX7_goThrough 87 = .ok (.ishl, 1) := by decide +kernel
theorem dX7_goThrough_88 : decode cX7_goThrough 88 = .ok (.iconst (-1), 1) := by decide +kernel
theorem dX7_goThrough_89 : decode cX7_goThrough 89 = .ok (.ixor, 1) := by decide +kernel
theorem dX7_goThrough_90 : decode cX7_goThrough 90 = .ok (.iconst 1, 1) := by decide +kernel
theorem dX7_goThrough_91 : decode cX7_goThrough 91 = .ok (.aload_n 0, 1) := by decide +kernel
theorem dX7_goThrough_92 : decode cX7_goThrough 92 = .ok (.getfield 35, 3) := by decide +kernel
theorem dX7_goThrough_95 : decode cX7_goThrough 95 = .ok (.iload_n 3, 1) := by decide +kernel
theorem dX7_goThrough_96 : decode cX7_goThrough 96 = .ok (.iconst 1, 1) := by decide +kernel
theorem dX7_goThrough_97 : decode cX7_goThrough 97 = .ok (.isub, 1) := by decide +kernel
theorem dX7_goThrough_98 : decode cX7_goThrough 98 = .ok (.iaload, 1) := by decide +kernel
theorem dX7_goThrough_99 : decode cX7_goThrough 99 = .ok (.ishl, 1) := by decide +kernel
theorem dX7_goThrough_100 : decode cX7_goThrough 100 = .ok (.iconst (-1), 1) := by decide +kernel
theorem dX7_goThrough_101 : decode cX7_goThrough 101 = .ok (.ixor, 1) := by decide +kernel
theorem dX7_goThrough_102 : decode cX7_goThrough 102 = .ok (.iand, 1) := by decide +kernel
theorem dX7_goThrough_103 : decode cX7_goThrough 103 = .ok (.goto 5, 3) := by decide +kernel
theorem dX7_goThrough_106 : decode cX7_goThrough 106 = .ok (.iload 4, 2) := by decide +kernel
theorem dX7_goThrough_108 : decode cX7_goThrough 108 = .ok (.iand, 1) := by decide +kernel
theorem dX7_goThrough_109 : decode cX7_goThrough 109 = .ok (.istore 4, 2) := by decide +kernel
theorem dX7_goThrough_111 : decode cX7_goThrough 111 = .ok (.iinc 3 (-2), 3) := by decide +kernel
theorem dX7_goThrough_114 : decode cX7_goThrough 114 = .ok (.goto 129, 3) := by decide +kernel
theorem dX7_goThrough_117 : decode cX7_goThrough 117 = .ok (.aload_n 0, 1) := by decide +kernel
theorem dX7_goThrough_118 : decode cX7_goThrough 118 = .ok (.getfield 38, 3) := by decide +kernel
theorem dX7_goThrough_121 : decode cX7_goThrough 121 = .ok (.iload_n 3, 1) := by decide +kernel
theorem dX7_goThrough_122 : decode cX7_goThrough 122 = .ok (.iload 5, 2) := by decide +kernel
theorem dX7_goThrough_124 : decode cX7_goThrough 124 = .ok (.iconst 1, 1) := by decide +kernel
theorem dX7_goThrough_125 : decode cX7_goThrough 125 = .ok (.iadd, 1) := by decide +kernel
theorem dX7_goThrough_126 : decode cX7_goThrough 126 = .ok (.iastore, 1) := by decide +kernel
theorem dX7_goThrough_127 : decode cX7_goThrough 127 = .ok (.aload_n 0, 1) := by decide +kernel
theorem dX7_goThrough_128 : decode cX7_goThrough 128 = .ok (.dup, 1) := by decide +kernel
theorem dX7_goThrough_129 : decode cX7_goThrough 129 = .ok (.getfield 84, 3) := by decide +kernel
theorem dX7_goThrough_132 : decode cX7_goThrough 132 = .ok (.iconst 1, 1) := by decide +kernel
theorem dX7_goThrough_133 : decode cX7_goThrough 133 = .ok (.iload 5, 2) := by decide +kernel
theorem dX7_goThrough_135 : decode cX7_goThrough 135 = .ok (.ishl, 1) := by decide +kernel
theorem dX7_goThrough_136 : decode cX7_goThrough 136 = .ok (.ior, 1) := by decide +kernel
theorem dX7_goThrough_137 : decode cX7_goThrough 137 = .ok (.putfield 84, 3) := by decide +kernel
theorem dX7_goThrough_140 : decode cX7_goThrough 140 = .ok (.aload_n 0, 1) := by decide +kernel
theorem dX7_goThrough_141 : decode cX7_goThrough 141 = .ok (.getfield 35, 3) := by decide +kernel
theorem dX7_goThrough_144 : decode cX7_goThrough 144 = .ok (.iload_n 3, 1) := by decide +kernel
theorem dX7_goThrough_145 : decode cX7_goThrough 145 = .ok (.iconst 1, 1) := by decide +kernel
theorem dX7_goThrough_146 : decode cX7_goThrough 146 = .ok (.iadd, 1) := by decide +kernel
theorem dX7_goThrough_147 : decode cX7_goThrough 147 = .ok (.iload 5, 2) := by decide +kernel
theorem dX7_goThrough_149 : decode cX7_goThrough 149 = .ok (.iastore, 1) := by decide +kernel
theorem dX7_goThrough_150 : decode cX7_goThrough 150 = .ok (.aload_n 0, 1) := by decide +kernel
theorem dX7_goThrough_151 : decode cX7_goThrough 151 = .ok (.getfield 17, 3) := by decide +kernel
theorem dX7_goThrough_154 : decode cX7_goThrough 154 = .ok (.iload 5, 2) := by decide +kernel
theorem dX7_goThrough_156 : decode cX7_goThrough 156 = .ok (.iaload, 1) := by decide +kernel
theorem dX7_goThrough_157 : decode cX7_goThrough 157 = .ok (.iconst (-1), 1) := by decide +kernel
theorem dX7_goThrough_158 : decode cX7_goThrough 158 = .ok (.if_icmp .ne 12, 3) := by decide +kernel
theorem dX7_goThrough_161 : decode cX7_goThrough 161 = .ok (.iload_n 3, 1) := by decide +kernel
theorem dX7_goThrough_162 : decode cX7_goThrough 162 = .ok (.iconst 1, 1) := by decide +kernel
theorem dX7_goThrough_163 : decode cX7_goThrough 163 = .ok (.iadd, 1) := by decide +kernel
theorem dX7_goThrough_164 : decode cX7_goThrough 164 = .ok (.iload_n 2, 1) := by decide +kernel
theorem dX7_goThrough_165 : decode cX7_goThrough 165 = .ok (.if_icmp .ne 5, 3) := by decide +kernel
theorem dX7_goThrough_168 : decode cX7_goThrough 168 = .ok (.iconst 1, 1) := by decide +kernel
theorem dX7_goThrough_169 : decode cX7_goThrough 169 = .ok (.ireturn, 1) := by decide +kernel
theorem dX7_goThrough_170 : decode cX7_goThrough 170 = .ok (.aload_n 0, 1) := by decide +kernel
theorem dX7_goThrough_171 : decode cX7_goThrough 171 = .ok (.getfield 17, 3) := by decide +kernel
theorem dX7_goThrough_174 : decode cX7_goThrough 174 = .ok (.iload 5, 2) := by decide +kernel
theorem dX7_goThrough_176 : decode cX7_goThrough 176 = .ok (.iaload, 1) := by decide +kernel
theorem dX7_goThrough_177 : decode cX7_goThrough 177 = .ok (.iconst (-1), 1) := by decide +kernel
theorem dX7_goThrough_178 : decode cX7_goThrough 178 = .ok (.if_icmp .eq 65, 3) := by decide +kernel
theorem dX7_goThrough_181 : decode cX7_goThrough 181 = .ok (.aload_n 0, 1) := by decide +kernel
theorem dX7_goThrough_182 : decode cX7_goThrough 182 = .ok (.getfield 35, 3) := by decide +kernel
theorem dX7_goThrough_185 : decode cX7_goThrough 185 = .ok (.iload_n 3, 1) := by decide +kernel
theorem dX7_goThrough_186 : decode cX7_goThrough 186 = .ok (.iconst 2, 1) := by decide +kernel
theorem dX7_goThrough_187 : decode cX7_goThrough 187 = .ok (.iadd, 1) := by decide +kernel
theorem dX7_goThrough_188 : decode cX7_goThrough 188 = .ok (.aload_n 0, 1) := by decide +kernel
theorem dX7_goThrough_189 : decode cX7_goThrough 189 = .ok (.getfield 17, 3) := by decide +kernel
theorem dX7_goThrough_192 : decode cX7_goThrough 192 = .ok (.iload 5, 2) := by decide +kernel
theorem dX7_goThrough_194 : decode cX7_goThrough 194 = .ok (.iaload, 1) := by decide +kernel
theorem dX7_goThrough_195 : decode cX7_goThrough 195 = .ok (.iastore, 1) := by decide +kernel
theorem dX7_goThrough_196 : decode cX7_goThrough 196 = .ok (.aload_n 0, 1) := by decide +kernel
theorem dX7_goThrough_197 : decode cX7_goThrough 197 = .ok (.dup, 1) := by decide +kernel
theorem dX7_goThrough_198 : decode cX7_goThrough 198 = .ok (.getfield 87, 3) := by decide +kernel
theorem dX7_goThrough_201 : decode cX7_goThrough 201 = .ok (.iconst 1, 1) := by decide +kernel
theorem dX7_goThrough_202 : decode cX7_goThrough 202 = .ok (.aload_n 0, 1) := by decide +kernel
theorem dX7_goThrough_203 : decode cX7_goThrough 203 = .ok (.getfield 17, 3) := by decide +kernel
theorem dX7_goThrough_206 : decode cX7_goThrough 206 = .ok (.iload 5, 2) := by decide +kernel
theorem dX7_goThrough_208 : decode cX7_goThrough 208 = .ok (.iaload, 1) := by decide +kernel
theorem dX7_goThrough_209 : decode cX7_goThrough 209 = .ok (.ishl, 1) := by decide +kernel
theorem dX7_goThrough_210 : decode cX7_goThrough 210 = .ok (.ior, 1) := by decide +kernel
theorem dX7_goThrough_211 : decode cX7_goThrough 211 = .ok (.putfield 87, 3) := by decide +kernel
theorem dX7_goThrough_214 : decode cX7_goThrough 214 = .ok (.iload 4, 2) := by decide +kernel
theorem dX7_goThrough_216 : decode cX7_goThrough 216 = .ok (.iconst 1, 1) := by decide +kernel
theorem dX7_goThrough_217 : decode cX7_goThrough 217 = .ok (.iload 5, 2) := by decide +kernel
theorem dX7_goThrough_219 : decode cX7_goThrough 219 = .ok (.ishl, 1) := by decide +kernel
theorem dX7_goThrough_220 : decode cX7_goThrough 220 = .ok (.iconst 1, 1) := by decide +kernel
theorem dX7_goThrough_221 : decode cX7_goThrough 221 = .ok (.aload_n 0, 1) := by decide +kernel
theorem dX7_goThrough_222 : decode cX7_goThrough 222 = .ok (.getfield 17, 3) := by decide +kernel
theorem dX7_goThrough_225 : decode cX7_goThrough 225 = .ok (.iload 5, 2) := by decide +kernel
theorem dX7_goThrough_227 : decode cX7_goThrough 227 = .ok (.iaload, 1) := by decide +kernel
theorem dX7_goThrough_228 : decode cX7_goThrough 228 = .ok (.ishl, 1) := by decide +kernel
theorem dX7_goThrough_229 : decode cX7_goThrough 229 = .ok (.ior, 1) := by decide +kernel
theorem dX7_goThrough_230 : decode cX7_goThrough 230 = .ok (.ior, 1) := by decide +kernel
theorem dX7_goThrough_231 : decode cX7_goThrough 231 = .ok (.istore 4, 2) := by decide +kernel
theorem dX7_goThrough_233 : decode cX7_goThrough 233 = .ok (.iinc 3 2, 3) := by decide +kernel
theorem dX7_goThrough_236 : decode cX7_goThrough 236 = .ok (.aload_n 0, 1) := by decide +kernel
theorem dX7_goThrough_237 : decode cX7_goThrough 237 = .ok (.getfield 38, 3) := by decide +kernel
theorem dX7_goThrough_240 : decode cX7_goThrough 240 = .ok (.iload_n 3, 1) := by decide +kernel
theorem dX7_goThrough_241 : decode cX7_goThrough 241 = .ok (.iconst 0, 1) := by decide +kernel
theorem dX7_goThrough_242 : decode cX7_goThrough 242 = .ok (.iastore, 1) := by decide +kernel
theorem dX7_goThrough_243 : decode cX7_goThrough 243 = .ok (.goto (-210), 3) := by decide +kernel
theorem dX7_goThrough_246 : decode cX7_goThrough 246 = .ok (.iconst 0, 1) := by decide +kernel
theorem dX7_goThrough_247 : decode cX7_goThrough 247 = .ok (.ireturn, 1) := by decide +kernel
theorem dX7_layWay_0 : decode cX7_layWay 0 = .ok (.iconst 1, 1) := by decide +kernel
theorem dX7_layWay_1 : decode cX7_layWay 1 = .ok (.istore_n 2, 1) := by decide +kernel
theorem dX7_layWay_2 : decode cX7_layWay 2 = .ok (.iload_n 2, 1) := by decide +kernel
theorem dX7_layWay_3 : decode cX7_layWay 3 = .ok (.aload_n 0, 1) := by decide +kernel
theorem dX7_layWay_4 : decode cX7_layWay 4 = .ok (.getfield 7, 3) := by decide +kernel
theorem dX7_layWay_7 : decode cX7_layWay 7 = .ok (.if_icmp .ge 18, 3) := by decide +kernel
theorem dX7_layWay_10 : decode cX7_layWay 10 = .ok (.aload_n 0, 1) := by decide +kernel
theorem dX7_layWay_11 : decode cX7_layWay 11 = .ok (.iload_n 1, 1) := by decide +kernel
theorem dX7_layWay_12 : decode cX7_layWay 12 = .ok (.iload_n 2, 1) := by decide +kernel
theorem dX7_layWay_13 : decode cX7_layWay 13 = .ok (.invokevirtual 94, 3) := by decide +kernel
theorem dX7_layWay_16 : decode cX7_layWay 16 = .ok (.ifCond .ne 9, 3) := by decide +kernel
theorem dX7_layWay_19 : decode cX7_layWay 19 = .ok (.iinc 2 2, 3) := by decide +kernel
theorem dX7_layWay_22 : decode cX7_layWay 22 = .ok (.goto (-20), 3) := by decide +kernel
theorem dX7_layWay_25 : decode cX7_layWay 25 = .ok (.iload_n 2, 1) := by decide +kernel
theorem dX7_layWay_26 : decode cX7_layWay 26 = .ok (.aload_n 0, 1) := by decide +kernel
theorem dX7_layWay_27 : decode cX7_layWay 27 = .ok (.getfield 7, 3) := by decide +kernel
theorem dX7_layWay_30 : decode cX7_layWay 30 = .ok (.if_icmp .ge 7, 3) := by decide +kernel
theorem dX7_layWay_33 : decode cX7_layWay 33 = .ok (.iload_n 2, 1) := by decide +kernel
theorem dX7_layWay_34 : decode cX7_layWay 34 = .ok (.goto 4, 3) := by decide +kernel
theorem dX7_layWay_37 : decode cX7_layWay 37 = .ok (.iconst 0, 1) := by decide +kernel
theorem dX7_layWay_38 : decode cX7_layWay 38 = .ok (.ireturn, 1) := by decide +kernel
theorem dX7_layReach_0 : decode cX7_layReach 0 = .ok (.aload_n 0, 1) := by decide +kernel
theorem dX7_layReach_1 : decode cX7_layReach 1 = .ok (.iconst 0, 1) := by decide +kernel
theorem dX7_layReach_2 : decode cX7_layReach 2 = .ok (.putfield 84, 3) := by decide +kernel
theorem dX7_layReach_5 : decode cX7_layReach 5 = .ok (.aload_n 0, 1) := by decide +kernel
theorem dX7_layReach_6 : decode cX7_layReach 6 = .ok (.iconst 0, 1) := by decide +kernel
theorem dX7_layReach_7 : decode cX7_layReach 7 = .ok (.putfield 87, 3) := by decide +kernel
theorem dX7_layReach_10 : decode cX7_layReach 10 = .ok (.aload_n 0, 1) := by decide +kernel
theorem dX7_layReach_11 : decode cX7_layReach 11 = .ok (.getfield 17, 3) := by decide +kernel
theorem dX7_layReach_14 : decode cX7_layReach 14 = .ok (.iload_n 1, 1) := by decide +kernel
theorem dX7_layReach_15 : decode cX7_layReach 15 = .ok (.iaload, 1) := by decide +kernel
theorem dX7_layReach_16 : decode cX7_layReach 16 = .ok (.iconst (-1), 1) := by decide +kernel
theorem dX7_layReach_17 : decode cX7_layReach 17 = .ok (.if_icmp .ne 11, 3) := by decide +kernel
theorem dX7_layReach_20 : decode cX7_layReach 20 = .ok (.aload_n 0, 1) := by decide +kernel
theorem dX7_layReach_21 : decode cX7_layReach 21 = .ok (.iload_n 1, 1) := by decide +kernel
theorem dX7_layReach_22 : decode cX7_layReach 22 = .ok (.bipush 13, 2) := by decide +kernel
theorem dX7_layReach_24 : decode cX7_layReach 24 = .ok (.invokevirtual 94, 3) := by decide +kernel
theorem dX7_layReach_27 : decode cX7_layReach 27 = .ok (.pop, 1) := by decide +kernel
theorem dX7_layReach_28 : decode cX7_layReach 28 = .ok (.return_, 1) := by decide +kernel
theorem dX7_augmentFrom_0 : decode cX7_augmentFrom 0 = .ok (.aload_n 0, 1) := by decide +kernel
theorem dX7_augmentFrom_1 : decode cX7_augmentFrom 1 = .ok (.iload_n 1, 1) := by decide +kernel
theorem dX7_augmentFrom_2 : decode cX7_augmentFrom 2 = .ok (.invokevirtual 97, 3) := by decide +kernel
theorem dX7_augmentFrom_5 : decode cX7_augmentFrom 5 = .ok (.istore_n 2, 1) := by decide +kernel
theorem dX7_augmentFrom_6 : decode cX7_augmentFrom 6 = .ok (.iconst 0, 1) := by decide +kernel
theorem dX7_augmentFrom_7 : decode cX7_augmentFrom 7 = .ok (.istore_n 3, 1) := by decide +kernel
theorem dX7_augmentFrom_8 : decode cX7_augmentFrom 8 = .ok (.iload_n 3, 1) := by decide +kernel
theorem dX7_augmentFrom_9 : decode cX7_augmentFrom 9 = .ok (.iload_n 2, 1) := by decide +kernel
theorem dX7_augmentFrom_10 : decode cX7_augmentFrom 10 = .ok (.if_icmp .ge 27, 3) := by decide +kernel
theorem dX7_augmentFrom_13 : decode cX7_augmentFrom 13 = .ok (.aload_n 0, 1) := by decide +kernel
theorem dX7_augmentFrom_14 : decode cX7_augmentFrom 14 = .ok (.aload_n 0, 1) := by decide +kernel
theorem dX7_augmentFrom_15 : decode cX7_augmentFrom 15 = .ok (.getfield 35, 3) := by decide +kernel
theorem dX7_augmentFrom_18 : decode cX7_augmentFrom 18 = .ok (.iload_n 3, 1) := by decide +kernel
theorem dX7_augmentFrom_19 : decode cX7_augmentFrom 19 = .ok (.iaload, 1) := by decide +kernel
theorem dX7_augmentFrom_20 : decode cX7_augmentFrom 20 = .ok (.aload_n 0, 1) := by decide +kernel
theorem dX7_augmentFrom_21 : decode cX7_augmentFrom 21 = .ok (.getfield 35, 3) := by decide +kernel
theorem dX7_augmentFrom_24 : decode cX7_augmentFrom 24 = .ok (.iload_n 3, 1) := by decide +kernel
theorem dX7_augmentFrom_25 : decode cX7_augmentFrom 25 = .ok (.iconst 1, 1) := by decide +kernel
theorem dX7_augmentFrom_26 : decode cX7_augmentFrom 26 = .ok (.iadd, 1) := by decide +kernel
theorem dX7_augmentFrom_27 : decode cX7_augmentFrom 27 = .ok (.iaload, 1) := by decide +kernel
theorem dX7_augmentFrom_28 : decode cX7_augmentFrom 28 = .ok (.invokevirtual 100, 3) := by decide +kernel
theorem dX7_augmentFrom_31 : decode cX7_augmentFrom 31 = .ok (.iinc 3 2, 3) := by decide +kernel
theorem dX7_augmentFrom_34 : decode cX7_augmentFrom 34 = .ok (.goto (-26), 3) := by decide +kernel
theorem dX7_augmentFrom_37 : decode cX7_augmentFrom 37 = .ok (.iload_n 2, 1) := by decide +kernel
theorem dX7_augmentFrom_38 : decode cX7_augmentFrom 38 = .ok (.ireturn, 1) := by decide +kernel
theorem dX7_begin_0 : decode cX7_begin 0 = .ok (.aload_n 0, 1) := by decide +kernel
theorem dX7_begin_1 : decode cX7_begin 1 = .ok (.iload_n 1, 1) := by decide +kernel
theorem dX7_begin_2 : decode cX7_begin 2 = .ok (.iconst 2, 1) := by decide +kernel
theorem dX7_begin_3 : decode cX7_begin 3 = .ok (.bipush 12, 2) := by decide +kernel
theorem dX7_begin_5 : decode cX7_begin 5 = .ok (.invokestatic 50, 3) := by decide +kernel
theorem dX7_begin_8 : decode cX7_begin 8 = .ok (.ifCond .eq 7, 3) := by decide +kernel
theorem dX7_begin_11 : decode cX7_begin 11 = .ok (.iconst 0, 1) := by decide +kernel
theorem dX7_begin_12 : decode cX7_begin 12 = .ok (.goto 4, 3) := by decide +kernel
theorem dX7_begin_15 : decode cX7_begin 15 = .ok (.iconst 1, 1) := by decide +kernel
theorem dX7_begin_16 : decode cX7_begin 16 = .ok (.putfield 47, 3) := by decide +kernel
theorem dX7_begin_19 : decode cX7_begin 19 = .ok (.aload_n 0, 1) := by decide +kernel
theorem dX7_begin_20 : decode cX7_begin 20 = .ok (.getfield 47, 3) := by decide +kernel
theorem dX7_begin_23 : decode cX7_begin 23 = .ok (.ifCond .le 5, 3) := by decide +kernel
theorem dX7_begin_26 : decode cX7_begin 26 = .ok (.iconst 0, 1) := by decide +kernel
theorem dX7_begin_27 : decode cX7_begin 27 = .ok (.ireturn, 1) := by decide +kernel
theorem dX7_begin_28 : decode cX7_begin 28 = .ok (.aload_n 0, 1) := by decide +kernel
theorem dX7_begin_29 : decode cX7_begin 29 = .ok (.getfield 7, 3) := by decide +kernel
theorem dX7_begin_32 : decode cX7_begin 32 = .ok (.istore_n 2, 1) := by decide +kernel
theorem dX7_begin_33 : decode cX7_begin 33 = .ok (.aload_n 0, 1) := by decide +kernel
theorem dX7_begin_34 : decode cX7_begin 34 = .ok (.iload_n 1, 1) := by decide +kernel
theorem dX7_begin_35 : decode cX7_begin 35 = .ok (.putfield 7, 3) := by decide +kernel
theorem dX7_begin_38 : decode cX7_begin 38 = .ok (.aload_n 0, 1) := by decide +kernel
theorem dX7_begin_39 : decode cX7_begin 39 = .ok (.invokevirtual 44, 3) := by decide +kernel
theorem dX7_begin_42 : decode cX7_begin 42 = .ok (.iload_n 2, 1) := by decide +kernel
theorem dX7_begin_43 : decode cX7_begin 43 = .ok (.ireturn, 1) := by decide +kernel
theorem dX7_setEdge_0 : decode cX7_setEdge 0 = .ok (.aload_n 0, 1) := by decide +kernel
theorem dX7_setEdge_1 : decode cX7_setEdge 1 = .ok (.aload_n 0, 1) := by decide +kernel
theorem dX7_setEdge_2 : decode cX7_setEdge 2 = .ok (.iload_n 1, 1) := by decide +kernel
theorem dX7_setEdge_3 : decode cX7_setEdge 3 = .ok (.invokevirtual 104, 3) := by decide +kernel
theorem dX7_setEdge_6 : decode cX7_setEdge 6 = .ok (.ifCond .eq 11, 3) := by decide +kernel
theorem dX7_setEdge_9 : decode cX7_setEdge 9 = .ok (.aload_n 0, 1) := by decide +kernel
theorem dX7_setEdge_10 : decode cX7_setEdge 10 = .ok (.iload_n 2, 1) := by decide +kernel
theorem dX7_setEdge_11 : decode cX7_setEdge 11 = .ok (.invokevirtual 104, 3) := by decide +kernel
theorem dX7_setEdge_14 : decode cX7_setEdge 14 = .ok (.ifCond .ne 7, 3) := by decide +kernel
theorem dX7_setEdge_17 : decode cX7_setEdge 17 = .ok (.iconst 1, 1) := by decide +kernel
theorem dX7_setEdge_18 : decode cX7_setEdge 18 = .ok (.goto 13, 3) := by decide +kernel
theorem dX7_setEdge_21 : decode cX7_setEdge 21 = .ok (.iload_n 1, 1) := by decide +kernel
theorem dX7_setEdge_22 : decode cX7_setEdge 22 = .ok (.iload_n 2, 1) := by decide +kernel
theorem dX7_setEdge_23 : decode cX7_setEdge 23 = .ok (.if_icmp .ne 7, 3) := by decide +kernel
theorem dX7_setEdge_26 : decode cX7_setEdge 26 = .ok (.iconst 2, 1) := by decide +kernel
theorem dX7_setEdge_27 : decode cX7_setEdge 27 = .ok (.goto 4, 3) := by decide +kernel
theorem dX7_setEdge_30 : decode cX7_setEdge 30 = .ok (.iconst 0, 1) := by decide +kernel
theorem dX7_setEdge_31 : decode cX7_setEdge 31 = .ok (.putfield 47, 3) := by decide +kernel
theorem dX7_setEdge_34 : decode cX7_setEdge 34 = .ok (.aload_n 0, 1) := by decide +kernel
theorem dX7_setEdge_35 : decode cX7_setEdge 35 = .ok (.getfield 47, 3) := by decide +kernel
theorem dX7_setEdge_38 : decode cX7_setEdge 38 = .ok (.ifCond .le 5, 3) := by decide +kernel
theorem dX7_setEdge_41 : decode cX7_setEdge 41 = .ok (.iconst 0, 1) := by decide +kernel
theorem dX7_setEdge_42 : decode cX7_setEdge 42 = .ok (.ireturn, 1) := by decide +kernel
theorem dX7_setEdge_43 : decode cX7_setEdge 43 = .ok (.aload_n 0, 1) := by decide +kernel
theorem dX7_setEdge_44 : decode cX7_setEdge 44 = .ok (.invokevirtual 108, 3) := by decide +kernel
theorem dX7_setEdge_47 : decode cX7_setEdge 47 = .ok (.aload_n 0, 1) := by decide +kernel
theorem dX7_setEdge_48 : decode cX7_setEdge 48 = .ok (.getfield 13, 3) := by decide +kernel
theorem dX7_setEdge_51 : decode cX7_setEdge 51 = .ok (.iload_n 1, 1) := by decide +kernel
theorem dX7_setEdge_52 : decode cX7_setEdge 52 = .ok (.iaload, 1) := by decide +kernel
theorem dX7_setEdge_53 : decode cX7_setEdge 53 = .ok (.iload_n 2, 1) := by decide +kernel
theorem dX7_setEdge_54 : decode cX7_setEdge 54 = .ok (.invokestatic 61, 3) := by decide +kernel
theorem dX7_setEdge_57 : decode cX7_setEdge 57 = .ok (.istore 4, 2) := by decide +kernel
theorem dX7_setEdge_59 : decode cX7_setEdge 59 = .ok (.iload 4, 2) := by decide +kernel
theorem dX7_setEdge_61 : decode cX7_setEdge 61 = .ok (.iload_n 3, 1) := by decide +kernel
theorem dX7_setEdge_62 : decode cX7_setEdge 62 = .ok (.if_icmp .eq 9, 3) := by decide +kernel
theorem dX7_setEdge_65 : decode cX7_setEdge 65 = .ok (.aload_n 0, 1) := by decide +kernel
theorem dX7_setEdge_66 : decode cX7_setEdge 66 = .ok (.iload_n 1, 1) := by decide +kernel
theorem dX7_setEdge_67 : decode cX7_setEdge 67 = .ok (.iload_n 2, 1) := by decide +kernel
theorem dX7_setEdge_68 : decode cX7_setEdge 68 = .ok (.invokevirtual 111, 3) := by decide +kernel
theorem dX7_setEdge_71 : decode cX7_setEdge 71 = .ok (.iload_n 3, 1) := by decide +kernel
theorem dX7_setEdge_72 : decode cX7_setEdge 72 = .ok (.ifCond .ne 18, 3) := by decide +kernel
theorem dX7_setEdge_75 : decode cX7_setEdge 75 = .ok (.aload_n 0, 1) := by decide +kernel
theorem dX7_setEdge_76 : decode cX7_setEdge 76 = .ok (.getfield 17, 3) := by decide +kernel
theorem dX7_setEdge_79 : decode cX7_setEdge 79 = .ok (.iload_n 1, 1) := by decide +kernel
theorem dX7_setEdge_80 : decode cX7_setEdge 80 = .ok (.iaload, 1) := by decide +kernel
theorem dX7_setEdge_81 : decode cX7_setEdge 81 = .ok (.iload_n 2, 1) := by decide +kernel
theorem dX7_setEdge_82 : decode cX7_setEdge 82 = .ok (.if_icmp .ne 8, 3) := by decide +kernel
theorem dX7_setEdge_85 : decode cX7_setEdge 85 = .ok (.aload_n 0, 1) := by decide +kernel
theorem dX7_setEdge_86 : decode cX7_setEdge 86 = .ok (.iload_n 1, 1) := by decide +kernel
theorem dX7_setEdge_87 : decode cX7_setEdge 87 = .ok (.invokevirtual 114, 3) := by decide +kernel
theorem dX7_setEdge_90 : decode cX7_setEdge 90 = .ok (.iload 4, 2) := by decide +kernel
theorem dX7_setEdge_92 : decode cX7_setEdge 92 = .ok (.ifCond .eq 7, 3) := by decide +kernel
theorem dX7_setEdge_95 : decode cX7_setEdge 95 = .ok (.iconst 1, 1) := by decide +kernel
theorem dX7_setEdge_96 : decode cX7_setEdge 96 = .ok (.goto 4, 3) := by decide +kernel
theorem dX7_setEdge_99 : decode cX7_setEdge 99 = .ok (.iconst 0, 1) := by decide +kernel
theorem dX7_setEdge_100 : decode cX7_setEdge 100 = .ok (.ireturn, 1) := by decide +kernel
theorem dX7_append_0 : decode cX7_append 0 = .ok (.aload_n 0, 1) := by decide +kernel
theorem dX7_append_1 : decode cX7_append 1 = .ok (.iload_n 1, 1) := by decide +kernel
theorem dX7_append_2 : decode cX7_append 2 = .ok (.bipush 32, 2) := by decide +kernel
theorem dX7_append_4 : decode cX7_append 4 = .ok (.bipush 126, 2) := by decide +kernel
theorem dX7_append_6 : decode cX7_append 6 = .ok (.invokestatic 50, 3) := by decide +kernel
theorem dX7_append_9 : decode cX7_append 9 = .ok (.ifCond .ne 7, 3) := by decide +kernel
theorem dX7_append_12 : decode cX7_append 12 = .ok (.iconst 1, 1) := by decide +kernel
theorem dX7_append_13 : decode cX7_append 13 = .ok (.goto 17, 3) := by decide +kernel
theorem dX7_append_16 : decode cX7_append 16 = .ok (.aload_n 0, 1) := by decide +kernel
theorem dX7_append_17 : decode cX7_append 17 = .ok (.getfield 118, 3) := by decide +kernel
theorem dX7_append_20 : decode cX7_append 20 = .ok (.bipush 60, 2) := by decide +kernel
theorem dX7_append_22 : decode cX7_append 22 = .ok (.if_icmp .ne 7, 3) := by decide +kernel
theorem dX7_append_25 : decode cX7_append 25 = .ok (.iconst 2, 1) := by decide +kernel
theorem dX7_append_26 : decode cX7_append 26 = .ok (.goto 4, 3) := by decide +kernel
theorem dX7_append_29 : decode cX7_append 29 = .ok (.iconst 0, 1) := by decide +kernel
theorem dX7_append_30 : decode cX7_append 30 = .ok (.putfield 47, 3) := by decide +kernel
theorem dX7_append_33 : decode cX7_append 33 = .ok (.aload_n 0, 1) := by decide +kernel
theorem dX7_append_34 : decode cX7_append 34 = .ok (.getfield 47, 3) := by decide +kernel
theorem dX7_append_37 : decode cX7_append 37 = .ok (.ifCond .le 5, 3) := by decide +kernel
theorem dX7_append_40 : decode cX7_append 40 = .ok (.iconst 0, 1) := by decide +kernel
theorem dX7_append_41 : decode cX7_append 41 = .ok (.ireturn, 1) := by decide +kernel
theorem dX7_append_42 : decode cX7_append 42 = .ok (.aload_n 0, 1) := by decide +kernel
theorem dX7_append_43 : decode cX7_append 43 = .ok (.getfield 23, 3) := by decide +kernel
theorem dX7_append_46 : decode cX7_append 46 = .ok (.aload_n 0, 1) := by decide +kernel
theorem dX7_append_47 : decode cX7_append 47 = .ok (.getfield 118, 3) := by decide +kernel
theorem dX7_append_50 : decode cX7_append 50 = .ok (.iload_n 1, 1) := by decide +kernel
theorem dX7_append_51 : decode cX7_append 51 = .ok (.iastore, 1) := by decide +kernel
theorem dX7_append_52 : decode cX7_append 52 = .ok (.aload_n 0, 1) := by decide +kernel
theorem dX7_append_53 : decode cX7_append 53 = .ok (.dup, 1) := by decide +kernel
theorem dX7_append_54 : decode cX7_append 54 = .ok (.getfield 118, 3) := by decide +kernel
theorem dX7_append_57 : decode cX7_append 57 = .ok (.iconst 1, 1) := by decide +kernel
theorem dX7_append_58 : decode cX7_append 58 = .ok (.iadd, 1) := by decide +kernel
theorem dX7_append_59 : decode cX7_append 59 = .ok (.putfield 118, 3) := by decide +kernel
theorem dX7_append_62 : decode cX7_append 62 = .ok (.aload_n 0, 1) := by decide +kernel
theorem dX7_append_63 : decode cX7_append 63 = .ok (.getfield 118, 3) := by decide +kernel
theorem dX7_append_66 : decode cX7_append 66 = .ok (.ireturn, 1) := by decide +kernel
theorem dX7_clearInput_0 : decode cX7_clearInput 0 = .ok (.aload_n 0, 1) := by decide +kernel
theorem dX7_clearInput_1 : decode cX7_clearInput 1 = .ok (.iconst 0, 1) := by decide +kernel
theorem dX7_clearInput_2 : decode cX7_clearInput 2 = .ok (.putfield 47, 3) := by decide +kernel
theorem dX7_clearInput_5 : decode cX7_clearInput 5 = .ok (.aload_n 0, 1) := by decide +kernel
theorem dX7_clearInput_6 : decode cX7_clearInput 6 = .ok (.getfield 118, 3) := by decide +kernel
theorem dX7_clearInput_9 : decode cX7_clearInput 9 = .ok (.istore_n 1, 1) := by decide +kernel
theorem dX7_clearInput_10 : decode cX7_clearInput 10 = .ok (.aload_n 0, 1) := by decide +kernel
theorem dX7_clearInput_11 : decode cX7_clearInput 11 = .ok (.iconst 0, 1) := by decide +kernel
theorem dX7_clearInput_12 : decode cX7_clearInput 12 = .ok (.putfield 118, 3) := by decide +kernel
theorem dX7_clearInput_15 : decode cX7_clearInput 15 = .ok (.iload_n 1, 1) := by decide +kernel
theorem dX7_clearInput_16 : decode cX7_clearInput 16 = .ok (.ireturn, 1) := by decide +kernel
theorem dX7_takes_0 : decode cX7_takes 0 = .ok (.iload_n 1, 1) := by decide +kernel
theorem dX7_takes_1 : decode cX7_takes 1 = .ok (.bipush 97, 2) := by decide +kernel
theorem dX7_takes_3 : decode cX7_takes 3 = .ok (.isub, 1) := by decide +kernel
theorem dX7_takes_4 : decode cX7_takes 4 = .ok (.istore_n 2, 1) := by decide +kernel
theorem dX7_takes_5 : decode cX7_takes 5 = .ok (.iload_n 1, 1) := by decide +kernel
theorem dX7_takes_6 : decode cX7_takes 6 = .ok (.bipush 44, 2) := by decide +kernel
theorem dX7_takes_8 : decode cX7_takes 8 = .ok (.if_icmp .ne 28, 3) := by decide +kernel
theorem dX7_takes_11 : decode cX7_takes 11 = .ok (.aload_n 0, 1) := by decide +kernel
theorem dX7_takes_12 : decode cX7_takes 12 = .ok (.getfield 121, 3) := by decide +kernel
theorem dX7_takes_15 : decode cX7_takes 15 = .ok (.iconst 1, 1) := by decide +kernel
theorem dX7_takes_16 : decode cX7_takes 16 = .ok (.if_icmp .le 20, 3) := by decide +kernel
theorem dX7_takes_19 : decode cX7_takes 19 = .ok (.aload_n 0, 1) := by decide +kernel
theorem dX7_takes_20 : decode cX7_takes 20 = .ok (.dup, 1) := by decide +kernel
theorem dX7_takes_21 : decode cX7_takes 21 = .ok (.getfield 124, 3) := by decide +kernel
theorem dX7_takes_24 : decode cX7_takes 24 = .ok (.iconst 1, 1) := by decide +kernel
theorem dX7_takes_25 : decode cX7_takes 25 = .ok (.iadd, 1) := by decide +kernel
theorem dX7_takes_26 : decode cX7_takes 26 = .ok (.putfield 124, 3) := by decide +kernel
theorem dX7_takes_29 : decode cX7_takes 29 = .ok (.aload_n 0, 1) := by decide +kernel
theorem dX7_takes_30 : decode cX7_takes 30 = .ok (.iconst 0, 1) := by decide +kernel
theorem dX7_takes_31 : decode cX7_takes 31 = .ok (.putfield 121, 3) := by decide +kernel
theorem dX7_takes_34 : decode cX7_takes 34 = .ok (.iconst 1, 1) := by decide +kernel
theorem dX7_takes_35 : decode cX7_takes 35 = .ok (.ireturn, 1) := by decide +kernel
theorem dX7_takes_36 : decode cX7_takes 36 = .ok (.aload_n 0, 1) := by decide +kernel
theorem dX7_takes_37 : decode cX7_takes 37 = .ok (.getfield 121, 3) := by decide +kernel
theorem dX7_takes_40 : decode cX7_takes 40 = .ok (.ifCond .ne 66, 3) := by decide +kernel
theorem dX7_takes_43 : decode cX7_takes 43 = .ok (.aload_n 0, 1) := by decide +kernel
theorem dX7_takes_44 : decode cX7_takes 44 = .ok (.getfield 41, 3) := by decide +kernel
theorem dX7_takes_47 : decode cX7_takes 47 = .ok (.iconst 3, 1) := by decide +kernel
theorem dX7_takes_48 : decode cX7_takes 48 = .ok (.aload_n 0, 1) := by decide +kernel
theorem dX7_takes_49 : decode cX7_takes 49 = .ok (.getfield 124, 3) := by decide +kernel
theorem dX7_takes_52 : decode cX7_takes 52 = .ok (.imul, 1) := by decide +kernel
theorem dX7_takes_53 : decode cX7_takes 53 = .ok (.iload_n 2, 1) := by decide +kernel
theorem dX7_takes_54 : decode cX7_takes 54 = .ok (.iastore, 1) := by decide +kernel
theorem dX7_takes_55 : decode cX7_takes 55 = .ok (.aload_n 0, 1) := by decide +kernel
theorem dX7_takes_56 : decode cX7_takes 56 = .ok (.getfield 41, 3) := by decide +kernel
theorem dX7_takes_59 : decode cX7_takes 59 = .ok (.iconst 3, 1) := by decide +kernel
theorem dX7_takes_60 : decode cX7_takes 60 = .ok (.aload_n 0, 1) := by decide +kernel
theorem dX7_takes_61 : decode cX7_takes 61 = .ok (.getfield 124, 3) := by decide +kernel
theorem dX7_takes_64 : decode cX7_takes 64 = .ok (.imul, 1) := by decide +kernel
theorem dX7_takes_65 : decode cX7_takes 65 = .ok (.iconst 2, 1) := by decide +kernel
theorem dX7_takes_66 : decode cX7_takes 66 = .ok (.iadd, 1) := by decide +kernel
theorem dX7_takes_67 : decode cX7_takes 67 = .ok (.iconst 0, 1) := by decide +kernel
theorem dX7_takes_68 : decode cX7_takes 68 = .ok (.iastore, 1) := by decide +kernel
theorem dX7_takes_69 : decode cX7_takes 69 = .ok (.aload_n 0, 1) := by decide +kernel
theorem dX7_takes_70 : decode cX7_takes 70 = .ok (.iload_n 2, 1) := by decide +kernel
theorem dX7_takes_71 : decode cX7_takes 71 = .ok (.iconst 0, 1) := by decide +kernel
theorem dX7_takes_72 : decode cX7_takes 72 = .ok (.aload_n 0, 1) := by decide +kernel
theorem dX7_takes_73 : decode cX7_takes 73 = .ok (.getfield 7, 3) := by decide +kernel
theorem dX7_takes_76 : decode cX7_takes 76 = .ok (.iconst 2, 1) := by decide +kernel
theorem dX7_takes_77 : decode cX7_takes 77 = .ok (.isub, 1) := by decide +kernel
theorem dX7_takes_78 : decode cX7_takes 78 = .ok (.invokestatic 50, 3) := by decide +kernel
theorem dX7_takes_81 : decode cX7_takes 81 = .ok (.ifCond .eq 7, 3) := by decide +kernel
theorem dX7_takes_84 : decode cX7_takes 84 = .ok (.iconst 1, 1) := by decide +kernel
theorem dX7_takes_85 : decode cX7_takes 85 = .ok (.goto 4, 3) := by decide +kernel
theorem dX7_takes_88 : decode cX7_takes 88 = .ok (.iconst 0, 1) := by decide +kernel
theorem dX7_takes_89 : decode cX7_takes 89 = .ok (.putfield 121, 3) := by decide +kernel
theorem dX7_takes_92 : decode cX7_takes 92 = .ok (.aload_n 0, 1) := by decide +kernel
theorem dX7_takes_93 : decode cX7_takes 93 = .ok (.getfield 121, 3) := by decide +kernel
theorem dX7_takes_96 : decode cX7_takes 96 = .ok (.iconst 1, 1) := by decide +kernel
theorem dX7_takes_97 : decode cX7_takes 97 = .ok (.if_icmp .ne 7, 3) := by decide +kernel
theorem dX7_takes_100 : decode cX7_takes 100 = .ok (.iconst 1, 1) := by decide +kernel
theorem dX7_takes_101 : decode cX7_takes 101 = .ok (.goto 4, 3) := by decide +kernel
theorem dX7_takes_104 : decode cX7_takes 104 = .ok (.iconst 0, 1) := by decide +kernel
theorem dX7_takes_105 : decode cX7_takes 105 = .ok (.ireturn, 1) := by decide +kernel
theorem dX7_takes_106 : decode cX7_takes 106 = .ok (.aload_n 0, 1) := by decide +kernel
theorem dX7_takes_107 : decode cX7_takes 107 = .ok (.getfield 121, 3) := by decide +kernel
theorem dX7_takes_110 : decode cX7_takes 110 = .ok (.iconst 1, 1) := by decide +kernel
theorem dX7_takes_111 : decode cX7_takes 111 = .ok (.if_icmp .ne 66, 3) := by decide +kernel
theorem dX7_takes_114 : decode cX7_takes 114 = .ok (.aload_n 0, 1) := by decide +kernel
theorem dX7_takes_115 : decode cX7_takes 115 = .ok (.getfield 41, 3) := by decide +kernel
theorem dX7_takes_118 : decode cX7_takes 118 = .ok (.iconst 3, 1) := by decide +kernel
theorem dX7_takes_119 : decode cX7_takes 119 = .ok (.aload_n 0, 1) := by decide +kernel
theorem dX7_takes_120 : decode cX7_takes 120 = .ok (.getfield 124, 3) := by decide +kernel
theorem dX7_takes_123 : decode cX7_takes 123 = .ok (.imul, 1) := by decide +kernel
theorem dX7_takes_124 : decode cX7_takes 124 = .ok (.iconst 1, 1) := by decide +kernel
theorem dX7_takes_125 : decode cX7_takes 125 = .ok (.iadd, 1) := by decide +kernel
theorem dX7_takes_126 : decode cX7_takes 126 = .ok (.iload_n 2, 1) := by decide +kernel
theorem dX7_takes_127 : decode cX7_takes 127 = .ok (.iastore, 1) := by decide +kernel
theorem dX7_takes_128 : decode cX7_takes 128 = .ok (.aload_n 0, 1) := by decide +kernel
theorem dX7_takes_129 : decode cX7_takes 129 = .ok (.iload_n 2, 1) := by decide +kernel
theorem dX7_takes_130 : decode cX7_takes 130 = .ok (.aload_n 0, 1) := by decide +kernel
theorem dX7_takes_131 : decode cX7_takes 131 = .ok (.getfield 41, 3) := by decide +kernel
theorem dX7_takes_134 : decode cX7_takes 134 = .ok (.iconst 3, 1) := by decide +kernel
theorem dX7_takes_135 : decode cX7_takes 135 = .ok (.aload_n 0, 1) := by decide +kernel
theorem dX7_takes_136 : decode cX7_takes 136 = .ok (.getfield 124, 3) := by decide +kernel
theorem dX7_takes_139 : decode cX7_takes 139 = .ok (.imul, 1) := by decide +kernel
theorem dX7_takes_140 : decode cX7_takes 140 = .ok (.iaload, 1) := by decide +kernel
theorem dX7_takes_141 : decode cX7_takes 141 = .ok (.iconst 1, 1) := by decide +kernel
theorem dX7_takes_142 : decode cX7_takes 142 = .ok (.iadd, 1) := by decide +kernel
theorem dX7_takes_143 : decode cX7_takes 143 = .ok (.aload_n 0, 1) := by decide +kernel
theorem dX7_takes_144 : decode cX7_takes 144 = .ok (.getfield 7, 3) := by decide +kernel
theorem dX7_takes_147 : decode cX7_takes 147 = .ok (.iconst 1, 1) := by decide +kernel
theorem dX7_takes_148 : decode cX7_takes 148 = .ok (.isub, 1) := by decide +kernel
theorem dX7_takes_149 : decode cX7_takes 149 = .ok (.invokestatic 50, 3) := by decide +kernel
theorem dX7_takes_152 : decode cX7_takes 152 = .ok (.ifCond .eq 7, 3) := by decide +kernel
theorem dX7_takes_155 : decode cX7_takes 155 = .ok (.iconst 2, 1) := by decide +kernel
theorem dX7_takes_156 : decode cX7_takes 156 = .ok (.goto 4, 3) := by decide +kernel
theorem dX7_takes_159 : decode cX7_takes 159 = .ok (.iconst 1, 1) := by decide +kernel
theorem dX7_takes_160 : decode cX7_takes 160 = .ok (.putfield 121, 3) := by decide +kernel
theorem dX7_takes_163 : decode cX7_takes 163 = .ok (.aload_n 0, 1) := by decide +kernel
theorem dX7_takes_164 : decode cX7_takes 164 = .ok (.getfield 121, 3) := by decide +kernel
theorem dX7_takes_167 : decode cX7_takes 167 = .ok (.iconst 2, 1) := by decide +kernel
theorem dX7_takes_168 : decode cX7_takes 168 = .ok (.if_icmp .ne 7, 3) := by decide +kernel
theorem dX7_takes_171 : decode cX7_takes 171 = .ok (.iconst 1, 1) := by decide +kernel
theorem dX7_takes_172 : decode cX7_takes 172 = .ok (.goto 4, 3) := by decide +kernel
theorem dX7_takes_175 : decode cX7_takes 175 = .ok (.iconst 0, 1) := by decide +kernel
theorem dX7_takes_176 : decode cX7_takes 176 = .ok (.ireturn, 1) := by decide +kernel
theorem dX7_takes_177 : decode cX7_takes 177 = .ok (.aload_n 0, 1) := by decide +kernel
theorem dX7_takes_178 : decode cX7_takes 178 = .ok (.getfield 121, 3) := by decide +kernel
theorem dX7_takes_181 : decode cX7_takes 181 = .ok (.iconst 2, 1) := by decide +kernel
theorem dX7_takes_182 : decode cX7_takes 182 = .ok (.if_icmp .ne 13, 3) := by decide +kernel
theorem dX7_takes_185 : decode cX7_takes 185 = .ok (.iload_n 1, 1) := by decide +kernel
theorem dX7_takes_186 : decode cX7_takes 186 = .ok (.bipush 33, 2) := by decide +kernel
theorem dX7_takes_188 : decode cX7_takes 188 = .ok (.if_icmp .ne 7, 3) := by decide +kernel
theorem dX7_takes_191 : decode cX7_takes 191 = .ok (.iconst 1, 1) := by decide +kernel
theorem dX7_takes_192 : decode cX7_takes 192 = .ok (.goto 4, 3) := by decide +kernel
theorem dX7_takes_195 : decode cX7_takes 195 = .ok (.iconst 0, 1) := by decide +kernel
theorem dX7_takes_196 : decode cX7_takes 196 = .ok (.istore_n 3, 1) := by decide +kernel
theorem dX7_takes_197 : decode cX7_takes 197 = .ok (.aload_n 0, 1) := by decide +kernel
theorem dX7_takes_198 : decode cX7_takes 198 = .ok (.getfield 41, 3) := by decide +kernel
theorem dX7_takes_201 : decode cX7_takes 201 = .ok (.iconst 3, 1) := by decide +kernel
theorem dX7_takes_202 : decode cX7_takes 202 = .ok (.aload_n 0, 1) := by decide +kernel
theorem dX7_takes_203 : decode cX7_takes 203 = .ok (.getfield 124, 3) := by decide +kernel
theorem dX7_takes_206 : decode cX7_takes 206 = .ok (.imul, 1) := by decide +kernel
theorem dX7_takes_207 : decode cX7_takes 207 = .ok (.iconst 2, 1) := by decide +kernel
theorem dX7_takes_208 : decode cX7_takes 208 = .ok (.iadd, 1) := by decide +kernel
theorem dX7_takes_209 : decode cX7_takes 209 = .ok (.iload_n 3, 1) := by decide +kernel
theorem dX7_takes_210 : decode cX7_takes 210 = .ok (.ifCond .eq 7, 3) := by decide +kernel
theorem dX7_takes_213 : decode cX7_takes 213 = .ok (.iconst 1, 1) := by decide +kernel
theorem dX7_takes_214 : decode cX7_takes 214 = .ok (.goto 16, 3) := by decide +kernel
theorem dX7_takes_217 : decode cX7_takes 217 = .ok (.aload_n 0, 1) := by decide +kernel
theorem dX7_takes_218 : decode cX7_takes 218 = .ok (.getfield 41, 3) := by decide +kernel
theorem dX7_takes_221 : decode cX7_takes 221 = .ok (.iconst 3, 1) := by decide +kernel
theorem dX7_takes_222 : decode cX7_takes 222 = .ok (.aload_n 0, 1) := by decide +kernel
theorem dX7_takes_223 : decode cX7_takes 223 = .ok (.getfield 124, 3) := by decide +kernel
theorem dX7_takes_226 : decode cX7_takes 226 = .ok (.imul, 1) := by decide +kernel
theorem dX7_takes_227 : decode cX7_takes 227 = .ok (.iconst 2, 1) := by decide +kernel
theorem dX7_takes_228 : decode cX7_takes 228 = .ok (.iadd, 1) := by decide +kernel
theorem dX7_takes_229 : decode cX7_takes 229 = .ok (.iaload, 1) := by decide +kernel
theorem dX7_takes_230 : decode cX7_takes 230 = .ok (.iastore, 1) := by decide +kernel
theorem dX7_takes_231 : decode cX7_takes 231 = .ok (.aload_n 0, 1) := by decide +kernel
theorem dX7_takes_232 : decode cX7_takes 232 = .ok (.iload_n 3, 1) := by decide +kernel
theorem dX7_takes_233 : decode cX7_takes 233 = .ok (.ifCond .eq 7, 3) := by decide +kernel
theorem dX7_takes_236 : decode cX7_takes 236 = .ok (.iconst 3, 1) := by decide +kernel
theorem dX7_takes_237 : decode cX7_takes 237 = .ok (.goto 7, 3) := by decide +kernel
theorem dX7_takes_240 : decode cX7_takes 240 = .ok (.aload_n 0, 1) := by decide +kernel
theorem dX7_takes_241 : decode cX7_takes 241 = .ok (.getfield 121, 3) := by decide +kernel
theorem dX7_takes_244 : decode cX7_takes 244 = .ok (.putfield 121, 3) := by decide +kernel
theorem dX7_takes_247 : decode cX7_takes 247 = .ok (.iload_n 3, 1) := by decide +kernel
theorem dX7_takes_248 : decode cX7_takes 248 = .ok (.ireturn, 1) := by decide +kernel
theorem dX7_rightLength_0 : decode cX7_rightLength 0 = .ok (.aload_n 0, 1) := by decide +kernel
theorem dX7_rightLength_1 : decode cX7_rightLength 1 = .ok (.iconst 0, 1) := by decide +kernel
theorem dX7_rightLength_2 : decode cX7_rightLength 2 = .ok (.putfield 121, 3) := by decide +kernel
theorem dX7_rightLength_5 : decode cX7_rightLength 5 = .ok (.aload_n 0, 1) := by decide +kernel
theorem dX7_rightLength_6 : decode cX7_rightLength 6 = .ok (.iconst 0, 1) := by decide +kernel
theorem dX7_rightLength_7 : decode cX7_rightLength 7 = .ok (.putfield 124, 3) := by decide +kernel
theorem dX7_rightLength_10 : decode cX7_rightLength 10 = .ok (.iconst 0, 1) := by decide +kernel
theorem dX7_rightLength_11 : decode cX7_rightLength 11 = .ok (.istore_n 1, 1) := by decide +kernel
theorem dX7_rightLength_12 : decode cX7_rightLength 12 = .ok (.iload_n 1, 1) := by decide +kernel
theorem dX7_rightLength_13 : decode cX7_rightLength 13 = .ok (.aload_n 0, 1) := by decide +kernel
theorem dX7_rightLength_14 : decode cX7_rightLength 14 = .ok (.getfield 118, 3) := by decide +kernel
theorem dX7_rightLength_17 : decode cX7_rightLength 17 = .ok (.if_icmp .ge 22, 3) := by decide +kernel
theorem dX7_rightLength_20 : decode cX7_rightLength 20 = .ok (.aload_n 0, 1) := by decide +kernel
theorem dX7_rightLength_21 : decode cX7_rightLength 21 = .ok (.aload_n 0, 1) := by decide +kernel
theorem dX7_rightLength_22 : decode cX7_rightLength 22 = .ok (.getfield 23, 3) := by decide +kernel
theorem dX7_rightLength_25 : decode cX7_rightLength 25 = .ok (.iload_n 1, 1) := by decide +kernel
theorem dX7_rightLength_26 : decode cX7_rightLength 26 = .ok (.iaload, 1) := by decide +kernel
theorem dX7_rightLength_27 : decode cX7_rightLength 27 = .ok (.invokevirtual 127, 3) := by decide +kernel
theorem dX7_rightLength_30 : decode cX7_rightLength 30 = .ok (.ifCond .eq 9, 3) := by decide +kernel
theorem dX7_rightLength_33 : decode cX7_rightLength 33 = .ok (.iinc 1 1, 3) := by decide +kernel
theorem dX7_rightLength_36 : decode cX7_rightLength 36 = .ok (.goto (-24), 3) := by decide +kernel
theorem dX7_rightLength_39 : decode cX7_rightLength 39 = .ok (.iload_n 1, 1) := by decide +kernel
theorem dX7_rightLength_40 : decode cX7_rightLength 40 = .ok (.ireturn, 1) := by decide +kernel
theorem dX7_firstError_0 : decode cX7_firstError 0 = .ok (.aload_n 0, 1) := by decide +kernel
theorem dX7_firstError_1 : decode cX7_firstError 1 = .ok (.iconst 0, 1) := by decide +kernel
theorem dX7_firstError_2 : decode cX7_firstError 2 = .ok (.putfield 47, 3) := by decide +kernel
theorem dX7_firstError_5 : decode cX7_firstError 5 = .ok (.aload_n 0, 1) := by decide +kernel
theorem dX7_firstError_6 : decode cX7_firstError 6 = .ok (.invokevirtual 130, 3) := by decide +kernel
theorem dX7_firstError_9 : decode cX7_firstError 9 = .ok (.ireturn, 1) := by decide +kernel
theorem dX7_load_0 : decode cX7_load 0 = .ok (.aload_n 0, 1) := by decide +kernel
theorem dX7_load_1 : decode cX7_load 1 = .ok (.aload_n 0, 1) := by decide +kernel
theorem dX7_load_2 : decode cX7_load 2 = .ok (.invokevirtual 130, 3) := by decide +kernel
theorem dX7_load_5 : decode cX7_load 5 = .ok (.aload_n 0, 1) := by decide +kernel
theorem dX7_load_6 : decode cX7_load 6 = .ok (.getfield 118, 3) := by decide +kernel
theorem dX7_load_9 : decode cX7_load 9 = .ok (.if_icmp .ne 15, 3) := by decide +kernel
theorem dX7_load_12 : decode cX7_load 12 = .ok (.aload_n 0, 1) := by decide +kernel
theorem dX7_load_13 : decode cX7_load 13 = .ok (.getfield 121, 3) := by decide +kernel
theorem dX7_load_16 : decode cX7_load 16 = .ok (.iconst 1, 1) := by decide +kernel
theorem dX7_load_17 : decode cX7_load 17 = .ok (.if_icmp .le 7, 3) := by decide +kernel
theorem dX7_load_20 : decode cX7_load 20 = .ok (.iconst 0, 1) := by decide +kernel
theorem dX7_load_21 : decode cX7_load 21 = .ok (.goto 4, 3) := by decide +kernel
theorem dX7_load_24 : decode cX7_load 24 = .ok (.iconst 1, 1) := by decide +kernel
theorem dX7_load_25 : decode cX7_load 25 = .ok (.putfield 47, 3) := by decide +kernel
theorem dX7_load_28 : decode cX7_load 28 = .ok (.aload_n 0, 1) := by decide +kernel
theorem dX7_load_29 : decode cX7_load 29 = .ok (.getfield 47, 3) := by decide +kernel
theorem dX7_load_32 : decode cX7_load 32 = .ok (.ifCond .le 5, 3) := by decide +kernel
theorem dX7_load_35 : decode cX7_load 35 = .ok (.iconst 0, 1) := by decide +kernel
theorem dX7_load_36 : decode cX7_load 36 = .ok (.ireturn, 1) := by decide +kernel
theorem dX7_load_37 : decode cX7_load 37 = .ok (.aload_n 0, 1) := by decide +kernel
theorem dX7_load_38 : decode cX7_load 38 = .ok (.invokevirtual 108, 3) := by decide +kernel
theorem dX7_load_41 : decode cX7_load 41 = .ok (.iconst 0, 1) := by decide +kernel
theorem dX7_load_42 : decode cX7_load 42 = .ok (.istore_n 1, 1) := by decide +kernel
theorem dX7_load_43 : decode cX7_load 43 = .ok (.iconst 0, 1) := by decide +kernel
theorem dX7_load_44 : decode cX7_load 44 = .ok (.istore_n 2, 1) := by decide +kernel
theorem dX7_load_45 : decode cX7_load 45 = .ok (.iload_n 2, 1) := by decide +kernel
theorem dX7_load_46 : decode cX7_load 46 = .ok (.aload_n 0, 1) := by decide +kernel
theorem dX7_load_47 : decode cX7_load 47 = .ok (.getfield 124, 3) := by decide +kernel
theorem dX7_load_50 : decode cX7_load 50 = .ok (.if_icmp .gt 96, 3) := by decide +kernel
theorem dX7_load_53 : decode cX7_load 53 = .ok (.aload_n 0, 1) := by decide +kernel
theorem dX7_load_54 : decode cX7_load 54 = .ok (.getfield 41, 3) := by decide +kernel
theorem dX7_load_57 : decode cX7_load 57 = .ok (.iconst 3, 1) := by decide +kernel
theorem dX7_load_58 : decode cX7_load 58 = .ok (.iload_n 2, 1) := by decide +kernel
theorem dX7_load_59 : decode cX7_load 59 = .ok (.imul, 1) := by decide +kernel
theorem dX7_load_60 : decode cX7_load 60 = .ok (.iaload, 1) := by decide +kernel
theorem dX7_load_61 : decode cX7_load 61 = .ok (.istore_n 3, 1) := by decide +kernel
theorem dX7_load_62 : decode cX7_load 62 = .ok (.aload_n 0, 1) := by decide +kernel
theorem dX7_load_63 : decode cX7_load 63 = .ok (.getfield 41, 3) := by decide +kernel
theorem dX7_load_66 : decode cX7_load 66 = .ok (.iconst 3, 1) := by decide +kernel
theorem dX7_load_67 : decode cX7_load 67 = .ok (.iload_n 2, 1) := by decide +kernel
theorem dX7_load_68 : decode cX7_load 68 = .ok (.imul, 1) := by decide +kernel
theorem dX7_load_69 : decode cX7_load 69 = .ok (.iconst 1, 1) := by decide +kernel
theorem dX7_load_70 : decode cX7_load 70 = .ok (.iadd, 1) := by decide +kernel
theorem dX7_load_71 : decode cX7_load 71 = .ok (.iaload, 1) := by decide +kernel
theorem dX7_load_72 : decode cX7_load 72 = .ok (.istore 4, 2) := by decide +kernel
theorem dX7_load_74 : decode cX7_load 74 = .ok (.aload_n 0, 1) := by decide +kernel
theorem dX7_load_75 : decode cX7_load 75 = .ok (.getfield 13, 3) := by decide +kernel
theorem dX7_load_78 : decode cX7_load 78 = .ok (.iload_n 3, 1) := by decide +kernel
theorem dX7_load_79 : decode cX7_load 79 = .ok (.iaload, 1) := by decide +kernel
theorem dX7_load_80 : decode cX7_load 80 = .ok (.iload 4, 2) := by decide +kernel
theorem dX7_load_82 : decode cX7_load 82 = .ok (.invokestatic 61, 3) := by decide +kernel
theorem dX7_load_85 : decode cX7_load 85 = .ok (.ifCond .ne 13, 3) := by decide +kernel
theorem dX7_load_88 : decode cX7_load 88 = .ok (.aload_n 0, 1) := by decide +kernel
theorem dX7_load_89 : decode cX7_load 89 = .ok (.iload_n 3, 1) := by decide +kernel
theorem dX7_load_90 : decode cX7_load 90 = .ok (.iload 4, 2) := by decide +kernel
theorem dX7_load_92 : decode cX7_load 92 = .ok (.invokevirtual 111, 3) := by decide +kernel
theorem dX7_load_95 : decode cX7_load 95 = .ok (.iinc 1 1, 3) := by decide +kernel
theorem dX7_load_98 : decode cX7_load 98 = .ok (.aload_n 0, 1) := by decide +kernel
theorem dX7_load_99 : decode cX7_load 99 = .ok (.getfield 41, 3) := by decide +kernel
theorem dX7_load_102 : decode cX7_load 102 = .ok (.iconst 3, 1) := by decide +kernel
theorem dX7_load_103 : decode cX7_load 103 = .ok (.iload_n 2, 1) := by decide +kernel
theorem dX7_load_104 : decode cX7_load 104 = .ok (.imul, 1) := by decide +kernel
theorem dX7_load_105 : decode cX7_load 105 = .ok (.iconst 2, 1) := by decide +kernel
theorem dX7_load_106 : decode cX7_load 106 = .ok (.iadd, 1) := by decide +kernel
theorem dX7_load_107 : decode cX7_load 107 = .ok (.iaload, 1) := by decide +kernel
theorem dX7_load_108 : decode cX7_load 108 = .ok (.iconst 1, 1) := by decide +kernel
theorem dX7_load_109 : decode cX7_load 109 = .ok (.if_icmp .ne 31, 3) := by decide +kernel
theorem dX7_load_112 : decode cX7_load 112 = .ok (.aload_n 0, 1) := by decide +kernel
theorem dX7_load_113 : decode cX7_load 113 = .ok (.getfield 17, 3) := by decide +kernel
theorem dX7_load_116 : decode cX7_load 116 = .ok (.iload_n 3, 1) := by decide +kernel
theorem dX7_load_117 : decode cX7_load 117 = .ok (.iaload, 1) := by decide +kernel
theorem dX7_load_118 : decode cX7_load 118 = .ok (.iconst (-1), 1) := by decide +kernel
theorem dX7_load_119 : decode cX7_load 119 = .ok (.if_icmp .ne 21, 3) := by decide +kernel
theorem dX7_load_122 : decode cX7_load 122 = .ok (.aload_n 0, 1) := by decide +kernel
theorem dX7_load_123 : decode cX7_load 123 = .ok (.getfield 17, 3) := by decide +kernel
theorem dX7_load_126 : decode cX7_load 126 = .ok (.iload 4, 2) := by decide +kernel
theorem dX7_load_128 : decode cX7_load 128 = .ok (.iaload, 1) := by decide +kernel
theorem dX7_load_129 : decode cX7_load 129 = .ok (.iconst (-1), 1) := by decide +kernel
theorem dX7_load_130 : decode cX7_load 130 = .ok (.if_icmp .ne 10, 3) := by decide +kernel
theorem dX7_load_133 : decode cX7_load 133 = .ok (.aload_n 0, 1) := by decide +kernel
theorem dX7_load_134 : decode cX7_load 134 = .ok (.iload_n 3, 1) := by decide +kernel
theorem dX7_load_135 : decode cX7_load 135 = .ok (.iload 4, 2) := by decide +kernel
theorem dX7_load_137 : decode cX7_load 137 = .ok (.invokevirtual 100, 3) := by decide +kernel
theorem dX7_load_140 : decode cX7_load 140 = .ok (.iinc 2 1, 3) := by decide +kernel
theorem dX7_load_143 : decode cX7_load 143 = .ok (.goto (-98), 3) := by decide +kernel
theorem dX7_load_146 : decode cX7_load 146 = .ok (.aload_n 0, 1) := by decide +kernel
theorem dX7_load_147 : decode cX7_load 147 = .ok (.iconst 0, 1) := by decide +kernel
theorem dX7_load_148 : decode cX7_load 148 = .ok (.putfield 118, 3) := by decide +kernel
theorem dX7_load_151 : decode cX7_load 151 = .ok (.iload_n 1, 1) := by decide +kernel
theorem dX7_load_152 : decode cX7_load 152 = .ok (.ireturn, 1) := by decide +kernel
theorem dX7_size_0 : decode cX7_size 0 = .ok (.iconst 0, 1) := by decide +kernel
theorem dX7_size_1 : decode cX7_size 1 = .ok (.istore_n 1, 1) := by decide +kernel
theorem dX7_size_2 : decode cX7_size 2 = .ok (.iconst 0, 1) := by decide +kernel
theorem dX7_size_3 : decode cX7_size 3 = .ok (.istore_n 2, 1) := by decide +kernel
theorem dX7_size_4 : decode cX7_size 4 = .ok (.iload_n 2, 1) := by decide +kernel
theorem dX7_size_5 : decode cX7_size 5 = .ok (.aload_n 0, 1) := by decide +kernel
theorem dX7_size_6 : decode cX7_size 6 = .ok (.getfield 7, 3) := by decide +kernel
theorem dX7_size_9 : decode cX7_size 9 = .ok (.if_icmp .ge 27, 3) := by decide +kernel
theorem dX7_size_12 : decode cX7_size 12 = .ok (.iload_n 1, 1) := by decide +kernel
theorem dX7_size_13 : decode cX7_size 13 = .ok (.aload_n 0, 1) := by decide +kernel
theorem dX7_size_14 : decode cX7_size 14 = .ok (.getfield 17, 3) := by decide +kernel
theorem dX7_size_17 : decode cX7_size 17 = .ok (.iload_n 2, 1) := by decide +kernel
theorem dX7_size_18 : decode cX7_size 18 = .ok (.iaload, 1) := by decide +kernel
theorem dX7_size_19 : decode cX7_size 19 = .ok (.iload_n 2, 1) := by decide +kernel
theorem dX7_size_20 : decode cX7_size 20 = .ok (.if_icmp .le 7, 3) := by decide +kernel
theorem dX7_size_23 : decode cX7_size 23 = .ok (.iconst 1, 1) := by decide +kernel
theorem dX7_size_24 : decode cX7_size 24 = .ok (.goto 4, 3) := by decide +kernel
theorem dX7_size_27 : decode cX7_size 27 = .ok (.iconst 0, 1) := by decide +kernel
theorem dX7_size_28 : decode cX7_size 28 = .ok (.iadd, 1) := by decide +kernel
theorem dX7_size_29 : decode cX7_size 29 = .ok (.istore_n 1, 1) := by decide +kernel
theorem dX7_size_30 : decode cX7_size 30 = .ok (.iinc 2 1, 3) := by decide +kernel
theorem dX7_size_33 : decode cX7_size 33 = .ok (.goto (-29), 3) := by decide +kernel
theorem dX7_size_36 : decode cX7_size 36 = .ok (.iload_n 1, 1) := by decide +kernel
theorem dX7_size_37 : decode cX7_size 37 = .ok (.ireturn, 1) := by decide +kernel
theorem dX7_match_0 : decode cX7_match 0 = .ok (.aload_n 0, 1) := by decide +kernel
theorem dX7_match_1 : decode cX7_match 1 = .ok (.iload_n 1, 1) := by decide +kernel
theorem dX7_match_2 : decode cX7_match 2 = .ok (.invokevirtual 104, 3) := by decide +kernel
theorem dX7_match_5 : decode cX7_match 5 = .ok (.ifCond .eq 15, 3) := by decide +kernel
theorem dX7_match_8 : decode cX7_match 8 = .ok (.aload_n 0, 1) := by decide +kernel
theorem dX7_match_9 : decode cX7_match 9 = .ok (.iload_n 2, 1) := by decide +kernel
theorem dX7_match_10 : decode cX7_match 10 = .ok (.invokevirtual 104, 3) := by decide +kernel
theorem dX7_match_13 : decode cX7_match 13 = .ok (.ifCond .eq 7, 3) := by decide +kernel
theorem dX7_match_16 : decode cX7_match 16 = .ok (.iconst 1, 1) := by decide +kernel
theorem dX7_match_17 : decode cX7_match 17 = .ok (.goto 4, 3) := by decide +kernel
theorem dX7_match_20 : decode cX7_match 20 = .ok (.iconst 0, 1) := by decide +kernel
theorem dX7_match_21 : decode cX7_match 21 = .ok (.istore_n 3, 1) := by decide +kernel
theorem dX7_match_22 : decode cX7_match 22 = .ok (.aload_n 0, 1) := by decide +kernel
theorem dX7_match_23 : decode cX7_match 23 = .ok (.iload_n 3, 1) := by decide +kernel
theorem dX7_match_24 : decode cX7_match 24 = .ok (.ifCond .ne 7, 3) := by decide +kernel
theorem dX7_match_27 : decode cX7_match 27 = .ok (.iconst 1, 1) := by decide +kernel
theorem dX7_match_28 : decode cX7_match 28 = .ok (.goto 41, 3) := by decide +kernel
theorem dX7_match_31 : decode cX7_match 31 = .ok (.aload_n 0, 1) := by decide +kernel
theorem dX7_match_32 : decode cX7_match 32 = .ok (.getfield 13, 3) := by decide +kernel
theorem dX7_match_35 : decode cX7_match 35 = .ok (.iload_n 1, 1) := by decide +kernel
theorem dX7_match_36 : decode cX7_match 36 = .ok (.iaload, 1) := by decide +kernel
theorem dX7_match_37 : decode cX7_match 37 = .ok (.iload_n 2, 1) := by decide +kernel
theorem dX7_match_38 : decode cX7_match 38 = .ok (.invokestatic 61, 3) := by decide +kernel
theorem dX7_match_41 : decode cX7_match 41 = .ok (.ifCond .eq 23, 3) := by decide +kernel
theorem dX7_match_44 : decode cX7_match 44 = .ok (.aload_n 0, 1) := by decide +kernel
theorem dX7_match_45 : decode cX7_match 45 = .ok (.getfield 17, 3) := by decide +kernel
theorem dX7_match_48 : decode cX7_match 48 = .ok (.iload_n 1, 1) := by decide +kernel
theorem dX7_match_49 : decode cX7_match 49 = .ok (.iaload, 1) := by decide +kernel
theorem dX7_match_50 : decode cX7_match 50 = .ok (.iconst (-1), 1) := by decide +kernel
theorem dX7_match_51 : decode cX7_match 51 = .ok (.if_icmp .ne 13, 3) := by decide +kernel
theorem dX7_match_54 : decode cX7_match 54 = .ok (.aload_n 0, 1) := by decide +kernel
theorem dX7_match_55 : decode cX7_match 55 = .ok (.getfield 17, 3) := by decide +kernel
theorem dX7_match_58 : decode cX7_match 58 = .ok (.iload_n 2, 1) := by decide +kernel
theorem dX7_match_59 : decode cX7_match 59 = .ok (.iaload, 1) := by decide +kernel
theorem dX7_match_60 : decode cX7_match 60 = .ok (.iconst (-1), 1) := by decide +kernel
theorem dX7_match_61 : decode cX7_match 61 = .ok (.if_icmp .eq 7, 3) := by decide +kernel
theorem dX7_match_64 : decode cX7_match 64 = .ok (.iconst 2, 1) := by decide +kernel
theorem dX7_match_65 : decode cX7_match 65 = .ok (.goto 4, 3) := by decide +kernel
theorem dX7_match_68 : decode cX7_match 68 = .ok (.iconst 0, 1) := by decide +kernel
theorem dX7_match_69 : decode cX7_match 69 = .ok (.putfield 47, 3) := by decide +kernel
theorem dX7_match_72 : decode cX7_match 72 = .ok (.aload_n 0, 1) := by decide +kernel
theorem dX7_match_73 : decode cX7_match 73 = .ok (.getfield 47, 3) := by decide +kernel
theorem dX7_match_76 : decode cX7_match 76 = .ok (.ifCond .le 5, 3) := by decide +kernel
theorem dX7_match_79 : decode cX7_match 79 = .ok (.iconst 0, 1) := by decide +kernel
theorem dX7_match_80 : decode cX7_match 80 = .ok (.ireturn, 1) := by decide +kernel
theorem dX7_match_81 : decode cX7_match 81 = .ok (.aload_n 0, 1) := by decide +kernel
theorem dX7_match_82 : decode cX7_match 82 = .ok (.invokevirtual 108, 3) := by decide +kernel
theorem dX7_match_85 : decode cX7_match 85 = .ok (.aload_n 0, 1) := by decide +kernel
theorem dX7_match_86 : decode cX7_match 86 = .ok (.iload_n 1, 1) := by decide +kernel
theorem dX7_match_87 : decode cX7_match 87 = .ok (.iload_n 2, 1) := by decide +kernel
theorem dX7_match_88 : decode cX7_match 88 = .ok (.invokevirtual 100, 3) := by decide +kernel
theorem dX7_match_91 : decode cX7_match 91 = .ok (.aload_n 0, 1) := by decide +kernel
theorem dX7_match_92 : decode cX7_match 92 = .ok (.invokevirtual 133, 3) := by decide +kernel
theorem dX7_match_95 : decode cX7_match 95 = .ok (.ireturn, 1) := by decide +kernel
theorem dX7_unmatch_0 : decode cX7_unmatch 0 = .ok (.aload_n 0, 1) := by decide +kernel
theorem dX7_unmatch_1 : decode cX7_unmatch 1 = .ok (.aload_n 0, 1) := by decide +kernel
theorem dX7_unmatch_2 : decode cX7_unmatch 2 = .ok (.iload_n 1, 1) := by decide +kernel
theorem dX7_unmatch_3 : decode cX7_unmatch 3 = .ok (.invokevirtual 104, 3) := by decide +kernel
theorem dX7_unmatch_6 : decode cX7_unmatch 6 = .ok (.ifCond .ne 7, 3) := by decide +kernel
theorem dX7_unmatch_9 : decode cX7_unmatch 9 = .ok (.iconst 1, 1) := by decide +kernel
theorem dX7_unmatch_10 : decode cX7_unmatch 10 = .ok (.goto 18, 3) := by decide +kernel
theorem dX7_unmatch_13 : decode cX7_unmatch 13 = .ok (.aload_n 0, 1) := by decide +kernel
theorem dX7_unmatch_14 : decode cX7_unmatch 14 = .ok (.getfield 17, 3) := by decide +kernel
theorem dX7_unmatch_17 : decode cX7_unmatch 17 = .ok (.iload_n 1, 1) := by decide +kernel
theorem dX7_unmatch_18 : decode cX7_unmatch 18 = .ok (.iaload, 1) := by decide +kernel
theorem dX7_unmatch_19 : decode cX7_unmatch 19 = .ok (.iconst (-1), 1) := by decide +kernel
theorem dX7_unmatch_20 : decode cX7_unmatch 20 = .ok (.if_icmp .ne 7, 3) := by decide +kernel
theorem dX7_unmatch_23 : decode cX7_unmatch 23 = .ok (.iconst 2, 1) := by decide +kernel
theorem dX7_unmatch_24 : decode cX7_unmatch 24 = .ok (.goto 4, 3) := by decide +kernel
theorem dX7_unmatch_27 : decode cX7_unmatch 27 = .ok (.iconst 0, 1) := by decide +kernel
theorem dX7_unmatch_28 : decode cX7_unmatch 28 = .ok (.putfield 47, 3) := by decide +kernel
theorem dX7_unmatch_31 : decode cX7_unmatch 31 = .ok (.aload_n 0, 1) := by decide +kernel
theorem dX7_unmatch_32 : decode cX7_unmatch 32 = .ok (.getfield 47, 3) := by decide +kernel
theorem dX7_unmatch_35 : decode cX7_unmatch 35 = .ok (.ifCond .le 5, 3) := by decide +kernel
theorem dX7_unmatch_38 : decode cX7_unmatch 38 = .ok (.iconst 0, 1) := by decide +kernel
theorem dX7_unmatch_39 : decode cX7_unmatch 39 = .ok (.ireturn, 1) := by decide +kernel
theorem dX7_unmatch_40 : decode cX7_unmatch 40 = .ok (.aload_n 0, 1) := by decide +kernel
theorem dX7_unmatch_41 : decode cX7_unmatch 41 = .ok (.invokevirtual 108, 3) := by decide +kernel
theorem dX7_unmatch_44 : decode cX7_unmatch 44 = .ok (.aload_n 0, 1) := by decide +kernel
theorem dX7_unmatch_45 : decode cX7_unmatch 45 = .ok (.getfield 17, 3) := by decide +kernel
theorem dX7_unmatch_48 : decode cX7_unmatch 48 = .ok (.iload_n 1, 1) := by decide +kernel
theorem dX7_unmatch_49 : decode cX7_unmatch 49 = .ok (.iaload, 1) := by decide +kernel
theorem dX7_unmatch_50 : decode cX7_unmatch 50 = .ok (.istore_n 2, 1) := by decide +kernel
theorem dX7_unmatch_51 : decode cX7_unmatch 51 = .ok (.aload_n 0, 1) := by decide +kernel
theorem dX7_unmatch_52 : decode cX7_unmatch 52 = .ok (.iload_n 1, 1) := by decide +kernel
theorem dX7_unmatch_53 : decode cX7_unmatch 53 = .ok (.invokevirtual 114, 3) := by decide +kernel
theorem dX7_unmatch_56 : decode cX7_unmatch 56 = .ok (.iload_n 2, 1) := by decide +kernel
theorem dX7_unmatch_57 : decode cX7_unmatch 57 = .ok (.ireturn, 1) := by decide +kernel
theorem dX7_exposedFault_0 : decode cX7_exposedFault 0 = .ok (.aload_n 0, 1) := by decide +kernel
theorem dX7_exposedFault_1 : decode cX7_exposedFault 1 = .ok (.iload_n 1, 1) := by decide +kernel
theorem dX7_exposedFault_2 : decode cX7_exposedFault 2 = .ok (.invokevirtual 104, 3) := by decide +kernel
theorem dX7_exposedFault_5 : decode cX7_exposedFault 5 = .ok (.ifCond .ne 7, 3) := by decide +kernel
theorem dX7_exposedFault_8 : decode cX7_exposedFault 8 = .ok (.iconst 1, 1) := by decide +kernel
theorem dX7_exposedFault_9 : decode cX7_exposedFault 9 = .ok (.goto 18, 3) := by decide +kernel
theorem dX7_exposedFault_12 : decode cX7_exposedFault 12 = .ok (.aload_n 0, 1) := by decide +kernel
theorem dX7_exposedFault_13 : decode cX7_exposedFault 13 = .ok (.getfield 17, 3) := by decide +kernel
theorem dX7_exposedFault_16 : decode cX7_exposedFault 16 = .ok (.iload_n 1, 1) := by decide +kernel
theorem dX7_exposedFault_17 : decode cX7_exposedFault 17 = .ok (.iaload, 1) := by decide +kernel
theorem dX7_exposedFault_18 : decode cX7_exposedFault 18 = .ok (.iconst (-1), 1) := by decide +kernel
theorem dX7_exposedFault_19 : decode cX7_exposedFault 19 = .ok (.if_icmp .eq 7, 3) := by decide +kernel
theorem dX7_exposedFault_22 : decode cX7_exposedFault 22 = .ok (.iconst 2, 1) := by decide +kernel
theorem dX7_exposedFault_23 : decode cX7_exposedFault 23 = .ok (.goto 4, 3) := by decide +kernel
theorem dX7_exposedFault_26 : decode cX7_exposedFault 26 = .ok (.iconst 0, 1) := by decide +kernel
theorem dX7_exposedFault_27 : decode cX7_exposedFault 27 = .ok (.ireturn, 1) := by decide +kernel
theorem dX7_augment_0 : decode cX7_augment 0 = .ok (.aload_n 0, 1) := by decide +kernel
theorem dX7_augment_1 : decode cX7_augment 1 = .ok (.aload_n 0, 1) := by decide +kernel
theorem dX7_augment_2 : decode cX7_augment 2 = .ok (.iload_n 1, 1) := by decide +kernel
theorem dX7_augment_3 : decode cX7_augment 3 = .ok (.invokevirtual 136, 3) := by decide +kernel
theorem dX7_augment_6 : decode cX7_augment 6 = .ok (.putfield 47, 3) := by decide +kernel
theorem dX7_augment_9 : decode cX7_augment 9 = .ok (.aload_n 0, 1) := by decide +kernel
theorem dX7_augment_10 : decode cX7_augment 10 = .ok (.getfield 47, 3) := by decide +kernel
theorem dX7_augment_13 : decode cX7_augment 13 = .ok (.ifCond .le 5, 3) := by decide +kernel
theorem dX7_augment_16 : decode cX7_augment 16 = .ok (.iconst 0, 1) := by decide +kernel
theorem dX7_augment_17 : decode cX7_augment 17 = .ok (.ireturn, 1) := by decide +kernel
theorem dX7_augment_18 : decode cX7_augment 18 = .ok (.aload_n 0, 1) := by decide +kernel
theorem dX7_augment_19 : decode cX7_augment 19 = .ok (.invokevirtual 108, 3) := by decide +kernel
theorem dX7_augment_22 : decode cX7_augment 22 = .ok (.aload_n 0, 1) := by decide +kernel
theorem dX7_augment_23 : decode cX7_augment 23 = .ok (.iload_n 1, 1) := by decide +kernel
theorem dX7_augment_24 : decode cX7_augment 24 = .ok (.invokevirtual 139, 3) := by decide +kernel
theorem dX7_augment_27 : decode cX7_augment 27 = .ok (.ireturn, 1) := by decide +kernel
theorem dX7_lowestWithWay_0 : decode cX7_lowestWithWay 0 = .ok (.iconst 0, 1) := by decide +kernel
theorem dX7_lowestWithWay_1 : decode cX7_lowestWithWay 1 = .ok (.istore_n 1, 1) := by decide +kernel
theorem dX7_lowestWithWay_2 : decode cX7_lowestWithWay 2 = .ok (.iload_n 1, 1) := by decide +kernel
theorem dX7_lowestWithWay_3 : decode cX7_lowestWithWay 3 = .ok (.aload_n 0, 1) := by decide +kernel
theorem dX7_lowestWithWay_4 : decode cX7_lowestWithWay 4 = .ok (.getfield 7, 3) := by decide +kernel
theorem dX7_lowestWithWay_7 : decode cX7_lowestWithWay 7 = .ok (.if_icmp .ge 27, 3) := by decide +kernel
theorem dX7_lowestWithWay_10 : decode cX7_lowestWithWay 10 = .ok (.aload_n 0, 1) := by decide +kernel
theorem dX7_lowestWithWay_11 : decode cX7_lowestWithWay 11 = .ok (.getfield 17, 3) := by decide +kernel
theorem dX7_lowestWithWay_14 : decode cX7_lowestWithWay 14 = .ok (.iload_n 1, 1) := by decide +kernel
theorem dX7_lowestWithWay_15 : decode cX7_lowestWithWay 15 = .ok (.iaload, 1) := by decide +kernel
theorem dX7_lowestWithWay_16 : decode cX7_lowestWithWay 16 = .ok (.iconst (-1), 1) := by decide +kernel
theorem dX7_lowestWithWay_17 : decode cX7_lowestWithWay 17 = .ok (.if_icmp .ne 11, 3) := by decide +kernel
theorem dX7_lowestWithWay_20 : decode cX7_lowestWithWay 20 = .ok (.aload_n 0, 1) := by decide +kernel
theorem dX7_lowestWithWay_21 : decode cX7_lowestWithWay 21 = .ok (.iload_n 1, 1) := by decide +kernel
theorem dX7_lowestWithWay_22 : decode cX7_lowestWithWay 22 = .ok (.invokevirtual 97, 3) := by decide +kernel
theorem dX7_lowestWithWay_25 : decode cX7_lowestWithWay 25 = .ok (.ifCond .ne 9, 3) := by decide +kernel
theorem dX7_lowestWithWay_28 : decode cX7_lowestWithWay 28 = .ok (.iinc 1 1, 3) := by decide +kernel
theorem dX7_lowestWithWay_31 : decode cX7_lowestWithWay 31 = .ok (.goto (-29), 3) := by decide +kernel
theorem dX7_lowestWithWay_34 : decode cX7_lowestWithWay 34 = .ok (.iload_n 1, 1) := by decide +kernel
theorem dX7_lowestWithWay_35 : decode cX7_lowestWithWay 35 = .ok (.ireturn, 1) := by decide +kernel
theorem dX7_maximize_0 : decode cX7_maximize 0 = .ok (.aload_n 0, 1) := by decide +kernel
theorem dX7_maximize_1 : decode cX7_maximize 1 = .ok (.iconst 0, 1) := by decide +kernel
theorem dX7_maximize_2 : decode cX7_maximize 2 = .ok (.putfield 47, 3) := by decide +kernel
theorem dX7_maximize_5 : decode cX7_maximize 5 = .ok (.aload_n 0, 1) := by decide +kernel
theorem dX7_maximize_6 : decode cX7_maximize 6 = .ok (.invokevirtual 108, 3) := by decide +kernel
theorem dX7_maximize_9 : decode cX7_maximize 9 = .ok (.iconst 0, 1) := by decide +kernel
theorem dX7_maximize_10 : decode cX7_maximize 10 = .ok (.istore_n 1, 1) := by decide +kernel
theorem dX7_maximize_11 : decode cX7_maximize 11 = .ok (.aload_n 0, 1) := by decide +kernel
theorem dX7_maximize_12 : decode cX7_maximize 12 = .ok (.invokevirtual 142, 3) := by decide +kernel
theorem dX7_maximize_15 : decode cX7_maximize 15 = .ok (.istore_n 2, 1) := by decide +kernel
theorem dX7_maximize_16 : decode cX7_maximize 16 = .ok (.iload_n 2, 1) := by decide +kernel
theorem dX7_maximize_17 : decode cX7_maximize 17 = .ok (.aload_n 0, 1) := by decide +kernel
theorem dX7_maximize_18 : decode cX7_maximize 18 = .ok (.getfield 7, 3) := by decide +kernel
theorem dX7_maximize_21 : decode cX7_maximize 21 = .ok (.if_icmp .ge 20, 3) := by decide +kernel
theorem dX7_maximize_24 : decode cX7_maximize 24 = .ok (.aload_n 0, 1) := by decide +kernel
theorem dX7_maximize_25 : decode cX7_maximize 25 = .ok (.iload_n 2, 1) := by decide +kernel
theorem dX7_maximize_26 : decode cX7_maximize 26 = .ok (.invokevirtual 139, 3) := by decide +kernel
theorem dX7_maximize_29 : decode cX7_maximize 29 = .ok (.pop, 1) := by decide +kernel
theorem dX7_maximize_30 : decode cX7_maximize 30 = .ok (.iinc 1 1, 3) := by decide +kernel
theorem dX7_maximize_33 : decode cX7_maximize 33 = .ok (.aload_n 0, 1) := by decide +kernel
theorem dX7_maximize_34 : decode cX7_maximize 34 = .ok (.invokevirtual 142, 3) := by decide +kernel
theorem dX7_maximize_37 : decode cX7_maximize 37 = .ok (.istore_n 2, 1) := by decide +kernel
theorem dX7_maximize_38 : decode cX7_maximize 38 = .ok (.goto (-22), 3) := by decide +kernel
theorem dX7_maximize_41 : decode cX7_maximize 41 = .ok (.iload_n 1, 1) := by decide +kernel
theorem dX7_maximize_42 : decode cX7_maximize 42 = .ok (.ireturn, 1) := by decide +kernel
theorem dX7_takeFirst_0 : decode cX7_takeFirst 0 = .ok (.aload_n 0, 1) := by decide +kernel
theorem dX7_takeFirst_1 : decode cX7_takeFirst 1 = .ok (.iconst 0, 1) := by decide +kernel
theorem dX7_takeFirst_2 : decode cX7_takeFirst 2 = .ok (.putfield 47, 3) := by decide +kernel
theorem dX7_takeFirst_5 : decode cX7_takeFirst 5 = .ok (.aload_n 0, 1) := by decide +kernel
theorem dX7_takeFirst_6 : decode cX7_takeFirst 6 = .ok (.invokevirtual 108, 3) := by decide +kernel
theorem dX7_takeFirst_9 : decode cX7_takeFirst 9 = .ok (.aload_n 0, 1) := by decide +kernel
theorem dX7_takeFirst_10 : decode cX7_takeFirst 10 = .ok (.invokevirtual 145, 3) := by decide +kernel
theorem dX7_takeFirst_13 : decode cX7_takeFirst 13 = .ok (.aload_n 0, 1) := by decide +kernel
theorem dX7_takeFirst_14 : decode cX7_takeFirst 14 = .ok (.invokevirtual 148, 3) := by decide +kernel
theorem dX7_takeFirst_17 : decode cX7_takeFirst 17 = .ok (.iconst 0, 1) := by decide +kernel
theorem dX7_takeFirst_18 : decode cX7_takeFirst 18 = .ok (.istore_n 1, 1) := by decide +kernel
theorem dX7_takeFirst_19 : decode cX7_takeFirst 19 = .ok (.iconst 0, 1) := by decide +kernel
theorem dX7_takeFirst_20 : decode cX7_takeFirst 20 = .ok (.istore_n 2, 1) := by decide +kernel
theorem dX7_takeFirst_21 : decode cX7_takeFirst 21 = .ok (.iload_n 2, 1) := by decide +kernel
theorem dX7_takeFirst_22 : decode cX7_takeFirst 22 = .ok (.aload_n 0, 1) := by decide +kernel
theorem dX7_takeFirst_23 : decode cX7_takeFirst 23 = .ok (.getfield 7, 3) := by decide +kernel
theorem dX7_takeFirst_26 : decode cX7_takeFirst 26 = .ok (.if_icmp .ge 42, 3) := by decide +kernel
theorem dX7_takeFirst_29 : decode cX7_takeFirst 29 = .ok (.iload_n 1, 1) := by decide +kernel
theorem dX7_takeFirst_30 : decode cX7_takeFirst 30 = .ok (.aload_n 0, 1) := by decide +kernel
theorem dX7_takeFirst_31 : decode cX7_takeFirst 31 = .ok (.getfield 32, 3) := by decide +kernel
theorem dX7_takeFirst_34 : decode cX7_takeFirst 34 = .ok (.iload_n 2, 1) := by decide +kernel
theorem dX7_takeFirst_35 : decode cX7_takeFirst 35 = .ok (.iaload, 1) := by decide +kernel
theorem dX7_takeFirst_36 : decode cX7_takeFirst 36 = .ok (.iload_n 2, 1) := by decide +kernel
theorem dX7_takeFirst_37 : decode cX7_takeFirst 37 = .ok (.if_icmp .le 22, 3) := by decide +kernel
theorem dX7_takeFirst_40 : decode cX7_takeFirst 40 = .ok (.aload_n 0, 1) := by decide +kernel
theorem dX7_takeFirst_41 : decode cX7_takeFirst 41 = .ok (.getfield 17, 3) := by decide +kernel
theorem dX7_takeFirst_44 : decode cX7_takeFirst 44 = .ok (.iload_n 2, 1) := by decide +kernel
theorem dX7_takeFirst_45 : decode cX7_takeFirst 45 = .ok (.iaload, 1) := by decide +kernel
theorem dX7_takeFirst_46 : decode cX7_takeFirst 46 = .ok (.aload_n 0, 1) := by decide +kernel
theorem dX7_takeFirst_47 : decode cX7_takeFirst 47 = .ok (.getfield 32, 3) := by decide +kernel
theorem dX7_takeFirst_50 : decode cX7_takeFirst 50 = .ok (.iload_n 2, 1) := by decide +kernel
theorem dX7_takeFirst_51 : decode cX7_takeFirst 51 = .ok (.iaload, 1) := by decide +kernel
theorem dX7_takeFirst_52 : decode cX7_takeFirst 52 = .ok (.if_icmp .eq 7, 3) := by decide +kernel
theorem dX7_takeFirst_55 : decode cX7_takeFirst 55 = .ok (.iconst 1, 1) := by decide +kernel
theorem dX7_takeFirst_56 : decode cX7_takeFirst 56 = .ok (.goto 4, 3) := by decide +kernel
theorem dX7_takeFirst_59 : decode cX7_takeFirst 59 = .ok (.iconst 0, 1) := by decide +kernel
theorem dX7_takeFirst_60 : decode cX7_takeFirst 60 = .ok (.iadd, 1) := by decide +kernel
theorem dX7_takeFirst_61 : decode cX7_takeFirst 61 = .ok (.istore_n 1, 1) := by decide +kernel
theorem dX7_takeFirst_62 : decode cX7_takeFirst 62 = .ok (.iinc 2 1, 3) := by decide +kernel
theorem dX7_takeFirst_65 : decode cX7_takeFirst 65 = .ok (.goto (-44), 3) := by decide +kernel
theorem dX7_takeFirst_68 : decode cX7_takeFirst 68 = .ok (.iconst 0, 1) := by decide +kernel
theorem dX7_takeFirst_69 : decode cX7_takeFirst 69 = .ok (.istore_n 2, 1) := by decide +kernel
theorem dX7_takeFirst_70 : decode cX7_takeFirst 70 = .ok (.iload_n 2, 1) := by decide +kernel
theorem dX7_takeFirst_71 : decode cX7_takeFirst 71 = .ok (.aload_n 0, 1) := by decide +kernel
theorem dX7_takeFirst_72 : decode cX7_takeFirst 72 = .ok (.getfield 7, 3) := by decide +kernel
theorem dX7_takeFirst_75 : decode cX7_takeFirst 75 = .ok (.if_icmp .ge 21, 3) := by decide +kernel
theorem dX7_takeFirst_78 : decode cX7_takeFirst 78 = .ok (.aload_n 0, 1) := by decide +kernel
theorem dX7_takeFirst_79 : decode cX7_takeFirst 79 = .ok (.getfield 17, 3) := by decide +kernel
theorem dX7_takeFirst_82 : decode cX7_takeFirst 82 = .ok (.iload_n 2, 1) := by decide +kernel
theorem dX7_takeFirst_83 : decode cX7_takeFirst 83 = .ok (.aload_n 0, 1) := by decide +kernel
theorem dX7_takeFirst_84 : decode cX7_takeFirst 84 = .ok (.getfield 32, 3) := by decide +kernel
theorem dX7_takeFirst_87 : decode cX7_takeFirst 87 = .ok (.iload_n 2, 1) := by decide +kernel
theorem dX7_takeFirst_88 : decode cX7_takeFirst 88 = .ok (.iaload, 1) := by decide +kernel
theorem dX7_takeFirst_89 : decode cX7_takeFirst 89 = .ok (.iastore, 1) := by decide +kernel
theorem dX7_takeFirst_90 : decode cX7_takeFirst 90 = .ok (.iinc 2 1, 3) := by decide +kernel
theorem dX7_takeFirst_93 : decode cX7_takeFirst 93 = .ok (.goto (-23), 3) := by decide +kernel
theorem dX7_takeFirst_96 : decode cX7_takeFirst 96 = .ok (.iload_n 1, 1) := by decide +kernel
theorem dX7_takeFirst_97 : decode cX7_takeFirst 97 = .ok (.ireturn, 1) := by decide +kernel
theorem dX7_undo_0 : decode cX7_undo 0 = .ok (.aload_n 0, 1) := by decide +kernel
theorem dX7_undo_1 : decode cX7_undo 1 = .ok (.aload_n 0, 1) := by decide +kernel
theorem dX7_undo_2 : decode cX7_undo 2 = .ok (.getfield 54, 3) := by decide +kernel
theorem dX7_undo_5 : decode cX7_undo 5 = .ok (.ifCond .le 7, 3) := by decide +kernel
theorem dX7_undo_8 : decode cX7_undo 8 = .ok (.iconst 0, 1) := by decide +kernel
theorem dX7_undo_9 : decode cX7_undo 9 = .ok (.goto 4, 3) := by decide +kernel
theorem dX7_undo_12 : decode cX7_undo 12 = .ok (.iconst 1, 1) := by decide +kernel
theorem dX7_undo_13 : decode cX7_undo 13 = .ok (.putfield 47, 3) := by decide +kernel
theorem dX7_undo_16 : decode cX7_undo 16 = .ok (.aload_n 0, 1) := by decide +kernel
theorem dX7_undo_17 : decode cX7_undo 17 = .ok (.getfield 47, 3) := by decide +kernel
theorem dX7_undo_20 : decode cX7_undo 20 = .ok (.ifCond .le 5, 3) := by decide +kernel
theorem dX7_undo_23 : decode cX7_undo 23 = .ok (.iconst 0, 1) := by decide +kernel
theorem dX7_undo_24 : decode cX7_undo 24 = .ok (.ireturn, 1) := by decide +kernel
theorem dX7_undo_25 : decode cX7_undo 25 = .ok (.aload_n 0, 1) := by decide +kernel
theorem dX7_undo_26 : decode cX7_undo 26 = .ok (.dup, 1) := by decide +kernel
theorem dX7_undo_27 : decode cX7_undo 27 = .ok (.getfield 54, 3) := by decide +kernel
theorem dX7_undo_30 : decode cX7_undo 30 = .ok (.iconst 1, 1) := by decide +kernel
theorem dX7_undo_31 : decode cX7_undo 31 = .ok (.isub, 1) := by decide +kernel
theorem dX7_undo_32 : decode cX7_undo 32 = .ok (.putfield 54, 3) := by decide +kernel
theorem dX7_undo_35 : decode cX7_undo 35 = .ok (.iconst 0, 1) := by decide +kernel
theorem dX7_undo_36 : decode cX7_undo 36 = .ok (.istore_n 1, 1) := by decide +kernel
theorem dX7_undo_37 : decode cX7_undo 37 = .ok (.iload_n 1, 1) := by decide +kernel
theorem dX7_undo_38 : decode cX7_undo 38 = .ok (.bipush 12, 2) := by decide +kernel
theorem dX7_undo_40 : decode cX7_undo 40 = .ok (.if_icmp .ge 52, 3) := by decide +kernel
theorem dX7_undo_43 : decode cX7_undo 43 = .ok (.aload_n 0, 1) := by decide +kernel
theorem dX7_undo_44 : decode cX7_undo 44 = .ok (.getfield 13, 3) := by decide +kernel
theorem dX7_undo_47 : decode cX7_undo 47 = .ok (.iload_n 1, 1) := by decide +kernel
theorem dX7_undo_48 : decode cX7_undo 48 = .ok (.aload_n 0, 1) := by decide +kernel
theorem dX7_undo_49 : decode cX7_undo 49 = .ok (.getfield 20, 3) := by decide +kernel
theorem dX7_undo_52 : decode cX7_undo 52 = .ok (.bipush 24, 2) := by decide +kernel
theorem dX7_undo_54 : decode cX7_undo 54 = .ok (.aload_n 0, 1) := by decide +kernel
theorem dX7_undo_55 : decode cX7_undo 55 = .ok (.getfield 54, 3) := by decide +kernel
theorem dX7_undo_58 : decode cX7_undo 58 = .ok (.imul, 1) := by decide +kernel
theorem dX7_undo_59 : decode cX7_undo 59 = .ok (.iload_n 1, 1) := by decide +kernel
theorem dX7_undo_60 : decode cX7_undo 60 = .ok (.iadd, 1) := by decide +kernel
theorem dX7_undo_61 : decode cX7_undo 61 = .ok (.iaload, 1) := by decide +kernel
theorem dX7_undo_62 : decode cX7_undo 62 = .ok (.iastore, 1) := by decide +kernel
theorem dX7_undo_63 : decode cX7_undo 63 = .ok (.aload_n 0, 1) := by decide +kernel
theorem dX7_undo_64 : decode cX7_undo 64 = .ok (.getfield 17, 3) := by decide +kernel
theorem dX7_undo_67 : decode cX7_undo 67 = .ok (.iload_n 1, 1) := by decide +kernel
theorem dX7_undo_68 : decode cX7_undo 68 = .ok (.aload_n 0, 1) := by decide +kernel
theorem dX7_undo_69 : decode cX7_undo 69 = .ok (.getfield 20, 3) := by decide +kernel
theorem dX7_undo_72 : decode cX7_undo 72 = .ok (.bipush 24, 2) := by decide +kernel
theorem dX7_undo_74 : decode cX7_undo 74 = .ok (.aload_n 0, 1) := by decide +kernel
theorem dX7_undo_75 : decode cX7_undo 75 = .ok (.getfield 54, 3) := by decide +kernel
theorem dX7_undo_78 : decode cX7_undo 78 = .ok (.imul, 1) := by decide +kernel
theorem dX7_undo_79 : decode cX7_undo 79 = .ok (.bipush 12, 2) := by decide +kernel
theorem dX7_undo_81 : decode cX7_undo 81 = .ok (.iadd, 1) := by decide +kernel
theorem dX7_undo_82 : decode cX7_undo 82 = .ok (.iload_n 1, 1) := by decide +kernel
theorem dX7_undo_83 : decode cX7_undo 83 = .ok (.iadd, 1) := by decide +kernel
theorem dX7_undo_84 : decode cX7_undo 84 = .ok (.iaload, 1) := by decide +kernel
theorem dX7_undo_85 : decode cX7_undo 85 = .ok (.iastore, 1) := by decide +kernel
theorem dX7_undo_86 : decode cX7_undo 86 = .ok (.iinc 1 1, 3) := by decide +kernel
theorem dX7_undo_89 : decode cX7_undo 89 = .ok (.goto (-52), 3) := by decide +kernel
theorem dX7_undo_92 : decode cX7_undo 92 = .ok (.aload_n 0, 1) := by decide +kernel
theorem dX7_undo_93 : decode cX7_undo 93 = .ok (.getfield 54, 3) := by decide +kernel
theorem dX7_undo_96 : decode cX7_undo 96 = .ok (.ireturn, 1) := by decide +kernel
theorem dX7_way_0 : decode cX7_way 0 = .ok (.aload_n 0, 1) := by decide +kernel
theorem dX7_way_1 : decode cX7_way 1 = .ok (.aload_n 0, 1) := by decide +kernel
theorem dX7_way_2 : decode cX7_way 2 = .ok (.iload_n 1, 1) := by decide +kernel
theorem dX7_way_3 : decode cX7_way 3 = .ok (.invokevirtual 136, 3) := by decide +kernel
theorem dX7_way_6 : decode cX7_way 6 = .ok (.putfield 47, 3) := by decide +kernel
theorem dX7_way_9 : decode cX7_way 9 = .ok (.aload_n 0, 1) := by decide +kernel
theorem dX7_way_10 : decode cX7_way 10 = .ok (.getfield 47, 3) := by decide +kernel
theorem dX7_way_13 : decode cX7_way 13 = .ok (.ifCond .le 7, 3) := by decide +kernel
theorem dX7_way_16 : decode cX7_way 16 = .ok (.iconst 0, 1) := by decide +kernel
theorem dX7_way_17 : decode cX7_way 17 = .ok (.goto 8, 3) := by decide +kernel
theorem dX7_way_20 : decode cX7_way 20 = .ok (.aload_n 0, 1) := by decide +kernel
theorem dX7_way_21 : decode cX7_way 21 = .ok (.iload_n 1, 1) := by decide +kernel
theorem dX7_way_22 : decode cX7_way 22 = .ok (.invokevirtual 97, 3) := by decide +kernel
theorem dX7_way_25 : decode cX7_way 25 = .ok (.ireturn, 1) := by decide +kernel
theorem dX7_wayNode_0 : decode cX7_wayNode 0 = .ok (.aload_n 0, 1) := by decide +kernel
theorem dX7_wayNode_1 : decode cX7_wayNode 1 = .ok (.aload_n 0, 1) := by decide +kernel
theorem dX7_wayNode_2 : decode cX7_wayNode 2 = .ok (.iload_n 1, 1) := by decide +kernel
theorem dX7_wayNode_3 : decode cX7_wayNode 3 = .ok (.invokevirtual 136, 3) := by decide +kernel
theorem dX7_wayNode_6 : decode cX7_wayNode 6 = .ok (.putfield 47, 3) := by decide +kernel
theorem dX7_wayNode_9 : decode cX7_wayNode 9 = .ok (.aload_n 0, 1) := by decide +kernel
theorem dX7_wayNode_10 : decode cX7_wayNode 10 = .ok (.getfield 47, 3) := by decide +kernel
theorem dX7_wayNode_13 : decode cX7_wayNode 13 = .ok (.ifCond .le 5, 3) := by decide +kernel
theorem dX7_wayNode_16 : decode cX7_wayNode 16 = .ok (.iconst 0, 1) := by decide +kernel
theorem dX7_wayNode_17 : decode cX7_wayNode 17 = .ok (.ireturn, 1) := by decide +kernel
theorem dX7_wayNode_18 : decode cX7_wayNode 18 = .ok (.aload_n 0, 1) := by decide +kernel
theorem dX7_wayNode_19 : decode cX7_wayNode 19 = .ok (.iload_n 1, 1) := by decide +kernel
theorem dX7_wayNode_20 : decode cX7_wayNode 20 = .ok (.invokevirtual 97, 3) := by decide +kernel
theorem dX7_wayNode_23 : decode cX7_wayNode 23 = .ok (.istore_n 3, 1) := by decide +kernel
theorem dX7_wayNode_24 : decode cX7_wayNode 24 = .ok (.iload_n 3, 1) := by decide +kernel
theorem dX7_wayNode_25 : decode cX7_wayNode 25 = .ok (.ifCond .le 21, 3) := by decide +kernel
theorem dX7_wayNode_28 : decode cX7_wayNode 28 = .ok (.iload_n 2, 1) := by decide +kernel
theorem dX7_wayNode_29 : decode cX7_wayNode 29 = .ok (.iconst 0, 1) := by decide +kernel
theorem dX7_wayNode_30 : decode cX7_wayNode 30 = .ok (.iload_n 3, 1) := by decide +kernel
theorem dX7_wayNode_31 : decode cX7_wayNode 31 = .ok (.invokestatic 50, 3) := by decide +kernel
theorem dX7_wayNode_34 : decode cX7_wayNode 34 = .ok (.ifCond .eq 12, 3) := by decide +kernel
theorem dX7_wayNode_37 : decode cX7_wayNode 37 = .ok (.aload_n 0, 1) := by decide +kernel
theorem dX7_wayNode_38 : decode cX7_wayNode 38 = .ok (.getfield 35, 3) := by decide +kernel
theorem dX7_wayNode_41 : decode cX7_wayNode 41 = .ok (.iload_n 2, 1) := by decide +kernel
theorem dX7_wayNode_42 : decode cX7_wayNode 42 = .ok (.iaload, 1) := by decide +kernel
theorem dX7_wayNode_43 : decode cX7_wayNode 43 = .ok (.goto 4, 3) := by decide +kernel
theorem dX7_wayNode_46 : decode cX7_wayNode 46 = .ok (.iconst (-1), 1) := by decide +kernel
theorem dX7_wayNode_47 : decode cX7_wayNode 47 = .ok (.ireturn, 1) := by decide +kernel
theorem dX7_reach_0 : decode cX7_reach 0 = .ok (.aload_n 0, 1) := by decide +kernel
theorem dX7_reach_1 : decode cX7_reach 1 = .ok (.aload_n 0, 1) := by decide +kernel
theorem dX7_reach_2 : decode cX7_reach 2 = .ok (.iload_n 1, 1) := by decide +kernel
theorem dX7_reach_3 : decode cX7_reach 3 = .ok (.invokevirtual 104, 3) := by decide +kernel
theorem dX7_reach_6 : decode cX7_reach 6 = .ok (.ifCond .eq 7, 3) := by decide +kernel
theorem dX7_reach_9 : decode cX7_reach 9 = .ok (.iconst 0, 1) := by decide +kernel
theorem dX7_reach_10 : decode cX7_reach 10 = .ok (.goto 4, 3) := by decide +kernel
theorem dX7_reach_13 : decode cX7_reach 13 = .ok (.iconst 1, 1) := by decide +kernel
theorem dX7_reach_14 : decode cX7_reach 14 = .ok (.putfield 47, 3) := by decide +kernel
theorem dX7_reach_17 : decode cX7_reach 17 = .ok (.aload_n 0, 1) := by decide +kernel
theorem dX7_reach_18 : decode cX7_reach 18 = .ok (.getfield 47, 3) := by decide +kernel
theorem dX7_reach_21 : decode cX7_reach 21 = .ok (.ifCond .le 5, 3) := by decide +kernel
theorem dX7_reach_24 : decode cX7_reach 24 = .ok (.iconst 0, 1) := by decide +kernel
theorem dX7_reach_25 : decode cX7_reach 25 = .ok (.ireturn, 1) := by decide +kernel
theorem dX7_reach_26 : decode cX7_reach 26 = .ok (.aload_n 0, 1) := by decide +kernel
theorem dX7_reach_27 : decode cX7_reach 27 = .ok (.iload_n 1, 1) := by decide +kernel
theorem dX7_reach_28 : decode cX7_reach 28 = .ok (.invokevirtual 151, 3) := by decide +kernel
theorem dX7_reach_31 : decode cX7_reach 31 = .ok (.iload_n 2, 1) := by decide +kernel
theorem dX7_reach_32 : decode cX7_reach 32 = .ok (.ifCond .eq 10, 3) := by decide +kernel
theorem dX7_reach_35 : decode cX7_reach 35 = .ok (.aload_n 0, 1) := by decide +kernel
theorem dX7_reach_36 : decode cX7_reach 36 = .ok (.getfield 87, 3) := by decide +kernel
theorem dX7_reach_39 : decode cX7_reach 39 = .ok (.goto 7, 3) := by decide +kernel
theorem dX7_reach_42 : decode cX7_reach 42 = .ok (.aload_n 0, 1) := by decide +kernel
theorem dX7_reach_43 : decode cX7_reach 43 = .ok (.getfield 84, 3) := by decide +kernel
theorem dX7_reach_46 : decode cX7_reach 46 = .ok (.ireturn, 1) := by decide +kernel
theorem dX7_oddWalk_0 : decode cX7_oddWalk 0 = .ok (.iconst 1, 1) := by decide +kernel
theorem dX7_oddWalk_1 : decode cX7_oddWalk 1 = .ok (.iload_n 1, 1) := by decide +kernel
theorem dX7_oddWalk_2 : decode cX7_oddWalk 2 = .ok (.ishl, 1) := by decide +kernel
theorem dX7_oddWalk_3 : decode cX7_oddWalk 3 = .ok (.istore_n 2, 1) := by decide +kernel
theorem dX7_oddWalk_4 : decode cX7_oddWalk 4 = .ok (.iconst 0, 1) := by decide +kernel
theorem dX7_oddWalk_5 : decode cX7_oddWalk 5 = .ok (.istore_n 3, 1) := by decide +kernel
theorem dX7_oddWalk_6 : decode cX7_oddWalk 6 = .ok (.iconst 1, 1) := by decide +kernel
theorem dX7_oddWalk_7 : decode cX7_oddWalk 7 = .ok (.istore 4, 2) := by decide +kernel
theorem dX7_oddWalk_9 : decode cX7_oddWalk 9 = .ok (.iload 4, 2) := by decide +kernel
theorem dX7_oddWalk_11 : decode cX7_oddWalk 11 = .ok (.iconst 2, 1) := by decide +kernel
theorem dX7_oddWalk_12 : decode cX7_oddWalk 12 = .ok (.aload_n 0, 1) := by decide +kernel
theorem dX7_oddWalk_13 : decode cX7_oddWalk 13 = .ok (.getfield 7, 3) := by decide +kernel
theorem dX7_oddWalk_16 : decode cX7_oddWalk 16 = .ok (.imul, 1) := by decide +kernel
theorem dX7_oddWalk_17 : decode cX7_oddWalk 17 = .ok (.if_icmp .gt 115, 3) := by decide +kernel
theorem dX7_oddWalk_20 : decode cX7_oddWalk 20 = .ok (.iload 4, 2) := by decide +kernel
theorem dX7_oddWalk_22 : decode cX7_oddWalk 22 = .ok (.iconst 2, 1) := by decide +kernel
theorem dX7_oddWalk_23 : decode cX7_oddWalk 23 = .ok (.irem, 1) := by decide +kernel
theorem dX7_oddWalk_24 : decode cX7_oddWalk 24 = .ok (.iconst 1, 1) := by decide +kernel
theorem dX7_oddWalk_25 : decode cX7_oddWalk 25 = .ok (.if_icmp .ne 7, 3) := by decide +kernel
theorem dX7_oddWalk_28 : decode cX7_oddWalk 28 = .ok (.iload_n 2, 1) := by decide +kernel
theorem dX7_oddWalk_29 : decode cX7_oddWalk 29 = .ok (.goto 4, 3) := by decide +kernel
theorem dX7_oddWalk_32 : decode cX7_oddWalk 32 = .ok (.iload_n 3, 1) := by decide +kernel
theorem dX7_oddWalk_33 : decode cX7_oddWalk 33 = .ok (.istore 5, 2) := by decide +kernel
theorem dX7_oddWalk_35 : decode cX7_oddWalk 35 = .ok (.iconst 0, 1) := by decide +kernel
theorem dX7_oddWalk_36 : decode cX7_oddWalk 36 = .ok (.istore 6, 2) := by decide +kernel
theorem dX7_oddWalk_38 : decode cX7_oddWalk 38 = .ok (.iconst 0, 1) := by decide +kernel
theorem dX7_oddWalk_39 : decode cX7_oddWalk 39 = .ok (.istore 7, 2) := by decide +kernel
theorem dX7_oddWalk_41 : decode cX7_oddWalk 41 = .ok (.iload 7, 2) := by decide +kernel
theorem dX7_oddWalk_43 : decode cX7_oddWalk 43 = .ok (.aload_n 0, 1) := by decide +kernel
theorem dX7_oddWalk_44 : decode cX7_oddWalk 44 = .ok (.getfield 7, 3) := by decide +kernel
theorem dX7_oddWalk_47 : decode cX7_oddWalk 47 = .ok (.if_icmp .ge 35, 3) := by decide +kernel
theorem dX7_oddWalk_50 : decode cX7_oddWalk 50 = .ok (.iload 6, 2) := by decide +kernel
theorem dX7_oddWalk_52 : decode cX7_oddWalk 52 = .ok (.iload 5, 2) := by decide +kernel
theorem dX7_oddWalk_54 : decode cX7_oddWalk 54 = .ok (.iload 7, 2) := by decide +kernel
theorem dX7_oddWalk_56 : decode cX7_oddWalk 56 = .ok (.invokestatic 61, 3) := by decide +kernel
theorem dX7_oddWalk_59 : decode cX7_oddWalk 59 = .ok (.ifCond .eq 13, 3) := by decide +kernel
theorem dX7_oddWalk_62 : decode cX7_oddWalk 62 = .ok (.aload_n 0, 1) := by decide +kernel
theorem dX7_oddWalk_63 : decode cX7_oddWalk 63 = .ok (.getfield 13, 3) := by decide +kernel
theorem dX7_oddWalk_66 : decode cX7_oddWalk 66 = .ok (.iload 7, 2) := by decide +kernel
theorem dX7_oddWalk_68 : decode cX7_oddWalk 68 = .ok (.iaload, 1) := by decide +kernel
theorem dX7_oddWalk_69 : decode cX7_oddWalk 69 = .ok (.goto 4, 3) := by decide +kernel
theorem dX7_oddWalk_72 : decode cX7_oddWalk 72 = .ok (.iconst 0, 1) := by decide +kernel
theorem dX7_oddWalk_73 : decode cX7_oddWalk 73 = .ok (.ior, 1) := by decide +kernel
theorem dX7_oddWalk_74 : decode cX7_oddWalk 74 = .ok (.istore 6, 2) := by decide +kernel
theorem dX7_oddWalk_76 : decode cX7_oddWalk 76 = .ok (.iinc 7 1, 3) := by decide +kernel
theorem dX7_oddWalk_79 : decode cX7_oddWalk 79 = .ok (.goto (-38), 3) := by decide +kernel
theorem dX7_oddWalk_82 : decode cX7_oddWalk 82 = .ok (.iload_n 2, 1) := by decide +kernel
theorem dX7_oddWalk_83 : decode cX7_oddWalk 83 = .ok (.iload 4, 2) := by decide +kernel
theorem dX7_oddWalk_85 : decode cX7_oddWalk 85 = .ok (.iconst 2, 1) := by decide +kernel
theorem dX7_oddWalk_86 : decode cX7_oddWalk 86 = .ok (.irem, 1) := by decide +kernel
theorem dX7_oddWalk_87 : decode cX7_oddWalk 87 = .ok (.ifCond .ne 8, 3) := by decide +kernel
theorem dX7_oddWalk_90 : decode cX7_oddWalk 90 = .ok (.iload 6, 2) := by decide +kernel
theorem dX7_oddWalk_92 : decode cX7_oddWalk 92 = .ok (.goto 4, 3) := by decide +kernel
theorem dX7_oddWalk_95 : decode cX7_oddWalk 95 = .ok (.iconst 0, 1) := by decide +kernel
theorem dX7_oddWalk_96 : decode cX7_oddWalk 96 = .ok (.ior, 1) := by decide +kernel
theorem dX7_oddWalk_97 : decode cX7_oddWalk 97 = .ok (.istore_n 2, 1) := by decide +kernel
theorem dX7_oddWalk_98 : decode cX7_oddWalk 98 = .ok (.iload_n 3, 1) := by decide +kernel
theorem dX7_oddWalk_99 : decode cX7_oddWalk 99 = .ok (.iload 4, 2) := by decide +kernel
theorem dX7_oddWalk_101 : decode cX7_oddWalk 101 = .ok (.iconst 2, 1) := by decide +kernel
theorem dX7_oddWalk_102 : decode cX7_oddWalk 102 = .ok (.irem, 1) := by decide +kernel
theorem dX7_oddWalk_103 : decode cX7_oddWalk 103 = .ok (.iconst 1, 1) := by decide +kernel
theorem dX7_oddWalk_104 : decode cX7_oddWalk 104 = .ok (.if_icmp .ne 8, 3) := by decide +kernel
theorem dX7_oddWalk_107 : decode cX7_oddWalk 107 = .ok (.iload 6, 2) := by decide +kernel
theorem dX7_oddWalk_109 : decode cX7_oddWalk 109 = .ok (.goto 4, 3) := by decide +kernel
theorem dX7_oddWalk_112 : decode cX7_oddWalk 112 = .ok (.iconst 0, 1) := by decide +kernel
theorem dX7_oddWalk_113 : decode cX7_oddWalk 113 = .ok (.ior, 1) := by decide +kernel
theorem dX7_oddWalk_114 : decode cX7_oddWalk 114 = .ok (.istore_n 3, 1) := by decide +kernel
theorem dX7_oddWalk_115 : decode cX7_oddWalk 115 = .ok (.iload_n 3, 1) := by decide +kernel
theorem dX7_oddWalk_116 : decode cX7_oddWalk 116 = .ok (.iload_n 1, 1) := by decide +kernel
theorem dX7_oddWalk_117 : decode cX7_oddWalk 117 = .ok (.invokestatic 61, 3) := by decide +kernel
theorem dX7_oddWalk_120 : decode cX7_oddWalk 120 = .ok (.ifCond .eq 6, 3) := by decide +kernel
theorem dX7_oddWalk_123 : decode cX7_oddWalk 123 = .ok (.iload 4, 2) := by decide +kernel
theorem dX7_oddWalk_125 : decode cX7_oddWalk 125 = .ok (.ireturn, 1) := by decide +kernel
theorem dX7_oddWalk_126 : decode cX7_oddWalk 126 = .ok (.iinc 4 1, 3) := by decide +kernel
theorem dX7_oddWalk_129 : decode cX7_oddWalk 129 = .ok (.goto (-120), 3) := by decide +kernel
theorem dX7_oddWalk_132 : decode cX7_oddWalk 132 = .ok (.iconst (-1), 1) := by decide +kernel
theorem dX7_oddWalk_133 : decode cX7_oddWalk 133 = .ok (.ireturn, 1) := by decide +kernel
theorem dX7_oddCycleNow_0 : decode cX7_oddCycleNow 0 = .ok (.iconst (-1), 1) := by decide +kernel
theorem dX7_oddCycleNow_1 : decode cX7_oddCycleNow 1 = .ok (.istore_n 1, 1) := by decide +kernel
theorem dX7_oddCycleNow_2 : decode cX7_oddCycleNow 2 = .ok (.iconst 0, 1) := by decide +kernel
theorem dX7_oddCycleNow_3 : decode cX7_oddCycleNow 3 = .ok (.istore_n 2, 1) := by decide +kernel
theorem dX7_oddCycleNow_4 : decode cX7_oddCycleNow 4 = .ok (.iload_n 2, 1) := by decide +kernel
theorem dX7_oddCycleNow_5 : decode cX7_oddCycleNow 5 = .ok (.aload_n 0, 1) := by decide +kernel
theorem dX7_oddCycleNow_6 : decode cX7_oddCycleNow 6 = .ok (.getfield 7, 3) := by decide +kernel
theorem dX7_oddCycleNow_9 : decode cX7_oddCycleNow 9 = .ok (.if_icmp .ge 36, 3) := by decide +kernel
theorem dX7_oddCycleNow_12 : decode cX7_oddCycleNow 12 = .ok (.aload_n 0, 1) := by decide +kernel
theorem dX7_oddCycleNow_13 : decode cX7_oddCycleNow 13 = .ok (.iload_n 2, 1) := by decide +kernel
theorem dX7_oddCycleNow_14 : decode cX7_oddCycleNow 14 = .ok (.invokevirtual 154, 3) := by decide +kernel
theorem dX7_oddCycleNow_17 : decode cX7_oddCycleNow 17 = .ok (.istore_n 3, 1) := by decide +kernel
theorem dX7_oddCycleNow_18 : decode cX7_oddCycleNow 18 = .ok (.iload_n 3, 1) := by decide +kernel
theorem dX7_oddCycleNow_19 : decode cX7_oddCycleNow 19 = .ok (.iconst (-1), 1) := by decide +kernel
theorem dX7_oddCycleNow_20 : decode cX7_oddCycleNow 20 = .ok (.if_icmp .eq 17, 3) := by decide +kernel
theorem dX7_oddCycleNow_23 : decode cX7_oddCycleNow 23 = .ok (.iload_n 1, 1) := by decide +kernel
theorem dX7_oddCycleNow_24 : decode cX7_oddCycleNow 24 = .ok (.iconst (-1), 1) := by decide +kernel
theorem dX7_oddCycleNow_25 : decode cX7_oddCycleNow 25 = .ok (.if_icmp .eq 8, 3) := by decide +kernel
theorem dX7_oddCycleNow_28 : decode cX7_oddCycleNow 28 = .ok (.iload_n 3, 1) := by decide +kernel
theorem dX7_oddCycleNow_29 : decode cX7_oddCycleNow 29 = .ok (.iload_n 1, 1) := by decide +kernel
theorem dX7_oddCycleNow_30 : decode cX7_oddCycleNow 30 = .ok (.if_icmp .ge 7, 3) := by decide +kernel
theorem dX7_oddCycleNow_33 : decode cX7_oddCycleNow 33 = .ok (.iload_n 3, 1) := by decide +kernel
theorem dX7_oddCycleNow_34 : decode cX7_oddCycleNow 34 = .ok (.goto 4, 3) := by decide +kernel
theorem dX7_oddCycleNow_37 : decode cX7_oddCycleNow 37 = .ok (.iload_n 1, 1) := by decide +kernel
theorem dX7_oddCycleNow_38 : decode cX7_oddCycleNow 38 = .ok (.istore_n 1, 1) := by decide +kernel
theorem dX7_oddCycleNow_39 : decode cX7_oddCycleNow 39 = .ok (.iinc 2 1, 3) := by decide +kernel
theorem dX7_oddCycleNow_42 : decode cX7_oddCycleNow 42 = .ok (.goto (-38), 3) := by decide +kernel
theorem dX7_oddCycleNow_45 : decode cX7_oddCycleNow 45 = .ok (.iload_n 1, 1) := by decide +kernel
theorem dX7_oddCycleNow_46 : decode cX7_oddCycleNow 46 = .ok (.ireturn, 1) := by decide +kernel
theorem dX7_oddCycle_0 : decode cX7_oddCycle 0 = .ok (.aload_n 0, 1) := by decide +kernel
theorem dX7_oddCycle_1 : decode cX7_oddCycle 1 = .ok (.iconst 0, 1) := by decide +kernel
theorem dX7_oddCycle_2 : decode cX7_oddCycle 2 = .ok (.putfield 47, 3) := by decide +kernel
theorem dX7_oddCycle_5 : decode cX7_oddCycle 5 = .ok (.aload_n 0, 1) := by decide +kernel
theorem dX7_oddCycle_6 : decode cX7_oddCycle 6 = .ok (.invokevirtual 157, 3) := by decide +kernel
theorem dX7_oddCycle_9 : decode cX7_oddCycle 9 = .ok (.ireturn, 1) := by decide +kernel
theorem dX7_firstMate_0 : decode cX7_firstMate 0 = .ok (.aload_n 0, 1) := by decide +kernel
theorem dX7_firstMate_1 : decode cX7_firstMate 1 = .ok (.aload_n 0, 1) := by decide +kernel
theorem dX7_firstMate_2 : decode cX7_firstMate 2 = .ok (.iload_n 1, 1) := by decide +kernel
theorem dX7_firstMate_3 : decode cX7_firstMate 3 = .ok (.invokevirtual 104, 3) := by decide +kernel
theorem dX7_firstMate_6 : decode cX7_firstMate 6 = .ok (.ifCond .eq 7, 3) := by decide +kernel
theorem dX7_firstMate_9 : decode cX7_firstMate 9 = .ok (.iconst 0, 1) := by decide +kernel
theorem dX7_firstMate_10 : decode cX7_firstMate 10 = .ok (.goto 4, 3) := by decide +kernel
theorem dX7_firstMate_13 : decode cX7_firstMate 13 = .ok (.iconst 1, 1) := by decide +kernel
theorem dX7_firstMate_14 : decode cX7_firstMate 14 = .ok (.putfield 47, 3) := by decide +kernel
theorem dX7_firstMate_17 : decode cX7_firstMate 17 = .ok (.aload_n 0, 1) := by decide +kernel
theorem dX7_firstMate_18 : decode cX7_firstMate 18 = .ok (.getfield 47, 3) := by decide +kernel
theorem dX7_firstMate_21 : decode cX7_firstMate 21 = .ok (.ifCond .le 5, 3) := by decide +kernel
theorem dX7_firstMate_24 : decode cX7_firstMate 24 = .ok (.iconst 0, 1) := by decide +kernel
theorem dX7_firstMate_25 : decode cX7_firstMate 25 = .ok (.ireturn, 1) := by decide +kernel
theorem dX7_firstMate_26 : decode cX7_firstMate 26 = .ok (.aload_n 0, 1) := by decide +kernel
theorem dX7_firstMate_27 : decode cX7_firstMate 27 = .ok (.invokevirtual 145, 3) := by decide +kernel
theorem dX7_firstMate_30 : decode cX7_firstMate 30 = .ok (.aload_n 0, 1) := by decide +kernel
theorem dX7_firstMate_31 : decode cX7_firstMate 31 = .ok (.invokevirtual 148, 3) := by decide +kernel
theorem dX7_firstMate_34 : decode cX7_firstMate 34 = .ok (.aload_n 0, 1) := by decide +kernel
theorem dX7_firstMate_35 : decode cX7_firstMate 35 = .ok (.getfield 32, 3) := by decide +kernel
theorem dX7_firstMate_38 : decode cX7_firstMate 38 = .ok (.iload_n 1, 1) := by decide +kernel
theorem dX7_firstMate_39 : decode cX7_firstMate 39 = .ok (.iaload, 1) := by decide +kernel
theorem dX7_firstMate_40 : decode cX7_firstMate 40 = .ok (.ireturn, 1) := by decide +kernel
theorem dX7_proof_0 : decode cX7_proof 0 = .ok (.aload_n 0, 1) := by decide +kernel
theorem dX7_proof_1 : decode cX7_proof 1 = .ok (.iconst 0, 1) := by decide +kernel
theorem dX7_proof_2 : decode cX7_proof 2 = .ok (.putfield 47, 3) := by decide +kernel
theorem dX7_proof_5 : decode cX7_proof 5 = .ok (.aload_n 0, 1) := by decide +kernel
theorem dX7_proof_6 : decode cX7_proof 6 = .ok (.invokevirtual 145, 3) := by decide +kernel
theorem dX7_proof_9 : decode cX7_proof 9 = .ok (.aload_n 0, 1) := by decide +kernel
theorem dX7_proof_10 : decode cX7_proof 10 = .ok (.invokevirtual 160, 3) := by decide +kernel
theorem dX7_proof_13 : decode cX7_proof 13 = .ok (.ireturn, 1) := by decide +kernel
theorem dX7_components_0 : decode cX7_components 0 = .ok (.aload_n 0, 1) := by decide +kernel
theorem dX7_components_1 : decode cX7_components 1 = .ok (.iload_n 1, 1) := by decide +kernel
theorem dX7_components_2 : decode cX7_components 2 = .ok (.iconst 0, 1) := by decide +kernel
theorem dX7_components_3 : decode cX7_components 3 = .ok (.aload_n 0, 1) := by decide +kernel
theorem dX7_components_4 : decode cX7_components 4 = .ok (.invokevirtual 57, 3) := by decide +kernel
theorem dX7_components_7 : decode cX7_components 7 = .ok (.invokestatic 50, 3) := by decide +kernel
theorem dX7_components_10 : decode cX7_components 10 = .ok (.ifCond .eq 7, 3) := by decide +kernel
theorem dX7_components_13 : decode cX7_components 13 = .ok (.iconst 0, 1) := by decide +kernel
theorem dX7_components_14 : decode cX7_components 14 = .ok (.goto 4, 3) := by decide +kernel
theorem dX7_components_17 : decode cX7_components 17 = .ok (.iconst 1, 1) := by decide +kernel
theorem dX7_components_18 : decode cX7_components 18 = .ok (.putfield 47, 3) := by decide +kernel
theorem dX7_components_21 : decode cX7_components 21 = .ok (.aload_n 0, 1) := by decide +kernel
theorem dX7_components_22 : decode cX7_components 22 = .ok (.getfield 47, 3) := by decide +kernel
theorem dX7_components_25 : decode cX7_components 25 = .ok (.ifCond .le 7, 3) := by decide +kernel
theorem dX7_components_28 : decode cX7_components 28 = .ok (.iconst 0, 1) := by decide +kernel
theorem dX7_components_29 : decode cX7_components 29 = .ok (.goto 16, 3) := by decide +kernel
theorem dX7_components_32 : decode cX7_components 32 = .ok (.aload_n 0, 1) := by decide +kernel
theorem dX7_components_33 : decode cX7_components 33 = .ok (.aload_n 0, 1) := by decide +kernel
theorem dX7_components_34 : decode cX7_components 34 = .ok (.invokevirtual 57, 3) := by decide +kernel
theorem dX7_components_37 : decode cX7_components 37 = .ok (.iload_n 1, 1) := by decide +kernel
theorem dX7_components_38 : decode cX7_components 38 = .ok (.iconst (-1), 1) := by decide +kernel
theorem dX7_components_39 : decode cX7_components 39 = .ok (.ixor, 1) := by decide +kernel
theorem dX7_components_40 : decode cX7_components 40 = .ok (.iand, 1) := by decide +kernel
theorem dX7_components_41 : decode cX7_components 41 = .ok (.iload_n 2, 1) := by decide +kernel
theorem dX7_components_42 : decode cX7_components 42 = .ok (.invokevirtual 80, 3) := by decide +kernel
theorem dX7_components_45 : decode cX7_components 45 = .ok (.ireturn, 1) := by decide +kernel
theorem dX7_ifChanged_0 : decode cX7_ifChanged 0 = .ok (.aload_n 0, 1) := by decide +kernel
theorem dX7_ifChanged_1 : decode cX7_ifChanged 1 = .ok (.aload_n 0, 1) := by decide +kernel
theorem dX7_ifChanged_2 : decode cX7_ifChanged 2 = .ok (.iload_n 1, 1) := by decide +kernel
theorem dX7_ifChanged_3 : decode cX7_ifChanged 3 = .ok (.invokevirtual 104, 3) := by decide +kernel
theorem dX7_ifChanged_6 : decode cX7_ifChanged 6 = .ok (.ifCond .eq 11, 3) := by decide +kernel
theorem dX7_ifChanged_9 : decode cX7_ifChanged 9 = .ok (.aload_n 0, 1) := by decide +kernel
theorem dX7_ifChanged_10 : decode cX7_ifChanged 10 = .ok (.iload_n 2, 1) := by decide +kernel
theorem dX7_ifChanged_11 : decode cX7_ifChanged 11 = .ok (.invokevirtual 104, 3) := by decide +kernel
theorem dX7_ifChanged_14 : decode cX7_ifChanged 14 = .ok (.ifCond .ne 7, 3) := by decide +kernel
theorem dX7_ifChanged_17 : decode cX7_ifChanged 17 = .ok (.iconst 1, 1) := by decide +kernel
theorem dX7_ifChanged_18 : decode cX7_ifChanged 18 = .ok (.goto 13, 3) := by decide +kernel
theorem dX7_ifChanged_21 : decode cX7_ifChanged 21 = .ok (.iload_n 1, 1) := by decide +kernel
theorem dX7_ifChanged_22 : decode cX7_ifChanged 22 = .ok (.iload_n 2, 1) := by decide +kernel
theorem dX7_ifChanged_23 : decode cX7_ifChanged 23 = .ok (.if_icmp .ne 7, 3) := by decide +kernel
theorem dX7_ifChanged_26 : decode cX7_ifChanged 26 = .ok (.iconst 2, 1) := by decide +kernel
theorem dX7_ifChanged_27 : decode cX7_ifChanged 27 = .ok (.goto 4, 3) := by decide +kernel
theorem dX7_ifChanged_30 : decode cX7_ifChanged 30 = .ok (.iconst 0, 1) := by decide +kernel
theorem dX7_ifChanged_31 : decode cX7_ifChanged 31 = .ok (.putfield 47, 3) := by decide +kernel
theorem dX7_ifChanged_34 : decode cX7_ifChanged 34 = .ok (.aload_n 0, 1) := by decide +kernel
theorem dX7_ifChanged_35 : decode cX7_ifChanged 35 = .ok (.getfield 47, 3) := by decide +kernel
theorem dX7_ifChanged_38 : decode cX7_ifChanged 38 = .ok (.ifCond .le 5, 3) := by decide +kernel
theorem dX7_ifChanged_41 : decode cX7_ifChanged 41 = .ok (.iconst 0, 1) := by decide +kernel
theorem dX7_ifChanged_42 : decode cX7_ifChanged 42 = .ok (.ireturn, 1) := by decide +kernel
theorem dX7_ifChanged_43 : decode cX7_ifChanged 43 = .ok (.aload_n 0, 1) := by decide +kernel
theorem dX7_ifChanged_44 : decode cX7_ifChanged 44 = .ok (.iload_n 1, 1) := by decide +kernel
theorem dX7_ifChanged_45 : decode cX7_ifChanged 45 = .ok (.iload_n 2, 1) := by decide +kernel
theorem dX7_ifChanged_46 : decode cX7_ifChanged 46 = .ok (.invokevirtual 111, 3) := by decide +kernel
theorem dX7_ifChanged_49 : decode cX7_ifChanged 49 = .ok (.aload_n 0, 1) := by decide +kernel
theorem dX7_ifChanged_50 : decode cX7_ifChanged 50 = .ok (.invokevirtual 145, 3) := by decide +kernel
theorem dX7_ifChanged_53 : decode cX7_ifChanged 53 = .ok (.aload_n 0, 1) := by decide +kernel
theorem dX7_ifChanged_54 : decode cX7_ifChanged 54 = .ok (.iload_n 1, 1) := by decide +kernel
theorem dX7_ifChanged_55 : decode cX7_ifChanged 55 = .ok (.iload_n 2, 1) := by decide +kernel
theorem dX7_ifChanged_56 : decode cX7_ifChanged 56 = .ok (.invokevirtual 111, 3) := by decide +kernel
theorem dX7_ifChanged_59 : decode cX7_ifChanged 59 = .ok (.aload_n 0, 1) := by decide +kernel
theorem dX7_ifChanged_60 : decode cX7_ifChanged 60 = .ok (.getfield 26, 3) := by decide +kernel
theorem dX7_ifChanged_63 : decode cX7_ifChanged 63 = .ok (.aload_n 0, 1) := by decide +kernel
theorem dX7_ifChanged_64 : decode cX7_ifChanged 64 = .ok (.invokevirtual 57, 3) := by decide +kernel
theorem dX7_ifChanged_67 : decode cX7_ifChanged 67 = .ok (.iaload, 1) := by decide +kernel
theorem dX7_ifChanged_68 : decode cX7_ifChanged 68 = .ok (.ireturn, 1) := by decide +kernel
theorem dX7_nodeNow_0 : decode cX7_nodeNow 0 = .ok (.iload_n 2, 1) := by decide +kernel
theorem dX7_nodeNow_1 : decode cX7_nodeNow 1 = .ok (.tableswitch 60 0 3 #[31, 41, 48, 54], 31) := by decide +kernel
theorem dX7_nodeNow_32 : decode cX7_nodeNow 32 = .ok (.aload_n 0, 1) := by decide +kernel
theorem dX7_nodeNow_33 : decode cX7_nodeNow 33 = .ok (.getfield 13, 3) := by decide +kernel
theorem dX7_nodeNow_36 : decode cX7_nodeNow 36 = .ok (.iload_n 1, 1) := by decide +kernel
theorem dX7_nodeNow_37 : decode cX7_nodeNow 37 = .ok (.iaload, 1) := by decide +kernel
theorem dX7_nodeNow_38 : decode cX7_nodeNow 38 = .ok (.invokestatic 77, 3) := by decide +kernel
theorem dX7_nodeNow_41 : decode cX7_nodeNow 41 = .ok (.ireturn, 1) := by decide +kernel
theorem dX7_nodeNow_42 : decode cX7_nodeNow 42 = .ok (.aload_n 0, 1) := by decide +kernel
theorem dX7_nodeNow_43 : decode cX7_nodeNow 43 = .ok (.getfield 17, 3) := by decide +kernel
theorem dX7_nodeNow_46 : decode cX7_nodeNow 46 = .ok (.iload_n 1, 1) := by decide +kernel
theorem dX7_nodeNow_47 : decode cX7_nodeNow 47 = .ok (.iaload, 1) := by decide +kernel
theorem dX7_nodeNow_48 : decode cX7_nodeNow 48 = .ok (.ireturn, 1) := by decide +kernel
theorem dX7_nodeNow_49 : decode cX7_nodeNow 49 = .ok (.aload_n 0, 1) := by decide +kernel
theorem dX7_nodeNow_50 : decode cX7_nodeNow 50 = .ok (.iload_n 1, 1) := by decide +kernel
theorem dX7_nodeNow_51 : decode cX7_nodeNow 51 = .ok (.invokevirtual 163, 3) := by decide +kernel
theorem dX7_nodeNow_54 : decode cX7_nodeNow 54 = .ok (.ireturn, 1) := by decide +kernel
theorem dX7_nodeNow_55 : decode cX7_nodeNow 55 = .ok (.aload_n 0, 1) := by decide +kernel
theorem dX7_nodeNow_56 : decode cX7_nodeNow 56 = .ok (.iload_n 1, 1) := by decide +kernel
theorem dX7_nodeNow_57 : decode cX7_nodeNow 57 = .ok (.invokevirtual 69, 3) := by decide +kernel
theorem dX7_nodeNow_60 : decode cX7_nodeNow 60 = .ok (.ireturn, 1) := by decide +kernel
theorem dX7_nodeNow_61 : decode cX7_nodeNow 61 = .ok (.aload_n 0, 1) := by decide +kernel
theorem dX7_nodeNow_62 : decode cX7_nodeNow 62 = .ok (.iload_n 1, 1) := by decide +kernel
theorem dX7_nodeNow_63 : decode cX7_nodeNow 63 = .ok (.invokevirtual 166, 3) := by decide +kernel
theorem dX7_nodeNow_66 : decode cX7_nodeNow 66 = .ok (.ireturn, 1) := by decide +kernel
theorem dX7_node_0 : decode cX7_node 0 = .ok (.aload_n 0, 1) := by decide +kernel
theorem dX7_node_1 : decode cX7_node 1 = .ok (.aload_n 0, 1) := by decide +kernel
theorem dX7_node_2 : decode cX7_node 2 = .ok (.iload_n 1, 1) := by decide +kernel
theorem dX7_node_3 : decode cX7_node 3 = .ok (.invokevirtual 104, 3) := by decide +kernel
theorem dX7_node_6 : decode cX7_node 6 = .ok (.ifCond .ne 7, 3) := by decide +kernel
theorem dX7_node_9 : decode cX7_node 9 = .ok (.iconst 1, 1) := by decide +kernel
theorem dX7_node_10 : decode cX7_node 10 = .ok (.goto 17, 3) := by decide +kernel
theorem dX7_node_13 : decode cX7_node 13 = .ok (.iload_n 2, 1) := by decide +kernel
theorem dX7_node_14 : decode cX7_node 14 = .ok (.iconst 0, 1) := by decide +kernel
theorem dX7_node_15 : decode cX7_node 15 = .ok (.iconst 4, 1) := by decide +kernel
theorem dX7_node_16 : decode cX7_node 16 = .ok (.invokestatic 50, 3) := by decide +kernel
theorem dX7_node_19 : decode cX7_node 19 = .ok (.ifCond .eq 7, 3) := by decide +kernel
theorem dX7_node_22 : decode cX7_node 22 = .ok (.iconst 0, 1) := by decide +kernel
theorem dX7_node_23 : decode cX7_node 23 = .ok (.goto 4, 3) := by decide +kernel
theorem dX7_node_26 : decode cX7_node 26 = .ok (.iconst 2, 1) := by decide +kernel
theorem dX7_node_27 : decode cX7_node 27 = .ok (.putfield 47, 3) := by decide +kernel
theorem dX7_node_30 : decode cX7_node 30 = .ok (.aload_n 0, 1) := by decide +kernel
theorem dX7_node_31 : decode cX7_node 31 = .ok (.getfield 47, 3) := by decide +kernel
theorem dX7_node_34 : decode cX7_node 34 = .ok (.ifCond .le 5, 3) := by decide +kernel
theorem dX7_node_37 : decode cX7_node 37 = .ok (.iconst 0, 1) := by decide +kernel
theorem dX7_node_38 : decode cX7_node 38 = .ok (.ireturn, 1) := by decide +kernel
theorem dX7_node_39 : decode cX7_node 39 = .ok (.aload_n 0, 1) := by decide +kernel
theorem dX7_node_40 : decode cX7_node 40 = .ok (.invokevirtual 145, 3) := by decide +kernel
theorem dX7_node_43 : decode cX7_node 43 = .ok (.aload_n 0, 1) := by decide +kernel
theorem dX7_node_44 : decode cX7_node 44 = .ok (.iload_n 1, 1) := by decide +kernel
theorem dX7_node_45 : decode cX7_node 45 = .ok (.iload_n 2, 1) := by decide +kernel
theorem dX7_node_46 : decode cX7_node 46 = .ok (.invokevirtual 169, 3) := by decide +kernel
theorem dX7_node_49 : decode cX7_node 49 = .ok (.ireturn, 1) := by decide +kernel
theorem dX7_edgeNow_0 : decode cX7_edgeNow 0 = .ok (.iload_n 1, 1) := by decide +kernel
theorem dX7_edgeNow_1 : decode cX7_edgeNow 1 = .ok (.iload_n 2, 1) := by decide +kernel
theorem dX7_edgeNow_2 : decode cX7_edgeNow 2 = .ok (.if_icmp .eq 20, 3) := by decide +kernel
theorem dX7_edgeNow_5 : decode cX7_edgeNow 5 = .ok (.aload_n 0, 1) := by decide +kernel
theorem dX7_edgeNow_6 : decode cX7_edgeNow 6 = .ok (.getfield 13, 3) := by decide +kernel
theorem dX7_edgeNow_9 : decode cX7_edgeNow 9 = .ok (.iload_n 1, 1) := by decide +kernel
theorem dX7_edgeNow_10 : decode cX7_edgeNow 10 = .ok (.iaload, 1) := by decide +kernel
theorem dX7_edgeNow_11 : decode cX7_edgeNow 11 = .ok (.iload_n 2, 1) := by decide +kernel
theorem dX7_edgeNow_12 : decode cX7_edgeNow 12 = .ok (.invokestatic 61, 3) := by decide +kernel
theorem dX7_edgeNow_15 : decode cX7_edgeNow 15 = .ok (.ifCond .eq 7, 3) := by decide +kernel
theorem dX7_edgeNow_18 : decode cX7_edgeNow 18 = .ok (.iconst 1, 1) := by decide +kernel
theorem dX7_edgeNow_19 : decode cX7_edgeNow 19 = .ok (.goto 4, 3) := by decide +kernel
theorem dX7_edgeNow_22 : decode cX7_edgeNow 22 = .ok (.iconst 0, 1) := by decide +kernel
theorem dX7_edgeNow_23 : decode cX7_edgeNow 23 = .ok (.istore 4, 2) := by decide +kernel
theorem dX7_edgeNow_25 : decode cX7_edgeNow 25 = .ok (.iload_n 3, 1) := by decide +kernel
theorem dX7_edgeNow_26 : decode cX7_edgeNow 26 = .ok (.ifCond .ne 8, 3) := by decide +kernel
theorem dX7_edgeNow_29 : decode cX7_edgeNow 29 = .ok (.iload 4, 2) := by decide +kernel
theorem dX7_edgeNow_31 : decode cX7_edgeNow 31 = .ok (.goto 38, 3) := by decide +kernel
theorem dX7_edgeNow_34 : decode cX7_edgeNow 34 = .ok (.iload_n 3, 1) := by decide +kernel
theorem dX7_edgeNow_35 : decode cX7_edgeNow 35 = .ok (.iconst 1, 1) := by decide +kernel
theorem dX7_edgeNow_36 : decode cX7_edgeNow 36 = .ok (.if_icmp .ne 27, 3) := by decide +kernel
theorem dX7_edgeNow_39 : decode cX7_edgeNow 39 = .ok (.iload 4, 2) := by decide +kernel
theorem dX7_edgeNow_41 : decode cX7_edgeNow 41 = .ok (.iconst 1, 1) := by decide +kernel
theorem dX7_edgeNow_42 : decode cX7_edgeNow 42 = .ok (.if_icmp .ne 17, 3) := by decide +kernel
theorem dX7_edgeNow_45 : decode cX7_edgeNow 45 = .ok (.aload_n 0, 1) := by decide +kernel
theorem dX7_edgeNow_46 : decode cX7_edgeNow 46 = .ok (.getfield 17, 3) := by decide +kernel
theorem dX7_edgeNow_49 : decode cX7_edgeNow 49 = .ok (.iload_n 1, 1) := by decide +kernel
theorem dX7_edgeNow_50 : decode cX7_edgeNow 50 = .ok (.iaload, 1) := by decide +kernel
theorem dX7_edgeNow_51 : decode cX7_edgeNow 51 = .ok (.iload_n 2, 1) := by decide +kernel
theorem dX7_edgeNow_52 : decode cX7_edgeNow 52 = .ok (.if_icmp .ne 7, 3) := by decide +kernel
theorem dX7_edgeNow_55 : decode cX7_edgeNow 55 = .ok (.iconst 1, 1) := by decide +kernel
theorem dX7_edgeNow_56 : decode cX7_edgeNow 56 = .ok (.goto 13, 3) := by decide +kernel
theorem dX7_edgeNow_59 : decode cX7_edgeNow 59 = .ok (.iconst 0, 1) := by decide +kernel
theorem dX7_edgeNow_60 : decode cX7_edgeNow 60 = .ok (.goto 9, 3) := by decide +kernel
theorem dX7_edgeNow_63 : decode cX7_edgeNow 63 = .ok (.aload_n 0, 1) := by decide +kernel
theorem dX7_edgeNow_64 : decode cX7_edgeNow 64 = .ok (.iload_n 1, 1) := by decide +kernel
theorem dX7_edgeNow_65 : decode cX7_edgeNow 65 = .ok (.iload_n 2, 1) := by decide +kernel
theorem dX7_edgeNow_66 : decode cX7_edgeNow 66 = .ok (.invokevirtual 172, 3) := by decide +kernel
theorem dX7_edgeNow_69 : decode cX7_edgeNow 69 = .ok (.ireturn, 1) := by decide +kernel
theorem dX7_edge_0 : decode cX7_edge 0 = .ok (.aload_n 0, 1) := by decide +kernel
theorem dX7_edge_1 : decode cX7_edge 1 = .ok (.aload_n 0, 1) := by decide +kernel
theorem dX7_edge_2 : decode cX7_edge 2 = .ok (.iload_n 1, 1) := by decide +kernel
theorem dX7_edge_3 : decode cX7_edge 3 = .ok (.invokevirtual 104, 3) := by decide +kernel
theorem dX7_edge_6 : decode cX7_edge 6 = .ok (.ifCond .eq 11, 3) := by decide +kernel
theorem dX7_edge_9 : decode cX7_edge 9 = .ok (.aload_n 0, 1) := by decide +kernel
theorem dX7_edge_10 : decode cX7_edge 10 = .ok (.iload_n 2, 1) := by decide +kernel
theorem dX7_edge_11 : decode cX7_edge 11 = .ok (.invokevirtual 104, 3) := by decide +kernel
theorem dX7_edge_14 : decode cX7_edge 14 = .ok (.ifCond .ne 7, 3) := by decide +kernel
theorem dX7_edge_17 : decode cX7_edge 17 = .ok (.iconst 1, 1) := by decide +kernel
theorem dX7_edge_18 : decode cX7_edge 18 = .ok (.goto 17, 3) := by decide +kernel
theorem dX7_edge_21 : decode cX7_edge 21 = .ok (.iload_n 3, 1) := by decide +kernel
theorem dX7_edge_22 : decode cX7_edge 22 = .ok (.iconst 0, 1) := by decide +kernel
theorem dX7_edge_23 : decode cX7_edge 23 = .ok (.iconst 2, 1) := by decide +kernel
theorem dX7_edge_24 : decode cX7_edge 24 = .ok (.invokestatic 50, 3) := by decide +kernel
theorem dX7_edge_27 : decode cX7_edge 27 = .ok (.ifCond .eq 7, 3) := by decide +kernel
theorem dX7_edge_30 : decode cX7_edge 30 = .ok (.iconst 0, 1) := by decide +kernel
theorem dX7_edge_31 : decode cX7_edge 31 = .ok (.goto 4, 3) := by decide +kernel
theorem dX7_edge_34 : decode cX7_edge 34 = .ok (.iconst 2, 1) := by decide +kernel
theorem dX7_edge_35 : decode cX7_edge 35 = .ok (.putfield 47, 3) := by decide +kernel
theorem dX7_edge_38 : decode cX7_edge 38 = .ok (.aload_n 0, 1) := by decide +kernel
theorem dX7_edge_39 : decode cX7_edge 39 = .ok (.getfield 47, 3) := by decide +kernel
theorem dX7_edge_42 : decode cX7_edge 42 = .ok (.ifCond .le 5, 3) := by decide +kernel
theorem dX7_edge_45 : decode cX7_edge 45 = .ok (.iconst 0, 1) := by decide +kernel
theorem dX7_edge_46 : decode cX7_edge 46 = .ok (.ireturn, 1) := by decide +kernel
theorem dX7_edge_47 : decode cX7_edge 47 = .ok (.aload_n 0, 1) := by decide +kernel
theorem dX7_edge_48 : decode cX7_edge 48 = .ok (.invokevirtual 145, 3) := by decide +kernel
theorem dX7_edge_51 : decode cX7_edge 51 = .ok (.aload_n 0, 1) := by decide +kernel
theorem dX7_edge_52 : decode cX7_edge 52 = .ok (.iload_n 1, 1) := by decide +kernel
theorem dX7_edge_53 : decode cX7_edge 53 = .ok (.iload_n 2, 1) := by decide +kernel
theorem dX7_edge_54 : decode cX7_edge 54 = .ok (.iload_n 3, 1) := by decide +kernel
theorem dX7_edge_55 : decode cX7_edge 55 = .ok (.invokevirtual 175, 3) := by decide +kernel
theorem dX7_edge_58 : decode cX7_edge 58 = .ok (.ireturn, 1) := by decide +kernel
theorem dX7_edgeCount_0 : decode cX7_edgeCount 0 = .ok (.iconst 0, 1) := by decide +kernel
theorem dX7_edgeCount_1 : decode cX7_edgeCount 1 = .ok (.istore_n 1, 1) := by decide +kernel
theorem dX7_edgeCount_2 : decode cX7_edgeCount 2 = .ok (.iconst 0, 1) := by decide +kernel
theorem dX7_edgeCount_3 : decode cX7_edgeCount 3 = .ok (.istore_n 2, 1) := by decide +kernel
theorem dX7_edgeCount_4 : decode cX7_edgeCount 4 = .ok (.iload_n 2, 1) := by decide +kernel
theorem dX7_edgeCount_5 : decode cX7_edgeCount 5 = .ok (.aload_n 0, 1) := by decide +kernel
theorem dX7_edgeCount_6 : decode cX7_edgeCount 6 = .ok (.getfield 7, 3) := by decide +kernel
theorem dX7_edgeCount_9 : decode cX7_edgeCount 9 = .ok (.if_icmp .ge 21, 3) := by decide +kernel
theorem dX7_edgeCount_12 : decode cX7_edgeCount 12 = .ok (.iload_n 1, 1) := by decide +kernel
theorem dX7_edgeCount_13 : decode cX7_edgeCount 13 = .ok (.aload_n 0, 1) := by decide +kernel
theorem dX7_edgeCount_14 : decode cX7_edgeCount 14 = .ok (.getfield 13, 3) := by decide +kernel
theorem dX7_edgeCount_17 : decode cX7_edgeCount 17 = .ok (.iload_n 2, 1) := by decide +kernel
theorem dX7_edgeCount_18 : decode cX7_edgeCount 18 = .ok (.iaload, 1) := by decide +kernel
theorem dX7_edgeCount_19 : decode cX7_edgeCount 19 = .ok (.invokestatic 77, 3) := by decide +kernel
theorem dX7_edgeCount_22 : decode cX7_edgeCount 22 = .ok (.iadd, 1) := by decide +kernel
theorem dX7_edgeCount_23 : decode cX7_edgeCount 23 = .ok (.istore_n 1, 1) := by decide +kernel
theorem dX7_edgeCount_24 : decode cX7_edgeCount 24 = .ok (.iinc 2 1, 3) := by decide +kernel
theorem dX7_edgeCount_27 : decode cX7_edgeCount 27 = .ok (.goto (-23), 3) := by decide +kernel
theorem dX7_edgeCount_30 : decode cX7_edgeCount 30 = .ok (.iload_n 1, 1) := by decide +kernel
theorem dX7_edgeCount_31 : decode cX7_edgeCount 31 = .ok (.iconst 2, 1) := by decide +kernel
theorem dX7_edgeCount_32 : decode cX7_edgeCount 32 = .ok (.idiv, 1) := by decide +kernel
theorem dX7_edgeCount_33 : decode cX7_edgeCount 33 = .ok (.ireturn, 1) := by decide +kernel
theorem dX7_edgesIn_0 : decode cX7_edgesIn 0 = .ok (.iconst 0, 1) := by decide +kernel
theorem dX7_edgesIn_1 : decode cX7_edgesIn 1 = .ok (.istore_n 2, 1) := by decide +kernel
theorem dX7_edgesIn_2 : decode cX7_edgesIn 2 = .ok (.iconst 0, 1) := by decide +kernel
theorem dX7_edgesIn_3 : decode cX7_edgesIn 3 = .ok (.istore_n 3, 1) := by decide +kernel
theorem dX7_edgesIn_4 : decode cX7_edgesIn 4 = .ok (.iload_n 3, 1) := by decide +kernel
theorem dX7_edgesIn_5 : decode cX7_edgesIn 5 = .ok (.aload_n 0, 1) := by decide +kernel
theorem dX7_edgesIn_6 : decode cX7_edgesIn 6 = .ok (.getfield 7, 3) := by decide +kernel
theorem dX7_edgesIn_9 : decode cX7_edgesIn 9 = .ok (.if_icmp .ge 62, 3) := by decide +kernel
theorem dX7_edgesIn_12 : decode cX7_edgesIn 12 = .ok (.iload_n 3, 1) := by decide +kernel
theorem dX7_edgesIn_13 : decode cX7_edgesIn 13 = .ok (.iconst 1, 1) := by decide +kernel
theorem dX7_edgesIn_14 : decode cX7_edgesIn 14 = .ok (.iadd, 1) := by decide +kernel
theorem dX7_edgesIn_15 : decode cX7_edgesIn 15 = .ok (.istore 4, 2) := by decide +kernel
theorem dX7_edgesIn_17 : decode cX7_edgesIn 17 = .ok (.iload 4, 2) := by decide +kernel
theorem dX7_edgesIn_19 : decode cX7_edgesIn 19 = .ok (.aload_n 0, 1) := by decide +kernel
theorem dX7_edgesIn_20 : decode cX7_edgesIn 20 = .ok (.getfield 7, 3) := by decide +kernel
theorem dX7_edgesIn_23 : decode cX7_edgesIn 23 = .ok (.if_icmp .ge 42, 3) := by decide +kernel
theorem dX7_edgesIn_26 : decode cX7_edgesIn 26 = .ok (.iload_n 2, 1) := by decide +kernel
theorem dX7_edgesIn_27 : decode cX7_edgesIn 27 = .ok (.aload_n 0, 1) := by decide +kernel
theorem dX7_edgesIn_28 : decode cX7_edgesIn 28 = .ok (.getfield 13, 3) := by decide +kernel
theorem dX7_edgesIn_31 : decode cX7_edgesIn 31 = .ok (.iload_n 3, 1) := by decide +kernel
theorem dX7_edgesIn_32 : decode cX7_edgesIn 32 = .ok (.iaload, 1) := by decide +kernel
theorem dX7_edgesIn_33 : decode cX7_edgesIn 33 = .ok (.iload 4, 2) := by decide +kernel
theorem dX7_edgesIn_35 : decode cX7_edgesIn 35 = .ok (.invokestatic 61, 3) := by decide +kernel
theorem dX7_edgesIn_38 : decode cX7_edgesIn 38 = .ok (.ifCond .eq 18, 3) := by decide +kernel
theorem dX7_edgesIn_41 : decode cX7_edgesIn 41 = .ok (.aload_n 0, 1) := by decide +kernel
theorem dX7_edgesIn_42 : decode cX7_edgesIn 42 = .ok (.iload_n 3, 1) := by decide +kernel
theorem dX7_edgesIn_43 : decode cX7_edgesIn 43 = .ok (.iload 4, 2) := by decide +kernel
theorem dX7_edgesIn_45 : decode cX7_edgesIn 45 = .ok (.invokevirtual 172, 3) := by decide +kernel
theorem dX7_edgesIn_48 : decode cX7_edgesIn 48 = .ok (.iload_n 1, 1) := by decide +kernel
theorem dX7_edgesIn_49 : decode cX7_edgesIn 49 = .ok (.if_icmp .ne 7, 3) := by decide +kernel
theorem dX7_edgesIn_52 : decode cX7_edgesIn 52 = .ok (.iconst 1, 1) := by decide +kernel
theorem dX7_edgesIn_53 : decode cX7_edgesIn 53 = .ok (.goto 4, 3) := by decide +kernel
theorem dX7_edgesIn_56 : decode cX7_edgesIn 56 = .ok (.iconst 0, 1) := by decide +kernel
theorem dX7_edgesIn_57 : decode cX7_edgesIn 57 = .ok (.iadd, 1) := by decide +kernel
theorem dX7_edgesIn_58 : decode cX7_edgesIn 58 = .ok (.istore_n 2, 1) := by decide +kernel
theorem dX7_edgesIn_59 : decode cX7_edgesIn 59 = .ok (.iinc 4 1, 3) := by decide +kernel
theorem dX7_edgesIn_62 : decode cX7_edgesIn 62 = .ok (.goto (-45), 3) := by decide +kernel
theorem dX7_edgesIn_65 : decode cX7_edgesIn 65 = .ok (.iinc 3 1, 3) := by decide +kernel
theorem dX7_edgesIn_68 : decode cX7_edgesIn 68 = .ok (.goto (-64), 3) := by decide +kernel
theorem dX7_edgesIn_71 : decode cX7_edgesIn 71 = .ok (.iload_n 2, 1) := by decide +kernel
theorem dX7_edgesIn_72 : decode cX7_edgesIn 72 = .ok (.ireturn, 1) := by decide +kernel
theorem dX7_counted_0 : decode cX7_counted 0 = .ok (.iload_n 1, 1) := by decide +kernel
theorem dX7_counted_1 : decode cX7_counted 1 = .ok (.tableswitch 150 0 9 #[55, 60, 65, 70, 80, 97, 107, 121, 127, 140], 55) := by decide +kernel
theorem dX7_counted_56 : decode cX7_counted 56 = .ok (.aload_n 0, 1) := by decide +kernel
theorem dX7_counted_57 : decode cX7_counted 57 = .ok (.getfield 7, 3) := by decide +kernel
theorem dX7_counted_60 : decode cX7_counted 60 = .ok (.ireturn, 1) := by decide +kernel
theorem dX7_counted_61 : decode cX7_counted 61 = .ok (.aload_n 0, 1) := by decide +kernel
theorem dX7_counted_62 : decode cX7_counted 62 = .ok (.invokevirtual 178, 3) := by decide +kernel
theorem dX7_counted_65 : decode cX7_counted 65 = .ok (.ireturn, 1) := by decide +kernel
theorem dX7_counted_66 : decode cX7_counted 66 = .ok (.aload_n 0, 1) := by decide +kernel
theorem dX7_counted_67 : decode cX7_counted 67 = .ok (.invokevirtual 133, 3) := by decide +kernel
theorem dX7_counted_70 : decode cX7_counted 70 = .ok (.ireturn, 1) := by decide +kernel
theorem dX7_counted_71 : decode cX7_counted 71 = .ok (.aload_n 0, 1) := by decide +kernel
theorem dX7_counted_72 : decode cX7_counted 72 = .ok (.getfield 26, 3) := by decide +kernel
theorem dX7_counted_75 : decode cX7_counted 75 = .ok (.aload_n 0, 1) := by decide +kernel
theorem dX7_counted_76 : decode cX7_counted 76 = .ok (.invokevirtual 57, 3) := by decide +kernel
theorem dX7_counted_79 : decode cX7_counted 79 = .ok (.iaload, 1) := by decide +kernel
theorem dX7_counted_80 : decode cX7_counted 80 = .ok (.ireturn, 1) := by decide +kernel
theorem dX7_counted_81 : decode cX7_counted 81 = .ok (.aload_n 0, 1) := by decide +kernel
theorem dX7_counted_82 : decode cX7_counted 82 = .ok (.getfield 7, 3) := by decide +kernel
theorem dX7_counted_85 : decode cX7_counted 85 = .ok (.iconst 2, 1) := by decide +kernel
theorem dX7_counted_86 : decode cX7_counted 86 = .ok (.aload_n 0, 1) := by decide +kernel
theorem dX7_counted_87 : decode cX7_counted 87 = .ok (.getfield 26, 3) := by decide +kernel
theorem dX7_counted_90 : decode cX7_counted 90 = .ok (.aload_n 0, 1) := by decide +kernel
theorem dX7_counted_91 : decode cX7_counted 91 = .ok (.invokevirtual 57, 3) := by decide +kernel
theorem dX7_counted_94 : decode cX7_counted 94 = .ok (.iaload, 1) := by decide +kernel
theorem dX7_counted_95 : decode cX7_counted 95 = .ok (.imul, 1) := by decide +kernel
theorem dX7_counted_96 : decode cX7_counted 96 = .ok (.isub, 1) := by decide +kernel
theorem dX7_counted_97 : decode cX7_counted 97 = .ok (.ireturn, 1) := by decide +kernel
theorem dX7_counted_98 : decode cX7_counted 98 = .ok (.aload_n 0, 1) := by decide +kernel
theorem dX7_counted_99 : decode cX7_counted 99 = .ok (.getfield 29, 3) := by decide +kernel
theorem dX7_counted_102 : decode cX7_counted 102 = .ok (.aload_n 0, 1) := by decide +kernel
theorem dX7_counted_103 : decode cX7_counted 103 = .ok (.invokevirtual 57, 3) := by decide +kernel
theorem dX7_counted_106 : decode cX7_counted 106 = .ok (.iaload, 1) := by decide +kernel
theorem dX7_counted_107 : decode cX7_counted 107 = .ok (.ireturn, 1) := by decide +kernel
theorem dX7_counted_108 : decode cX7_counted 108 = .ok (.aload_n 0, 1) := by decide +kernel
theorem dX7_counted_109 : decode cX7_counted 109 = .ok (.aload_n 0, 1) := by decide +kernel
theorem dX7_counted_110 : decode cX7_counted 110 = .ok (.getfield 29, 3) := by decide +kernel
theorem dX7_counted_113 : decode cX7_counted 113 = .ok (.aload_n 0, 1) := by decide +kernel
theorem dX7_counted_114 : decode cX7_counted 114 = .ok (.invokevirtual 57, 3) := by decide +kernel
theorem dX7_counted_117 : decode cX7_counted 117 = .ok (.iaload, 1) := by decide +kernel
theorem dX7_counted_118 : decode cX7_counted 118 = .ok (.invokevirtual 181, 3) := by decide +kernel
theorem dX7_counted_121 : decode cX7_counted 121 = .ok (.ireturn, 1) := by decide +kernel
theorem dX7_counted_122 : decode cX7_counted 122 = .ok (.aload_n 0, 1) := by decide +kernel
theorem dX7_counted_123 : decode cX7_counted 123 = .ok (.iconst 0, 1) := by decide +kernel
theorem dX7_counted_124 : decode cX7_counted 124 = .ok (.invokevirtual 181, 3) := by decide +kernel
theorem dX7_counted_127 : decode cX7_counted 127 = .ok (.ireturn, 1) := by decide +kernel
theorem dX7_counted_128 : decode cX7_counted 128 = .ok (.aload_n 0, 1) := by decide +kernel
theorem dX7_counted_129 : decode cX7_counted 129 = .ok (.invokevirtual 184, 3) := by decide +kernel
theorem dX7_counted_132 : decode cX7_counted 132 = .ok (.ifCond .eq 7, 3) := by decide +kernel
theorem dX7_counted_135 : decode cX7_counted 135 = .ok (.iconst 1, 1) := by decide +kernel
theorem dX7_counted_136 : decode cX7_counted 136 = .ok (.goto 4, 3) := by decide +kernel
theorem dX7_counted_139 : decode cX7_counted 139 = .ok (.iconst 0, 1) := by decide +kernel
theorem dX7_counted_140 : decode cX7_counted 140 = .ok (.ireturn, 1) := by decide +kernel
theorem dX7_counted_141 : decode cX7_counted 141 = .ok (.aload_n 0, 1) := by decide +kernel
theorem dX7_counted_142 : decode cX7_counted 142 = .ok (.aload_n 0, 1) := by decide +kernel
theorem dX7_counted_143 : decode cX7_counted 143 = .ok (.invokevirtual 57, 3) := by decide +kernel
theorem dX7_counted_146 : decode cX7_counted 146 = .ok (.iconst 0, 1) := by decide +kernel
theorem dX7_counted_147 : decode cX7_counted 147 = .ok (.invokevirtual 80, 3) := by decide +kernel
theorem dX7_counted_150 : decode cX7_counted 150 = .ok (.ireturn, 1) := by decide +kernel
theorem dX7_counted_151 : decode cX7_counted 151 = .ok (.aload_n 0, 1) := by decide +kernel
theorem dX7_counted_152 : decode cX7_counted 152 = .ok (.getfield 54, 3) := by decide +kernel
theorem dX7_counted_155 : decode cX7_counted 155 = .ok (.ireturn, 1) := by decide +kernel
theorem dX7_count_0 : decode cX7_count 0 = .ok (.aload_n 0, 1) := by decide +kernel
theorem dX7_count_1 : decode cX7_count 1 = .ok (.iload_n 1, 1) := by decide +kernel
theorem dX7_count_2 : decode cX7_count 2 = .ok (.iconst 0, 1) := by decide +kernel
theorem dX7_count_3 : decode cX7_count 3 = .ok (.bipush 10, 2) := by decide +kernel
theorem dX7_count_5 : decode cX7_count 5 = .ok (.invokestatic 50, 3) := by decide +kernel
theorem dX7_count_8 : decode cX7_count 8 = .ok (.ifCond .eq 7, 3) := by decide +kernel
theorem dX7_count_11 : decode cX7_count 11 = .ok (.iconst 0, 1) := by decide +kernel
theorem dX7_count_12 : decode cX7_count 12 = .ok (.goto 4, 3) := by decide +kernel
theorem dX7_count_15 : decode cX7_count 15 = .ok (.iconst 1, 1) := by decide +kernel
theorem dX7_count_16 : decode cX7_count 16 = .ok (.putfield 47, 3) := by decide +kernel
theorem dX7_count_19 : decode cX7_count 19 = .ok (.aload_n 0, 1) := by decide +kernel
theorem dX7_count_20 : decode cX7_count 20 = .ok (.getfield 47, 3) := by decide +kernel
theorem dX7_count_23 : decode cX7_count 23 = .ok (.ifCond .le 5, 3) := by decide +kernel
theorem dX7_count_26 : decode cX7_count 26 = .ok (.iconst 0, 1) := by decide +kernel
theorem dX7_count_27 : decode cX7_count 27 = .ok (.ireturn, 1) := by decide +kernel
theorem dX7_count_28 : decode cX7_count 28 = .ok (.aload_n 0, 1) := by decide +kernel
theorem dX7_count_29 : decode cX7_count 29 = .ok (.invokevirtual 145, 3) := by decide +kernel
theorem dX7_count_32 : decode cX7_count 32 = .ok (.aload_n 0, 1) := by decide +kernel
theorem dX7_count_33 : decode cX7_count 33 = .ok (.iload_n 1, 1) := by decide +kernel
theorem dX7_count_34 : decode cX7_count 34 = .ok (.invokevirtual 188, 3) := by decide +kernel
theorem dX7_count_37 : decode cX7_count 37 = .ok (.ireturn, 1) := by decide +kernel
theorem dX7_differs_0 : decode cX7_differs 0 = .ok (.aload_n 0, 1) := by decide +kernel
theorem dX7_differs_1 : decode cX7_differs 1 = .ok (.getfield 17, 3) := by decide +kernel
theorem dX7_differs_4 : decode cX7_differs 4 = .ok (.iload_n 1, 1) := by decide +kernel
theorem dX7_differs_5 : decode cX7_differs 5 = .ok (.iaload, 1) := by decide +kernel
theorem dX7_differs_6 : decode cX7_differs 6 = .ok (.aload_n 0, 1) := by decide +kernel
theorem dX7_differs_7 : decode cX7_differs 7 = .ok (.getfield 32, 3) := by decide +kernel
theorem dX7_differs_10 : decode cX7_differs 10 = .ok (.iload_n 1, 1) := by decide +kernel
theorem dX7_differs_11 : decode cX7_differs 11 = .ok (.iaload, 1) := by decide +kernel
theorem dX7_differs_12 : decode cX7_differs 12 = .ok (.if_icmp .eq 7, 3) := by decide +kernel
theorem dX7_differs_15 : decode cX7_differs 15 = .ok (.iconst 1, 1) := by decide +kernel
theorem dX7_differs_16 : decode cX7_differs 16 = .ok (.goto 4, 3) := by decide +kernel
theorem dX7_differs_19 : decode cX7_differs 19 = .ok (.iconst 0, 1) := by decide +kernel
theorem dX7_differs_20 : decode cX7_differs 20 = .ok (.ireturn, 1) := by decide +kernel
theorem dX7_joined_0 : decode cX7_joined 0 = .ok (.iconst 1, 1) := by decide +kernel
theorem dX7_joined_1 : decode cX7_joined 1 = .ok (.iload_n 1, 1) := by decide +kernel
theorem dX7_joined_2 : decode cX7_joined 2 = .ok (.ishl, 1) := by decide +kernel
theorem dX7_joined_3 : decode cX7_joined 3 = .ok (.istore_n 2, 1) := by decide +kernel
theorem dX7_joined_4 : decode cX7_joined 4 = .ok (.iconst 0, 1) := by decide +kernel
theorem dX7_joined_5 : decode cX7_joined 5 = .ok (.istore_n 3, 1) := by decide +kernel
theorem dX7_joined_6 : decode cX7_joined 6 = .ok (.iload_n 2, 1) := by decide +kernel
theorem dX7_joined_7 : decode cX7_joined 7 = .ok (.iload_n 3, 1) := by decide +kernel
theorem dX7_joined_8 : decode cX7_joined 8 = .ok (.if_icmp .eq 98, 3) := by decide +kernel
theorem dX7_joined_11 : decode cX7_joined 11 = .ok (.iload_n 2, 1) := by decide +kernel
theorem dX7_joined_12 : decode cX7_joined 12 = .ok (.istore_n 3, 1) := by decide +kernel
theorem dX7_joined_13 : decode cX7_joined 13 = .ok (.iconst 0, 1) := by decide +kernel
theorem dX7_joined_14 : decode cX7_joined 14 = .ok (.istore 4, 2) := by decide +kernel
theorem dX7_joined_16 : decode cX7_joined 16 = .ok (.iload 4, 2) := by decide +kernel
theorem dX7_joined_18 : decode cX7_joined 18 = .ok (.aload_n 0, 1) := by decide +kernel
theorem dX7_joined_19 : decode cX7_joined 19 = .ok (.getfield 7, 3) := by decide +kernel
theorem dX7_joined_22 : decode cX7_joined 22 = .ok (.if_icmp .ge 81, 3) := by decide +kernel
theorem dX7_joined_25 : decode cX7_joined 25 = .ok (.iload_n 2, 1) := by decide +kernel
theorem dX7_joined_26 : decode cX7_joined 26 = .ok (.iload 4, 2) := by decide +kernel
theorem dX7_joined_28 : decode cX7_joined 28 = .ok (.invokestatic 61, 3) := by decide +kernel
theorem dX7_joined_31 : decode cX7_joined 31 = .ok (.ifCond .eq 66, 3) := by decide +kernel
theorem dX7_joined_34 : decode cX7_joined 34 = .ok (.aload_n 0, 1) := by decide +kernel
theorem dX7_joined_35 : decode cX7_joined 35 = .ok (.iload 4, 2) := by decide +kernel
theorem dX7_joined_37 : decode cX7_joined 37 = .ok (.invokevirtual 191, 3) := by decide +kernel
theorem dX7_joined_40 : decode cX7_joined 40 = .ok (.ifCond .eq 57, 3) := by decide +kernel
theorem dX7_joined_43 : decode cX7_joined 43 = .ok (.iload_n 2, 1) := by decide +kernel
theorem dX7_joined_44 : decode cX7_joined 44 = .ok (.aload_n 0, 1) := by decide +kernel
theorem dX7_joined_45 : decode cX7_joined 45 = .ok (.getfield 17, 3) := by decide +kernel
theorem dX7_joined_48 : decode cX7_joined 48 = .ok (.iload 4, 2) := by decide +kernel
theorem dX7_joined_50 : decode cX7_joined 50 = .ok (.iaload, 1) := by decide +kernel
theorem dX7_joined_51 : decode cX7_joined 51 = .ok (.iconst (-1), 1) := by decide +kernel
theorem dX7_joined_52 : decode cX7_joined 52 = .ok (.if_icmp .ne 7, 3) := by decide +kernel
theorem dX7_joined_55 : decode cX7_joined 55 = .ok (.iconst 0, 1) := by decide +kernel
theorem dX7_joined_56 : decode cX7_joined 56 = .ok (.goto 12, 3) := by decide +kernel
theorem dX7_joined_59 : decode cX7_joined 59 = .ok (.iconst 1, 1) := by decide +kernel
theorem dX7_joined_60 : decode cX7_joined 60 = .ok (.aload_n 0, 1) := by decide +kernel
theorem dX7_joined_61 : decode cX7_joined 61 = .ok (.getfield 17, 3) := by decide +kernel
theorem dX7_joined_64 : decode cX7_joined 64 = .ok (.iload 4, 2) := by decide +kernel
theorem dX7_joined_66 : decode cX7_joined 66 = .ok (.iaload, 1) := by decide +kernel
theorem dX7_joined_67 : decode cX7_joined 67 = .ok (.ishl, 1) := by decide +kernel
theorem dX7_joined_68 : decode cX7_joined 68 = .ok (.ior, 1) := by decide +kernel
theorem dX7_joined_69 : decode cX7_joined 69 = .ok (.istore_n 2, 1) := by decide +kernel
theorem dX7_joined_70 : decode cX7_joined 70 = .ok (.iload_n 2, 1) := by decide +kernel
theorem dX7_joined_71 : decode cX7_joined 71 = .ok (.aload_n 0, 1) := by decide +kernel
theorem dX7_joined_72 : decode cX7_joined 72 = .ok (.getfield 32, 3) := by decide +kernel
theorem dX7_joined_75 : decode cX7_joined 75 = .ok (.iload 4, 2) := by decide +kernel
theorem dX7_joined_77 : decode cX7_joined 77 = .ok (.iaload, 1) := by decide +kernel
theorem dX7_joined_78 : decode cX7_joined 78 = .ok (.iconst (-1), 1) := by decide +kernel
theorem dX7_joined_79 : decode cX7_joined 79 = .ok (.if_icmp .ne 7, 3) := by decide +kernel
theorem dX7_joined_82 : decode cX7_joined 82 = .ok (.iconst 0, 1) := by decide +kernel
theorem dX7_joined_83 : decode cX7_joined 83 = .ok (.goto 12, 3) := by decide +kernel
theorem dX7_joined_86 : decode cX7_joined 86 = .ok (.iconst 1, 1) := by decide +kernel
theorem dX7_joined_87 : decode cX7_joined 87 = .ok (.aload_n 0, 1) := by decide +kernel
theorem dX7_joined_88 : decode cX7_joined 88 = .ok (.getfield 32, 3) := by decide +kernel
theorem dX7_joined_91 : decode cX7_joined 91 = .ok (.iload 4, 2) := by decide +kernel
theorem dX7_joined_93 : decode cX7_joined 93 = .ok (.iaload, 1) := by decide +kernel
theorem dX7_joined_94 : decode cX7_joined 94 = .ok (.ishl, 1) := by decide +kernel
theorem dX7_joined_95 : decode cX7_joined 95 = .ok (.ior, 1) := by decide +kernel
theorem dX7_joined_96 : decode cX7_joined 96 = .ok (.istore_n 2, 1) := by decide +kernel
theorem dX7_joined_97 : decode cX7_joined 97 = .ok (.iinc 4 1, 3) := by decide +kernel
theorem dX7_joined_100 : decode cX7_joined 100 = .ok (.goto (-84), 3) := by decide +kernel
theorem dX7_joined_103 : decode cX7_joined 103 = .ok (.goto (-97), 3) := by decide +kernel
theorem dX7_joined_106 : decode cX7_joined 106 = .ok (.iload_n 2, 1) := by decide +kernel
theorem dX7_joined_107 : decode cX7_joined 107 = .ok (.ireturn, 1) := by decide +kernel
theorem dX7_isRing_0 : decode cX7_isRing 0 = .ok (.iconst 1, 1) := by decide +kernel
theorem dX7_isRing_1 : decode cX7_isRing 1 = .ok (.istore_n 2, 1) := by decide +kernel
theorem dX7_isRing_2 : decode cX7_isRing 2 = .ok (.iconst 0, 1) := by decide +kernel
theorem dX7_isRing_3 : decode cX7_isRing 3 = .ok (.istore_n 3, 1) := by decide +kernel
theorem dX7_isRing_4 : decode cX7_isRing 4 = .ok (.iload_n 3, 1) := by decide +kernel
theorem dX7_isRing_5 : decode cX7_isRing 5 = .ok (.aload_n 0, 1) := by decide +kernel
theorem dX7_isRing_6 : decode cX7_isRing 6 = .ok (.getfield 7, 3) := by decide +kernel
theorem dX7_isRing_9 : decode cX7_isRing 9 = .ok (.if_icmp .ge 47, 3) := by decide +kernel
theorem dX7_isRing_12 : decode cX7_isRing 12 = .ok (.iload_n 2, 1) := by decide +kernel
theorem dX7_isRing_13 : decode cX7_isRing 13 = .ok (.ifCond .eq 35, 3) := by decide +kernel
theorem dX7_isRing_16 : decode cX7_isRing 16 = .ok (.iload_n 1, 1) := by decide +kernel
theorem dX7_isRing_17 : decode cX7_isRing 17 = .ok (.iload_n 3, 1) := by decide +kernel
theorem dX7_isRing_18 : decode cX7_isRing 18 = .ok (.invokestatic 61, 3) := by decide +kernel
theorem dX7_isRing_21 : decode cX7_isRing 21 = .ok (.ifCond .eq 23, 3) := by decide +kernel
theorem dX7_isRing_24 : decode cX7_isRing 24 = .ok (.aload_n 0, 1) := by decide +kernel
theorem dX7_isRing_25 : decode cX7_isRing 25 = .ok (.getfield 17, 3) := by decide +kernel
theorem dX7_isRing_28 : decode cX7_isRing 28 = .ok (.iload_n 3, 1) := by decide +kernel
theorem dX7_isRing_29 : decode cX7_isRing 29 = .ok (.iaload, 1) := by decide +kernel
theorem dX7_isRing_30 : decode cX7_isRing 30 = .ok (.iconst (-1), 1) := by decide +kernel
theorem dX7_isRing_31 : decode cX7_isRing 31 = .ok (.if_icmp .eq 17, 3) := by decide +kernel
theorem dX7_isRing_34 : decode cX7_isRing 34 = .ok (.aload_n 0, 1) := by decide +kernel
theorem dX7_isRing_35 : decode cX7_isRing 35 = .ok (.getfield 32, 3) := by decide +kernel
theorem dX7_isRing_38 : decode cX7_isRing 38 = .ok (.iload_n 3, 1) := by decide +kernel
theorem dX7_isRing_39 : decode cX7_isRing 39 = .ok (.iaload, 1) := by decide +kernel
theorem dX7_isRing_40 : decode cX7_isRing 40 = .ok (.iconst (-1), 1) := by decide +kernel
theorem dX7_isRing_41 : decode cX7_isRing 41 = .ok (.if_icmp .eq 7, 3) := by decide +kernel
theorem dX7_isRing_44 : decode cX7_isRing 44 = .ok (.iconst 1, 1) := by decide +kernel
theorem dX7_isRing_45 : decode cX7_isRing 45 = .ok (.goto 4, 3) := by decide +kernel
theorem dX7_isRing_48 : decode cX7_isRing 48 = .ok (.iconst 0, 1) := by decide +kernel
theorem dX7_isRing_49 : decode cX7_isRing 49 = .ok (.istore_n 2, 1) := by decide +kernel
theorem dX7_isRing_50 : decode cX7_isRing 50 = .ok (.iinc 3 1, 3) := by decide +kernel
theorem dX7_isRing_53 : decode cX7_isRing 53 = .ok (.goto (-49), 3) := by decide +kernel
theorem dX7_isRing_56 : decode cX7_isRing 56 = .ok (.iload_n 2, 1) := by decide +kernel
theorem dX7_isRing_57 : decode cX7_isRing 57 = .ok (.ireturn, 1) := by decide +kernel
theorem dX7_differenceNow_0 : decode cX7_differenceNow 0 = .ok (.aload_n 0, 1) := by decide +kernel
theorem dX7_differenceNow_1 : decode cX7_differenceNow 1 = .ok (.invokevirtual 57, 3) := by decide +kernel
theorem dX7_differenceNow_4 : decode cX7_differenceNow 4 = .ok (.istore_n 2, 1) := by decide +kernel
theorem dX7_differenceNow_5 : decode cX7_differenceNow 5 = .ok (.iconst 0, 1) := by decide +kernel
theorem dX7_differenceNow_6 : decode cX7_differenceNow 6 = .ok (.istore_n 3, 1) := by decide +kernel
theorem dX7_differenceNow_7 : decode cX7_differenceNow 7 = .ok (.iconst 0, 1) := by decide +kernel
theorem dX7_differenceNow_8 : decode cX7_differenceNow 8 = .ok (.istore 4, 2) := by decide +kernel
theorem dX7_differenceNow_10 : decode cX7_differenceNow 10 = .ok (.iload 4, 2) := by decide +kernel
theorem dX7_differenceNow_12 : decode cX7_differenceNow 12 = .ok (.aload_n 0, 1) := by decide +kernel
theorem dX7_differenceNow_13 : decode cX7_differenceNow 13 = .ok (.getfield 7, 3) := by decide +kernel
theorem dX7_differenceNow_16 : decode cX7_differenceNow 16 = .ok (.if_icmp .ge 68, 3) := by decide +kernel
theorem dX7_differenceNow_19 : decode cX7_differenceNow 19 = .ok (.iload_n 2, 1) := by decide +kernel
theorem dX7_differenceNow_20 : decode cX7_differenceNow 20 = .ok (.iload 4, 2) := by decide +kernel
theorem dX7_differenceNow_22 : decode cX7_differenceNow 22 = .ok (.invokestatic 61, 3) := by decide +kernel
theorem dX7_differenceNow_25 : decode cX7_differenceNow 25 = .ok (.ifCond .eq 53, 3) := by decide +kernel
theorem dX7_differenceNow_28 : decode cX7_differenceNow 28 = .ok (.aload_n 0, 1) := by decide +kernel
theorem dX7_differenceNow_29 : decode cX7_differenceNow 29 = .ok (.iload 4, 2) := by decide +kernel
theorem dX7_differenceNow_31 : decode cX7_differenceNow 31 = .ok (.invokevirtual 191, 3) := by decide +kernel
theorem dX7_differenceNow_34 : decode cX7_differenceNow 34 = .ok (.ifCond .eq 44, 3) := by decide +kernel
theorem dX7_differenceNow_37 : decode cX7_differenceNow 37 = .ok (.aload_n 0, 1) := by decide +kernel
theorem dX7_differenceNow_38 : decode cX7_differenceNow 38 = .ok (.iload 4, 2) := by decide +kernel
theorem dX7_differenceNow_40 : decode cX7_differenceNow 40 = .ok (.invokevirtual 194, 3) := by decide +kernel
theorem dX7_differenceNow_43 : decode cX7_differenceNow 43 = .ok (.istore 5, 2) := by decide +kernel
theorem dX7_differenceNow_45 : decode cX7_differenceNow 45 = .ok (.iload_n 2, 1) := by decide +kernel
theorem dX7_differenceNow_46 : decode cX7_differenceNow 46 = .ok (.iload 5, 2) := by decide +kernel
theorem dX7_differenceNow_48 : decode cX7_differenceNow 48 = .ok (.iconst (-1), 1) := by decide +kernel
theorem dX7_differenceNow_49 : decode cX7_differenceNow 49 = .ok (.ixor, 1) := by decide +kernel
theorem dX7_differenceNow_50 : decode cX7_differenceNow 50 = .ok (.iand, 1) := by decide +kernel
theorem dX7_differenceNow_51 : decode cX7_differenceNow 51 = .ok (.istore_n 2, 1) := by decide +kernel
theorem dX7_differenceNow_52 : decode cX7_differenceNow 52 = .ok (.iload_n 3, 1) := by decide +kernel
theorem dX7_differenceNow_53 : decode cX7_differenceNow 53 = .ok (.aload_n 0, 1) := by decide +kernel
theorem dX7_differenceNow_54 : decode cX7_differenceNow 54 = .ok (.iload 5, 2) := by decide +kernel
theorem dX7_differenceNow_56 : decode cX7_differenceNow 56 = .ok (.invokevirtual 197, 3) := by decide +kernel
theorem dX7_differenceNow_59 : decode cX7_differenceNow 59 = .ok (.iload_n 1, 1) := by decide +kernel
theorem dX7_differenceNow_60 : decode cX7_differenceNow 60 = .ok (.ifCond .ne 7, 3) := by decide +kernel
theorem dX7_differenceNow_63 : decode cX7_differenceNow 63 = .ok (.iconst 1, 1) := by decide +kernel
theorem dX7_differenceNow_64 : decode cX7_differenceNow 64 = .ok (.goto 4, 3) := by decide +kernel
theorem dX7_differenceNow_67 : decode cX7_differenceNow 67 = .ok (.iconst 0, 1) := by decide +kernel
theorem dX7_differenceNow_68 : decode cX7_differenceNow 68 = .ok (.if_icmp .ne 7, 3) := by decide +kernel
theorem dX7_differenceNow_71 : decode cX7_differenceNow 71 = .ok (.iconst 1, 1) := by decide +kernel
theorem dX7_differenceNow_72 : decode cX7_differenceNow 72 = .ok (.goto 4, 3) := by decide +kernel
theorem dX7_differenceNow_75 : decode cX7_differenceNow 75 = .ok (.iconst 0, 1) := by decide +kernel
theorem dX7_differenceNow_76 : decode cX7_differenceNow 76 = .ok (.iadd, 1) := by decide +kernel
theorem dX7_differenceNow_77 : decode cX7_differenceNow 77 = .ok (.istore_n 3, 1) := by decide +kernel
theorem dX7_differenceNow_78 : decode cX7_differenceNow 78 = .ok (.iinc 4 1, 3) := by decide +kernel
theorem dX7_differenceNow_81 : decode cX7_differenceNow 81 = .ok (.goto (-71), 3) := by decide +kernel
theorem dX7_differenceNow_84 : decode cX7_differenceNow 84 = .ok (.iload_n 3, 1) := by decide +kernel
theorem dX7_differenceNow_85 : decode cX7_differenceNow 85 = .ok (.ireturn, 1) := by decide +kernel
theorem dX7_difference_0 : decode cX7_difference 0 = .ok (.aload_n 0, 1) := by decide +kernel
theorem dX7_difference_1 : decode cX7_difference 1 = .ok (.iload_n 1, 1) := by decide +kernel
theorem dX7_difference_2 : decode cX7_difference 2 = .ok (.iconst 0, 1) := by decide +kernel
theorem dX7_difference_3 : decode cX7_difference 3 = .ok (.iconst 1, 1) := by decide +kernel
theorem dX7_difference_4 : decode cX7_difference 4 = .ok (.invokestatic 50, 3) := by decide +kernel
theorem dX7_difference_7 : decode cX7_difference 7 = .ok (.ifCond .eq 7, 3) := by decide +kernel
theorem dX7_difference_10 : decode cX7_difference 10 = .ok (.iconst 0, 1) := by decide +kernel
theorem dX7_difference_11 : decode cX7_difference 11 = .ok (.goto 4, 3) := by decide +kernel
theorem dX7_difference_14 : decode cX7_difference 14 = .ok (.iconst 1, 1) := by decide +kernel
theorem dX7_difference_15 : decode cX7_difference 15 = .ok (.putfield 47, 3) := by decide +kernel
theorem dX7_difference_18 : decode cX7_difference 18 = .ok (.aload_n 0, 1) := by decide +kernel
theorem dX7_difference_19 : decode cX7_difference 19 = .ok (.getfield 47, 3) := by decide +kernel
theorem dX7_difference_22 : decode cX7_difference 22 = .ok (.ifCond .le 5, 3) := by decide +kernel
theorem dX7_difference_25 : decode cX7_difference 25 = .ok (.iconst 0, 1) := by decide +kernel
theorem dX7_difference_26 : decode cX7_difference 26 = .ok (.ireturn, 1) := by decide +kernel
theorem dX7_difference_27 : decode cX7_difference 27 = .ok (.aload_n 0, 1) := by decide +kernel
theorem dX7_difference_28 : decode cX7_difference 28 = .ok (.invokevirtual 145, 3) := by decide +kernel
theorem dX7_difference_31 : decode cX7_difference 31 = .ok (.aload_n 0, 1) := by decide +kernel
theorem dX7_difference_32 : decode cX7_difference 32 = .ok (.invokevirtual 148, 3) := by decide +kernel
theorem dX7_difference_35 : decode cX7_difference 35 = .ok (.aload_n 0, 1) := by decide +kernel
theorem dX7_difference_36 : decode cX7_difference 36 = .ok (.iload_n 1, 1) := by decide +kernel
theorem dX7_difference_37 : decode cX7_difference 37 = .ok (.invokevirtual 200, 3) := by decide +kernel
theorem dX7_difference_40 : decode cX7_difference 40 = .ok (.ireturn, 1) := by decide +kernel
theorem dX7_meanUse_0 : decode cX7_meanUse 0 = .ok (.aload_n 0, 1) := by decide +kernel
theorem dX7_meanUse_1 : decode cX7_meanUse 1 = .ok (.iconst 0, 1) := by decide +kernel
theorem dX7_meanUse_2 : decode cX7_meanUse 2 = .ok (.putfield 47, 3) := by decide +kernel
theorem dX7_meanUse_5 : decode cX7_meanUse 5 = .ok (.aload_n 0, 1) := by decide +kernel
theorem dX7_meanUse_6 : decode cX7_meanUse 6 = .ok (.invokevirtual 145, 3) := by decide +kernel
theorem dX7_meanUse_9 : decode cX7_meanUse 9 = .ok (.iconst 0, 1) := by decide +kernel
theorem dX7_meanUse_10 : decode cX7_meanUse 10 = .ok (.istore_n 1, 1) := by decide +kernel
theorem dX7_meanUse_11 : decode cX7_meanUse 11 = .ok (.iconst 0, 1) := by decide +kernel
theorem dX7_meanUse_12 : decode cX7_meanUse 12 = .ok (.istore_n 2, 1) := by decide +kernel
theorem dX7_meanUse_13 : decode cX7_meanUse 13 = .ok (.iload_n 2, 1) := by decide +kernel
theorem dX7_meanUse_14 : decode cX7_meanUse 14 = .ok (.aload_n 0, 1) := by decide +kernel
theorem dX7_meanUse_15 : decode cX7_meanUse 15 = .ok (.getfield 7, 3) := by decide +kernel
theorem dX7_meanUse_18 : decode cX7_meanUse 18 = .ok (.if_icmp .ge 36, 3) := by decide +kernel
theorem dX7_meanUse_21 : decode cX7_meanUse 21 = .ok (.iload_n 2, 1) := by decide +kernel
theorem dX7_meanUse_22 : decode cX7_meanUse 22 = .ok (.iconst 1, 1) := by decide +kernel
theorem dX7_meanUse_23 : decode cX7_meanUse 23 = .ok (.iadd, 1) := by decide +kernel
theorem dX7_meanUse_24 : decode cX7_meanUse 24 = .ok (.istore_n 3, 1) := by decide +kernel
theorem dX7_meanUse_25 : decode cX7_meanUse 25 = .ok (.iload_n 3, 1) := by decide +kernel
theorem dX7_meanUse_26 : decode cX7_meanUse 26 = .ok (.aload_n 0, 1) := by decide +kernel
theorem dX7_meanUse_27 : decode cX7_meanUse 27 = .ok (.getfield 7, 3) := by decide +kernel
theorem dX7_meanUse_30 : decode cX7_meanUse 30 = .ok (.if_icmp .ge 18, 3) := by decide +kernel
theorem dX7_meanUse_33 : decode cX7_meanUse 33 = .ok (.iload_n 1, 1) := by decide +kernel
theorem dX7_meanUse_34 : decode cX7_meanUse 34 = .ok (.aload_n 0, 1) := by decide +kernel
theorem dX7_meanUse_35 : decode cX7_meanUse 35 = .ok (.iload_n 2, 1) := by decide +kernel
theorem dX7_meanUse_36 : decode cX7_meanUse 36 = .ok (.iload_n 3, 1) := by decide +kernel
theorem dX7_meanUse_37 : decode cX7_meanUse 37 = .ok (.invokevirtual 172, 3) := by decide +kernel
theorem dX7_meanUse_40 : decode cX7_meanUse 40 = .ok (.iadd, 1) := by decide +kernel
theorem dX7_meanUse_41 : decode cX7_meanUse 41 = .ok (.istore_n 1, 1) := by decide +kernel
theorem dX7_meanUse_42 : decode cX7_meanUse 42 = .ok (.iinc 3 1, 3) := by decide +kernel
theorem dX7_meanUse_45 : decode cX7_meanUse 45 = .ok (.goto (-20), 3) := by decide +kernel
theorem dX7_meanUse_48 : decode cX7_meanUse 48 = .ok (.iinc 2 1, 3) := by decide +kernel
theorem dX7_meanUse_51 : decode cX7_meanUse 51 = .ok (.goto (-38), 3) := by decide +kernel
theorem dX7_meanUse_54 : decode cX7_meanUse 54 = .ok (.aload_n 0, 1) := by decide +kernel
theorem dX7_meanUse_55 : decode cX7_meanUse 55 = .ok (.invokevirtual 178, 3) := by decide +kernel
theorem dX7_meanUse_58 : decode cX7_meanUse 58 = .ok (.aload_n 0, 1) := by decide +kernel
theorem dX7_meanUse_59 : decode cX7_meanUse 59 = .ok (.getfield 29, 3) := by decide +kernel
theorem dX7_meanUse_62 : decode cX7_meanUse 62 = .ok (.aload_n 0, 1) := by decide +kernel
theorem dX7_meanUse_63 : decode cX7_meanUse 63 = .ok (.invokevirtual 57, 3) := by decide +kernel
theorem dX7_meanUse_66 : decode cX7_meanUse 66 = .ok (.iaload, 1) := by decide +kernel
theorem dX7_meanUse_67 : decode cX7_meanUse 67 = .ok (.imul, 1) := by decide +kernel
theorem dX7_meanUse_68 : decode cX7_meanUse 68 = .ok (.istore_n 2, 1) := by decide +kernel
theorem dX7_meanUse_69 : decode cX7_meanUse 69 = .ok (.aload_n 0, 1) := by decide +kernel
theorem dX7_meanUse_70 : decode cX7_meanUse 70 = .ok (.invokevirtual 178, 3) := by decide +kernel
theorem dX7_meanUse_73 : decode cX7_meanUse 73 = .ok (.ifCond .ne 7, 3) := by decide +kernel
theorem dX7_meanUse_76 : decode cX7_meanUse 76 = .ok (.dconst 0, 1) := by decide +kernel
theorem dX7_meanUse_77 : decode cX7_meanUse 77 = .ok (.goto 8, 3) := by decide +kernel
theorem dX7_meanUse_80 : decode cX7_meanUse 80 = .ok (.iload_n 1, 1) := by decide +kernel
theorem dX7_meanUse_81 : decode cX7_meanUse 81 = .ok (.i2d, 1) := by decide +kernel
theorem dX7_meanUse_82 : decode cX7_meanUse 82 = .ok (.iload_n 2, 1) := by decide +kernel
theorem dX7_meanUse_83 : decode cX7_meanUse 83 = .ok (.i2d, 1) := by decide +kernel
theorem dX7_meanUse_84 : decode cX7_meanUse 84 = .ok (.ddiv, 1) := by decide +kernel
theorem dX7_meanUse_85 : decode cX7_meanUse 85 = .ok (.dreturn, 1) := by decide +kernel
theorem dX7_mix_0 : decode cX7_mix 0 = .ok (.aload_n 0, 1) := by decide +kernel
theorem dX7_mix_1 : decode cX7_mix 1 = .ok (.ldc2_w 203, 3) := by decide +kernel
theorem dX7_mix_4 : decode cX7_mix 4 = .ok (.aload_n 0, 1) := by decide +kernel
theorem dX7_mix_5 : decode cX7_mix 5 = .ok (.getfield 205, 3) := by decide +kernel
theorem dX7_mix_8 : decode cX7_mix 8 = .ok (.lmul, 1) := by decide +kernel
theorem dX7_mix_9 : decode cX7_mix 9 = .ok (.lload_n 1, 1) := by decide +kernel
theorem dX7_mix_10 : decode cX7_mix 10 = .ok (.ladd, 1) := by decide +kernel
theorem dX7_mix_11 : decode cX7_mix 11 = .ok (.putfield 205, 3) := by decide +kernel
theorem dX7_mix_14 : decode cX7_mix 14 = .ok (.return_, 1) := by decide +kernel
theorem dX7_mixNode_0 : decode cX7_mixNode 0 = .ok (.iconst 0, 1) := by decide +kernel
theorem dX7_mixNode_1 : decode cX7_mixNode 1 = .ok (.istore_n 2, 1) := by decide +kernel
theorem dX7_mixNode_2 : decode cX7_mixNode 2 = .ok (.iload_n 2, 1) := by decide +kernel
theorem dX7_mixNode_3 : decode cX7_mixNode 3 = .ok (.iconst 5, 1) := by decide +kernel
theorem dX7_mixNode_4 : decode cX7_mixNode 4 = .ok (.if_icmp .ge 20, 3) := by decide +kernel
theorem dX7_mixNode_7 : decode cX7_mixNode 7 = .ok (.aload_n 0, 1) := by decide +kernel
theorem dX7_mixNode_8 : decode cX7_mixNode 8 = .ok (.aload_n 0, 1) := by decide +kernel
theorem dX7_mixNode_9 : decode cX7_mixNode 9 = .ok (.iload_n 1, 1) := by decide +kernel
theorem dX7_mixNode_10 : decode cX7_mixNode 10 = .ok (.iload_n 2, 1) := by decide +kernel
theorem dX7_mixNode_11 : decode cX7_mixNode 11 = .ok (.invokevirtual 169, 3) := by decide +kernel
theorem dX7_mixNode_14 : decode cX7_mixNode 14 = .ok (.i2l, 1) := by decide +kernel
theorem dX7_mixNode_15 : decode cX7_mixNode 15 = .ok (.invokevirtual 209, 3) := by decide +kernel
theorem dX7_mixNode_18 : decode cX7_mixNode 18 = .ok (.iinc 2 1, 3) := by decide +kernel
theorem dX7_mixNode_21 : decode cX7_mixNode 21 = .ok (.goto (-19), 3) := by decide +kernel
theorem dX7_mixNode_24 : decode cX7_mixNode 24 = .ok (.aload_n 0, 1) := by decide +kernel
theorem dX7_mixNode_25 : decode cX7_mixNode 25 = .ok (.aload_n 0, 1) := by decide +kernel
theorem dX7_mixNode_26 : decode cX7_mixNode 26 = .ok (.getfield 32, 3) := by decide +kernel
theorem dX7_mixNode_29 : decode cX7_mixNode 29 = .ok (.iload_n 1, 1) := by decide +kernel
theorem dX7_mixNode_30 : decode cX7_mixNode 30 = .ok (.iaload, 1) := by decide +kernel
theorem dX7_mixNode_31 : decode cX7_mixNode 31 = .ok (.i2l, 1) := by decide +kernel
theorem dX7_mixNode_32 : decode cX7_mixNode 32 = .ok (.invokevirtual 209, 3) := by decide +kernel
theorem dX7_mixNode_35 : decode cX7_mixNode 35 = .ok (.aload_n 0, 1) := by decide +kernel
theorem dX7_mixNode_36 : decode cX7_mixNode 36 = .ok (.iload_n 1, 1) := by decide +kernel
theorem dX7_mixNode_37 : decode cX7_mixNode 37 = .ok (.invokevirtual 151, 3) := by decide +kernel
theorem dX7_mixNode_40 : decode cX7_mixNode 40 = .ok (.aload_n 0, 1) := by decide +kernel
theorem dX7_mixNode_41 : decode cX7_mixNode 41 = .ok (.aload_n 0, 1) := by decide +kernel
theorem dX7_mixNode_42 : decode cX7_mixNode 42 = .ok (.getfield 87, 3) := by decide +kernel
theorem dX7_mixNode_45 : decode cX7_mixNode 45 = .ok (.i2l, 1) := by decide +kernel
theorem dX7_mixNode_46 : decode cX7_mixNode 46 = .ok (.invokevirtual 209, 3) := by decide +kernel
theorem dX7_mixNode_49 : decode cX7_mixNode 49 = .ok (.aload_n 0, 1) := by decide +kernel
theorem dX7_mixNode_50 : decode cX7_mixNode 50 = .ok (.aload_n 0, 1) := by decide +kernel
theorem dX7_mixNode_51 : decode cX7_mixNode 51 = .ok (.getfield 84, 3) := by decide +kernel
theorem dX7_mixNode_54 : decode cX7_mixNode 54 = .ok (.i2l, 1) := by decide +kernel
theorem dX7_mixNode_55 : decode cX7_mixNode 55 = .ok (.invokevirtual 209, 3) := by decide +kernel
theorem dX7_mixNode_58 : decode cX7_mixNode 58 = .ok (.aload_n 0, 1) := by decide +kernel
theorem dX7_mixNode_59 : decode cX7_mixNode 59 = .ok (.getfield 17, 3) := by decide +kernel
theorem dX7_mixNode_62 : decode cX7_mixNode 62 = .ok (.iload_n 1, 1) := by decide +kernel
theorem dX7_mixNode_63 : decode cX7_mixNode 63 = .ok (.iaload, 1) := by decide +kernel
theorem dX7_mixNode_64 : decode cX7_mixNode 64 = .ok (.iconst (-1), 1) := by decide +kernel
theorem dX7_mixNode_65 : decode cX7_mixNode 65 = .ok (.if_icmp .ne 13, 3) := by decide +kernel
theorem dX7_mixNode_68 : decode cX7_mixNode 68 = .ok (.aload_n 0, 1) := by decide +kernel
theorem dX7_mixNode_69 : decode cX7_mixNode 69 = .ok (.aload_n 0, 1) := by decide +kernel
theorem dX7_mixNode_70 : decode cX7_mixNode 70 = .ok (.iload_n 1, 1) := by decide +kernel
theorem dX7_mixNode_71 : decode cX7_mixNode 71 = .ok (.invokevirtual 97, 3) := by decide +kernel
theorem dX7_mixNode_74 : decode cX7_mixNode 74 = .ok (.i2l, 1) := by decide +kernel
theorem dX7_mixNode_75 : decode cX7_mixNode 75 = .ok (.invokevirtual 209, 3) := by decide +kernel
theorem dX7_mixNode_78 : decode cX7_mixNode 78 = .ok (.return_, 1) := by decide +kernel
theorem dX7_mixPairs_0 : decode cX7_mixPairs 0 = .ok (.iconst 0, 1) := by decide +kernel
theorem dX7_mixPairs_1 : decode cX7_mixPairs 1 = .ok (.istore_n 1, 1) := by decide +kernel
theorem dX7_mixPairs_2 : decode cX7_mixPairs 2 = .ok (.iload_n 1, 1) := by decide +kernel
theorem dX7_mixPairs_3 : decode cX7_mixPairs 3 = .ok (.aload_n 0, 1) := by decide +kernel
theorem dX7_mixPairs_4 : decode cX7_mixPairs 4 = .ok (.getfield 7, 3) := by decide +kernel
theorem dX7_mixPairs_7 : decode cX7_mixPairs 7 = .ok (.if_icmp .ge 52, 3) := by decide +kernel
theorem dX7_mixPairs_10 : decode cX7_mixPairs 10 = .ok (.iload_n 1, 1) := by decide +kernel
theorem dX7_mixPairs_11 : decode cX7_mixPairs 11 = .ok (.iconst 1, 1) := by decide +kernel
theorem dX7_mixPairs_12 : decode cX7_mixPairs 12 = .ok (.iadd, 1) := by decide +kernel
theorem dX7_mixPairs_13 : decode cX7_mixPairs 13 = .ok (.istore_n 2, 1) := by decide +kernel
theorem dX7_mixPairs_14 : decode cX7_mixPairs 14 = .ok (.iload_n 2, 1) := by decide +kernel
theorem dX7_mixPairs_15 : decode cX7_mixPairs 15 = .ok (.aload_n 0, 1) := by decide +kernel
theorem dX7_mixPairs_16 : decode cX7_mixPairs 16 = .ok (.getfield 7, 3) := by decide +kernel
theorem dX7_mixPairs_19 : decode cX7_mixPairs 19 = .ok (.if_icmp .ge 34, 3) := by decide +kernel
theorem dX7_mixPairs_22 : decode cX7_mixPairs 22 = .ok (.iconst 0, 1) := by decide +kernel
theorem dX7_mixPairs_23 : decode cX7_mixPairs 23 = .ok (.istore_n 3, 1) := by decide +kernel
theorem dX7_mixPairs_24 : decode cX7_mixPairs 24 = .ok (.iload_n 3, 1) := by decide +kernel
theorem dX7_mixPairs_25 : decode cX7_mixPairs 25 = .ok (.iconst 3, 1) := by decide +kernel
theorem dX7_mixPairs_26 : decode cX7_mixPairs 26 = .ok (.if_icmp .ge 21, 3) := by decide +kernel
theorem dX7_mixPairs_29 : decode cX7_mixPairs 29 = .ok (.aload_n 0, 1) := by decide +kernel
theorem dX7_mixPairs_30 : decode cX7_mixPairs 30 = .ok (.aload_n 0, 1) := by decide +kernel
theorem dX7_mixPairs_31 : decode cX7_mixPairs 31 = .ok (.iload_n 1, 1) := by decide +kernel
theorem dX7_mixPairs_32 : decode cX7_mixPairs 32 = .ok (.iload_n 2, 1) := by decide +kernel
theorem dX7_mixPairs_33 : decode cX7_mixPairs 33 = .ok (.iload_n 3, 1) := by decide +kernel
theorem dX7_mixPairs_34 : decode cX7_mixPairs 34 = .ok (.invokevirtual 175, 3) := by decide +kernel
theorem dX7_mixPairs_37 : decode cX7_mixPairs 37 = .ok (.i2l, 1) := by decide +kernel
theorem dX7_mixPairs_38 : decode cX7_mixPairs 38 = .ok (.invokevirtual 209, 3) := by decide +kernel
theorem dX7_mixPairs_41 : decode cX7_mixPairs 41 = .ok (.iinc 3 1, 3) := by decide +kernel
theorem dX7_mixPairs_44 : decode cX7_mixPairs 44 = .ok (.goto (-20), 3) := by decide +kernel
theorem dX7_mixPairs_47 : decode cX7_mixPairs 47 = .ok (.iinc 2 1, 3) := by decide +kernel
theorem dX7_mixPairs_50 : decode cX7_mixPairs 50 = .ok (.goto (-36), 3) := by decide +kernel
theorem dX7_mixPairs_53 : decode cX7_mixPairs 53 = .ok (.iinc 1 1, 3) := by decide +kernel
theorem dX7_mixPairs_56 : decode cX7_mixPairs 56 = .ok (.goto (-54), 3) := by decide +kernel
theorem dX7_mixPairs_59 : decode cX7_mixPairs 59 = .ok (.return_, 1) := by decide +kernel
theorem dX7_digest_0 : decode cX7_digest 0 = .ok (.aload_n 0, 1) := by decide +kernel
theorem dX7_digest_1 : decode cX7_digest 1 = .ok (.iconst 0, 1) := by decide +kernel
theorem dX7_digest_2 : decode cX7_digest 2 = .ok (.putfield 47, 3) := by decide +kernel
theorem dX7_digest_5 : decode cX7_digest 5 = .ok (.aload_n 0, 1) := by decide +kernel
theorem dX7_digest_6 : decode cX7_digest 6 = .ok (.ldc2_w 213, 3) := by decide +kernel
theorem dX7_digest_9 : decode cX7_digest 9 = .ok (.putfield 205, 3) := by decide +kernel
theorem dX7_digest_12 : decode cX7_digest 12 = .ok (.aload_n 0, 1) := by decide +kernel
theorem dX7_digest_13 : decode cX7_digest 13 = .ok (.invokevirtual 145, 3) := by decide +kernel
theorem dX7_digest_16 : decode cX7_digest 16 = .ok (.aload_n 0, 1) := by decide +kernel
theorem dX7_digest_17 : decode cX7_digest 17 = .ok (.invokevirtual 148, 3) := by decide +kernel
theorem dX7_digest_20 : decode cX7_digest 20 = .ok (.iconst 0, 1) := by decide +kernel
theorem dX7_digest_21 : decode cX7_digest 21 = .ok (.istore_n 1, 1) := by decide +kernel
theorem dX7_digest_22 : decode cX7_digest 22 = .ok (.iload_n 1, 1) := by decide +kernel
theorem dX7_digest_23 : decode cX7_digest 23 = .ok (.bipush 11, 2) := by decide +kernel
theorem dX7_digest_25 : decode cX7_digest 25 = .ok (.if_icmp .ge 19, 3) := by decide +kernel
theorem dX7_digest_28 : decode cX7_digest 28 = .ok (.aload_n 0, 1) := by decide +kernel
theorem dX7_digest_29 : decode cX7_digest 29 = .ok (.aload_n 0, 1) := by decide +kernel
theorem dX7_digest_30 : decode cX7_digest 30 = .ok (.iload_n 1, 1) := by decide +kernel
theorem dX7_digest_31 : decode cX7_digest 31 = .ok (.invokevirtual 188, 3) := by decide +kernel
theorem dX7_digest_34 : decode cX7_digest 34 = .ok (.i2l, 1) := by decide +kernel
theorem dX7_digest_35 : decode cX7_digest 35 = .ok (.invokevirtual 209, 3) := by decide +kernel
theorem dX7_digest_38 : decode cX7_digest 38 = .ok (.iinc 1 1, 3) := by decide +kernel
theorem dX7_digest_41 : decode cX7_digest 41 = .ok (.goto (-19), 3) := by decide +kernel
theorem dX7_digest_44 : decode cX7_digest 44 = .ok (.iconst 0, 1) := by decide +kernel
theorem dX7_digest_45 : decode cX7_digest 45 = .ok (.istore_n 1, 1) := by decide +kernel
theorem dX7_digest_46 : decode cX7_digest 46 = .ok (.iload_n 1, 1) := by decide +kernel
theorem dX7_digest_47 : decode cX7_digest 47 = .ok (.aload_n 0, 1) := by decide +kernel
theorem dX7_digest_48 : decode cX7_digest 48 = .ok (.getfield 7, 3) := by decide +kernel
theorem dX7_digest_51 : decode cX7_digest 51 = .ok (.if_icmp .ge 14, 3) := by decide +kernel
theorem dX7_digest_54 : decode cX7_digest 54 = .ok (.aload_n 0, 1) := by decide +kernel
theorem dX7_digest_55 : decode cX7_digest 55 = .ok (.iload_n 1, 1) := by decide +kernel
theorem dX7_digest_56 : decode cX7_digest 56 = .ok (.invokevirtual 215, 3) := by decide +kernel
theorem dX7_digest_59 : decode cX7_digest 59 = .ok (.iinc 1 1, 3) := by decide +kernel
theorem dX7_digest_62 : decode cX7_digest 62 = .ok (.goto (-16), 3) := by decide +kernel
theorem dX7_digest_65 : decode cX7_digest 65 = .ok (.aload_n 0, 1) := by decide +kernel
theorem dX7_digest_66 : decode cX7_digest 66 = .ok (.invokevirtual 218, 3) := by decide +kernel
theorem dX7_digest_69 : decode cX7_digest 69 = .ok (.aload_n 0, 1) := by decide +kernel
theorem dX7_digest_70 : decode cX7_digest 70 = .ok (.aload_n 0, 1) := by decide +kernel
theorem dX7_digest_71 : decode cX7_digest 71 = .ok (.invokevirtual 160, 3) := by decide +kernel
theorem dX7_digest_74 : decode cX7_digest 74 = .ok (.i2l, 1) := by decide +kernel
theorem dX7_digest_75 : decode cX7_digest 75 = .ok (.invokevirtual 209, 3) := by decide +kernel
theorem dX7_digest_78 : decode cX7_digest 78 = .ok (.aload_n 0, 1) := by decide +kernel
theorem dX7_digest_79 : decode cX7_digest 79 = .ok (.aload_n 0, 1) := by decide +kernel
theorem dX7_digest_80 : decode cX7_digest 80 = .ok (.invokevirtual 157, 3) := by decide +kernel
theorem dX7_digest_83 : decode cX7_digest 83 = .ok (.i2l, 1) := by decide +kernel
theorem dX7_digest_84 : decode cX7_digest 84 = .ok (.invokevirtual 209, 3) := by decide +kernel
theorem dX7_digest_87 : decode cX7_digest 87 = .ok (.aload_n 0, 1) := by decide +kernel
theorem dX7_digest_88 : decode cX7_digest 88 = .ok (.aload_n 0, 1) := by decide +kernel
theorem dX7_digest_89 : decode cX7_digest 89 = .ok (.iconst 0, 1) := by decide +kernel
theorem dX7_digest_90 : decode cX7_digest 90 = .ok (.invokevirtual 200, 3) := by decide +kernel
theorem dX7_digest_93 : decode cX7_digest 93 = .ok (.i2l, 1) := by decide +kernel
theorem dX7_digest_94 : decode cX7_digest 94 = .ok (.invokevirtual 209, 3) := by decide +kernel
theorem dX7_digest_97 : decode cX7_digest 97 = .ok (.aload_n 0, 1) := by decide +kernel
theorem dX7_digest_98 : decode cX7_digest 98 = .ok (.aload_n 0, 1) := by decide +kernel
theorem dX7_digest_99 : decode cX7_digest 99 = .ok (.iconst 1, 1) := by decide +kernel
theorem dX7_digest_100 : decode cX7_digest 100 = .ok (.invokevirtual 200, 3) := by decide +kernel
theorem dX7_digest_103 : decode cX7_digest 103 = .ok (.i2l, 1) := by decide +kernel
theorem dX7_digest_104 : decode cX7_digest 104 = .ok (.invokevirtual 209, 3) := by decide +kernel
theorem dX7_digest_107 : decode cX7_digest 107 = .ok (.aload_n 0, 1) := by decide +kernel
theorem dX7_digest_108 : decode cX7_digest 108 = .ok (.aload_n 0, 1) := by decide +kernel
theorem dX7_digest_109 : decode cX7_digest 109 = .ok (.getfield 118, 3) := by decide +kernel
theorem dX7_digest_112 : decode cX7_digest 112 = .ok (.i2l, 1) := by decide +kernel
theorem dX7_digest_113 : decode cX7_digest 113 = .ok (.invokevirtual 209, 3) := by decide +kernel
theorem dX7_digest_116 : decode cX7_digest 116 = .ok (.iconst 0, 1) := by decide +kernel
theorem dX7_digest_117 : decode cX7_digest 117 = .ok (.istore_n 1, 1) := by decide +kernel
theorem dX7_digest_118 : decode cX7_digest 118 = .ok (.iload_n 1, 1) := by decide +kernel
theorem dX7_digest_119 : decode cX7_digest 119 = .ok (.aload_n 0, 1) := by decide +kernel
theorem dX7_digest_120 : decode cX7_digest 120 = .ok (.getfield 118, 3) := by decide +kernel
theorem dX7_digest_123 : decode cX7_digest 123 = .ok (.if_icmp .ge 20, 3) := by decide +kernel
theorem dX7_digest_126 : decode cX7_digest 126 = .ok (.aload_n 0, 1) := by decide +kernel
theorem dX7_digest_127 : decode cX7_digest 127 = .ok (.aload_n 0, 1) := by decide +kernel
theorem dX7_digest_128 : decode cX7_digest 128 = .ok (.getfield 23, 3) := by decide +kernel
theorem dX7_digest_131 : decode cX7_digest 131 = .ok (.iload_n 1, 1) := by decide +kernel
theorem dX7_digest_132 : decode cX7_digest 132 = .ok (.iaload, 1) := by decide +kernel
theorem dX7_digest_133 : decode cX7_digest 133 = .ok (.i2l, 1) := by decide +kernel
theorem dX7_digest_134 : decode cX7_digest 134 = .ok (.invokevirtual 209, 3) := by decide +kernel
theorem dX7_digest_137 : decode cX7_digest 137 = .ok (.iinc 1 1, 3) := by decide +kernel
theorem dX7_digest_140 : decode cX7_digest 140 = .ok (.goto (-22), 3) := by decide +kernel
theorem dX7_digest_143 : decode cX7_digest 143 = .ok (.aload_n 0, 1) := by decide +kernel
theorem dX7_digest_144 : decode cX7_digest 144 = .ok (.getfield 205, 3) := by decide +kernel
theorem dX7_digest_147 : decode cX7_digest 147 = .ok (.lreturn, 1) := by decide +kernel
