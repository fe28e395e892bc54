theorem dX6_init_0 : decode cX6_init 0 = .ok (.aload_n 0, 1) := by decide +kernel
theorem dX6_init_1 : decode cX6_init 1 = .ok (.invokespecial 3, 3) := by decide +kernel
theorem dX6_init_4 : decode cX6_init 4 = .ok (.aload_n 0, 1) := by decide +kernel
theorem dX6_init_5 : decode cX6_init 5 = .ok (.new 9, 3) := by decide +kernel
theorem dX6_init_8 : decode cX6_init 8 = .ok (.dup, 1) := by decide +kernel
theorem dX6_init_9 : decode cX6_init 9 = .ok (.invokespecial 11, 3) := by decide +kernel
theorem dX6_init_12 : decode cX6_init 12 = .ok (.putfield 12, 3) := by decide +kernel
theorem dX6_init_15 : decode cX6_init 15 = .ok (.aload_n 0, 1) := by decide +kernel
theorem dX6_init_16 : decode cX6_init 16 = .ok (.new 16, 3) := by decide +kernel
theorem dX6_init_19 : decode cX6_init 19 = .ok (.dup, 1) := by decide +kernel
theorem dX6_init_20 : decode cX6_init 20 = .ok (.invokespecial 18, 3) := by decide +kernel
theorem dX6_init_23 : decode cX6_init 23 = .ok (.putfield 19, 3) := by decide +kernel
theorem dX6_init_26 : decode cX6_init 26 = .ok (.aload_n 0, 1) := by decide +kernel
theorem dX6_init_27 : decode cX6_init 27 = .ok (.new 23, 3) := by decide +kernel
theorem dX6_init_30 : decode cX6_init 30 = .ok (.dup, 1) := by decide +kernel
theorem dX6_init_31 : decode cX6_init 31 = .ok (.invokespecial 25, 3) := by decide +kernel
theorem dX6_init_34 : decode cX6_init 34 = .ok (.putfield 26, 3) := by decide +kernel
theorem dX6_init_37 : decode cX6_init 37 = .ok (.aload_n 0, 1) := by decide +kernel
theorem dX6_init_38 : decode cX6_init 38 = .ok (.new 30, 3) := by decide +kernel
theorem dX6_init_41 : decode cX6_init 41 = .ok (.dup, 1) := by decide +kernel
theorem dX6_init_42 : decode cX6_init 42 = .ok (.invokespecial 32, 3) := by decide +kernel
theorem dX6_init_45 : decode cX6_init 45 = .ok (.putfield 33, 3) := by decide +kernel
theorem dX6_init_48 : decode cX6_init 48 = .ok (.aload_n 0, 1) := by decide +kernel
theorem dX6_init_49 : decode cX6_init 49 = .ok (.new 37, 3) := by decide +kernel
theorem dX6_init_52 : decode cX6_init 52 = .ok (.dup, 1) := by decide +kernel
theorem dX6_init_53 : decode cX6_init 53 = .ok (.aload_n 0, 1) := by decide +kernel
theorem dX6_init_54 : decode cX6_init 54 = .ok (.getfield 12, 3) := by decide +kernel
theorem dX6_init_57 : decode cX6_init 57 = .ok (.aload_n 0, 1) := by decide +kernel
theorem dX6_init_58 : decode cX6_init 58 = .ok (.getfield 19, 3) := by decide +kernel
theorem dX6_init_61 : decode cX6_init 61 = .ok (.invokespecial 39, 3) := by decide +kernel
theorem dX6_init_64 : decode cX6_init 64 = .ok (.putfield 42, 3) := by decide +kernel
theorem dX6_init_67 : decode cX6_init 67 = .ok (.aload_n 0, 1) := by decide +kernel
theorem dX6_init_68 : decode cX6_init 68 = .ok (.new 46, 3) := by decide +kernel
theorem dX6_init_71 : decode cX6_init 71 = .ok (.dup, 1) := by decide +kernel
theorem dX6_init_72 : decode cX6_init 72 = .ok (.aload_n 0, 1) := by decide +kernel
theorem dX6_init_73 : decode cX6_init 73 = .ok (.getfield 12, 3) := by decide +kernel
theorem dX6_init_76 : decode cX6_init 76 = .ok (.invokespecial 48, 3) := by decide +kernel
theorem dX6_init_79 : decode cX6_init 79 = .ok (.putfield 51, 3) := by decide +kernel
theorem dX6_init_82 : decode cX6_init 82 = .ok (.aload_n 0, 1) := by decide +kernel
theorem dX6_init_83 : decode cX6_init 83 = .ok (.new 9, 3) := by decide +kernel
theorem dX6_init_86 : decode cX6_init 86 = .ok (.dup, 1) := by decide +kernel
theorem dX6_init_87 : decode cX6_init 87 = .ok (.invokespecial 11, 3) := by decide +kernel
theorem dX6_init_90 : decode cX6_init 90 = .ok (.putfield 55, 3) := by decide +kernel
theorem dX6_init_93 : decode cX6_init 93 = .ok (.return_, 1) := by decide +kernel
theorem dX6_begin_0 : decode cX6_begin 0 = .ok (.iload_n 1, 1) := by decide +kernel
theorem dX6_begin_1 : decode cX6_begin 1 = .ok (.iconst 2, 1) := by decide +kernel
theorem dX6_begin_2 : decode cX6_begin 2 = .ok (.if_icmp .lt 9, 3) := by decide +kernel
theorem dX6_begin_5 : decode cX6_begin 5 = .ok (.iload_n 1, 1) := by decide +kernel
theorem dX6_begin_6 : decode cX6_begin 6 = .ok (.bipush 12, 2) := by decide +kernel
theorem dX6_begin_8 : decode cX6_begin 8 = .ok (.if_icmp .le 13, 3) := by decide +kernel
theorem dX6_begin_11 : decode cX6_begin 11 = .ok (.new 58, 3) := by decide +kernel
theorem dX6_begin_14 : decode cX6_begin 14 = .ok (.dup, 1) := by decide +kernel
theorem dX6_begin_15 : decode cX6_begin 15 = .ok (.ldc 60, 2) := by decide +kernel
theorem dX6_begin_17 : decode cX6_begin 17 = .ok (.invokespecial 62, 3) := by decide +kernel
theorem dX6_begin_20 : decode cX6_begin 20 = .ok (.athrow, 1) := by decide +kernel
theorem dX6_begin_21 : decode cX6_begin 21 = .ok (.aload_n 0, 1) := by decide +kernel
theorem dX6_begin_22 : decode cX6_begin 22 = .ok (.getfield 12, 3) := by decide +kernel
theorem dX6_begin_25 : decode cX6_begin 25 = .ok (.getfield 65, 3) := by decide +kernel
theorem dX6_begin_28 : decode cX6_begin 28 = .ok (.istore_n 2, 1) := by decide +kernel
theorem dX6_begin_29 : decode cX6_begin 29 = .ok (.aload_n 0, 1) := by decide +kernel
theorem dX6_begin_30 : decode cX6_begin 30 = .ok (.getfield 12, 3) := by decide +kernel
theorem dX6_begin_33 : decode cX6_begin 33 = .ok (.iload_n 1, 1) := by decide +kernel
theorem dX6_begin_34 : decode cX6_begin 34 = .ok (.invokevirtual 69, 3) := by decide +kernel
theorem dX6_begin_37 : decode cX6_begin 37 = .ok (.aload_n 0, 1) := by decide +kernel
theorem dX6_begin_38 : decode cX6_begin 38 = .ok (.getfield 19, 3) := by decide +kernel
theorem dX6_begin_41 : decode cX6_begin 41 = .ok (.invokevirtual 73, 3) := by decide +kernel
theorem dX6_begin_44 : decode cX6_begin 44 = .ok (.aload_n 0, 1) := by decide +kernel
theorem dX6_begin_45 : decode cX6_begin 45 = .ok (.getfield 33, 3) := by decide +kernel
theorem dX6_begin_48 : decode cX6_begin 48 = .ok (.invokevirtual 75, 3) := by decide +kernel
theorem dX6_begin_51 : decode cX6_begin 51 = .ok (.iload_n 2, 1) := by decide +kernel
theorem dX6_begin_52 : decode cX6_begin 52 = .ok (.ireturn, 1) := by decide +kernel
theorem dX6_setEdge_0 : decode cX6_setEdge 0 = .ok (.aload_n 0, 1) := by decide +kernel
theorem dX6_setEdge_1 : decode cX6_setEdge 1 = .ok (.iload_n 1, 1) := by decide +kernel
theorem dX6_setEdge_2 : decode cX6_setEdge 2 = .ok (.invokevirtual 76, 3) := by decide +kernel
theorem dX6_setEdge_5 : decode cX6_setEdge 5 = .ok (.aload_n 0, 1) := by decide +kernel
theorem dX6_setEdge_6 : decode cX6_setEdge 6 = .ok (.iload_n 2, 1) := by decide +kernel
theorem dX6_setEdge_7 : decode cX6_setEdge 7 = .ok (.invokevirtual 76, 3) := by decide +kernel
theorem dX6_setEdge_10 : decode cX6_setEdge 10 = .ok (.iload_n 1, 1) := by decide +kernel
theorem dX6_setEdge_11 : decode cX6_setEdge 11 = .ok (.iload_n 2, 1) := by decide +kernel
theorem dX6_setEdge_12 : decode cX6_setEdge 12 = .ok (.invokestatic 79, 3) := by decide +kernel
theorem dX6_setEdge_15 : decode cX6_setEdge 15 = .ok (.aload_n 0, 1) := by decide +kernel
theorem dX6_setEdge_16 : decode cX6_setEdge 16 = .ok (.getfield 33, 3) := by decide +kernel
theorem dX6_setEdge_19 : decode cX6_setEdge 19 = .ok (.aload_n 0, 1) := by decide +kernel
theorem dX6_setEdge_20 : decode cX6_setEdge 20 = .ok (.getfield 12, 3) := by decide +kernel
theorem dX6_setEdge_23 : decode cX6_setEdge 23 = .ok (.aload_n 0, 1) := by decide +kernel
theorem dX6_setEdge_24 : decode cX6_setEdge 24 = .ok (.getfield 19, 3) := by decide +kernel
theorem dX6_setEdge_27 : decode cX6_setEdge 27 = .ok (.invokevirtual 83, 3) := by decide +kernel
theorem dX6_setEdge_30 : decode cX6_setEdge 30 = .ok (.aload_n 0, 1) := by decide +kernel
theorem dX6_setEdge_31 : decode cX6_setEdge 31 = .ok (.getfield 12, 3) := by decide +kernel
theorem dX6_setEdge_34 : decode cX6_setEdge 34 = .ok (.iload_n 1, 1) := by decide +kernel
theorem dX6_setEdge_35 : decode cX6_setEdge 35 = .ok (.iload_n 2, 1) := by decide +kernel
theorem dX6_setEdge_36 : decode cX6_setEdge 36 = .ok (.invokevirtual 86, 3) := by decide +kernel
theorem dX6_setEdge_39 : decode cX6_setEdge 39 = .ok (.ifCond .eq 7, 3) := by decide +kernel
theorem dX6_setEdge_42 : decode cX6_setEdge 42 = .ok (.iconst 1, 1) := by decide +kernel
theorem dX6_setEdge_43 : decode cX6_setEdge 43 = .ok (.goto 4, 3) := by decide +kernel
theorem dX6_setEdge_46 : decode cX6_setEdge 46 = .ok (.iconst 0, 1) := by decide +kernel
theorem dX6_setEdge_47 : decode cX6_setEdge 47 = .ok (.istore 4, 2) := by decide +kernel
theorem dX6_setEdge_49 : decode cX6_setEdge 49 = .ok (.aload_n 0, 1) := by decide +kernel
theorem dX6_setEdge_50 : decode cX6_setEdge 50 = .ok (.getfield 12, 3) := by decide +kernel
theorem dX6_setEdge_53 : decode cX6_setEdge 53 = .ok (.iload_n 1, 1) := by decide +kernel
theorem dX6_setEdge_54 : decode cX6_setEdge 54 = .ok (.iload_n 2, 1) := by decide +kernel
theorem dX6_setEdge_55 : decode cX6_setEdge 55 = .ok (.iload_n 3, 1) := by decide +kernel
theorem dX6_setEdge_56 : decode cX6_setEdge 56 = .ok (.invokevirtual 90, 3) := by decide +kernel
theorem dX6_setEdge_59 : decode cX6_setEdge 59 = .ok (.iload_n 3, 1) := by decide +kernel
theorem dX6_setEdge_60 : decode cX6_setEdge 60 = .ok (.ifCond .ne 23, 3) := by decide +kernel
theorem dX6_setEdge_63 : decode cX6_setEdge 63 = .ok (.aload_n 0, 1) := by decide +kernel
theorem dX6_setEdge_64 : decode cX6_setEdge 64 = .ok (.getfield 19, 3) := by decide +kernel
theorem dX6_setEdge_67 : decode cX6_setEdge 67 = .ok (.iload_n 1, 1) := by decide +kernel
theorem dX6_setEdge_68 : decode cX6_setEdge 68 = .ok (.iload_n 2, 1) := by decide +kernel
theorem dX6_setEdge_69 : decode cX6_setEdge 69 = .ok (.invokevirtual 94, 3) := by decide +kernel
theorem dX6_setEdge_72 : decode cX6_setEdge 72 = .ok (.ifCond .eq 11, 3) := by decide +kernel
theorem dX6_setEdge_75 : decode cX6_setEdge 75 = .ok (.aload_n 0, 1) := by decide +kernel
theorem dX6_setEdge_76 : decode cX6_setEdge 76 = .ok (.getfield 19, 3) := by decide +kernel
theorem dX6_setEdge_79 : decode cX6_setEdge 79 = .ok (.iload_n 1, 1) := by decide +kernel
theorem dX6_setEdge_80 : decode cX6_setEdge 80 = .ok (.invokevirtual 97, 3) := by decide +kernel
theorem dX6_setEdge_83 : decode cX6_setEdge 83 = .ok (.iload 4, 2) := by decide +kernel
theorem dX6_setEdge_85 : decode cX6_setEdge 85 = .ok (.ireturn, 1) := by decide +kernel
theorem dX6_append_0 : decode cX6_append 0 = .ok (.iload_n 1, 1) := by decide +kernel
theorem dX6_append_1 : decode cX6_append 1 = .ok (.bipush 32, 2) := by decide +kernel
theorem dX6_append_3 : decode cX6_append 3 = .ok (.if_icmp .lt 9, 3) := by decide +kernel
theorem dX6_append_6 : decode cX6_append 6 = .ok (.iload_n 1, 1) := by decide +kernel
theorem dX6_append_7 : decode cX6_append 7 = .ok (.bipush 126, 2) := by decide +kernel
theorem dX6_append_9 : decode cX6_append 9 = .ok (.if_icmp .le 13, 3) := by decide +kernel
theorem dX6_append_12 : decode cX6_append 12 = .ok (.new 58, 3) := by decide +kernel
theorem dX6_append_15 : decode cX6_append 15 = .ok (.dup, 1) := by decide +kernel
theorem dX6_append_16 : decode cX6_append 16 = .ok (.ldc 100, 2) := by decide +kernel
theorem dX6_append_18 : decode cX6_append 18 = .ok (.invokespecial 62, 3) := by decide +kernel
theorem dX6_append_21 : decode cX6_append 21 = .ok (.athrow, 1) := by decide +kernel
theorem dX6_append_22 : decode cX6_append 22 = .ok (.aload_n 0, 1) := by decide +kernel
theorem dX6_append_23 : decode cX6_append 23 = .ok (.getfield 26, 3) := by decide +kernel
theorem dX6_append_26 : decode cX6_append 26 = .ok (.getfield 102, 3) := by decide +kernel
theorem dX6_append_29 : decode cX6_append 29 = .ok (.bipush 60, 2) := by decide +kernel
theorem dX6_append_31 : decode cX6_append 31 = .ok (.if_icmp .lt 13, 3) := by decide +kernel
theorem dX6_append_34 : decode cX6_append 34 = .ok (.new 105, 3) := by decide +kernel
theorem dX6_append_37 : decode cX6_append 37 = .ok (.dup, 1) := by decide +kernel
theorem dX6_append_38 : decode cX6_append 38 = .ok (.ldc 107, 2) := by decide +kernel
theorem dX6_append_40 : decode cX6_append 40 = .ok (.invokespecial 109, 3) := by decide +kernel
theorem dX6_append_43 : decode cX6_append 43 = .ok (.athrow, 1) := by decide +kernel
theorem dX6_append_44 : decode cX6_append 44 = .ok (.aload_n 0, 1) := by decide +kernel
theorem dX6_append_45 : decode cX6_append 45 = .ok (.getfield 26, 3) := by decide +kernel
theorem dX6_append_48 : decode cX6_append 48 = .ok (.iload_n 1, 1) := by decide +kernel
theorem dX6_append_49 : decode cX6_append 49 = .ok (.invokevirtual 110, 3) := by decide +kernel
theorem dX6_append_52 : decode cX6_append 52 = .ok (.aload_n 0, 1) := by decide +kernel
theorem dX6_append_53 : decode cX6_append 53 = .ok (.getfield 26, 3) := by decide +kernel
theorem dX6_append_56 : decode cX6_append 56 = .ok (.getfield 102, 3) := by decide +kernel
theorem dX6_append_59 : decode cX6_append 59 = .ok (.ireturn, 1) := by decide +kernel
theorem dX6_clearInput_0 : decode cX6_clearInput 0 = .ok (.aload_n 0, 1) := by decide +kernel
theorem dX6_clearInput_1 : decode cX6_clearInput 1 = .ok (.getfield 26, 3) := by decide +kernel
theorem dX6_clearInput_4 : decode cX6_clearInput 4 = .ok (.getfield 102, 3) := by decide +kernel
theorem dX6_clearInput_7 : decode cX6_clearInput 7 = .ok (.istore_n 1, 1) := by decide +kernel
theorem dX6_clearInput_8 : decode cX6_clearInput 8 = .ok (.aload_n 0, 1) := by decide +kernel
theorem dX6_clearInput_9 : decode cX6_clearInput 9 = .ok (.getfield 26, 3) := by decide +kernel
theorem dX6_clearInput_12 : decode cX6_clearInput 12 = .ok (.iconst 0, 1) := by decide +kernel
theorem dX6_clearInput_13 : decode cX6_clearInput 13 = .ok (.putfield 102, 3) := by decide +kernel
theorem dX6_clearInput_16 : decode cX6_clearInput 16 = .ok (.iload_n 1, 1) := by decide +kernel
theorem dX6_clearInput_17 : decode cX6_clearInput 17 = .ok (.ireturn, 1) := by decide +kernel
theorem dX6_firstError_0 : decode cX6_firstError 0 = .ok (.aload_n 0, 1) := by decide +kernel
theorem dX6_firstError_1 : decode cX6_firstError 1 = .ok (.getfield 26, 3) := by decide +kernel
theorem dX6_firstError_4 : decode cX6_firstError 4 = .ok (.aload_n 0, 1) := by decide +kernel
theorem dX6_firstError_5 : decode cX6_firstError 5 = .ok (.getfield 12, 3) := by decide +kernel
theorem dX6_firstError_8 : decode cX6_firstError 8 = .ok (.getfield 65, 3) := by decide +kernel
theorem dX6_firstError_11 : decode cX6_firstError 11 = .ok (.invokevirtual 113, 3) := by decide +kernel
theorem dX6_firstError_14 : decode cX6_firstError 14 = .ok (.ireturn, 1) := by decide +kernel
theorem dX6_load_0 : decode cX6_load 0 = .ok (.aload_n 0, 1) := by decide +kernel
theorem dX6_load_1 : decode cX6_load 1 = .ok (.getfield 26, 3) := by decide +kernel
theorem dX6_load_4 : decode cX6_load 4 = .ok (.aload_n 0, 1) := by decide +kernel
theorem dX6_load_5 : decode cX6_load 5 = .ok (.getfield 12, 3) := by decide +kernel
theorem dX6_load_8 : decode cX6_load 8 = .ok (.getfield 65, 3) := by decide +kernel
theorem dX6_load_11 : decode cX6_load 11 = .ok (.invokevirtual 117, 3) := by decide +kernel
theorem dX6_load_14 : decode cX6_load 14 = .ok (.ifCond .ne 13, 3) := by decide +kernel
theorem dX6_load_17 : decode cX6_load 17 = .ok (.new 58, 3) := by decide +kernel
theorem dX6_load_20 : decode cX6_load 20 = .ok (.dup, 1) := by decide +kernel
theorem dX6_load_21 : decode cX6_load 21 = .ok (.ldc 121, 2) := by decide +kernel
theorem dX6_load_23 : decode cX6_load 23 = .ok (.invokespecial 62, 3) := by decide +kernel
theorem dX6_load_26 : decode cX6_load 26 = .ok (.athrow, 1) := by decide +kernel
theorem dX6_load_27 : decode cX6_load 27 = .ok (.aload_n 0, 1) := by decide +kernel
theorem dX6_load_28 : decode cX6_load 28 = .ok (.getfield 33, 3) := by decide +kernel
theorem dX6_load_31 : decode cX6_load 31 = .ok (.aload_n 0, 1) := by decide +kernel
theorem dX6_load_32 : decode cX6_load 32 = .ok (.getfield 12, 3) := by decide +kernel
theorem dX6_load_35 : decode cX6_load 35 = .ok (.aload_n 0, 1) := by decide +kernel
theorem dX6_load_36 : decode cX6_load 36 = .ok (.getfield 19, 3) := by decide +kernel
theorem dX6_load_39 : decode cX6_load 39 = .ok (.invokevirtual 83, 3) := by decide +kernel
theorem dX6_load_42 : decode cX6_load 42 = .ok (.iconst 0, 1) := by decide +kernel
theorem dX6_load_43 : decode cX6_load 43 = .ok (.istore_n 1, 1) := by decide +kernel
theorem dX6_load_44 : decode cX6_load 44 = .ok (.iconst 0, 1) := by decide +kernel
theorem dX6_load_45 : decode cX6_load 45 = .ok (.istore_n 2, 1) := by decide +kernel
theorem dX6_load_46 : decode cX6_load 46 = .ok (.iload_n 2, 1) := by decide +kernel
theorem dX6_load_47 : decode cX6_load 47 = .ok (.iconst 1, 1) := by decide +kernel
theorem dX6_load_48 : decode cX6_load 48 = .ok (.iadd, 1) := by decide +kernel
theorem dX6_load_49 : decode cX6_load 49 = .ok (.aload_n 0, 1) := by decide +kernel
theorem dX6_load_50 : decode cX6_load 50 = .ok (.getfield 26, 3) := by decide +kernel
theorem dX6_load_53 : decode cX6_load 53 = .ok (.getfield 102, 3) := by decide +kernel
theorem dX6_load_56 : decode cX6_load 56 = .ok (.if_icmp .ge 53, 3) := by decide +kernel
theorem dX6_load_59 : decode cX6_load 59 = .ok (.aload_n 0, 1) := by decide +kernel
theorem dX6_load_60 : decode cX6_load 60 = .ok (.getfield 26, 3) := by decide +kernel
theorem dX6_load_63 : decode cX6_load 63 = .ok (.iload_n 2, 1) := by decide +kernel
theorem dX6_load_64 : decode cX6_load 64 = .ok (.invokevirtual 123, 3) := by decide +kernel
theorem dX6_load_67 : decode cX6_load 67 = .ok (.istore_n 3, 1) := by decide +kernel
theorem dX6_load_68 : decode cX6_load 68 = .ok (.iload_n 1, 1) := by decide +kernel
theorem dX6_load_69 : decode cX6_load 69 = .ok (.aload_n 0, 1) := by decide +kernel
theorem dX6_load_70 : decode cX6_load 70 = .ok (.aload_n 0, 1) := by decide +kernel
theorem dX6_load_71 : decode cX6_load 71 = .ok (.getfield 26, 3) := by decide +kernel
theorem dX6_load_74 : decode cX6_load 74 = .ok (.iload_n 2, 1) := by decide +kernel
theorem dX6_load_75 : decode cX6_load 75 = .ok (.invokevirtual 126, 3) := by decide +kernel
theorem dX6_load_78 : decode cX6_load 78 = .ok (.aload_n 0, 1) := by decide +kernel
theorem dX6_load_79 : decode cX6_load 79 = .ok (.getfield 26, 3) := by decide +kernel
theorem dX6_load_82 : decode cX6_load 82 = .ok (.iload_n 2, 1) := by decide +kernel
theorem dX6_load_83 : decode cX6_load 83 = .ok (.iconst 1, 1) := by decide +kernel
theorem dX6_load_84 : decode cX6_load 84 = .ok (.iadd, 1) := by decide +kernel
theorem dX6_load_85 : decode cX6_load 85 = .ok (.invokevirtual 126, 3) := by decide +kernel
theorem dX6_load_88 : decode cX6_load 88 = .ok (.iload_n 3, 1) := by decide +kernel
theorem dX6_load_89 : decode cX6_load 89 = .ok (.invokevirtual 129, 3) := by decide +kernel
theorem dX6_load_92 : decode cX6_load 92 = .ok (.iadd, 1) := by decide +kernel
theorem dX6_load_93 : decode cX6_load 93 = .ok (.istore_n 1, 1) := by decide +kernel
theorem dX6_load_94 : decode cX6_load 94 = .ok (.iload_n 2, 1) := by decide +kernel
theorem dX6_load_95 : decode cX6_load 95 = .ok (.iload_n 3, 1) := by decide +kernel
theorem dX6_load_96 : decode cX6_load 96 = .ok (.ifCond .eq 7, 3) := by decide +kernel
theorem dX6_load_99 : decode cX6_load 99 = .ok (.iconst 4, 1) := by decide +kernel
theorem dX6_load_100 : decode cX6_load 100 = .ok (.goto 4, 3) := by decide +kernel
theorem dX6_load_103 : decode cX6_load 103 = .ok (.iconst 3, 1) := by decide +kernel
theorem dX6_load_104 : decode cX6_load 104 = .ok (.iadd, 1) := by decide +kernel
theorem dX6_load_105 : decode cX6_load 105 = .ok (.istore_n 2, 1) := by decide +kernel
theorem dX6_load_106 : decode cX6_load 106 = .ok (.goto (-60), 3) := by decide +kernel
theorem dX6_load_109 : decode cX6_load 109 = .ok (.aload_n 0, 1) := by decide +kernel
theorem dX6_load_110 : decode cX6_load 110 = .ok (.getfield 26, 3) := by decide +kernel
theorem dX6_load_113 : decode cX6_load 113 = .ok (.iconst 0, 1) := by decide +kernel
theorem dX6_load_114 : decode cX6_load 114 = .ok (.putfield 102, 3) := by decide +kernel
theorem dX6_load_117 : decode cX6_load 117 = .ok (.iload_n 1, 1) := by decide +kernel
theorem dX6_load_118 : decode cX6_load 118 = .ok (.ireturn, 1) := by decide +kernel
theorem dX6_addRead_0 : decode cX6_addRead 0 = .ok (.aload_n 0, 1) := by decide +kernel
theorem dX6_addRead_1 : decode cX6_addRead 1 = .ok (.getfield 12, 3) := by decide +kernel
theorem dX6_addRead_4 : decode cX6_addRead 4 = .ok (.iload_n 1, 1) := by decide +kernel
theorem dX6_addRead_5 : decode cX6_addRead 5 = .ok (.iload_n 2, 1) := by decide +kernel
theorem dX6_addRead_6 : decode cX6_addRead 6 = .ok (.invokevirtual 86, 3) := by decide +kernel
theorem dX6_addRead_9 : decode cX6_addRead 9 = .ok (.ifCond .eq 7, 3) := by decide +kernel
theorem dX6_addRead_12 : decode cX6_addRead 12 = .ok (.iconst 0, 1) := by decide +kernel
theorem dX6_addRead_13 : decode cX6_addRead 13 = .ok (.goto 4, 3) := by decide +kernel
theorem dX6_addRead_16 : decode cX6_addRead 16 = .ok (.iconst 1, 1) := by decide +kernel
theorem dX6_addRead_17 : decode cX6_addRead 17 = .ok (.istore 4, 2) := by decide +kernel
theorem dX6_addRead_19 : decode cX6_addRead 19 = .ok (.aload_n 0, 1) := by decide +kernel
theorem dX6_addRead_20 : decode cX6_addRead 20 = .ok (.getfield 12, 3) := by decide +kernel
theorem dX6_addRead_23 : decode cX6_addRead 23 = .ok (.iload_n 1, 1) := by decide +kernel
theorem dX6_addRead_24 : decode cX6_addRead 24 = .ok (.iload_n 2, 1) := by decide +kernel
theorem dX6_addRead_25 : decode cX6_addRead 25 = .ok (.iconst 1, 1) := by decide +kernel
theorem dX6_addRead_26 : decode cX6_addRead 26 = .ok (.invokevirtual 90, 3) := by decide +kernel
theorem dX6_addRead_29 : decode cX6_addRead 29 = .ok (.iload_n 3, 1) := by decide +kernel
theorem dX6_addRead_30 : decode cX6_addRead 30 = .ok (.ifCond .eq 34, 3) := by decide +kernel
theorem dX6_addRead_33 : decode cX6_addRead 33 = .ok (.aload_n 0, 1) := by decide +kernel
theorem dX6_addRead_34 : decode cX6_addRead 34 = .ok (.getfield 19, 3) := by decide +kernel
theorem dX6_addRead_37 : decode cX6_addRead 37 = .ok (.iload_n 1, 1) := by decide +kernel
theorem dX6_addRead_38 : decode cX6_addRead 38 = .ok (.invokevirtual 133, 3) := by decide +kernel
theorem dX6_addRead_41 : decode cX6_addRead 41 = .ok (.ifCond .eq 23, 3) := by decide +kernel
theorem dX6_addRead_44 : decode cX6_addRead 44 = .ok (.aload_n 0, 1) := by decide +kernel
theorem dX6_addRead_45 : decode cX6_addRead 45 = .ok (.getfield 19, 3) := by decide +kernel
theorem dX6_addRead_48 : decode cX6_addRead 48 = .ok (.iload_n 2, 1) := by decide +kernel
theorem dX6_addRead_49 : decode cX6_addRead 49 = .ok (.invokevirtual 133, 3) := by decide +kernel
theorem dX6_addRead_52 : decode cX6_addRead 52 = .ok (.ifCond .eq 12, 3) := by decide +kernel
theorem dX6_addRead_55 : decode cX6_addRead 55 = .ok (.aload_n 0, 1) := by decide +kernel
theorem dX6_addRead_56 : decode cX6_addRead 56 = .ok (.getfield 19, 3) := by decide +kernel
theorem dX6_addRead_59 : decode cX6_addRead 59 = .ok (.iload_n 1, 1) := by decide +kernel
theorem dX6_addRead_60 : decode cX6_addRead 60 = .ok (.iload_n 2, 1) := by decide +kernel
theorem dX6_addRead_61 : decode cX6_addRead 61 = .ok (.invokevirtual 136, 3) := by decide +kernel
theorem dX6_addRead_64 : decode cX6_addRead 64 = .ok (.iload 4, 2) := by decide +kernel
theorem dX6_addRead_66 : decode cX6_addRead 66 = .ok (.ireturn, 1) := by decide +kernel
theorem dX6_match_0 : decode cX6_match 0 = .ok (.aload_n 0, 1) := by decide +kernel
theorem dX6_match_1 : decode cX6_match 1 = .ok (.iload_n 1, 1) := by decide +kernel
theorem dX6_match_2 : decode cX6_match 2 = .ok (.invokevirtual 76, 3) := by decide +kernel
theorem dX6_match_5 : decode cX6_match 5 = .ok (.aload_n 0, 1) := by decide +kernel
theorem dX6_match_6 : decode cX6_match 6 = .ok (.iload_n 2, 1) := by decide +kernel
theorem dX6_match_7 : decode cX6_match 7 = .ok (.invokevirtual 76, 3) := by decide +kernel
theorem dX6_match_10 : decode cX6_match 10 = .ok (.aload_n 0, 1) := by decide +kernel
theorem dX6_match_11 : decode cX6_match 11 = .ok (.getfield 12, 3) := by decide +kernel
theorem dX6_match_14 : decode cX6_match 14 = .ok (.iload_n 1, 1) := by decide +kernel
theorem dX6_match_15 : decode cX6_match 15 = .ok (.iload_n 2, 1) := by decide +kernel
theorem dX6_match_16 : decode cX6_match 16 = .ok (.invokevirtual 86, 3) := by decide +kernel
theorem dX6_match_19 : decode cX6_match 19 = .ok (.ifCond .ne 13, 3) := by decide +kernel
theorem dX6_match_22 : decode cX6_match 22 = .ok (.new 105, 3) := by decide +kernel
theorem dX6_match_25 : decode cX6_match 25 = .ok (.dup, 1) := by decide +kernel
theorem dX6_match_26 : decode cX6_match 26 = .ok (.ldc 139, 2) := by decide +kernel
theorem dX6_match_28 : decode cX6_match 28 = .ok (.invokespecial 109, 3) := by decide +kernel
theorem dX6_match_31 : decode cX6_match 31 = .ok (.athrow, 1) := by decide +kernel
theorem dX6_match_32 : decode cX6_match 32 = .ok (.aload_n 0, 1) := by decide +kernel
theorem dX6_match_33 : decode cX6_match 33 = .ok (.iload_n 1, 1) := by decide +kernel
theorem dX6_match_34 : decode cX6_match 34 = .ok (.invokevirtual 141, 3) := by decide +kernel
theorem dX6_match_37 : decode cX6_match 37 = .ok (.aload_n 0, 1) := by decide +kernel
theorem dX6_match_38 : decode cX6_match 38 = .ok (.iload_n 2, 1) := by decide +kernel
theorem dX6_match_39 : decode cX6_match 39 = .ok (.invokevirtual 141, 3) := by decide +kernel
theorem dX6_match_42 : decode cX6_match 42 = .ok (.aload_n 0, 1) := by decide +kernel
theorem dX6_match_43 : decode cX6_match 43 = .ok (.getfield 33, 3) := by decide +kernel
theorem dX6_match_46 : decode cX6_match 46 = .ok (.aload_n 0, 1) := by decide +kernel
theorem dX6_match_47 : decode cX6_match 47 = .ok (.getfield 12, 3) := by decide +kernel
theorem dX6_match_50 : decode cX6_match 50 = .ok (.aload_n 0, 1) := by decide +kernel
theorem dX6_match_51 : decode cX6_match 51 = .ok (.getfield 19, 3) := by decide +kernel
theorem dX6_match_54 : decode cX6_match 54 = .ok (.invokevirtual 83, 3) := by decide +kernel
theorem dX6_match_57 : decode cX6_match 57 = .ok (.aload_n 0, 1) := by decide +kernel
theorem dX6_match_58 : decode cX6_match 58 = .ok (.getfield 19, 3) := by decide +kernel
theorem dX6_match_61 : decode cX6_match 61 = .ok (.iload_n 1, 1) := by decide +kernel
theorem dX6_match_62 : decode cX6_match 62 = .ok (.iload_n 2, 1) := by decide +kernel
theorem dX6_match_63 : decode cX6_match 63 = .ok (.invokevirtual 136, 3) := by decide +kernel
theorem dX6_match_66 : decode cX6_match 66 = .ok (.aload_n 0, 1) := by decide +kernel
theorem dX6_match_67 : decode cX6_match 67 = .ok (.getfield 19, 3) := by decide +kernel
theorem dX6_match_70 : decode cX6_match 70 = .ok (.invokevirtual 144, 3) := by decide +kernel
theorem dX6_match_73 : decode cX6_match 73 = .ok (.ireturn, 1) := by decide +kernel
theorem dX6_unmatch_0 : decode cX6_unmatch 0 = .ok (.aload_n 0, 1) := by decide +kernel
theorem dX6_unmatch_1 : decode cX6_unmatch 1 = .ok (.iload_n 1, 1) := by decide +kernel
theorem dX6_unmatch_2 : decode cX6_unmatch 2 = .ok (.invokevirtual 76, 3) := by decide +kernel
theorem dX6_unmatch_5 : decode cX6_unmatch 5 = .ok (.aload_n 0, 1) := by decide +kernel
theorem dX6_unmatch_6 : decode cX6_unmatch 6 = .ok (.getfield 19, 3) := by decide +kernel
theorem dX6_unmatch_9 : decode cX6_unmatch 9 = .ok (.iload_n 1, 1) := by decide +kernel
theorem dX6_unmatch_10 : decode cX6_unmatch 10 = .ok (.invokevirtual 133, 3) := by decide +kernel
theorem dX6_unmatch_13 : decode cX6_unmatch 13 = .ok (.ifCond .eq 13, 3) := by decide +kernel
theorem dX6_unmatch_16 : decode cX6_unmatch 16 = .ok (.new 105, 3) := by decide +kernel
theorem dX6_unmatch_19 : decode cX6_unmatch 19 = .ok (.dup, 1) := by decide +kernel
theorem dX6_unmatch_20 : decode cX6_unmatch 20 = .ok (.ldc 148, 2) := by decide +kernel
theorem dX6_unmatch_22 : decode cX6_unmatch 22 = .ok (.invokespecial 109, 3) := by decide +kernel
theorem dX6_unmatch_25 : decode cX6_unmatch 25 = .ok (.athrow, 1) := by decide +kernel
theorem dX6_unmatch_26 : decode cX6_unmatch 26 = .ok (.aload_n 0, 1) := by decide +kernel
theorem dX6_unmatch_27 : decode cX6_unmatch 27 = .ok (.getfield 33, 3) := by decide +kernel
theorem dX6_unmatch_30 : decode cX6_unmatch 30 = .ok (.aload_n 0, 1) := by decide +kernel
theorem dX6_unmatch_31 : decode cX6_unmatch 31 = .ok (.getfield 12, 3) := by decide +kernel
theorem dX6_unmatch_34 : decode cX6_unmatch 34 = .ok (.aload_n 0, 1) := by decide +kernel
theorem dX6_unmatch_35 : decode cX6_unmatch 35 = .ok (.getfield 19, 3) := by decide +kernel
theorem dX6_unmatch_38 : decode cX6_unmatch 38 = .ok (.invokevirtual 83, 3) := by decide +kernel
theorem dX6_unmatch_41 : decode cX6_unmatch 41 = .ok (.aload_n 0, 1) := by decide +kernel
theorem dX6_unmatch_42 : decode cX6_unmatch 42 = .ok (.getfield 19, 3) := by decide +kernel
theorem dX6_unmatch_45 : decode cX6_unmatch 45 = .ok (.getfield 150, 3) := by decide +kernel
theorem dX6_unmatch_48 : decode cX6_unmatch 48 = .ok (.iload_n 1, 1) := by decide +kernel
theorem dX6_unmatch_49 : decode cX6_unmatch 49 = .ok (.iaload, 1) := by decide +kernel
theorem dX6_unmatch_50 : decode cX6_unmatch 50 = .ok (.istore_n 2, 1) := by decide +kernel
theorem dX6_unmatch_51 : decode cX6_unmatch 51 = .ok (.aload_n 0, 1) := by decide +kernel
theorem dX6_unmatch_52 : decode cX6_unmatch 52 = .ok (.getfield 19, 3) := by decide +kernel
theorem dX6_unmatch_55 : decode cX6_unmatch 55 = .ok (.iload_n 1, 1) := by decide +kernel
theorem dX6_unmatch_56 : decode cX6_unmatch 56 = .ok (.invokevirtual 97, 3) := by decide +kernel
theorem dX6_unmatch_59 : decode cX6_unmatch 59 = .ok (.iload_n 2, 1) := by decide +kernel
theorem dX6_unmatch_60 : decode cX6_unmatch 60 = .ok (.ireturn, 1) := by decide +kernel
theorem dX6_augment_0 : decode cX6_augment 0 = .ok (.aload_n 0, 1) := by decide +kernel
theorem dX6_augment_1 : decode cX6_augment 1 = .ok (.iload_n 1, 1) := by decide +kernel
theorem dX6_augment_2 : decode cX6_augment 2 = .ok (.invokevirtual 76, 3) := by decide +kernel
theorem dX6_augment_5 : decode cX6_augment 5 = .ok (.aload_n 0, 1) := by decide +kernel
theorem dX6_augment_6 : decode cX6_augment 6 = .ok (.iload_n 1, 1) := by decide +kernel
theorem dX6_augment_7 : decode cX6_augment 7 = .ok (.invokevirtual 141, 3) := by decide +kernel
theorem dX6_augment_10 : decode cX6_augment 10 = .ok (.aload_n 0, 1) := by decide +kernel
theorem dX6_augment_11 : decode cX6_augment 11 = .ok (.getfield 33, 3) := by decide +kernel
theorem dX6_augment_14 : decode cX6_augment 14 = .ok (.aload_n 0, 1) := by decide +kernel
theorem dX6_augment_15 : decode cX6_augment 15 = .ok (.getfield 12, 3) := by decide +kernel
theorem dX6_augment_18 : decode cX6_augment 18 = .ok (.aload_n 0, 1) := by decide +kernel
theorem dX6_augment_19 : decode cX6_augment 19 = .ok (.getfield 19, 3) := by decide +kernel
theorem dX6_augment_22 : decode cX6_augment 22 = .ok (.invokevirtual 83, 3) := by decide +kernel
theorem dX6_augment_25 : decode cX6_augment 25 = .ok (.aload_n 0, 1) := by decide +kernel
theorem dX6_augment_26 : decode cX6_augment 26 = .ok (.iload_n 1, 1) := by decide +kernel
theorem dX6_augment_27 : decode cX6_augment 27 = .ok (.invokevirtual 154, 3) := by decide +kernel
theorem dX6_augment_30 : decode cX6_augment 30 = .ok (.ireturn, 1) := by decide +kernel
theorem dX6_maximize_0 : decode cX6_maximize 0 = .ok (.aload_n 0, 1) := by decide +kernel
theorem dX6_maximize_1 : decode cX6_maximize 1 = .ok (.getfield 33, 3) := by decide +kernel
theorem dX6_maximize_4 : decode cX6_maximize 4 = .ok (.aload_n 0, 1) := by decide +kernel
theorem dX6_maximize_5 : decode cX6_maximize 5 = .ok (.getfield 12, 3) := by decide +kernel
theorem dX6_maximize_8 : decode cX6_maximize 8 = .ok (.aload_n 0, 1) := by decide +kernel
theorem dX6_maximize_9 : decode cX6_maximize 9 = .ok (.getfield 19, 3) := by decide +kernel
theorem dX6_maximize_12 : decode cX6_maximize 12 = .ok (.invokevirtual 83, 3) := by decide +kernel
theorem dX6_maximize_15 : decode cX6_maximize 15 = .ok (.iconst 0, 1) := by decide +kernel
theorem dX6_maximize_16 : decode cX6_maximize 16 = .ok (.istore_n 1, 1) := by decide +kernel
theorem dX6_maximize_17 : decode cX6_maximize 17 = .ok (.iload_n 1, 1) := by decide +kernel
theorem dX6_maximize_18 : decode cX6_maximize 18 = .ok (.bipush 6, 2) := by decide +kernel
theorem dX6_maximize_20 : decode cX6_maximize 20 = .ok (.if_icmp .ge 16, 3) := by decide +kernel
theorem dX6_maximize_23 : decode cX6_maximize 23 = .ok (.aload_n 0, 1) := by decide +kernel
theorem dX6_maximize_24 : decode cX6_maximize 24 = .ok (.invokevirtual 157, 3) := by decide +kernel
theorem dX6_maximize_27 : decode cX6_maximize 27 = .ok (.ifCond .eq 9, 3) := by decide +kernel
theorem dX6_maximize_30 : decode cX6_maximize 30 = .ok (.iinc 1 1, 3) := by decide +kernel
theorem dX6_maximize_33 : decode cX6_maximize 33 = .ok (.goto (-16), 3) := by decide +kernel
theorem dX6_maximize_36 : decode cX6_maximize 36 = .ok (.iload_n 1, 1) := by decide +kernel
theorem dX6_maximize_37 : decode cX6_maximize 37 = .ok (.ireturn, 1) := by decide +kernel
theorem dX6_augmentLowest_0 : decode cX6_augmentLowest 0 = .ok (.iconst 0, 1) := by decide +kernel
theorem dX6_augmentLowest_1 : decode cX6_augmentLowest 1 = .ok (.istore_n 1, 1) := by decide +kernel
theorem dX6_augmentLowest_2 : decode cX6_augmentLowest 2 = .ok (.iload_n 1, 1) := by decide +kernel
theorem dX6_augmentLowest_3 : decode cX6_augmentLowest 3 = .ok (.aload_n 0, 1) := by decide +kernel
theorem dX6_augmentLowest_4 : decode cX6_augmentLowest 4 = .ok (.getfield 12, 3) := by decide +kernel
theorem dX6_augmentLowest_7 : decode cX6_augmentLowest 7 = .ok (.getfield 65, 3) := by decide +kernel
theorem dX6_augmentLowest_10 : decode cX6_augmentLowest 10 = .ok (.if_icmp .ge 30, 3) := by decide +kernel
theorem dX6_augmentLowest_13 : decode cX6_augmentLowest 13 = .ok (.aload_n 0, 1) := by decide +kernel
theorem dX6_augmentLowest_14 : decode cX6_augmentLowest 14 = .ok (.getfield 19, 3) := by decide +kernel
theorem dX6_augmentLowest_17 : decode cX6_augmentLowest 17 = .ok (.iload_n 1, 1) := by decide +kernel
theorem dX6_augmentLowest_18 : decode cX6_augmentLowest 18 = .ok (.invokevirtual 133, 3) := by decide +kernel
theorem dX6_augmentLowest_21 : decode cX6_augmentLowest 21 = .ok (.ifCond .eq 13, 3) := by decide +kernel
theorem dX6_augmentLowest_24 : decode cX6_augmentLowest 24 = .ok (.aload_n 0, 1) := by decide +kernel
theorem dX6_augmentLowest_25 : decode cX6_augmentLowest 25 = .ok (.iload_n 1, 1) := by decide +kernel
theorem dX6_augmentLowest_26 : decode cX6_augmentLowest 26 = .ok (.invokevirtual 154, 3) := by decide +kernel
theorem dX6_augmentLowest_29 : decode cX6_augmentLowest 29 = .ok (.ifCond .le 5, 3) := by decide +kernel
theorem dX6_augmentLowest_32 : decode cX6_augmentLowest 32 = .ok (.iconst 1, 1) := by decide +kernel
theorem dX6_augmentLowest_33 : decode cX6_augmentLowest 33 = .ok (.ireturn, 1) := by decide +kernel
theorem dX6_augmentLowest_34 : decode cX6_augmentLowest 34 = .ok (.iinc 1 1, 3) := by decide +kernel
theorem dX6_augmentLowest_37 : decode cX6_augmentLowest 37 = .ok (.goto (-35), 3) := by decide +kernel
theorem dX6_augmentLowest_40 : decode cX6_augmentLowest 40 = .ok (.iconst 0, 1) := by decide +kernel
theorem dX6_augmentLowest_41 : decode cX6_augmentLowest 41 = .ok (.ireturn, 1) := by decide +kernel
theorem dX6_augmentFrom_0 : decode cX6_augmentFrom 0 = .ok (.aload_n 0, 1) := by decide +kernel
theorem dX6_augmentFrom_1 : decode cX6_augmentFrom 1 = .ok (.getfield 42, 3) := by decide +kernel
theorem dX6_augmentFrom_4 : decode cX6_augmentFrom 4 = .ok (.iload_n 1, 1) := by decide +kernel
theorem dX6_augmentFrom_5 : decode cX6_augmentFrom 5 = .ok (.invokevirtual 161, 3) := by decide +kernel
theorem dX6_augmentFrom_8 : decode cX6_augmentFrom 8 = .ok (.istore_n 2, 1) := by decide +kernel
theorem dX6_augmentFrom_9 : decode cX6_augmentFrom 9 = .ok (.iload_n 2, 1) := by decide +kernel
theorem dX6_augmentFrom_10 : decode cX6_augmentFrom 10 = .ok (.ifCond .le 18, 3) := by decide +kernel
theorem dX6_augmentFrom_13 : decode cX6_augmentFrom 13 = .ok (.aload_n 0, 1) := by decide +kernel
theorem dX6_augmentFrom_14 : decode cX6_augmentFrom 14 = .ok (.getfield 19, 3) := by decide +kernel
theorem dX6_augmentFrom_17 : decode cX6_augmentFrom 17 = .ok (.aload_n 0, 1) := by decide +kernel
theorem dX6_augmentFrom_18 : decode cX6_augmentFrom 18 = .ok (.getfield 42, 3) := by decide +kernel
theorem dX6_augmentFrom_21 : decode cX6_augmentFrom 21 = .ok (.getfield 164, 3) := by decide +kernel
theorem dX6_augmentFrom_24 : decode cX6_augmentFrom 24 = .ok (.iload_n 2, 1) := by decide +kernel
theorem dX6_augmentFrom_25 : decode cX6_augmentFrom 25 = .ok (.invokevirtual 167, 3) := by decide +kernel
theorem dX6_augmentFrom_28 : decode cX6_augmentFrom 28 = .ok (.iload_n 2, 1) := by decide +kernel
theorem dX6_augmentFrom_29 : decode cX6_augmentFrom 29 = .ok (.ireturn, 1) := by decide +kernel
theorem dX6_takeFirst_0 : decode cX6_takeFirst 0 = .ok (.aload_n 0, 1) := by decide +kernel
theorem dX6_takeFirst_1 : decode cX6_takeFirst 1 = .ok (.getfield 33, 3) := by decide +kernel
theorem dX6_takeFirst_4 : decode cX6_takeFirst 4 = .ok (.aload_n 0, 1) := by decide +kernel
theorem dX6_takeFirst_5 : decode cX6_takeFirst 5 = .ok (.getfield 12, 3) := by decide +kernel
theorem dX6_takeFirst_8 : decode cX6_takeFirst 8 = .ok (.aload_n 0, 1) := by decide +kernel
theorem dX6_takeFirst_9 : decode cX6_takeFirst 9 = .ok (.getfield 19, 3) := by decide +kernel
theorem dX6_takeFirst_12 : decode cX6_takeFirst 12 = .ok (.invokevirtual 83, 3) := by decide +kernel
theorem dX6_takeFirst_15 : decode cX6_takeFirst 15 = .ok (.aload_n 0, 1) := by decide +kernel
theorem dX6_takeFirst_16 : decode cX6_takeFirst 16 = .ok (.getfield 51, 3) := by decide +kernel
theorem dX6_takeFirst_19 : decode cX6_takeFirst 19 = .ok (.invokevirtual 171, 3) := by decide +kernel
theorem dX6_takeFirst_22 : decode cX6_takeFirst 22 = .ok (.astore_n 1, 1) := by decide +kernel
theorem dX6_takeFirst_23 : decode cX6_takeFirst 23 = .ok (.iconst 0, 1) := by decide +kernel
theorem dX6_takeFirst_24 : decode cX6_takeFirst 24 = .ok (.istore_n 2, 1) := by decide +kernel
theorem dX6_takeFirst_25 : decode cX6_takeFirst 25 = .ok (.iconst 0, 1) := by decide +kernel
theorem dX6_takeFirst_26 : decode cX6_takeFirst 26 = .ok (.istore_n 3, 1) := by decide +kernel
theorem dX6_takeFirst_27 : decode cX6_takeFirst 27 = .ok (.iload_n 3, 1) := by decide +kernel
theorem dX6_takeFirst_28 : decode cX6_takeFirst 28 = .ok (.aload_n 0, 1) := by decide +kernel
theorem dX6_takeFirst_29 : decode cX6_takeFirst 29 = .ok (.getfield 12, 3) := by decide +kernel
theorem dX6_takeFirst_32 : decode cX6_takeFirst 32 = .ok (.getfield 65, 3) := by decide +kernel
theorem dX6_takeFirst_35 : decode cX6_takeFirst 35 = .ok (.if_icmp .ge 39, 3) := by decide +kernel
theorem dX6_takeFirst_38 : decode cX6_takeFirst 38 = .ok (.aload_n 1, 1) := by decide +kernel
theorem dX6_takeFirst_39 : decode cX6_takeFirst 39 = .ok (.getfield 150, 3) := by decide +kernel
theorem dX6_takeFirst_42 : decode cX6_takeFirst 42 = .ok (.iload_n 3, 1) := by decide +kernel
theorem dX6_takeFirst_43 : decode cX6_takeFirst 43 = .ok (.iaload, 1) := by decide +kernel
theorem dX6_takeFirst_44 : decode cX6_takeFirst 44 = .ok (.istore 4, 2) := by decide +kernel
theorem dX6_takeFirst_46 : decode cX6_takeFirst 46 = .ok (.iload 4, 2) := by decide +kernel
theorem dX6_takeFirst_48 : decode cX6_takeFirst 48 = .ok (.iload_n 3, 1) := by decide +kernel
theorem dX6_takeFirst_49 : decode cX6_takeFirst 49 = .ok (.if_icmp .le 19, 3) := by decide +kernel
theorem dX6_takeFirst_52 : decode cX6_takeFirst 52 = .ok (.aload_n 0, 1) := by decide +kernel
theorem dX6_takeFirst_53 : decode cX6_takeFirst 53 = .ok (.getfield 19, 3) := by decide +kernel
theorem dX6_takeFirst_56 : decode cX6_takeFirst 56 = .ok (.iload_n 3, 1) := by decide +kernel
theorem dX6_takeFirst_57 : decode cX6_takeFirst 57 = .ok (.iload 4, 2) := by decide +kernel
theorem dX6_takeFirst_59 : decode cX6_takeFirst 59 = .ok (.invokevirtual 94, 3) := by decide +kernel
theorem dX6_takeFirst_62 : decode cX6_takeFirst 62 = .ok (.ifCond .ne 6, 3) := by decide +kernel
theorem dX6_takeFirst_65 : decode cX6_takeFirst 65 = .ok (.iinc 2 1, 3) := by decide +kernel
theorem dX6_takeFirst_68 : decode cX6_takeFirst 68 = .ok (.iinc 3 1, 3) := by decide +kernel
theorem dX6_takeFirst_71 : decode cX6_takeFirst 71 = .ok (.goto (-44), 3) := by decide +kernel
theorem dX6_takeFirst_74 : decode cX6_takeFirst 74 = .ok (.aload_n 0, 1) := by decide +kernel
theorem dX6_takeFirst_75 : decode cX6_takeFirst 75 = .ok (.getfield 19, 3) := by decide +kernel
theorem dX6_takeFirst_78 : decode cX6_takeFirst 78 = .ok (.aload_n 1, 1) := by decide +kernel
theorem dX6_takeFirst_79 : decode cX6_takeFirst 79 = .ok (.getfield 150, 3) := by decide +kernel
theorem dX6_takeFirst_82 : decode cX6_takeFirst 82 = .ok (.invokevirtual 175, 3) := by decide +kernel
theorem dX6_takeFirst_85 : decode cX6_takeFirst 85 = .ok (.iload_n 2, 1) := by decide +kernel
theorem dX6_takeFirst_86 : decode cX6_takeFirst 86 = .ok (.ireturn, 1) := by decide +kernel
theorem dX6_undo_0 : decode cX6_undo 0 = .ok (.aload_n 0, 1) := by decide +kernel
theorem dX6_undo_1 : decode cX6_undo 1 = .ok (.getfield 33, 3) := by decide +kernel
theorem dX6_undo_4 : decode cX6_undo 4 = .ok (.getfield 179, 3) := by decide +kernel
theorem dX6_undo_7 : decode cX6_undo 7 = .ok (.ifCond .ne 13, 3) := by decide +kernel
theorem dX6_undo_10 : decode cX6_undo 10 = .ok (.new 105, 3) := by decide +kernel
theorem dX6_undo_13 : decode cX6_undo 13 = .ok (.dup, 1) := by decide +kernel
theorem dX6_undo_14 : decode cX6_undo 14 = .ok (.ldc 182, 2) := by decide +kernel
theorem dX6_undo_16 : decode cX6_undo 16 = .ok (.invokespecial 109, 3) := by decide +kernel
theorem dX6_undo_19 : decode cX6_undo 19 = .ok (.athrow, 1) := by decide +kernel
theorem dX6_undo_20 : decode cX6_undo 20 = .ok (.aload_n 0, 1) := by decide +kernel
theorem dX6_undo_21 : decode cX6_undo 21 = .ok (.getfield 33, 3) := by decide +kernel
theorem dX6_undo_24 : decode cX6_undo 24 = .ok (.aload_n 0, 1) := by decide +kernel
theorem dX6_undo_25 : decode cX6_undo 25 = .ok (.getfield 12, 3) := by decide +kernel
theorem dX6_undo_28 : decode cX6_undo 28 = .ok (.aload_n 0, 1) := by decide +kernel
theorem dX6_undo_29 : decode cX6_undo 29 = .ok (.getfield 19, 3) := by decide +kernel
theorem dX6_undo_32 : decode cX6_undo 32 = .ok (.invokevirtual 184, 3) := by decide +kernel
theorem dX6_undo_35 : decode cX6_undo 35 = .ok (.aload_n 0, 1) := by decide +kernel
theorem dX6_undo_36 : decode cX6_undo 36 = .ok (.getfield 33, 3) := by decide +kernel
theorem dX6_undo_39 : decode cX6_undo 39 = .ok (.getfield 179, 3) := by decide +kernel
theorem dX6_undo_42 : decode cX6_undo 42 = .ok (.ireturn, 1) := by decide +kernel
theorem dX6_way_0 : decode cX6_way 0 = .ok (.aload_n 0, 1) := by decide +kernel
theorem dX6_way_1 : decode cX6_way 1 = .ok (.iload_n 1, 1) := by decide +kernel
theorem dX6_way_2 : decode cX6_way 2 = .ok (.invokevirtual 76, 3) := by decide +kernel
theorem dX6_way_5 : decode cX6_way 5 = .ok (.aload_n 0, 1) := by decide +kernel
theorem dX6_way_6 : decode cX6_way 6 = .ok (.iload_n 1, 1) := by decide +kernel
theorem dX6_way_7 : decode cX6_way 7 = .ok (.invokevirtual 141, 3) := by decide +kernel
theorem dX6_way_10 : decode cX6_way 10 = .ok (.aload_n 0, 1) := by decide +kernel
theorem dX6_way_11 : decode cX6_way 11 = .ok (.getfield 42, 3) := by decide +kernel
theorem dX6_way_14 : decode cX6_way 14 = .ok (.iload_n 1, 1) := by decide +kernel
theorem dX6_way_15 : decode cX6_way 15 = .ok (.invokevirtual 161, 3) := by decide +kernel
theorem dX6_way_18 : decode cX6_way 18 = .ok (.ireturn, 1) := by decide +kernel
theorem dX6_wayNode_0 : decode cX6_wayNode 0 = .ok (.aload_n 0, 1) := by decide +kernel
theorem dX6_wayNode_1 : decode cX6_wayNode 1 = .ok (.iload_n 1, 1) := by decide +kernel
theorem dX6_wayNode_2 : decode cX6_wayNode 2 = .ok (.invokevirtual 76, 3) := by decide +kernel
theorem dX6_wayNode_5 : decode cX6_wayNode 5 = .ok (.aload_n 0, 1) := by decide +kernel
theorem dX6_wayNode_6 : decode cX6_wayNode 6 = .ok (.iload_n 1, 1) := by decide +kernel
theorem dX6_wayNode_7 : decode cX6_wayNode 7 = .ok (.invokevirtual 141, 3) := by decide +kernel
theorem dX6_wayNode_10 : decode cX6_wayNode 10 = .ok (.aload_n 0, 1) := by decide +kernel
theorem dX6_wayNode_11 : decode cX6_wayNode 11 = .ok (.getfield 42, 3) := by decide +kernel
theorem dX6_wayNode_14 : decode cX6_wayNode 14 = .ok (.iload_n 1, 1) := by decide +kernel
theorem dX6_wayNode_15 : decode cX6_wayNode 15 = .ok (.invokevirtual 161, 3) := by decide +kernel
theorem dX6_wayNode_18 : decode cX6_wayNode 18 = .ok (.istore_n 3, 1) := by decide +kernel
theorem dX6_wayNode_19 : decode cX6_wayNode 19 = .ok (.iload_n 3, 1) := by decide +kernel
theorem dX6_wayNode_20 : decode cX6_wayNode 20 = .ok (.ifCond .eq 12, 3) := by decide +kernel
theorem dX6_wayNode_23 : decode cX6_wayNode 23 = .ok (.iload_n 2, 1) := by decide +kernel
theorem dX6_wayNode_24 : decode cX6_wayNode 24 = .ok (.ifCond .lt 8, 3) := by decide +kernel
theorem dX6_wayNode_27 : decode cX6_wayNode 27 = .ok (.iload_n 2, 1) := by decide +kernel
theorem dX6_wayNode_28 : decode cX6_wayNode 28 = .ok (.iload_n 3, 1) := by decide +kernel
theorem dX6_wayNode_29 : decode cX6_wayNode 29 = .ok (.if_icmp .le 5, 3) := by decide +kernel
theorem dX6_wayNode_32 : decode cX6_wayNode 32 = .ok (.iconst (-1), 1) := by decide +kernel
theorem dX6_wayNode_33 : decode cX6_wayNode 33 = .ok (.ireturn, 1) := by decide +kernel
theorem dX6_wayNode_34 : decode cX6_wayNode 34 = .ok (.aload_n 0, 1) := by decide +kernel
theorem dX6_wayNode_35 : decode cX6_wayNode 35 = .ok (.getfield 42, 3) := by decide +kernel
theorem dX6_wayNode_38 : decode cX6_wayNode 38 = .ok (.getfield 164, 3) := by decide +kernel
theorem dX6_wayNode_41 : decode cX6_wayNode 41 = .ok (.iload_n 2, 1) := by decide +kernel
theorem dX6_wayNode_42 : decode cX6_wayNode 42 = .ok (.iaload, 1) := by decide +kernel
theorem dX6_wayNode_43 : decode cX6_wayNode 43 = .ok (.ireturn, 1) := by decide +kernel
theorem dX6_reach_0 : decode cX6_reach 0 = .ok (.aload_n 0, 1) := by decide +kernel
theorem dX6_reach_1 : decode cX6_reach 1 = .ok (.iload_n 1, 1) := by decide +kernel
theorem dX6_reach_2 : decode cX6_reach 2 = .ok (.invokevirtual 76, 3) := by decide +kernel
theorem dX6_reach_5 : decode cX6_reach 5 = .ok (.aload_n 0, 1) := by decide +kernel
theorem dX6_reach_6 : decode cX6_reach 6 = .ok (.getfield 19, 3) := by decide +kernel
theorem dX6_reach_9 : decode cX6_reach 9 = .ok (.iload_n 1, 1) := by decide +kernel
theorem dX6_reach_10 : decode cX6_reach 10 = .ok (.invokevirtual 133, 3) := by decide +kernel
theorem dX6_reach_13 : decode cX6_reach 13 = .ok (.ifCond .ne 5, 3) := by decide +kernel
theorem dX6_reach_16 : decode cX6_reach 16 = .ok (.iconst 0, 1) := by decide +kernel
theorem dX6_reach_17 : decode cX6_reach 17 = .ok (.ireturn, 1) := by decide +kernel
theorem dX6_reach_18 : decode cX6_reach 18 = .ok (.aload_n 0, 1) := by decide +kernel
theorem dX6_reach_19 : decode cX6_reach 19 = .ok (.getfield 42, 3) := by decide +kernel
theorem dX6_reach_22 : decode cX6_reach 22 = .ok (.iload_n 1, 1) := by decide +kernel
theorem dX6_reach_23 : decode cX6_reach 23 = .ok (.invokevirtual 187, 3) := by decide +kernel
theorem dX6_reach_26 : decode cX6_reach 26 = .ok (.iload_n 2, 1) := by decide +kernel
theorem dX6_reach_27 : decode cX6_reach 27 = .ok (.ifCond .eq 13, 3) := by decide +kernel
theorem dX6_reach_30 : decode cX6_reach 30 = .ok (.aload_n 0, 1) := by decide +kernel
theorem dX6_reach_31 : decode cX6_reach 31 = .ok (.getfield 42, 3) := by decide +kernel
theorem dX6_reach_34 : decode cX6_reach 34 = .ok (.getfield 190, 3) := by decide +kernel
theorem dX6_reach_37 : decode cX6_reach 37 = .ok (.goto 10, 3) := by decide +kernel
theorem dX6_reach_40 : decode cX6_reach 40 = .ok (.aload_n 0, 1) := by decide +kernel
theorem dX6_reach_41 : decode cX6_reach 41 = .ok (.getfield 42, 3) := by decide +kernel
theorem dX6_reach_44 : decode cX6_reach 44 = .ok (.getfield 193, 3) := by decide +kernel
theorem dX6_reach_47 : decode cX6_reach 47 = .ok (.ireturn, 1) := by decide +kernel
theorem dX6_oddCycle_0 : decode cX6_oddCycle 0 = .ok (.iconst (-1), 1) := by decide +kernel
theorem dX6_oddCycle_1 : decode cX6_oddCycle 1 = .ok (.istore_n 1, 1) := by decide +kernel
theorem dX6_oddCycle_2 : decode cX6_oddCycle 2 = .ok (.iconst 0, 1) := by decide +kernel
theorem dX6_oddCycle_3 : decode cX6_oddCycle 3 = .ok (.istore_n 2, 1) := by decide +kernel
theorem dX6_oddCycle_4 : decode cX6_oddCycle 4 = .ok (.iload_n 2, 1) := by decide +kernel
theorem dX6_oddCycle_5 : decode cX6_oddCycle 5 = .ok (.aload_n 0, 1) := by decide +kernel
theorem dX6_oddCycle_6 : decode cX6_oddCycle 6 = .ok (.getfield 12, 3) := by decide +kernel
theorem dX6_oddCycle_9 : decode cX6_oddCycle 9 = .ok (.getfield 65, 3) := by decide +kernel
theorem dX6_oddCycle_12 : decode cX6_oddCycle 12 = .ok (.if_icmp .ge 35, 3) := by decide +kernel
theorem dX6_oddCycle_15 : decode cX6_oddCycle 15 = .ok (.aload_n 0, 1) := by decide +kernel
theorem dX6_oddCycle_16 : decode cX6_oddCycle 16 = .ok (.getfield 12, 3) := by decide +kernel
theorem dX6_oddCycle_19 : decode cX6_oddCycle 19 = .ok (.iload_n 2, 1) := by decide +kernel
theorem dX6_oddCycle_20 : decode cX6_oddCycle 20 = .ok (.invokevirtual 196, 3) := by decide +kernel
theorem dX6_oddCycle_23 : decode cX6_oddCycle 23 = .ok (.istore_n 3, 1) := by decide +kernel
theorem dX6_oddCycle_24 : decode cX6_oddCycle 24 = .ok (.iload_n 3, 1) := by decide +kernel
theorem dX6_oddCycle_25 : decode cX6_oddCycle 25 = .ok (.iconst (-1), 1) := by decide +kernel
theorem dX6_oddCycle_26 : decode cX6_oddCycle 26 = .ok (.if_icmp .eq 15, 3) := by decide +kernel
theorem dX6_oddCycle_29 : decode cX6_oddCycle 29 = .ok (.iload_n 1, 1) := by decide +kernel
theorem dX6_oddCycle_30 : decode cX6_oddCycle 30 = .ok (.iconst (-1), 1) := by decide +kernel
theorem dX6_oddCycle_31 : decode cX6_oddCycle 31 = .ok (.if_icmp .eq 8, 3) := by decide +kernel
theorem dX6_oddCycle_34 : decode cX6_oddCycle 34 = .ok (.iload_n 3, 1) := by decide +kernel
theorem dX6_oddCycle_35 : decode cX6_oddCycle 35 = .ok (.iload_n 1, 1) := by decide +kernel
theorem dX6_oddCycle_36 : decode cX6_oddCycle 36 = .ok (.if_icmp .ge 5, 3) := by decide +kernel
theorem dX6_oddCycle_39 : decode cX6_oddCycle 39 = .ok (.iload_n 3, 1) := by decide +kernel
theorem dX6_oddCycle_40 : decode cX6_oddCycle 40 = .ok (.istore_n 1, 1) := by decide +kernel
theorem dX6_oddCycle_41 : decode cX6_oddCycle 41 = .ok (.iinc 2 1, 3) := by decide +kernel
theorem dX6_oddCycle_44 : decode cX6_oddCycle 44 = .ok (.goto (-40), 3) := by decide +kernel
theorem dX6_oddCycle_47 : decode cX6_oddCycle 47 = .ok (.iload_n 1, 1) := by decide +kernel
theorem dX6_oddCycle_48 : decode cX6_oddCycle 48 = .ok (.ireturn, 1) := by decide +kernel
theorem dX6_firstMate_0 : decode cX6_firstMate 0 = .ok (.aload_n 0, 1) := by decide +kernel
theorem dX6_firstMate_1 : decode cX6_firstMate 1 = .ok (.iload_n 1, 1) := by decide +kernel
theorem dX6_firstMate_2 : decode cX6_firstMate 2 = .ok (.invokevirtual 76, 3) := by decide +kernel
theorem dX6_firstMate_5 : decode cX6_firstMate 5 = .ok (.aload_n 0, 1) := by decide +kernel
theorem dX6_firstMate_6 : decode cX6_firstMate 6 = .ok (.getfield 51, 3) := by decide +kernel
theorem dX6_firstMate_9 : decode cX6_firstMate 9 = .ok (.invokevirtual 171, 3) := by decide +kernel
theorem dX6_firstMate_12 : decode cX6_firstMate 12 = .ok (.getfield 150, 3) := by decide +kernel
theorem dX6_firstMate_15 : decode cX6_firstMate 15 = .ok (.iload_n 1, 1) := by decide +kernel
theorem dX6_firstMate_16 : decode cX6_firstMate 16 = .ok (.iaload, 1) := by decide +kernel
theorem dX6_firstMate_17 : decode cX6_firstMate 17 = .ok (.ireturn, 1) := by decide +kernel
theorem dX6_proof_0 : decode cX6_proof 0 = .ok (.aload_n 0, 1) := by decide +kernel
theorem dX6_proof_1 : decode cX6_proof 1 = .ok (.getfield 12, 3) := by decide +kernel
theorem dX6_proof_4 : decode cX6_proof 4 = .ok (.invokevirtual 199, 3) := by decide +kernel
theorem dX6_proof_7 : decode cX6_proof 7 = .ok (.istore_n 1, 1) := by decide +kernel
theorem dX6_proof_8 : decode cX6_proof 8 = .ok (.aload_n 0, 1) := by decide +kernel
theorem dX6_proof_9 : decode cX6_proof 9 = .ok (.getfield 51, 3) := by decide +kernel
theorem dX6_proof_12 : decode cX6_proof 12 = .ok (.invokevirtual 202, 3) := by decide +kernel
theorem dX6_proof_15 : decode cX6_proof 15 = .ok (.istore_n 2, 1) := by decide +kernel
theorem dX6_proof_16 : decode cX6_proof 16 = .ok (.iconst 0, 1) := by decide +kernel
theorem dX6_proof_17 : decode cX6_proof 17 = .ok (.istore_n 3, 1) := by decide +kernel
theorem dX6_proof_18 : decode cX6_proof 18 = .ok (.bipush 13, 2) := by decide +kernel
theorem dX6_proof_20 : decode cX6_proof 20 = .ok (.istore 4, 2) := by decide +kernel
theorem dX6_proof_22 : decode cX6_proof 22 = .ok (.iconst 0, 1) := by decide +kernel
theorem dX6_proof_23 : decode cX6_proof 23 = .ok (.istore 5, 2) := by decide +kernel
theorem dX6_proof_25 : decode cX6_proof 25 = .ok (.iload 5, 2) := by decide +kernel
theorem dX6_proof_27 : decode cX6_proof 27 = .ok (.iload_n 1, 1) := by decide +kernel
theorem dX6_proof_28 : decode cX6_proof 28 = .ok (.if_icmp .gt 53, 3) := by decide +kernel
theorem dX6_proof_31 : decode cX6_proof 31 = .ok (.iload 4, 2) := by decide +kernel
theorem dX6_proof_33 : decode cX6_proof 33 = .ok (.ifCond .le 48, 3) := by decide +kernel
theorem dX6_proof_36 : decode cX6_proof 36 = .ok (.iload 5, 2) := by decide +kernel
theorem dX6_proof_38 : decode cX6_proof 38 = .ok (.invokestatic 205, 3) := by decide +kernel
theorem dX6_proof_41 : decode cX6_proof 41 = .ok (.istore 6, 2) := by decide +kernel
theorem dX6_proof_43 : decode cX6_proof 43 = .ok (.iload 6, 2) := by decide +kernel
theorem dX6_proof_45 : decode cX6_proof 45 = .ok (.iload 4, 2) := by decide +kernel
theorem dX6_proof_47 : decode cX6_proof 47 = .ok (.if_icmp .ge 28, 3) := by decide +kernel
theorem dX6_proof_50 : decode cX6_proof 50 = .ok (.iload 5, 2) := by decide +kernel
theorem dX6_proof_52 : decode cX6_proof 52 = .ok (.iload_n 2, 1) := by decide +kernel
theorem dX6_proof_53 : decode cX6_proof 53 = .ok (.iand, 1) := by decide +kernel
theorem dX6_proof_54 : decode cX6_proof 54 = .ok (.ifCond .ne 21, 3) := by decide +kernel
theorem dX6_proof_57 : decode cX6_proof 57 = .ok (.aload_n 0, 1) := by decide +kernel
theorem dX6_proof_58 : decode cX6_proof 58 = .ok (.iload 5, 2) := by decide +kernel
theorem dX6_proof_60 : decode cX6_proof 60 = .ok (.iload 6, 2) := by decide +kernel
theorem dX6_proof_62 : decode cX6_proof 62 = .ok (.invokevirtual 210, 3) := by decide +kernel
theorem dX6_proof_65 : decode cX6_proof 65 = .ok (.ifCond .eq 10, 3) := by decide +kernel
theorem dX6_proof_68 : decode cX6_proof 68 = .ok (.iload 5, 2) := by decide +kernel
theorem dX6_proof_70 : decode cX6_proof 70 = .ok (.istore_n 3, 1) := by decide +kernel
theorem dX6_proof_71 : decode cX6_proof 71 = .ok (.iload 6, 2) := by decide +kernel
theorem dX6_proof_73 : decode cX6_proof 73 = .ok (.istore 4, 2) := by decide +kernel
theorem dX6_proof_75 : decode cX6_proof 75 = .ok (.iinc 5 1, 3) := by decide +kernel
theorem dX6_proof_78 : decode cX6_proof 78 = .ok (.goto (-53), 3) := by decide +kernel
theorem dX6_proof_81 : decode cX6_proof 81 = .ok (.iload_n 3, 1) := by decide +kernel
theorem dX6_proof_82 : decode cX6_proof 82 = .ok (.ireturn, 1) := by decide +kernel
theorem dX6_isProof_0 : decode cX6_isProof 0 = .ok (.aload_n 0, 1) := by decide +kernel
theorem dX6_isProof_1 : decode cX6_isProof 1 = .ok (.getfield 12, 3) := by decide +kernel
theorem dX6_isProof_4 : decode cX6_isProof 4 = .ok (.aload_n 0, 1) := by decide +kernel
theorem dX6_isProof_5 : decode cX6_isProof 5 = .ok (.getfield 12, 3) := by decide +kernel
theorem dX6_isProof_8 : decode cX6_isProof 8 = .ok (.invokevirtual 199, 3) := by decide +kernel
theorem dX6_isProof_11 : decode cX6_isProof 11 = .ok (.iload_n 1, 1) := by decide +kernel
theorem dX6_isProof_12 : decode cX6_isProof 12 = .ok (.iconst (-1), 1) := by decide +kernel
theorem dX6_isProof_13 : decode cX6_isProof 13 = .ok (.ixor, 1) := by decide +kernel
theorem dX6_isProof_14 : decode cX6_isProof 14 = .ok (.iand, 1) := by decide +kernel
theorem dX6_isProof_15 : decode cX6_isProof 15 = .ok (.iconst 1, 1) := by decide +kernel
theorem dX6_isProof_16 : decode cX6_isProof 16 = .ok (.invokevirtual 213, 3) := by decide +kernel
theorem dX6_isProof_19 : decode cX6_isProof 19 = .ok (.iload_n 2, 1) := by decide +kernel
theorem dX6_isProof_20 : decode cX6_isProof 20 = .ok (.aload_n 0, 1) := by decide +kernel
theorem dX6_isProof_21 : decode cX6_isProof 21 = .ok (.invokevirtual 217, 3) := by decide +kernel
theorem dX6_isProof_24 : decode cX6_isProof 24 = .ok (.iadd, 1) := by decide +kernel
theorem dX6_isProof_25 : decode cX6_isProof 25 = .ok (.if_icmp .ne 7, 3) := by decide +kernel
theorem dX6_isProof_28 : decode cX6_isProof 28 = .ok (.iconst 1, 1) := by decide +kernel
theorem dX6_isProof_29 : decode cX6_isProof 29 = .ok (.goto 4, 3) := by decide +kernel
theorem dX6_isProof_32 : decode cX6_isProof 32 = .ok (.iconst 0, 1) := by decide +kernel
theorem dX6_isProof_33 : decode cX6_isProof 33 = .ok (.ireturn, 1) := by decide +kernel
theorem dX6_components_0 : decode cX6_components 0 = .ok (.iload_n 1, 1) := by decide +kernel
theorem dX6_components_1 : decode cX6_components 1 = .ok (.ifCond .lt 14, 3) := by decide +kernel
theorem dX6_components_4 : decode cX6_components 4 = .ok (.iload_n 1, 1) := by decide +kernel
theorem dX6_components_5 : decode cX6_components 5 = .ok (.aload_n 0, 1) := by decide +kernel
theorem dX6_components_6 : decode cX6_components 6 = .ok (.getfield 12, 3) := by decide +kernel
theorem dX6_components_9 : decode cX6_components 9 = .ok (.invokevirtual 199, 3) := by decide +kernel
theorem dX6_components_12 : decode cX6_components 12 = .ok (.if_icmp .le 13, 3) := by decide +kernel
theorem dX6_components_15 : decode cX6_components 15 = .ok (.new 58, 3) := by decide +kernel
theorem dX6_components_18 : decode cX6_components 18 = .ok (.dup, 1) := by decide +kernel
theorem dX6_components_19 : decode cX6_components 19 = .ok (.ldc 220, 2) := by decide +kernel
theorem dX6_components_21 : decode cX6_components 21 = .ok (.invokespecial 62, 3) := by decide +kernel
theorem dX6_components_24 : decode cX6_components 24 = .ok (.athrow, 1) := by decide +kernel
theorem dX6_components_25 : decode cX6_components 25 = .ok (.aload_n 0, 1) := by decide +kernel
theorem dX6_components_26 : decode cX6_components 26 = .ok (.getfield 12, 3) := by decide +kernel
theorem dX6_components_29 : decode cX6_components 29 = .ok (.aload_n 0, 1) := by decide +kernel
theorem dX6_components_30 : decode cX6_components 30 = .ok (.getfield 12, 3) := by decide +kernel
theorem dX6_components_33 : decode cX6_components 33 = .ok (.invokevirtual 199, 3) := by decide +kernel
theorem dX6_components_36 : decode cX6_components 36 = .ok (.iload_n 1, 1) := by decide +kernel
theorem dX6_components_37 : decode cX6_components 37 = .ok (.iconst (-1), 1) := by decide +kernel
theorem dX6_components_38 : decode cX6_components 38 = .ok (.ixor, 1) := by decide +kernel
theorem dX6_components_39 : decode cX6_components 39 = .ok (.iand, 1) := by decide +kernel
theorem dX6_components_40 : decode cX6_components 40 = .ok (.iload_n 2, 1) := by decide +kernel
theorem dX6_components_41 : decode cX6_components 41 = .ok (.invokevirtual 213, 3) := by decide +kernel
theorem dX6_components_44 : decode cX6_components 44 = .ok (.ireturn, 1) := by decide +kernel
theorem dX6_ifChanged_0 : decode cX6_ifChanged 0 = .ok (.aload_n 0, 1) := by decide +kernel
theorem dX6_ifChanged_1 : decode cX6_ifChanged 1 = .ok (.iload_n 1, 1) := by decide +kernel
theorem dX6_ifChanged_2 : decode cX6_ifChanged 2 = .ok (.invokevirtual 76, 3) := by decide +kernel
theorem dX6_ifChanged_5 : decode cX6_ifChanged 5 = .ok (.aload_n 0, 1) := by decide +kernel
theorem dX6_ifChanged_6 : decode cX6_ifChanged 6 = .ok (.iload_n 2, 1) := by decide +kernel
theorem dX6_ifChanged_7 : decode cX6_ifChanged 7 = .ok (.invokevirtual 76, 3) := by decide +kernel
theorem dX6_ifChanged_10 : decode cX6_ifChanged 10 = .ok (.iload_n 1, 1) := by decide +kernel
theorem dX6_ifChanged_11 : decode cX6_ifChanged 11 = .ok (.iload_n 2, 1) := by decide +kernel
theorem dX6_ifChanged_12 : decode cX6_ifChanged 12 = .ok (.invokestatic 79, 3) := by decide +kernel
theorem dX6_ifChanged_15 : decode cX6_ifChanged 15 = .ok (.aload_n 0, 1) := by decide +kernel
theorem dX6_ifChanged_16 : decode cX6_ifChanged 16 = .ok (.getfield 51, 3) := by decide +kernel
theorem dX6_ifChanged_19 : decode cX6_ifChanged 19 = .ok (.invokevirtual 222, 3) := by decide +kernel
theorem dX6_ifChanged_22 : decode cX6_ifChanged 22 = .ok (.istore_n 3, 1) := by decide +kernel
theorem dX6_ifChanged_23 : decode cX6_ifChanged 23 = .ok (.aload_n 0, 1) := by decide +kernel
theorem dX6_ifChanged_24 : decode cX6_ifChanged 24 = .ok (.getfield 12, 3) := by decide +kernel
theorem dX6_ifChanged_27 : decode cX6_ifChanged 27 = .ok (.iload_n 1, 1) := by decide +kernel
theorem dX6_ifChanged_28 : decode cX6_ifChanged 28 = .ok (.iload_n 2, 1) := by decide +kernel
theorem dX6_ifChanged_29 : decode cX6_ifChanged 29 = .ok (.invokevirtual 86, 3) := by decide +kernel
theorem dX6_ifChanged_32 : decode cX6_ifChanged 32 = .ok (.ifCond .eq 30, 3) := by decide +kernel
theorem dX6_ifChanged_35 : decode cX6_ifChanged 35 = .ok (.aload_n 0, 1) := by decide +kernel
theorem dX6_ifChanged_36 : decode cX6_ifChanged 36 = .ok (.getfield 51, 3) := by decide +kernel
theorem dX6_ifChanged_39 : decode cX6_ifChanged 39 = .ok (.iload_n 1, 1) := by decide +kernel
theorem dX6_ifChanged_40 : decode cX6_ifChanged 40 = .ok (.iload_n 2, 1) := by decide +kernel
theorem dX6_ifChanged_41 : decode cX6_ifChanged 41 = .ok (.invokevirtual 225, 3) := by decide +kernel
theorem dX6_ifChanged_44 : decode cX6_ifChanged 44 = .ok (.aload_n 0, 1) := by decide +kernel
theorem dX6_ifChanged_45 : decode cX6_ifChanged 45 = .ok (.getfield 51, 3) := by decide +kernel
theorem dX6_ifChanged_48 : decode cX6_ifChanged 48 = .ok (.invokevirtual 229, 3) := by decide +kernel
theorem dX6_ifChanged_51 : decode cX6_ifChanged 51 = .ok (.if_icmp .ne 9, 3) := by decide +kernel
theorem dX6_ifChanged_54 : decode cX6_ifChanged 54 = .ok (.iload_n 3, 1) := by decide +kernel
theorem dX6_ifChanged_55 : decode cX6_ifChanged 55 = .ok (.iconst 1, 1) := by decide +kernel
theorem dX6_ifChanged_56 : decode cX6_ifChanged 56 = .ok (.isub, 1) := by decide +kernel
theorem dX6_ifChanged_57 : decode cX6_ifChanged 57 = .ok (.goto 4, 3) := by decide +kernel
theorem dX6_ifChanged_60 : decode cX6_ifChanged 60 = .ok (.iload_n 3, 1) := by decide +kernel
theorem dX6_ifChanged_61 : decode cX6_ifChanged 61 = .ok (.ireturn, 1) := by decide +kernel
theorem dX6_ifChanged_62 : decode cX6_ifChanged 62 = .ok (.iload_n 3, 1) := by decide +kernel
theorem dX6_ifChanged_63 : decode cX6_ifChanged 63 = .ok (.aload_n 0, 1) := by decide +kernel
theorem dX6_ifChanged_64 : decode cX6_ifChanged 64 = .ok (.getfield 51, 3) := by decide +kernel
theorem dX6_ifChanged_67 : decode cX6_ifChanged 67 = .ok (.iload_n 1, 1) := by decide +kernel
theorem dX6_ifChanged_68 : decode cX6_ifChanged 68 = .ok (.iload_n 2, 1) := by decide +kernel
theorem dX6_ifChanged_69 : decode cX6_ifChanged 69 = .ok (.invokevirtual 232, 3) := by decide +kernel
theorem dX6_ifChanged_72 : decode cX6_ifChanged 72 = .ok (.iconst 1, 1) := by decide +kernel
theorem dX6_ifChanged_73 : decode cX6_ifChanged 73 = .ok (.iadd, 1) := by decide +kernel
theorem dX6_ifChanged_74 : decode cX6_ifChanged 74 = .ok (.invokestatic 235, 3) := by decide +kernel
theorem dX6_ifChanged_77 : decode cX6_ifChanged 77 = .ok (.ireturn, 1) := by decide +kernel
theorem dX6_node_0 : decode cX6_node 0 = .ok (.aload_n 0, 1) := by decide +kernel
theorem dX6_node_1 : decode cX6_node 1 = .ok (.iload_n 1, 1) := by decide +kernel
theorem dX6_node_2 : decode cX6_node 2 = .ok (.invokevirtual 76, 3) := by decide +kernel
theorem dX6_node_5 : decode cX6_node 5 = .ok (.iload_n 2, 1) := by decide +kernel
theorem dX6_node_6 : decode cX6_node 6 = .ok (.tableswitch 91 0 4 #[34, 47, 57, 63, 72], 34) := by decide +kernel
theorem dX6_node_40 : decode cX6_node 40 = .ok (.aload_n 0, 1) := by decide +kernel
theorem dX6_node_41 : decode cX6_node 41 = .ok (.getfield 12, 3) := by decide +kernel
theorem dX6_node_44 : decode cX6_node 44 = .ok (.getfield 240, 3) := by decide +kernel
theorem dX6_node_47 : decode cX6_node 47 = .ok (.iload_n 1, 1) := by decide +kernel
theorem dX6_node_48 : decode cX6_node 48 = .ok (.iaload, 1) := by decide +kernel
theorem dX6_node_49 : decode cX6_node 49 = .ok (.invokestatic 205, 3) := by decide +kernel
theorem dX6_node_52 : decode cX6_node 52 = .ok (.ireturn, 1) := by decide +kernel
theorem dX6_node_53 : decode cX6_node 53 = .ok (.aload_n 0, 1) := by decide +kernel
theorem dX6_node_54 : decode cX6_node 54 = .ok (.getfield 19, 3) := by decide +kernel
theorem dX6_node_57 : decode cX6_node 57 = .ok (.getfield 150, 3) := by decide +kernel
theorem dX6_node_60 : decode cX6_node 60 = .ok (.iload_n 1, 1) := by decide +kernel
theorem dX6_node_61 : decode cX6_node 61 = .ok (.iaload, 1) := by decide +kernel
theorem dX6_node_62 : decode cX6_node 62 = .ok (.ireturn, 1) := by decide +kernel
theorem dX6_node_63 : decode cX6_node 63 = .ok (.aload_n 0, 1) := by decide +kernel
theorem dX6_node_64 : decode cX6_node 64 = .ok (.iload_n 1, 1) := by decide +kernel
theorem dX6_node_65 : decode cX6_node 65 = .ok (.invokevirtual 243, 3) := by decide +kernel
theorem dX6_node_68 : decode cX6_node 68 = .ok (.ireturn, 1) := by decide +kernel
theorem dX6_node_69 : decode cX6_node 69 = .ok (.aload_n 0, 1) := by decide +kernel
theorem dX6_node_70 : decode cX6_node 70 = .ok (.getfield 51, 3) := by decide +kernel
theorem dX6_node_73 : decode cX6_node 73 = .ok (.iload_n 1, 1) := by decide +kernel
theorem dX6_node_74 : decode cX6_node 74 = .ok (.invokevirtual 246, 3) := by decide +kernel
theorem dX6_node_77 : decode cX6_node 77 = .ok (.ireturn, 1) := by decide +kernel
theorem dX6_node_78 : decode cX6_node 78 = .ok (.aload_n 0, 1) := by decide +kernel
theorem dX6_node_79 : decode cX6_node 79 = .ok (.getfield 12, 3) := by decide +kernel
theorem dX6_node_82 : decode cX6_node 82 = .ok (.iload_n 1, 1) := by decide +kernel
theorem dX6_node_83 : decode cX6_node 83 = .ok (.aload_n 0, 1) := by decide +kernel
theorem dX6_node_84 : decode cX6_node 84 = .ok (.getfield 12, 3) := by decide +kernel
theorem dX6_node_87 : decode cX6_node 87 = .ok (.invokevirtual 199, 3) := by decide +kernel
theorem dX6_node_90 : decode cX6_node 90 = .ok (.invokevirtual 249, 3) := by decide +kernel
theorem dX6_node_93 : decode cX6_node 93 = .ok (.invokestatic 252, 3) := by decide +kernel
theorem dX6_node_96 : decode cX6_node 96 = .ok (.ireturn, 1) := by decide +kernel
theorem dX6_node_97 : decode cX6_node 97 = .ok (.new 58, 3) := by decide +kernel
theorem dX6_node_100 : decode cX6_node 100 = .ok (.dup, 1) := by decide +kernel
theorem dX6_node_101 : decode cX6_node 101 = .ok (.ldc 255, 2) := by decide +kernel
theorem dX6_node_103 : decode cX6_node 103 = .ok (.invokespecial 62, 3) := by decide +kernel
theorem dX6_node_106 : decode cX6_node 106 = .ok (.athrow, 1) := by decide +kernel
theorem dX6_partOf_0 : decode cX6_partOf 0 = .ok (.aload_n 0, 1) := by decide +kernel
theorem dX6_partOf_1 : decode cX6_partOf 1 = .ok (.getfield 51, 3) := by decide +kernel
theorem dX6_partOf_4 : decode cX6_partOf 4 = .ok (.invokevirtual 202, 3) := by decide +kernel
theorem dX6_partOf_7 : decode cX6_partOf 7 = .ok (.istore_n 2, 1) := by decide +kernel
theorem dX6_partOf_8 : decode cX6_partOf 8 = .ok (.iload_n 2, 1) := by decide +kernel
theorem dX6_partOf_9 : decode cX6_partOf 9 = .ok (.iload_n 1, 1) := by decide +kernel
theorem dX6_partOf_10 : decode cX6_partOf 10 = .ok (.ishr, 1) := by decide +kernel
theorem dX6_partOf_11 : decode cX6_partOf 11 = .ok (.iconst 1, 1) := by decide +kernel
theorem dX6_partOf_12 : decode cX6_partOf 12 = .ok (.iand, 1) := by decide +kernel
theorem dX6_partOf_13 : decode cX6_partOf 13 = .ok (.ifCond .eq 5, 3) := by decide +kernel
theorem dX6_partOf_16 : decode cX6_partOf 16 = .ok (.iconst 0, 1) := by decide +kernel
theorem dX6_partOf_17 : decode cX6_partOf 17 = .ok (.ireturn, 1) := by decide +kernel
theorem dX6_partOf_18 : decode cX6_partOf 18 = .ok (.iload_n 2, 1) := by decide +kernel
theorem dX6_partOf_19 : decode cX6_partOf 19 = .ok (.aload_n 0, 1) := by decide +kernel
theorem dX6_partOf_20 : decode cX6_partOf 20 = .ok (.getfield 12, 3) := by decide +kernel
theorem dX6_partOf_23 : decode cX6_partOf 23 = .ok (.getfield 240, 3) := by decide +kernel
theorem dX6_partOf_26 : decode cX6_partOf 26 = .ok (.iload_n 1, 1) := by decide +kernel
theorem dX6_partOf_27 : decode cX6_partOf 27 = .ok (.iaload, 1) := by decide +kernel
theorem dX6_partOf_28 : decode cX6_partOf 28 = .ok (.iand, 1) := by decide +kernel
theorem dX6_partOf_29 : decode cX6_partOf 29 = .ok (.ifCond .eq 7, 3) := by decide +kernel
theorem dX6_partOf_32 : decode cX6_partOf 32 = .ok (.iconst 1, 1) := by decide +kernel
theorem dX6_partOf_33 : decode cX6_partOf 33 = .ok (.goto 4, 3) := by decide +kernel
theorem dX6_partOf_36 : decode cX6_partOf 36 = .ok (.iconst 2, 1) := by decide +kernel
theorem dX6_partOf_37 : decode cX6_partOf 37 = .ok (.ireturn, 1) := by decide +kernel
theorem dX6_edge_0 : decode cX6_edge 0 = .ok (.aload_n 0, 1) := by decide +kernel
theorem dX6_edge_1 : decode cX6_edge 1 = .ok (.iload_n 1, 1) := by decide +kernel
theorem dX6_edge_2 : decode cX6_edge 2 = .ok (.invokevirtual 76, 3) := by decide +kernel
theorem dX6_edge_5 : decode cX6_edge 5 = .ok (.aload_n 0, 1) := by decide +kernel
theorem dX6_edge_6 : decode cX6_edge 6 = .ok (.iload_n 2, 1) := by decide +kernel
theorem dX6_edge_7 : decode cX6_edge 7 = .ok (.invokevirtual 76, 3) := by decide +kernel
theorem dX6_edge_10 : decode cX6_edge 10 = .ok (.iload_n 3, 1) := by decide +kernel
theorem dX6_edge_11 : decode cX6_edge 11 = .ok (.tableswitch 71 0 2 #[25, 43, 61], 25) := by decide +kernel
theorem dX6_edge_36 : decode cX6_edge 36 = .ok (.aload_n 0, 1) := by decide +kernel
theorem dX6_edge_37 : decode cX6_edge 37 = .ok (.getfield 12, 3) := by decide +kernel
theorem dX6_edge_40 : decode cX6_edge 40 = .ok (.iload_n 1, 1) := by decide +kernel
theorem dX6_edge_41 : decode cX6_edge 41 = .ok (.iload_n 2, 1) := by decide +kernel
theorem dX6_edge_42 : decode cX6_edge 42 = .ok (.invokevirtual 86, 3) := by decide +kernel
theorem dX6_edge_45 : decode cX6_edge 45 = .ok (.ifCond .eq 7, 3) := by decide +kernel
theorem dX6_edge_48 : decode cX6_edge 48 = .ok (.iconst 1, 1) := by decide +kernel
theorem dX6_edge_49 : decode cX6_edge 49 = .ok (.goto 4, 3) := by decide +kernel
theorem dX6_edge_52 : decode cX6_edge 52 = .ok (.iconst 0, 1) := by decide +kernel
theorem dX6_edge_53 : decode cX6_edge 53 = .ok (.ireturn, 1) := by decide +kernel
theorem dX6_edge_54 : decode cX6_edge 54 = .ok (.aload_n 0, 1) := by decide +kernel
theorem dX6_edge_55 : decode cX6_edge 55 = .ok (.getfield 19, 3) := by decide +kernel
theorem dX6_edge_58 : decode cX6_edge 58 = .ok (.iload_n 1, 1) := by decide +kernel
theorem dX6_edge_59 : decode cX6_edge 59 = .ok (.iload_n 2, 1) := by decide +kernel
theorem dX6_edge_60 : decode cX6_edge 60 = .ok (.invokevirtual 94, 3) := by decide +kernel
theorem dX6_edge_63 : decode cX6_edge 63 = .ok (.ifCond .eq 7, 3) := by decide +kernel
theorem dX6_edge_66 : decode cX6_edge 66 = .ok (.iconst 1, 1) := by decide +kernel
theorem dX6_edge_67 : decode cX6_edge 67 = .ok (.goto 4, 3) := by decide +kernel
theorem dX6_edge_70 : decode cX6_edge 70 = .ok (.iconst 0, 1) := by decide +kernel
theorem dX6_edge_71 : decode cX6_edge 71 = .ok (.ireturn, 1) := by decide +kernel
theorem dX6_edge_72 : decode cX6_edge 72 = .ok (.aload_n 0, 1) := by decide +kernel
theorem dX6_edge_73 : decode cX6_edge 73 = .ok (.getfield 51, 3) := by decide +kernel
theorem dX6_edge_76 : decode cX6_edge 76 = .ok (.iload_n 1, 1) := by decide +kernel
theorem dX6_edge_77 : decode cX6_edge 77 = .ok (.iload_n 2, 1) := by decide +kernel
theorem dX6_edge_78 : decode cX6_edge 78 = .ok (.invokevirtual 225, 3) := by decide +kernel
theorem dX6_edge_81 : decode cX6_edge 81 = .ok (.ireturn, 1) := by decide +kernel
theorem dX6_edge_82 : decode cX6_edge 82 = .ok (.new 58, 3) := by decide +kernel
theorem dX6_edge_85 : decode cX6_edge 85 = .ok (.dup, 1) := by decide +kernel
theorem dX6_edge_86 : decode cX6_edge 86 = .ok (.ldc_w 257, 3) := by decide +kernel
theorem dX6_edge_89 : decode cX6_edge 89 = .ok (.invokespecial 62, 3) := by decide +kernel
theorem dX6_edge_92 : decode cX6_edge 92 = .ok (.athrow, 1) := by decide +kernel
theorem dX6_count_0 : decode cX6_count 0 = .ok (.iload_n 1, 1) := by decide +kernel
theorem dX6_count_1 : decode cX6_count 1 = .ok (.tableswitch 168 0 10 #[59, 67, 75, 83, 91, 96, 104, 119, 128, 144, 160], 59) := by decide +kernel
theorem dX6_count_60 : decode cX6_count 60 = .ok (.aload_n 0, 1) := by decide +kernel
theorem dX6_count_61 : decode cX6_count 61 = .ok (.getfield 12, 3) := by decide +kernel
theorem dX6_count_64 : decode cX6_count 64 = .ok (.getfield 65, 3) := by decide +kernel
theorem dX6_count_67 : decode cX6_count 67 = .ok (.ireturn, 1) := by decide +kernel
theorem dX6_count_68 : decode cX6_count 68 = .ok (.aload_n 0, 1) := by decide +kernel
theorem dX6_count_69 : decode cX6_count 69 = .ok (.getfield 12, 3) := by decide +kernel
theorem dX6_count_72 : decode cX6_count 72 = .ok (.invokevirtual 259, 3) := by decide +kernel
theorem dX6_count_75 : decode cX6_count 75 = .ok (.ireturn, 1) := by decide +kernel
theorem dX6_count_76 : decode cX6_count 76 = .ok (.aload_n 0, 1) := by decide +kernel
theorem dX6_count_77 : decode cX6_count 77 = .ok (.getfield 19, 3) := by decide +kernel
theorem dX6_count_80 : decode cX6_count 80 = .ok (.invokevirtual 144, 3) := by decide +kernel
theorem dX6_count_83 : decode cX6_count 83 = .ok (.ireturn, 1) := by decide +kernel
theorem dX6_count_84 : decode cX6_count 84 = .ok (.aload_n 0, 1) := by decide +kernel
theorem dX6_count_85 : decode cX6_count 85 = .ok (.getfield 51, 3) := by decide +kernel
theorem dX6_count_88 : decode cX6_count 88 = .ok (.invokevirtual 222, 3) := by decide +kernel
theorem dX6_count_91 : decode cX6_count 91 = .ok (.ireturn, 1) := by decide +kernel
theorem dX6_count_92 : decode cX6_count 92 = .ok (.aload_n 0, 1) := by decide +kernel
theorem dX6_count_93 : decode cX6_count 93 = .ok (.invokevirtual 217, 3) := by decide +kernel
theorem dX6_count_96 : decode cX6_count 96 = .ok (.ireturn, 1) := by decide +kernel
theorem dX6_count_97 : decode cX6_count 97 = .ok (.aload_n 0, 1) := by decide +kernel
theorem dX6_count_98 : decode cX6_count 98 = .ok (.getfield 51, 3) := by decide +kernel
theorem dX6_count_101 : decode cX6_count 101 = .ok (.invokevirtual 229, 3) := by decide +kernel
theorem dX6_count_104 : decode cX6_count 104 = .ok (.ireturn, 1) := by decide +kernel
theorem dX6_count_105 : decode cX6_count 105 = .ok (.aload_n 0, 1) := by decide +kernel
theorem dX6_count_106 : decode cX6_count 106 = .ok (.getfield 51, 3) := by decide +kernel
theorem dX6_count_109 : decode cX6_count 109 = .ok (.aload_n 0, 1) := by decide +kernel
theorem dX6_count_110 : decode cX6_count 110 = .ok (.getfield 51, 3) := by decide +kernel
theorem dX6_count_113 : decode cX6_count 113 = .ok (.invokevirtual 229, 3) := by decide +kernel
theorem dX6_count_116 : decode cX6_count 116 = .ok (.invokevirtual 262, 3) := by decide +kernel
theorem dX6_count_119 : decode cX6_count 119 = .ok (.ireturn, 1) := by decide +kernel
theorem dX6_count_120 : decode cX6_count 120 = .ok (.aload_n 0, 1) := by decide +kernel
theorem dX6_count_121 : decode cX6_count 121 = .ok (.getfield 51, 3) := by decide +kernel
theorem dX6_count_124 : decode cX6_count 124 = .ok (.iconst 0, 1) := by decide +kernel
theorem dX6_count_125 : decode cX6_count 125 = .ok (.invokevirtual 262, 3) := by decide +kernel
theorem dX6_count_128 : decode cX6_count 128 = .ok (.ireturn, 1) := by decide +kernel
theorem dX6_count_129 : decode cX6_count 129 = .ok (.aload_n 0, 1) := by decide +kernel
theorem dX6_count_130 : decode cX6_count 130 = .ok (.getfield 51, 3) := by decide +kernel
theorem dX6_count_133 : decode cX6_count 133 = .ok (.invokevirtual 265, 3) := by decide +kernel
theorem dX6_count_136 : decode cX6_count 136 = .ok (.ifCond .eq 7, 3) := by decide +kernel
theorem dX6_count_139 : decode cX6_count 139 = .ok (.iconst 1, 1) := by decide +kernel
theorem dX6_count_140 : decode cX6_count 140 = .ok (.goto 4, 3) := by decide +kernel
theorem dX6_count_143 : decode cX6_count 143 = .ok (.iconst 0, 1) := by decide +kernel
theorem dX6_count_144 : decode cX6_count 144 = .ok (.ireturn, 1) := by decide +kernel
theorem dX6_count_145 : decode cX6_count 145 = .ok (.aload_n 0, 1) := by decide +kernel
theorem dX6_count_146 : decode cX6_count 146 = .ok (.getfield 12, 3) := by decide +kernel
theorem dX6_count_149 : decode cX6_count 149 = .ok (.aload_n 0, 1) := by decide +kernel
theorem dX6_count_150 : decode cX6_count 150 = .ok (.getfield 12, 3) := by decide +kernel
theorem dX6_count_153 : decode cX6_count 153 = .ok (.invokevirtual 199, 3) := by decide +kernel
theorem dX6_count_156 : decode cX6_count 156 = .ok (.iconst 0, 1) := by decide +kernel
theorem dX6_count_157 : decode cX6_count 157 = .ok (.invokevirtual 213, 3) := by decide +kernel
theorem dX6_count_160 : decode cX6_count 160 = .ok (.ireturn, 1) := by decide +kernel
theorem dX6_count_161 : decode cX6_count 161 = .ok (.aload_n 0, 1) := by decide +kernel
theorem dX6_count_162 : decode cX6_count 162 = .ok (.getfield 33, 3) := by decide +kernel
theorem dX6_count_165 : decode cX6_count 165 = .ok (.getfield 179, 3) := by decide +kernel
theorem dX6_count_168 : decode cX6_count 168 = .ok (.ireturn, 1) := by decide +kernel
theorem dX6_count_169 : decode cX6_count 169 = .ok (.new 58, 3) := by decide +kernel
theorem dX6_count_172 : decode cX6_count 172 = .ok (.dup, 1) := by decide +kernel
theorem dX6_count_173 : decode cX6_count 173 = .ok (.ldc_w 268, 3) := by decide +kernel
theorem dX6_count_176 : decode cX6_count 176 = .ok (.invokespecial 62, 3) := by decide +kernel
theorem dX6_count_179 : decode cX6_count 179 = .ok (.athrow, 1) := by decide +kernel
theorem dX6_deficiency_0 : decode cX6_deficiency 0 = .ok (.aload_n 0, 1) := by decide +kernel
theorem dX6_deficiency_1 : decode cX6_deficiency 1 = .ok (.getfield 12, 3) := by decide +kernel
theorem dX6_deficiency_4 : decode cX6_deficiency 4 = .ok (.getfield 65, 3) := by decide +kernel
theorem dX6_deficiency_7 : decode cX6_deficiency 7 = .ok (.iconst 2, 1) := by decide +kernel
theorem dX6_deficiency_8 : decode cX6_deficiency 8 = .ok (.aload_n 0, 1) := by decide +kernel
theorem dX6_deficiency_9 : decode cX6_deficiency 9 = .ok (.getfield 51, 3) := by decide +kernel
theorem dX6_deficiency_12 : decode cX6_deficiency 12 = .ok (.invokevirtual 222, 3) := by decide +kernel
theorem dX6_deficiency_15 : decode cX6_deficiency 15 = .ok (.imul, 1) := by decide +kernel
theorem dX6_deficiency_16 : decode cX6_deficiency 16 = .ok (.isub, 1) := by decide +kernel
theorem dX6_deficiency_17 : decode cX6_deficiency 17 = .ok (.ireturn, 1) := by decide +kernel
theorem dX6_difference_0 : decode cX6_difference 0 = .ok (.iload_n 1, 1) := by decide +kernel
theorem dX6_difference_1 : decode cX6_difference 1 = .ok (.ifCond .eq 19, 3) := by decide +kernel
theorem dX6_difference_4 : decode cX6_difference 4 = .ok (.iload_n 1, 1) := by decide +kernel
theorem dX6_difference_5 : decode cX6_difference 5 = .ok (.iconst 1, 1) := by decide +kernel
theorem dX6_difference_6 : decode cX6_difference 6 = .ok (.if_icmp .eq 14, 3) := by decide +kernel
theorem dX6_difference_9 : decode cX6_difference 9 = .ok (.new 58, 3) := by decide +kernel
theorem dX6_difference_12 : decode cX6_difference 12 = .ok (.dup, 1) := by decide +kernel
theorem dX6_difference_13 : decode cX6_difference 13 = .ok (.ldc_w 270, 3) := by decide +kernel
theorem dX6_difference_16 : decode cX6_difference 16 = .ok (.invokespecial 62, 3) := by decide +kernel
theorem dX6_difference_19 : decode cX6_difference 19 = .ok (.athrow, 1) := by decide +kernel
theorem dX6_difference_20 : decode cX6_difference 20 = .ok (.aload_n 0, 1) := by decide +kernel
theorem dX6_difference_21 : decode cX6_difference 21 = .ok (.aload_n 0, 1) := by decide +kernel
theorem dX6_difference_22 : decode cX6_difference 22 = .ok (.getfield 51, 3) := by decide +kernel
theorem dX6_difference_25 : decode cX6_difference 25 = .ok (.invokevirtual 171, 3) := by decide +kernel
theorem dX6_difference_28 : decode cX6_difference 28 = .ok (.invokevirtual 272, 3) := by decide +kernel
theorem dX6_difference_31 : decode cX6_difference 31 = .ok (.iconst 0, 1) := by decide +kernel
theorem dX6_difference_32 : decode cX6_difference 32 = .ok (.istore_n 2, 1) := by decide +kernel
theorem dX6_difference_33 : decode cX6_difference 33 = .ok (.iconst 0, 1) := by decide +kernel
theorem dX6_difference_34 : decode cX6_difference 34 = .ok (.istore_n 3, 1) := by decide +kernel
theorem dX6_difference_35 : decode cX6_difference 35 = .ok (.iconst 0, 1) := by decide +kernel
theorem dX6_difference_36 : decode cX6_difference 36 = .ok (.istore 4, 2) := by decide +kernel
theorem dX6_difference_38 : decode cX6_difference 38 = .ok (.iload 4, 2) := by decide +kernel
theorem dX6_difference_40 : decode cX6_difference 40 = .ok (.aload_n 0, 1) := by decide +kernel
theorem dX6_difference_41 : decode cX6_difference 41 = .ok (.getfield 12, 3) := by decide +kernel
theorem dX6_difference_44 : decode cX6_difference 44 = .ok (.getfield 65, 3) := by decide +kernel
theorem dX6_difference_47 : decode cX6_difference 47 = .ok (.if_icmp .ge 95, 3) := by decide +kernel
theorem dX6_difference_50 : decode cX6_difference 50 = .ok (.aload_n 0, 1) := by decide +kernel
theorem dX6_difference_51 : decode cX6_difference 51 = .ok (.getfield 55, 3) := by decide +kernel
theorem dX6_difference_54 : decode cX6_difference 54 = .ok (.iload 4, 2) := by decide +kernel
theorem dX6_difference_56 : decode cX6_difference 56 = .ok (.aload_n 0, 1) := by decide +kernel
theorem dX6_difference_57 : decode cX6_difference 57 = .ok (.getfield 12, 3) := by decide +kernel
theorem dX6_difference_60 : decode cX6_difference 60 = .ok (.invokevirtual 199, 3) := by decide +kernel
theorem dX6_difference_63 : decode cX6_difference 63 = .ok (.invokevirtual 249, 3) := by decide +kernel
theorem dX6_difference_66 : decode cX6_difference 66 = .ok (.istore 5, 2) := by decide +kernel
theorem dX6_difference_68 : decode cX6_difference 68 = .ok (.iload 5, 2) := by decide +kernel
theorem dX6_difference_70 : decode cX6_difference 70 = .ok (.invokestatic 252, 3) := by decide +kernel
theorem dX6_difference_73 : decode cX6_difference 73 = .ok (.iload 4, 2) := by decide +kernel
theorem dX6_difference_75 : decode cX6_difference 75 = .ok (.if_icmp .ne 7, 3) := by decide +kernel
theorem dX6_difference_78 : decode cX6_difference 78 = .ok (.iconst 1, 1) := by decide +kernel
theorem dX6_difference_79 : decode cX6_difference 79 = .ok (.goto 4, 3) := by decide +kernel
theorem dX6_difference_82 : decode cX6_difference 82 = .ok (.iconst 0, 1) := by decide +kernel
theorem dX6_difference_83 : decode cX6_difference 83 = .ok (.istore 6, 2) := by decide +kernel
theorem dX6_difference_85 : decode cX6_difference 85 = .ok (.iload 6, 2) := by decide +kernel
theorem dX6_difference_87 : decode cX6_difference 87 = .ok (.ifCond .eq 49, 3) := by decide +kernel
theorem dX6_difference_90 : decode cX6_difference 90 = .ok (.iload 5, 2) := by decide +kernel
theorem dX6_difference_92 : decode cX6_difference 92 = .ok (.invokestatic 205, 3) := by decide +kernel
theorem dX6_difference_95 : decode cX6_difference 95 = .ok (.iconst 1, 1) := by decide +kernel
theorem dX6_difference_96 : decode cX6_difference 96 = .ok (.if_icmp .le 40, 3) := by decide +kernel
theorem dX6_difference_99 : decode cX6_difference 99 = .ok (.aload_n 0, 1) := by decide +kernel
theorem dX6_difference_100 : decode cX6_difference 100 = .ok (.getfield 55, 3) := by decide +kernel
theorem dX6_difference_103 : decode cX6_difference 103 = .ok (.iload 5, 2) := by decide +kernel
theorem dX6_difference_105 : decode cX6_difference 105 = .ok (.invokevirtual 276, 3) := by decide +kernel
theorem dX6_difference_108 : decode cX6_difference 108 = .ok (.istore 7, 2) := by decide +kernel
theorem dX6_difference_110 : decode cX6_difference 110 = .ok (.iload_n 2, 1) := by decide +kernel
theorem dX6_difference_111 : decode cX6_difference 111 = .ok (.iload 7, 2) := by decide +kernel
theorem dX6_difference_113 : decode cX6_difference 113 = .ok (.ifCond .eq 7, 3) := by decide +kernel
theorem dX6_difference_116 : decode cX6_difference 116 = .ok (.iconst 1, 1) := by decide +kernel
theorem dX6_difference_117 : decode cX6_difference 117 = .ok (.goto 4, 3) := by decide +kernel
theorem dX6_difference_120 : decode cX6_difference 120 = .ok (.iconst 0, 1) := by decide +kernel
theorem dX6_difference_121 : decode cX6_difference 121 = .ok (.iadd, 1) := by decide +kernel
theorem dX6_difference_122 : decode cX6_difference 122 = .ok (.istore_n 2, 1) := by decide +kernel
theorem dX6_difference_123 : decode cX6_difference 123 = .ok (.iload_n 3, 1) := by decide +kernel
theorem dX6_difference_124 : decode cX6_difference 124 = .ok (.iload 7, 2) := by decide +kernel
theorem dX6_difference_126 : decode cX6_difference 126 = .ok (.ifCond .eq 7, 3) := by decide +kernel
theorem dX6_difference_129 : decode cX6_difference 129 = .ok (.iconst 0, 1) := by decide +kernel
theorem dX6_difference_130 : decode cX6_difference 130 = .ok (.goto 4, 3) := by decide +kernel
theorem dX6_difference_133 : decode cX6_difference 133 = .ok (.iconst 1, 1) := by decide +kernel
theorem dX6_difference_134 : decode cX6_difference 134 = .ok (.iadd, 1) := by decide +kernel
theorem dX6_difference_135 : decode cX6_difference 135 = .ok (.istore_n 3, 1) := by decide +kernel
theorem dX6_difference_136 : decode cX6_difference 136 = .ok (.iinc 4 1, 3) := by decide +kernel
theorem dX6_difference_139 : decode cX6_difference 139 = .ok (.goto (-101), 3) := by decide +kernel
theorem dX6_difference_142 : decode cX6_difference 142 = .ok (.iload_n 1, 1) := by decide +kernel
theorem dX6_difference_143 : decode cX6_difference 143 = .ok (.ifCond .ne 7, 3) := by decide +kernel
theorem dX6_difference_146 : decode cX6_difference 146 = .ok (.iload_n 2, 1) := by decide +kernel
theorem dX6_difference_147 : decode cX6_difference 147 = .ok (.goto 4, 3) := by decide +kernel
theorem dX6_difference_150 : decode cX6_difference 150 = .ok (.iload_n 3, 1) := by decide +kernel
theorem dX6_difference_151 : decode cX6_difference 151 = .ok (.ireturn, 1) := by decide +kernel
theorem dX6_drawDifferences_0 : decode cX6_drawDifferences 0 = .ok (.aload_n 0, 1) := by decide +kernel
theorem dX6_drawDifferences_1 : decode cX6_drawDifferences 1 = .ok (.getfield 55, 3) := by decide +kernel
theorem dX6_drawDifferences_4 : decode cX6_drawDifferences 4 = .ok (.aload_n 0, 1) := by decide +kernel
theorem dX6_drawDifferences_5 : decode cX6_drawDifferences 5 = .ok (.getfield 12, 3) := by decide +kernel
theorem dX6_drawDifferences_8 : decode cX6_drawDifferences 8 = .ok (.getfield 65, 3) := by decide +kernel
theorem dX6_drawDifferences_11 : decode cX6_drawDifferences 11 = .ok (.invokevirtual 69, 3) := by decide +kernel
theorem dX6_drawDifferences_14 : decode cX6_drawDifferences 14 = .ok (.iconst 0, 1) := by decide +kernel
theorem dX6_drawDifferences_15 : decode cX6_drawDifferences 15 = .ok (.istore_n 2, 1) := by decide +kernel
theorem dX6_drawDifferences_16 : decode cX6_drawDifferences 16 = .ok (.iload_n 2, 1) := by decide +kernel
theorem dX6_drawDifferences_17 : decode cX6_drawDifferences 17 = .ok (.aload_n 0, 1) := by decide +kernel
theorem dX6_drawDifferences_18 : decode cX6_drawDifferences 18 = .ok (.getfield 12, 3) := by decide +kernel
theorem dX6_drawDifferences_21 : decode cX6_drawDifferences 21 = .ok (.getfield 65, 3) := by decide +kernel
theorem dX6_drawDifferences_24 : decode cX6_drawDifferences 24 = .ok (.if_icmp .ge 71, 3) := by decide +kernel
theorem dX6_drawDifferences_27 : decode cX6_drawDifferences 27 = .ok (.aload_n 0, 1) := by decide +kernel
theorem dX6_drawDifferences_28 : decode cX6_drawDifferences 28 = .ok (.getfield 19, 3) := by decide +kernel
theorem dX6_drawDifferences_31 : decode cX6_drawDifferences 31 = .ok (.getfield 150, 3) := by decide +kernel
theorem dX6_drawDifferences_34 : decode cX6_drawDifferences 34 = .ok (.iload_n 2, 1) := by decide +kernel
theorem dX6_drawDifferences_35 : decode cX6_drawDifferences 35 = .ok (.iaload, 1) := by decide +kernel
theorem dX6_drawDifferences_36 : decode cX6_drawDifferences 36 = .ok (.istore_n 3, 1) := by decide +kernel
theorem dX6_drawDifferences_37 : decode cX6_drawDifferences 37 = .ok (.aload_n 1, 1) := by decide +kernel
theorem dX6_drawDifferences_38 : decode cX6_drawDifferences 38 = .ok (.getfield 150, 3) := by decide +kernel
theorem dX6_drawDifferences_41 : decode cX6_drawDifferences 41 = .ok (.iload_n 2, 1) := by decide +kernel
theorem dX6_drawDifferences_42 : decode cX6_drawDifferences 42 = .ok (.iaload, 1) := by decide +kernel
theorem dX6_drawDifferences_43 : decode cX6_drawDifferences 43 = .ok (.istore 4, 2) := by decide +kernel
theorem dX6_drawDifferences_45 : decode cX6_drawDifferences 45 = .ok (.iload_n 3, 1) := by decide +kernel
theorem dX6_drawDifferences_46 : decode cX6_drawDifferences 46 = .ok (.iconst (-1), 1) := by decide +kernel
theorem dX6_drawDifferences_47 : decode cX6_drawDifferences 47 = .ok (.if_icmp .eq 19, 3) := by decide +kernel
theorem dX6_drawDifferences_50 : decode cX6_drawDifferences 50 = .ok (.iload_n 3, 1) := by decide +kernel
theorem dX6_drawDifferences_51 : decode cX6_drawDifferences 51 = .ok (.iload 4, 2) := by decide +kernel
theorem dX6_drawDifferences_53 : decode cX6_drawDifferences 53 = .ok (.if_icmp .eq 13, 3) := by decide +kernel
theorem dX6_drawDifferences_56 : decode cX6_drawDifferences 56 = .ok (.aload_n 0, 1) := by decide +kernel
theorem dX6_drawDifferences_57 : decode cX6_drawDifferences 57 = .ok (.getfield 55, 3) := by decide +kernel
theorem dX6_drawDifferences_60 : decode cX6_drawDifferences 60 = .ok (.iload_n 2, 1) := by decide +kernel
theorem dX6_drawDifferences_61 : decode cX6_drawDifferences 61 = .ok (.iload_n 3, 1) := by decide +kernel
theorem dX6_drawDifferences_62 : decode cX6_drawDifferences 62 = .ok (.iconst 1, 1) := by decide +kernel
theorem dX6_drawDifferences_63 : decode cX6_drawDifferences 63 = .ok (.invokevirtual 90, 3) := by decide +kernel
theorem dX6_drawDifferences_66 : decode cX6_drawDifferences 66 = .ok (.iload 4, 2) := by decide +kernel
theorem dX6_drawDifferences_68 : decode cX6_drawDifferences 68 = .ok (.iconst (-1), 1) := by decide +kernel
theorem dX6_drawDifferences_69 : decode cX6_drawDifferences 69 = .ok (.if_icmp .eq 20, 3) := by decide +kernel
theorem dX6_drawDifferences_72 : decode cX6_drawDifferences 72 = .ok (.iload_n 3, 1) := by decide +kernel
theorem dX6_drawDifferences_73 : decode cX6_drawDifferences 73 = .ok (.iload 4, 2) := by decide +kernel
theorem dX6_drawDifferences_75 : decode cX6_drawDifferences 75 = .ok (.if_icmp .eq 14, 3) := by decide +kernel
theorem dX6_drawDifferences_78 : decode cX6_drawDifferences 78 = .ok (.aload_n 0, 1) := by decide +kernel
theorem dX6_drawDifferences_79 : decode cX6_drawDifferences 79 = .ok (.getfield 55, 3) := by decide +kernel
theorem dX6_drawDifferences_82 : decode cX6_drawDifferences 82 = .ok (.iload_n 2, 1) := by decide +kernel
theorem dX6_drawDifferences_83 : decode cX6_drawDifferences 83 = .ok (.iload 4, 2) := by decide +kernel
theorem dX6_drawDifferences_85 : decode cX6_drawDifferences 85 = .ok (.iconst 1, 1) := by decide +kernel
theorem dX6_drawDifferences_86 : decode cX6_drawDifferences 86 = .ok (.invokevirtual 90, 3) := by decide +kernel
theorem dX6_drawDifferences_89 : decode cX6_drawDifferences 89 = .ok (.iinc 2 1, 3) := by decide +kernel
theorem dX6_drawDifferences_92 : decode cX6_drawDifferences 92 = .ok (.goto (-76), 3) := by decide +kernel
theorem dX6_drawDifferences_95 : decode cX6_drawDifferences 95 = .ok (.return_, 1) := by decide +kernel
theorem dX6_meanUse_0 : decode cX6_meanUse 0 = .ok (.aload_n 0, 1) := by decide +kernel
theorem dX6_meanUse_1 : decode cX6_meanUse 1 = .ok (.getfield 12, 3) := by decide +kernel
theorem dX6_meanUse_4 : decode cX6_meanUse 4 = .ok (.invokevirtual 259, 3) := by decide +kernel
theorem dX6_meanUse_7 : decode cX6_meanUse 7 = .ok (.aload_n 0, 1) := by decide +kernel
theorem dX6_meanUse_8 : decode cX6_meanUse 8 = .ok (.getfield 51, 3) := by decide +kernel
theorem dX6_meanUse_11 : decode cX6_meanUse 11 = .ok (.invokevirtual 229, 3) := by decide +kernel
theorem dX6_meanUse_14 : decode cX6_meanUse 14 = .ok (.imul, 1) := by decide +kernel
theorem dX6_meanUse_15 : decode cX6_meanUse 15 = .ok (.istore_n 1, 1) := by decide +kernel
theorem dX6_meanUse_16 : decode cX6_meanUse 16 = .ok (.iload_n 1, 1) := by decide +kernel
theorem dX6_meanUse_17 : decode cX6_meanUse 17 = .ok (.ifCond .ne 5, 3) := by decide +kernel
theorem dX6_meanUse_20 : decode cX6_meanUse 20 = .ok (.dconst 0, 1) := by decide +kernel
theorem dX6_meanUse_21 : decode cX6_meanUse 21 = .ok (.dreturn, 1) := by decide +kernel
theorem dX6_meanUse_22 : decode cX6_meanUse 22 = .ok (.iconst 0, 1) := by decide +kernel
theorem dX6_meanUse_23 : decode cX6_meanUse 23 = .ok (.istore_n 2, 1) := by decide +kernel
theorem dX6_meanUse_24 : decode cX6_meanUse 24 = .ok (.iconst 0, 1) := by decide +kernel
theorem dX6_meanUse_25 : decode cX6_meanUse 25 = .ok (.istore_n 3, 1) := by decide +kernel
theorem dX6_meanUse_26 : decode cX6_meanUse 26 = .ok (.iload_n 3, 1) := by decide +kernel
theorem dX6_meanUse_27 : decode cX6_meanUse 27 = .ok (.aload_n 0, 1) := by decide +kernel
theorem dX6_meanUse_28 : decode cX6_meanUse 28 = .ok (.getfield 12, 3) := by decide +kernel
theorem dX6_meanUse_31 : decode cX6_meanUse 31 = .ok (.getfield 65, 3) := by decide +kernel
theorem dX6_meanUse_34 : decode cX6_meanUse 34 = .ok (.if_icmp .ge 45, 3) := by decide +kernel
theorem dX6_meanUse_37 : decode cX6_meanUse 37 = .ok (.iload_n 3, 1) := by decide +kernel
theorem dX6_meanUse_38 : decode cX6_meanUse 38 = .ok (.iconst 1, 1) := by decide +kernel
theorem dX6_meanUse_39 : decode cX6_meanUse 39 = .ok (.iadd, 1) := by decide +kernel
theorem dX6_meanUse_40 : decode cX6_meanUse 40 = .ok (.istore 4, 2) := by decide +kernel
theorem dX6_meanUse_42 : decode cX6_meanUse 42 = .ok (.iload 4, 2) := by decide +kernel
theorem dX6_meanUse_44 : decode cX6_meanUse 44 = .ok (.aload_n 0, 1) := by decide +kernel
theorem dX6_meanUse_45 : decode cX6_meanUse 45 = .ok (.getfield 12, 3) := by decide +kernel
theorem dX6_meanUse_48 : decode cX6_meanUse 48 = .ok (.getfield 65, 3) := by decide +kernel
theorem dX6_meanUse_51 : decode cX6_meanUse 51 = .ok (.if_icmp .ge 22, 3) := by decide +kernel
theorem dX6_meanUse_54 : decode cX6_meanUse 54 = .ok (.iload_n 2, 1) := by decide +kernel
theorem dX6_meanUse_55 : decode cX6_meanUse 55 = .ok (.aload_n 0, 1) := by decide +kernel
theorem dX6_meanUse_56 : decode cX6_meanUse 56 = .ok (.getfield 51, 3) := by decide +kernel
theorem dX6_meanUse_59 : decode cX6_meanUse 59 = .ok (.iload_n 3, 1) := by decide +kernel
theorem dX6_meanUse_60 : decode cX6_meanUse 60 = .ok (.iload 4, 2) := by decide +kernel
theorem dX6_meanUse_62 : decode cX6_meanUse 62 = .ok (.invokevirtual 225, 3) := by decide +kernel
theorem dX6_meanUse_65 : decode cX6_meanUse 65 = .ok (.iadd, 1) := by decide +kernel
theorem dX6_meanUse_66 : decode cX6_meanUse 66 = .ok (.istore_n 2, 1) := by decide +kernel
theorem dX6_meanUse_67 : decode cX6_meanUse 67 = .ok (.iinc 4 1, 3) := by decide +kernel
theorem dX6_meanUse_70 : decode cX6_meanUse 70 = .ok (.goto (-28), 3) := by decide +kernel
theorem dX6_meanUse_73 : decode cX6_meanUse 73 = .ok (.iinc 3 1, 3) := by decide +kernel
theorem dX6_meanUse_76 : decode cX6_meanUse 76 = .ok (.goto (-50), 3) := by decide +kernel
theorem dX6_meanUse_79 : decode cX6_meanUse 79 = .ok (.iload_n 2, 1) := by decide +kernel
theorem dX6_meanUse_80 : decode cX6_meanUse 80 = .ok (.i2d, 1) := by decide +kernel
theorem dX6_meanUse_81 : decode cX6_meanUse 81 = .ok (.iload_n 1, 1) := by decide +kernel
theorem dX6_meanUse_82 : decode cX6_meanUse 82 = .ok (.i2d, 1) := by decide +kernel
theorem dX6_meanUse_83 : decode cX6_meanUse 83 = .ok (.ddiv, 1) := by decide +kernel
theorem dX6_meanUse_84 : decode cX6_meanUse 84 = .ok (.dreturn, 1) := by decide +kernel
theorem dX6_digest_0 : decode cX6_digest 0 = .ok (.ldc2_w 279, 3) := by decide +kernel
theorem dX6_digest_3 : decode cX6_digest 3 = .ok (.lstore_n 1, 1) := by decide +kernel
theorem dX6_digest_4 : decode cX6_digest 4 = .ok (.iconst 0, 1) := by decide +kernel
theorem dX6_digest_5 : decode cX6_digest 5 = .ok (.istore_n 3, 1) := by decide +kernel
theorem dX6_digest_6 : decode cX6_digest 6 = .ok (.iload_n 3, 1) := by decide +kernel
theorem dX6_digest_7 : decode cX6_digest 7 = .ok (.bipush 10, 2) := by decide +kernel
theorem dX6_digest_9 : decode cX6_digest 9 = .ok (.if_icmp .gt 20, 3) := by decide +kernel
theorem dX6_digest_12 : decode cX6_digest 12 = .ok (.lload_n 1, 1) := by decide +kernel
theorem dX6_digest_13 : decode cX6_digest 13 = .ok (.aload_n 0, 1) := by decide +kernel
theorem dX6_digest_14 : decode cX6_digest 14 = .ok (.iload_n 3, 1) := by decide +kernel
theorem dX6_digest_15 : decode cX6_digest 15 = .ok (.invokevirtual 281, 3) := by decide +kernel
theorem dX6_digest_18 : decode cX6_digest 18 = .ok (.i2l, 1) := by decide +kernel
theorem dX6_digest_19 : decode cX6_digest 19 = .ok (.invokestatic 284, 3) := by decide +kernel
theorem dX6_digest_22 : decode cX6_digest 22 = .ok (.lstore_n 1, 1) := by decide +kernel
theorem dX6_digest_23 : decode cX6_digest 23 = .ok (.iinc 3 1, 3) := by decide +kernel
theorem dX6_digest_26 : decode cX6_digest 26 = .ok (.goto (-20), 3) := by decide +kernel
theorem dX6_digest_29 : decode cX6_digest 29 = .ok (.iconst 0, 1) := by decide +kernel
theorem dX6_digest_30 : decode cX6_digest 30 = .ok (.istore_n 3, 1) := by decide +kernel
theorem dX6_digest_31 : decode cX6_digest 31 = .ok (.iload_n 3, 1) := by decide +kernel
theorem dX6_digest_32 : decode cX6_digest 32 = .ok (.aload_n 0, 1) := by decide +kernel
theorem dX6_digest_33 : decode cX6_digest 33 = .ok (.getfield 12, 3) := by decide +kernel
theorem dX6_digest_36 : decode cX6_digest 36 = .ok (.getfield 65, 3) := by decide +kernel
theorem dX6_digest_39 : decode cX6_digest 39 = .ok (.if_icmp .ge 16, 3) := by decide +kernel
theorem dX6_digest_42 : decode cX6_digest 42 = .ok (.aload_n 0, 1) := by decide +kernel
theorem dX6_digest_43 : decode cX6_digest 43 = .ok (.lload_n 1, 1) := by decide +kernel
theorem dX6_digest_44 : decode cX6_digest 44 = .ok (.iload_n 3, 1) := by decide +kernel
theorem dX6_digest_45 : decode cX6_digest 45 = .ok (.invokevirtual 288, 3) := by decide +kernel
theorem dX6_digest_48 : decode cX6_digest 48 = .ok (.lstore_n 1, 1) := by decide +kernel
theorem dX6_digest_49 : decode cX6_digest 49 = .ok (.iinc 3 1, 3) := by decide +kernel
theorem dX6_digest_52 : decode cX6_digest 52 = .ok (.goto (-21), 3) := by decide +kernel
theorem dX6_digest_55 : decode cX6_digest 55 = .ok (.iconst 0, 1) := by decide +kernel
theorem dX6_digest_56 : decode cX6_digest 56 = .ok (.istore_n 3, 1) := by decide +kernel
theorem dX6_digest_57 : decode cX6_digest 57 = .ok (.iload_n 3, 1) := by decide +kernel
theorem dX6_digest_58 : decode cX6_digest 58 = .ok (.aload_n 0, 1) := by decide +kernel
theorem dX6_digest_59 : decode cX6_digest 59 = .ok (.getfield 12, 3) := by decide +kernel
theorem dX6_digest_62 : decode cX6_digest 62 = .ok (.getfield 65, 3) := by decide +kernel
theorem dX6_digest_65 : decode cX6_digest 65 = .ok (.if_icmp .ge 41, 3) := by decide +kernel
theorem dX6_digest_68 : decode cX6_digest 68 = .ok (.iload_n 3, 1) := by decide +kernel
theorem dX6_digest_69 : decode cX6_digest 69 = .ok (.iconst 1, 1) := by decide +kernel
theorem dX6_digest_70 : decode cX6_digest 70 = .ok (.iadd, 1) := by decide +kernel
theorem dX6_digest_71 : decode cX6_digest 71 = .ok (.istore 4, 2) := by decide +kernel
theorem dX6_digest_73 : decode cX6_digest 73 = .ok (.iload 4, 2) := by decide +kernel
theorem dX6_digest_75 : decode cX6_digest 75 = .ok (.aload_n 0, 1) := by decide +kernel
theorem dX6_digest_76 : decode cX6_digest 76 = .ok (.getfield 12, 3) := by decide +kernel
theorem dX6_digest_79 : decode cX6_digest 79 = .ok (.getfield 65, 3) := by decide +kernel
theorem dX6_digest_82 : decode cX6_digest 82 = .ok (.if_icmp .ge 18, 3) := by decide +kernel
theorem dX6_digest_85 : decode cX6_digest 85 = .ok (.aload_n 0, 1) := by decide +kernel
theorem dX6_digest_86 : decode cX6_digest 86 = .ok (.lload_n 1, 1) := by decide +kernel
theorem dX6_digest_87 : decode cX6_digest 87 = .ok (.iload_n 3, 1) := by decide +kernel
theorem dX6_digest_88 : decode cX6_digest 88 = .ok (.iload 4, 2) := by decide +kernel
theorem dX6_digest_90 : decode cX6_digest 90 = .ok (.invokevirtual 292, 3) := by decide +kernel
theorem dX6_digest_93 : decode cX6_digest 93 = .ok (.lstore_n 1, 1) := by decide +kernel
theorem dX6_digest_94 : decode cX6_digest 94 = .ok (.iinc 4 1, 3) := by decide +kernel
theorem dX6_digest_97 : decode cX6_digest 97 = .ok (.goto (-24), 3) := by decide +kernel
theorem dX6_digest_100 : decode cX6_digest 100 = .ok (.iinc 3 1, 3) := by decide +kernel
theorem dX6_digest_103 : decode cX6_digest 103 = .ok (.goto (-46), 3) := by decide +kernel
theorem dX6_digest_106 : decode cX6_digest 106 = .ok (.lload_n 1, 1) := by decide +kernel
theorem dX6_digest_107 : decode cX6_digest 107 = .ok (.aload_n 0, 1) := by decide +kernel
theorem dX6_digest_108 : decode cX6_digest 108 = .ok (.invokevirtual 296, 3) := by decide +kernel
theorem dX6_digest_111 : decode cX6_digest 111 = .ok (.i2l, 1) := by decide +kernel
theorem dX6_digest_112 : decode cX6_digest 112 = .ok (.invokestatic 284, 3) := by decide +kernel
theorem dX6_digest_115 : decode cX6_digest 115 = .ok (.lstore_n 1, 1) := by decide +kernel
theorem dX6_digest_116 : decode cX6_digest 116 = .ok (.lload_n 1, 1) := by decide +kernel
theorem dX6_digest_117 : decode cX6_digest 117 = .ok (.aload_n 0, 1) := by decide +kernel
theorem dX6_digest_118 : decode cX6_digest 118 = .ok (.invokevirtual 299, 3) := by decide +kernel
theorem dX6_digest_121 : decode cX6_digest 121 = .ok (.i2l, 1) := by decide +kernel
theorem dX6_digest_122 : decode cX6_digest 122 = .ok (.invokestatic 284, 3) := by decide +kernel
theorem dX6_digest_125 : decode cX6_digest 125 = .ok (.lstore_n 1, 1) := by decide +kernel
theorem dX6_digest_126 : decode cX6_digest 126 = .ok (.lload_n 1, 1) := by decide +kernel
theorem dX6_digest_127 : decode cX6_digest 127 = .ok (.aload_n 0, 1) := by decide +kernel
theorem dX6_digest_128 : decode cX6_digest 128 = .ok (.iconst 0, 1) := by decide +kernel
theorem dX6_digest_129 : decode cX6_digest 129 = .ok (.invokevirtual 302, 3) := by decide +kernel
theorem dX6_digest_132 : decode cX6_digest 132 = .ok (.i2l, 1) := by decide +kernel
theorem dX6_digest_133 : decode cX6_digest 133 = .ok (.invokestatic 284, 3) := by decide +kernel
theorem dX6_digest_136 : decode cX6_digest 136 = .ok (.lstore_n 1, 1) := by decide +kernel
theorem dX6_digest_137 : decode cX6_digest 137 = .ok (.lload_n 1, 1) := by decide +kernel
theorem dX6_digest_138 : decode cX6_digest 138 = .ok (.aload_n 0, 1) := by decide +kernel
theorem dX6_digest_139 : decode cX6_digest 139 = .ok (.iconst 1, 1) := by decide +kernel
theorem dX6_digest_140 : decode cX6_digest 140 = .ok (.invokevirtual 302, 3) := by decide +kernel
theorem dX6_digest_143 : decode cX6_digest 143 = .ok (.i2l, 1) := by decide +kernel
theorem dX6_digest_144 : decode cX6_digest 144 = .ok (.invokestatic 284, 3) := by decide +kernel
theorem dX6_digest_147 : decode cX6_digest 147 = .ok (.lstore_n 1, 1) := by decide +kernel
theorem dX6_digest_148 : decode cX6_digest 148 = .ok (.aload_n 0, 1) := by decide +kernel
theorem dX6_digest_149 : decode cX6_digest 149 = .ok (.lload_n 1, 1) := by decide +kernel
theorem dX6_digest_150 : decode cX6_digest 150 = .ok (.invokevirtual 305, 3) := by decide +kernel
theorem dX6_digest_153 : decode cX6_digest 153 = .ok (.lreturn, 1) := by decide +kernel
theorem dX6_mixNode_0 : decode cX6_mixNode 0 = .ok (.lload_n 1, 1) := by decide +kernel
theorem dX6_mixNode_1 : decode cX6_mixNode 1 = .ok (.lstore 4, 2) := by decide +kernel
theorem dX6_mixNode_3 : decode cX6_mixNode 3 = .ok (.iconst 0, 1) := by decide +kernel
theorem dX6_mixNode_4 : decode cX6_mixNode 4 = .ok (.istore 6, 2) := by decide +kernel
theorem dX6_mixNode_6 : decode cX6_mixNode 6 = .ok (.iload 6, 2) := by decide +kernel
theorem dX6_mixNode_8 : decode cX6_mixNode 8 = .ok (.iconst 4, 1) := by decide +kernel
theorem dX6_mixNode_9 : decode cX6_mixNode 9 = .ok (.if_icmp .gt 24, 3) := by decide +kernel
theorem dX6_mixNode_12 : decode cX6_mixNode 12 = .ok (.lload 4, 2) := by decide +kernel
theorem dX6_mixNode_14 : decode cX6_mixNode 14 = .ok (.aload_n 0, 1) := by decide +kernel
theorem dX6_mixNode_15 : decode cX6_mixNode 15 = .ok (.iload_n 3, 1) := by decide +kernel
theorem dX6_mixNode_16 : decode cX6_mixNode 16 = .ok (.iload 6, 2) := by decide +kernel
theorem dX6_mixNode_18 : decode cX6_mixNode 18 = .ok (.invokevirtual 309, 3) := by decide +kernel
theorem dX6_mixNode_21 : decode cX6_mixNode 21 = .ok (.i2l, 1) := by decide +kernel
theorem dX6_mixNode_22 : decode cX6_mixNode 22 = .ok (.invokestatic 284, 3) := by decide +kernel
theorem dX6_mixNode_25 : decode cX6_mixNode 25 = .ok (.lstore 4, 2) := by decide +kernel
theorem dX6_mixNode_27 : decode cX6_mixNode 27 = .ok (.iinc 6 1, 3) := by decide +kernel
theorem dX6_mixNode_30 : decode cX6_mixNode 30 = .ok (.goto (-24), 3) := by decide +kernel
theorem dX6_mixNode_33 : decode cX6_mixNode 33 = .ok (.lload 4, 2) := by decide +kernel
theorem dX6_mixNode_35 : decode cX6_mixNode 35 = .ok (.aload_n 0, 1) := by decide +kernel
theorem dX6_mixNode_36 : decode cX6_mixNode 36 = .ok (.iload_n 3, 1) := by decide +kernel
theorem dX6_mixNode_37 : decode cX6_mixNode 37 = .ok (.invokevirtual 312, 3) := by decide +kernel
theorem dX6_mixNode_40 : decode cX6_mixNode 40 = .ok (.i2l, 1) := by decide +kernel
theorem dX6_mixNode_41 : decode cX6_mixNode 41 = .ok (.invokestatic 284, 3) := by decide +kernel
theorem dX6_mixNode_44 : decode cX6_mixNode 44 = .ok (.lstore 4, 2) := by decide +kernel
theorem dX6_mixNode_46 : decode cX6_mixNode 46 = .ok (.lload 4, 2) := by decide +kernel
theorem dX6_mixNode_48 : decode cX6_mixNode 48 = .ok (.aload_n 0, 1) := by decide +kernel
theorem dX6_mixNode_49 : decode cX6_mixNode 49 = .ok (.iload_n 3, 1) := by decide +kernel
theorem dX6_mixNode_50 : decode cX6_mixNode 50 = .ok (.iconst 1, 1) := by decide +kernel
theorem dX6_mixNode_51 : decode cX6_mixNode 51 = .ok (.invokevirtual 315, 3) := by decide +kernel
theorem dX6_mixNode_54 : decode cX6_mixNode 54 = .ok (.i2l, 1) := by decide +kernel
theorem dX6_mixNode_55 : decode cX6_mixNode 55 = .ok (.invokestatic 284, 3) := by decide +kernel
theorem dX6_mixNode_58 : decode cX6_mixNode 58 = .ok (.lstore 4, 2) := by decide +kernel
theorem dX6_mixNode_60 : decode cX6_mixNode 60 = .ok (.lload 4, 2) := by decide +kernel
theorem dX6_mixNode_62 : decode cX6_mixNode 62 = .ok (.aload_n 0, 1) := by decide +kernel
theorem dX6_mixNode_63 : decode cX6_mixNode 63 = .ok (.iload_n 3, 1) := by decide +kernel
theorem dX6_mixNode_64 : decode cX6_mixNode 64 = .ok (.iconst 0, 1) := by decide +kernel
theorem dX6_mixNode_65 : decode cX6_mixNode 65 = .ok (.invokevirtual 315, 3) := by decide +kernel
theorem dX6_mixNode_68 : decode cX6_mixNode 68 = .ok (.i2l, 1) := by decide +kernel
theorem dX6_mixNode_69 : decode cX6_mixNode 69 = .ok (.invokestatic 284, 3) := by decide +kernel
theorem dX6_mixNode_72 : decode cX6_mixNode 72 = .ok (.lstore 4, 2) := by decide +kernel
theorem dX6_mixNode_74 : decode cX6_mixNode 74 = .ok (.aload_n 0, 1) := by decide +kernel
theorem dX6_mixNode_75 : decode cX6_mixNode 75 = .ok (.getfield 19, 3) := by decide +kernel
theorem dX6_mixNode_78 : decode cX6_mixNode 78 = .ok (.iload_n 3, 1) := by decide +kernel
theorem dX6_mixNode_79 : decode cX6_mixNode 79 = .ok (.invokevirtual 133, 3) := by decide +kernel
theorem dX6_mixNode_82 : decode cX6_mixNode 82 = .ok (.ifCond .eq 17, 3) := by decide +kernel
theorem dX6_mixNode_85 : decode cX6_mixNode 85 = .ok (.lload 4, 2) := by decide +kernel
theorem dX6_mixNode_87 : decode cX6_mixNode 87 = .ok (.aload_n 0, 1) := by decide +kernel
theorem dX6_mixNode_88 : decode cX6_mixNode 88 = .ok (.iload_n 3, 1) := by decide +kernel
theorem dX6_mixNode_89 : decode cX6_mixNode 89 = .ok (.invokevirtual 318, 3) := by decide +kernel
theorem dX6_mixNode_92 : decode cX6_mixNode 92 = .ok (.i2l, 1) := by decide +kernel
theorem dX6_mixNode_93 : decode cX6_mixNode 93 = .ok (.invokestatic 284, 3) := by decide +kernel
theorem dX6_mixNode_96 : decode cX6_mixNode 96 = .ok (.goto 5, 3) := by decide +kernel
theorem dX6_mixNode_99 : decode cX6_mixNode 99 = .ok (.lload 4, 2) := by decide +kernel
theorem dX6_mixNode_101 : decode cX6_mixNode 101 = .ok (.lreturn, 1) := by decide +kernel
theorem dX6_mixPair_0 : decode cX6_mixPair 0 = .ok (.lload_n 1, 1) := by decide +kernel
theorem dX6_mixPair_1 : decode cX6_mixPair 1 = .ok (.lstore 5, 2) := by decide +kernel
theorem dX6_mixPair_3 : decode cX6_mixPair 3 = .ok (.iconst 0, 1) := by decide +kernel
theorem dX6_mixPair_4 : decode cX6_mixPair 4 = .ok (.istore 7, 2) := by decide +kernel
theorem dX6_mixPair_6 : decode cX6_mixPair 6 = .ok (.iload 7, 2) := by decide +kernel
theorem dX6_mixPair_8 : decode cX6_mixPair 8 = .ok (.iconst 2, 1) := by decide +kernel
theorem dX6_mixPair_9 : decode cX6_mixPair 9 = .ok (.if_icmp .gt 26, 3) := by decide +kernel
theorem dX6_mixPair_12 : decode cX6_mixPair 12 = .ok (.lload 5, 2) := by decide +kernel
theorem dX6_mixPair_14 : decode cX6_mixPair 14 = .ok (.aload_n 0, 1) := by decide +kernel
theorem dX6_mixPair_15 : decode cX6_mixPair 15 = .ok (.iload_n 3, 1) := by decide +kernel
theorem dX6_mixPair_16 : decode cX6_mixPair 16 = .ok (.iload 4, 2) := by decide +kernel
theorem dX6_mixPair_18 : decode cX6_mixPair 18 = .ok (.iload 7, 2) := by decide +kernel
theorem dX6_mixPair_20 : decode cX6_mixPair 20 = .ok (.invokevirtual 321, 3) := by decide +kernel
theorem dX6_mixPair_23 : decode cX6_mixPair 23 = .ok (.i2l, 1) := by decide +kernel
theorem dX6_mixPair_24 : decode cX6_mixPair 24 = .ok (.invokestatic 284, 3) := by decide +kernel
theorem dX6_mixPair_27 : decode cX6_mixPair 27 = .ok (.lstore 5, 2) := by decide +kernel
theorem dX6_mixPair_29 : decode cX6_mixPair 29 = .ok (.iinc 7 1, 3) := by decide +kernel
theorem dX6_mixPair_32 : decode cX6_mixPair 32 = .ok (.goto (-26), 3) := by decide +kernel
theorem dX6_mixPair_35 : decode cX6_mixPair 35 = .ok (.lload 5, 2) := by decide +kernel
theorem dX6_mixPair_37 : decode cX6_mixPair 37 = .ok (.lreturn, 1) := by decide +kernel
theorem dX6_mixInput_0 : decode cX6_mixInput 0 = .ok (.lload_n 1, 1) := by decide +kernel
theorem dX6_mixInput_1 : decode cX6_mixInput 1 = .ok (.aload_n 0, 1) := by decide +kernel
theorem dX6_mixInput_2 : decode cX6_mixInput 2 = .ok (.getfield 26, 3) := by decide +kernel
theorem dX6_mixInput_5 : decode cX6_mixInput 5 = .ok (.getfield 102, 3) := by decide +kernel
theorem dX6_mixInput_8 : decode cX6_mixInput 8 = .ok (.i2l, 1) := by decide +kernel
theorem dX6_mixInput_9 : decode cX6_mixInput 9 = .ok (.invokestatic 284, 3) := by decide +kernel
theorem dX6_mixInput_12 : decode cX6_mixInput 12 = .ok (.lstore_n 3, 1) := by decide +kernel
theorem dX6_mixInput_13 : decode cX6_mixInput 13 = .ok (.iconst 0, 1) := by decide +kernel
theorem dX6_mixInput_14 : decode cX6_mixInput 14 = .ok (.istore 5, 2) := by decide +kernel
theorem dX6_mixInput_16 : decode cX6_mixInput 16 = .ok (.iload 5, 2) := by decide +kernel
theorem dX6_mixInput_18 : decode cX6_mixInput 18 = .ok (.aload_n 0, 1) := by decide +kernel
theorem dX6_mixInput_19 : decode cX6_mixInput 19 = .ok (.getfield 26, 3) := by decide +kernel
theorem dX6_mixInput_22 : decode cX6_mixInput 22 = .ok (.getfield 102, 3) := by decide +kernel
theorem dX6_mixInput_25 : decode cX6_mixInput 25 = .ok (.if_icmp .ge 25, 3) := by decide +kernel
theorem dX6_mixInput_28 : decode cX6_mixInput 28 = .ok (.lload_n 3, 1) := by decide +kernel
theorem dX6_mixInput_29 : decode cX6_mixInput 29 = .ok (.aload_n 0, 1) := by decide +kernel
theorem dX6_mixInput_30 : decode cX6_mixInput 30 = .ok (.getfield 26, 3) := by decide +kernel
theorem dX6_mixInput_33 : decode cX6_mixInput 33 = .ok (.getfield 325, 3) := by decide +kernel
theorem dX6_mixInput_36 : decode cX6_mixInput 36 = .ok (.iload 5, 2) := by decide +kernel
theorem dX6_mixInput_38 : decode cX6_mixInput 38 = .ok (.iaload, 1) := by decide +kernel
theorem dX6_mixInput_39 : decode cX6_mixInput 39 = .ok (.i2l, 1) := by decide +kernel
theorem dX6_mixInput_40 : decode cX6_mixInput 40 = .ok (.invokestatic 284, 3) := by decide +kernel
theorem dX6_mixInput_43 : decode cX6_mixInput 43 = .ok (.lstore_n 3, 1) := by decide +kernel
theorem dX6_mixInput_44 : decode cX6_mixInput 44 = .ok (.iinc 5 1, 3) := by decide +kernel
theorem dX6_mixInput_47 : decode cX6_mixInput 47 = .ok (.goto (-31), 3) := by decide +kernel
theorem dX6_mixInput_50 : decode cX6_mixInput 50 = .ok (.lload_n 3, 1) := by decide +kernel
theorem dX6_mixInput_51 : decode cX6_mixInput 51 = .ok (.lreturn, 1) := by decide +kernel
theorem dX6_mix_0 : decode cX6_mix 0 = .ok (.ldc2_w 328, 3) := by decide +kernel
theorem dX6_mix_3 : decode cX6_mix 3 = .ok (.lload_n 0, 1) := by decide +kernel
theorem dX6_mix_4 : decode cX6_mix 4 = .ok (.lmul, 1) := by decide +kernel
theorem dX6_mix_5 : decode cX6_mix 5 = .ok (.lload_n 2, 1) := by decide +kernel
theorem dX6_mix_6 : decode cX6_mix 6 = .ok (.ladd, 1) := by decide +kernel
theorem dX6_mix_7 : decode cX6_mix 7 = .ok (.lreturn, 1) := by decide +kernel
theorem dX6_requireNode_0 : decode cX6_requireNode 0 = .ok (.iload_n 1, 1) := by decide +kernel
theorem dX6_requireNode_1 : decode cX6_requireNode 1 = .ok (.ifCond .lt 14, 3) := by decide +kernel
theorem dX6_requireNode_4 : decode cX6_requireNode 4 = .ok (.iload_n 1, 1) := by decide +kernel
theorem dX6_requireNode_5 : decode cX6_requireNode 5 = .ok (.aload_n 0, 1) := by decide +kernel
theorem dX6_requireNode_6 : decode cX6_requireNode 6 = .ok (.getfield 12, 3) := by decide +kernel
theorem dX6_requireNode_9 : decode cX6_requireNode 9 = .ok (.getfield 65, 3) := by decide +kernel
theorem dX6_requireNode_12 : decode cX6_requireNode 12 = .ok (.if_icmp .lt 14, 3) := by decide +kernel
theorem dX6_requireNode_15 : decode cX6_requireNode 15 = .ok (.new 330, 3) := by decide +kernel
theorem dX6_requireNode_18 : decode cX6_requireNode 18 = .ok (.dup, 1) := by decide +kernel
theorem dX6_requireNode_19 : decode cX6_requireNode 19 = .ok (.ldc_w 332, 3) := by decide +kernel
theorem dX6_requireNode_22 : decode cX6_requireNode 22 = .ok (.invokespecial 334, 3) := by decide +kernel
theorem dX6_requireNode_25 : decode cX6_requireNode 25 = .ok (.athrow, 1) := by decide +kernel
theorem dX6_requireNode_26 : decode cX6_requireNode 26 = .ok (.return_, 1) := by decide +kernel
theorem dX6_requireDifferent_0 : decode cX6_requireDifferent 0 = .ok (.iload_n 0, 1) := by decide +kernel
theorem dX6_requireDifferent_1 : decode cX6_requireDifferent 1 = .ok (.iload_n 1, 1) := by decide +kernel
theorem dX6_requireDifferent_2 : decode cX6_requireDifferent 2 = .ok (.if_icmp .ne 14, 3) := by decide +kernel
theorem dX6_requireDifferent_5 : decode cX6_requireDifferent 5 = .ok (.new 58, 3) := by decide +kernel
theorem dX6_requireDifferent_8 : decode cX6_requireDifferent 8 = .ok (.dup, 1) := by decide +kernel
theorem dX6_requireDifferent_9 : decode cX6_requireDifferent 9 = .ok (.ldc_w 335, 3) := by decide +kernel
theorem dX6_requireDifferent_12 : decode cX6_requireDifferent 12 = .ok (.invokespecial 62, 3) := by decide +kernel
theorem dX6_requireDifferent_15 : decode cX6_requireDifferent 15 = .ok (.athrow, 1) := by decide +kernel
theorem dX6_requireDifferent_16 : decode cX6_requireDifferent 16 = .ok (.return_, 1) := by decide +kernel
theorem dX6_requireExposed_0 : decode cX6_requireExposed 0 = .ok (.aload_n 0, 1) := by decide +kernel
theorem dX6_requireExposed_1 : decode cX6_requireExposed 1 = .ok (.getfield 19, 3) := by decide +kernel
theorem dX6_requireExposed_4 : decode cX6_requireExposed 4 = .ok (.iload_n 1, 1) := by decide +kernel
theorem dX6_requireExposed_5 : decode cX6_requireExposed 5 = .ok (.invokevirtual 133, 3) := by decide +kernel
theorem dX6_requireExposed_8 : decode cX6_requireExposed 8 = .ok (.ifCond .ne 14, 3) := by decide +kernel
theorem dX6_requireExposed_11 : decode cX6_requireExposed 11 = .ok (.new 105, 3) := by decide +kernel
theorem dX6_requireExposed_14 : decode cX6_requireExposed 14 = .ok (.dup, 1) := by decide +kernel
theorem dX6_requireExposed_15 : decode cX6_requireExposed 15 = .ok (.ldc_w 337, 3) := by decide +kernel
theorem dX6_requireExposed_18 : decode cX6_requireExposed 18 = .ok (.invokespecial 109, 3) := by decide +kernel
theorem dX6_requireExposed_21 : decode cX6_requireExposed 21 = .ok (.athrow, 1) := by decide +kernel
theorem dX6_requireExposed_22 : decode cX6_requireExposed 22 = .ok (.return_, 1) := by decide +kernel
