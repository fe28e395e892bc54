theorem dX0_init_0 : decode cX0_init 0 = .ok (.aload_n 0, 1) := by decide +kernel
theorem dX0_init_1 : decode cX0_init 1 = .ok (.invokespecial 3, 3) := by decide +kernel
theorem dX0_init_4 : decode cX0_init 4 = .ok (.aload_n 0, 1) := by decide +kernel
theorem dX0_init_5 : decode cX0_init 5 = .ok (.bipush 6, 2) := by decide +kernel
theorem dX0_init_7 : decode cX0_init 7 = .ok (.putfield 9, 3) := by decide +kernel
theorem dX0_init_10 : decode cX0_init 10 = .ok (.aload_n 0, 1) := by decide +kernel
theorem dX0_init_11 : decode cX0_init 11 = .ok (.bipush 12, 2) := by decide +kernel
theorem dX0_init_13 : decode cX0_init 13 = .ok (.newarray .int, 2) := by decide +kernel
theorem dX0_init_15 : decode cX0_init 15 = .ok (.putfield 15, 3) := by decide +kernel
theorem dX0_init_18 : decode cX0_init 18 = .ok (.aload_n 0, 1) := by decide +kernel
theorem dX0_init_19 : decode cX0_init 19 = .ok (.iconst 0, 1) := by decide +kernel
theorem dX0_init_20 : decode cX0_init 20 = .ok (.putfield 19, 3) := by decide +kernel
theorem dX0_init_23 : decode cX0_init 23 = .ok (.return_, 1) := by decide +kernel
theorem dX0_clear_0 : decode cX0_clear 0 = .ok (.aload_n 0, 1) := by decide +kernel
theorem dX0_clear_1 : decode cX0_clear 1 = .ok (.iload_n 1, 1) := by decide +kernel
theorem dX0_clear_2 : decode cX0_clear 2 = .ok (.putfield 9, 3) := by decide +kernel
theorem dX0_clear_5 : decode cX0_clear 5 = .ok (.aload_n 0, 1) := by decide +kernel
theorem dX0_clear_6 : decode cX0_clear 6 = .ok (.getfield 15, 3) := by decide +kernel
theorem dX0_clear_9 : decode cX0_clear 9 = .ok (.iconst 0, 1) := by decide +kernel
theorem dX0_clear_10 : decode cX0_clear 10 = .ok (.invokestatic 22, 3) := by decide +kernel
theorem dX0_clear_13 : decode cX0_clear 13 = .ok (.aload_n 0, 1) := by decide +kernel
theorem dX0_clear_14 : decode cX0_clear 14 = .ok (.dup, 1) := by decide +kernel
theorem dX0_clear_15 : decode cX0_clear 15 = .ok (.getfield 19, 3) := by decide +kernel
theorem dX0_clear_18 : decode cX0_clear 18 = .ok (.iconst 1, 1) := by decide +kernel
theorem dX0_clear_19 : decode cX0_clear 19 = .ok (.iadd, 1) := by decide +kernel
theorem dX0_clear_20 : decode cX0_clear 20 = .ok (.putfield 19, 3) := by decide +kernel
theorem dX0_clear_23 : decode cX0_clear 23 = .ok (.return_, 1) := by decide +kernel
theorem dX0_copyFrom_0 : decode cX0_copyFrom 0 = .ok (.aload_n 1, 1) := by decide +kernel
theorem dX0_copyFrom_1 : decode cX0_copyFrom 1 = .ok (.iconst 0, 1) := by decide +kernel
theorem dX0_copyFrom_2 : decode cX0_copyFrom 2 = .ok (.aload_n 0, 1) := by decide +kernel
theorem dX0_copyFrom_3 : decode cX0_copyFrom 3 = .ok (.getfield 15, 3) := by decide +kernel
theorem dX0_copyFrom_6 : decode cX0_copyFrom 6 = .ok (.iconst 0, 1) := by decide +kernel
theorem dX0_copyFrom_7 : decode cX0_copyFrom 7 = .ok (.bipush 12, 2) := by decide +kernel
theorem dX0_copyFrom_9 : decode cX0_copyFrom 9 = .ok (.invokestatic 28, 3) := by decide +kernel
theorem dX0_copyFrom_12 : decode cX0_copyFrom 12 = .ok (.aload_n 0, 1) := by decide +kernel
theorem dX0_copyFrom_13 : decode cX0_copyFrom 13 = .ok (.dup, 1) := by decide +kernel
theorem dX0_copyFrom_14 : decode cX0_copyFrom 14 = .ok (.getfield 19, 3) := by decide +kernel
theorem dX0_copyFrom_17 : decode cX0_copyFrom 17 = .ok (.iconst 1, 1) := by decide +kernel
theorem dX0_copyFrom_18 : decode cX0_copyFrom 18 = .ok (.iadd, 1) := by decide +kernel
theorem dX0_copyFrom_19 : decode cX0_copyFrom 19 = .ok (.putfield 19, 3) := by decide +kernel
theorem dX0_copyFrom_22 : decode cX0_copyFrom 22 = .ok (.return_, 1) := by decide +kernel
theorem dX0_all_0 : decode cX0_all 0 = .ok (.iconst 1, 1) := by decide +kernel
theorem dX0_all_1 : decode cX0_all 1 = .ok (.aload_n 0, 1) := by decide +kernel
theorem dX0_all_2 : decode cX0_all 2 = .ok (.getfield 9, 3) := by decide +kernel
theorem dX0_all_5 : decode cX0_all 5 = .ok (.ishl, 1) := by decide +kernel
theorem dX0_all_6 : decode cX0_all 6 = .ok (.iconst 1, 1) := by decide +kernel
theorem dX0_all_7 : decode cX0_all 7 = .ok (.isub, 1) := by decide +kernel
theorem dX0_all_8 : decode cX0_all 8 = .ok (.ireturn, 1) := by decide +kernel
theorem dX0_joined_0 : decode cX0_joined 0 = .ok (.aload_n 0, 1) := by decide +kernel
theorem dX0_joined_1 : decode cX0_joined 1 = .ok (.getfield 15, 3) := by decide +kernel
theorem dX0_joined_4 : decode cX0_joined 4 = .ok (.iload_n 1, 1) := by decide +kernel
theorem dX0_joined_5 : decode cX0_joined 5 = .ok (.iaload, 1) := by decide +kernel
theorem dX0_joined_6 : decode cX0_joined 6 = .ok (.iload_n 2, 1) := by decide +kernel
theorem dX0_joined_7 : decode cX0_joined 7 = .ok (.ishr, 1) := by decide +kernel
theorem dX0_joined_8 : decode cX0_joined 8 = .ok (.iconst 1, 1) := by decide +kernel
theorem dX0_joined_9 : decode cX0_joined 9 = .ok (.iand, 1) := by decide +kernel
theorem dX0_joined_10 : decode cX0_joined 10 = .ok (.ifCond .eq 7, 3) := by decide +kernel
theorem dX0_joined_13 : decode cX0_joined 13 = .ok (.iconst 1, 1) := by decide +kernel
theorem dX0_joined_14 : decode cX0_joined 14 = .ok (.goto 4, 3) := by decide +kernel
theorem dX0_joined_17 : decode cX0_joined 17 = .ok (.iconst 0, 1) := by decide +kernel
theorem dX0_joined_18 : decode cX0_joined 18 = .ok (.ireturn, 1) := by decide +kernel
theorem dX0_put_0 : decode cX0_put 0 = .ok (.aload_n 0, 1) := by decide +kernel
theorem dX0_put_1 : decode cX0_put 1 = .ok (.iload_n 1, 1) := by decide +kernel
theorem dX0_put_2 : decode cX0_put 2 = .ok (.iload_n 2, 1) := by decide +kernel
theorem dX0_put_3 : decode cX0_put 3 = .ok (.invokevirtual 34, 3) := by decide +kernel
theorem dX0_put_6 : decode cX0_put 6 = .ok (.iload_n 3, 1) := by decide +kernel
theorem dX0_put_7 : decode cX0_put 7 = .ok (.if_icmp .eq 37, 3) := by decide +kernel
theorem dX0_put_10 : decode cX0_put 10 = .ok (.aload_n 0, 1) := by decide +kernel
theorem dX0_put_11 : decode cX0_put 11 = .ok (.getfield 15, 3) := by decide +kernel
theorem dX0_put_14 : decode cX0_put 14 = .ok (.iload_n 1, 1) := by decide +kernel
theorem dX0_put_15 : decode cX0_put 15 = .ok (.dup2, 1) := by decide +kernel
theorem dX0_put_16 : decode cX0_put 16 = .ok (.iaload, 1) := by decide +kernel
theorem dX0_put_17 : decode cX0_put 17 = .ok (.iconst 1, 1) := by decide +kernel
theorem dX0_put_18 : decode cX0_put 18 = .ok (.iload_n 2, 1) := by decide +kernel
theorem dX0_put_19 : decode cX0_put 19 = .ok (.ishl, 1) := by decide +kernel
theorem dX0_put_20 : decode cX0_put 20 = .ok (.ixor, 1) := by decide +kernel
theorem dX0_put_21 : decode cX0_put 21 = .ok (.iastore, 1) := by decide +kernel
theorem dX0_put_22 : decode cX0_put 22 = .ok (.aload_n 0, 1) := by decide +kernel
theorem dX0_put_23 : decode cX0_put 23 = .ok (.getfield 15, 3) := by decide +kernel
theorem dX0_put_26 : decode cX0_put 26 = .ok (.iload_n 2, 1) := by decide +kernel
theorem dX0_put_27 : decode cX0_put 27 = .ok (.dup2, 1) := by decide +kernel
theorem dX0_put_28 : decode cX0_put 28 = .ok (.iaload, 1) := by decide +kernel
theorem dX0_put_29 : decode cX0_put 29 = .ok (.iconst 1, 1) := by decide +kernel
theorem dX0_put_30 : decode cX0_put 30 = .ok (.iload_n 1, 1) := by decide +kernel
theorem dX0_put_31 : decode cX0_put 31 = .ok (.ishl, 1) := by decide +kernel
theorem dX0_put_32 : decode cX0_put 32 = .ok (.ixor, 1) := by decide +kernel
theorem dX0_put_33 : decode cX0_put 33 = .ok (.iastore, 1) := by decide +kernel
theorem dX0_put_34 : decode cX0_put 34 = .ok (.aload_n 0, 1) := by decide +kernel
theorem dX0_put_35 : decode cX0_put 35 = .ok (.dup, 1) := by decide +kernel
theorem dX0_put_36 : decode cX0_put 36 = .ok (.getfield 19, 3) := by decide +kernel
theorem dX0_put_39 : decode cX0_put 39 = .ok (.iconst 1, 1) := by decide +kernel
theorem dX0_put_40 : decode cX0_put 40 = .ok (.iadd, 1) := by decide +kernel
theorem dX0_put_41 : decode cX0_put 41 = .ok (.putfield 19, 3) := by decide +kernel
theorem dX0_put_44 : decode cX0_put 44 = .ok (.return_, 1) := by decide +kernel
theorem dX0_edges_0 : decode cX0_edges 0 = .ok (.iconst 0, 1) := by decide +kernel
theorem dX0_edges_1 : decode cX0_edges 1 = .ok (.istore_n 1, 1) := by decide +kernel
theorem dX0_edges_2 : decode cX0_edges 2 = .ok (.iconst 0, 1) := by decide +kernel
theorem dX0_edges_3 : decode cX0_edges 3 = .ok (.istore_n 2, 1) := by decide +kernel
theorem dX0_edges_4 : decode cX0_edges 4 = .ok (.iload_n 2, 1) := by decide +kernel
theorem dX0_edges_5 : decode cX0_edges 5 = .ok (.aload_n 0, 1) := by decide +kernel
theorem dX0_edges_6 : decode cX0_edges 6 = .ok (.getfield 9, 3) := by decide +kernel
theorem dX0_edges_9 : decode cX0_edges 9 = .ok (.if_icmp .ge 21, 3) := by decide +kernel
theorem dX0_edges_12 : decode cX0_edges 12 = .ok (.iload_n 1, 1) := by decide +kernel
theorem dX0_edges_13 : decode cX0_edges 13 = .ok (.aload_n 0, 1) := by decide +kernel
theorem dX0_edges_14 : decode cX0_edges 14 = .ok (.getfield 15, 3) := by decide +kernel
theorem dX0_edges_17 : decode cX0_edges 17 = .ok (.iload_n 2, 1) := by decide +kernel
theorem dX0_edges_18 : decode cX0_edges 18 = .ok (.iaload, 1) := by decide +kernel
theorem dX0_edges_19 : decode cX0_edges 19 = .ok (.invokestatic 38, 3) := by decide +kernel
theorem dX0_edges_22 : decode cX0_edges 22 = .ok (.iadd, 1) := by decide +kernel
theorem dX0_edges_23 : decode cX0_edges 23 = .ok (.istore_n 1, 1) := by decide +kernel
theorem dX0_edges_24 : decode cX0_edges 24 = .ok (.iinc 2 1, 3) := by decide +kernel
theorem dX0_edges_27 : decode cX0_edges 27 = .ok (.goto (-23), 3) := by decide +kernel
theorem dX0_edges_30 : decode cX0_edges 30 = .ok (.iload_n 1, 1) := by decide +kernel
theorem dX0_edges_31 : decode cX0_edges 31 = .ok (.iconst 2, 1) := by decide +kernel
theorem dX0_edges_32 : decode cX0_edges 32 = .ok (.idiv, 1) := by decide +kernel
theorem dX0_edges_33 : decode cX0_edges 33 = .ok (.ireturn, 1) := by decide +kernel
theorem dX0_pieceOf_0 : decode cX0_pieceOf 0 = .ok (.iconst 1, 1) := by decide +kernel
theorem dX0_pieceOf_1 : decode cX0_pieceOf 1 = .ok (.iload_n 1, 1) := by decide +kernel
theorem dX0_pieceOf_2 : decode cX0_pieceOf 2 = .ok (.ishl, 1) := by decide +kernel
theorem dX0_pieceOf_3 : decode cX0_pieceOf 3 = .ok (.istore_n 3, 1) := by decide +kernel
theorem dX0_pieceOf_4 : decode cX0_pieceOf 4 = .ok (.iload_n 3, 1) := by decide +kernel
theorem dX0_pieceOf_5 : decode cX0_pieceOf 5 = .ok (.istore 4, 2) := by decide +kernel
theorem dX0_pieceOf_7 : decode cX0_pieceOf 7 = .ok (.iconst 0, 1) := by decide +kernel
theorem dX0_pieceOf_8 : decode cX0_pieceOf 8 = .ok (.istore 5, 2) := by decide +kernel
theorem dX0_pieceOf_10 : decode cX0_pieceOf 10 = .ok (.iload 5, 2) := by decide +kernel
theorem dX0_pieceOf_12 : decode cX0_pieceOf 12 = .ok (.aload_n 0, 1) := by decide +kernel
theorem dX0_pieceOf_13 : decode cX0_pieceOf 13 = .ok (.getfield 9, 3) := by decide +kernel
theorem dX0_pieceOf_16 : decode cX0_pieceOf 16 = .ok (.if_icmp .ge 55, 3) := by decide +kernel
theorem dX0_pieceOf_19 : decode cX0_pieceOf 19 = .ok (.iload 4, 2) := by decide +kernel
theorem dX0_pieceOf_21 : decode cX0_pieceOf 21 = .ok (.ifCond .eq 50, 3) := by decide +kernel
theorem dX0_pieceOf_24 : decode cX0_pieceOf 24 = .ok (.iload 4, 2) := by decide +kernel
theorem dX0_pieceOf_26 : decode cX0_pieceOf 26 = .ok (.invokestatic 44, 3) := by decide +kernel
theorem dX0_pieceOf_29 : decode cX0_pieceOf 29 = .ok (.istore 6, 2) := by decide +kernel
theorem dX0_pieceOf_31 : decode cX0_pieceOf 31 = .ok (.aload_n 0, 1) := by decide +kernel
theorem dX0_pieceOf_32 : decode cX0_pieceOf 32 = .ok (.getfield 15, 3) := by decide +kernel
theorem dX0_pieceOf_35 : decode cX0_pieceOf 35 = .ok (.iload 6, 2) := by decide +kernel
theorem dX0_pieceOf_37 : decode cX0_pieceOf 37 = .ok (.iaload, 1) := by decide +kernel
theorem dX0_pieceOf_38 : decode cX0_pieceOf 38 = .ok (.iload_n 2, 1) := by decide +kernel
theorem dX0_pieceOf_39 : decode cX0_pieceOf 39 = .ok (.iand, 1) := by decide +kernel
theorem dX0_pieceOf_40 : decode cX0_pieceOf 40 = .ok (.iload_n 3, 1) := by decide +kernel
theorem dX0_pieceOf_41 : decode cX0_pieceOf 41 = .ok (.iconst (-1), 1) := by decide +kernel
theorem dX0_pieceOf_42 : decode cX0_pieceOf 42 = .ok (.ixor, 1) := by decide +kernel
theorem dX0_pieceOf_43 : decode cX0_pieceOf 43 = .ok (.iand, 1) := by decide +kernel
theorem dX0_pieceOf_44 : decode cX0_pieceOf 44 = .ok (.istore 7, 2) := by decide +kernel
theorem dX0_pieceOf_46 : decode cX0_pieceOf 46 = .ok (.iload_n 3, 1) := by decide +kernel
theorem dX0_pieceOf_47 : decode cX0_pieceOf 47 = .ok (.iload 7, 2) := by decide +kernel
theorem dX0_pieceOf_49 : decode cX0_pieceOf 49 = .ok (.ior, 1) := by decide +kernel
theorem dX0_pieceOf_50 : decode cX0_pieceOf 50 = .ok (.istore_n 3, 1) := by decide +kernel
theorem dX0_pieceOf_51 : decode cX0_pieceOf 51 = .ok (.iload 4, 2) := by decide +kernel
theorem dX0_pieceOf_53 : decode cX0_pieceOf 53 = .ok (.iconst 1, 1) := by decide +kernel
theorem dX0_pieceOf_54 : decode cX0_pieceOf 54 = .ok (.iload 6, 2) := by decide +kernel
theorem dX0_pieceOf_56 : decode cX0_pieceOf 56 = .ok (.ishl, 1) := by decide +kernel
theorem dX0_pieceOf_57 : decode cX0_pieceOf 57 = .ok (.iconst (-1), 1) := by decide +kernel
theorem dX0_pieceOf_58 : decode cX0_pieceOf 58 = .ok (.ixor, 1) := by decide +kernel
theorem dX0_pieceOf_59 : decode cX0_pieceOf 59 = .ok (.iand, 1) := by decide +kernel
theorem dX0_pieceOf_60 : decode cX0_pieceOf 60 = .ok (.iload 7, 2) := by decide +kernel
theorem dX0_pieceOf_62 : decode cX0_pieceOf 62 = .ok (.ior, 1) := by decide +kernel
theorem dX0_pieceOf_63 : decode cX0_pieceOf 63 = .ok (.istore 4, 2) := by decide +kernel
theorem dX0_pieceOf_65 : decode cX0_pieceOf 65 = .ok (.iinc 5 1, 3) := by decide +kernel
theorem dX0_pieceOf_68 : decode cX0_pieceOf 68 = .ok (.goto (-58), 3) := by decide +kernel
theorem dX0_pieceOf_71 : decode cX0_pieceOf 71 = .ok (.iload_n 3, 1) := by decide +kernel
theorem dX0_pieceOf_72 : decode cX0_pieceOf 72 = .ok (.ireturn, 1) := by decide +kernel
theorem dX0_pieces_0 : decode cX0_pieces 0 = .ok (.iload_n 1, 1) := by decide +kernel
theorem dX0_pieces_1 : decode cX0_pieces 1 = .ok (.istore_n 3, 1) := by decide +kernel
theorem dX0_pieces_2 : decode cX0_pieces 2 = .ok (.iconst 0, 1) := by decide +kernel
theorem dX0_pieces_3 : decode cX0_pieces 3 = .ok (.istore 4, 2) := by decide +kernel
theorem dX0_pieces_5 : decode cX0_pieces 5 = .ok (.iconst 0, 1) := by decide +kernel
theorem dX0_pieces_6 : decode cX0_pieces 6 = .ok (.istore 5, 2) := by decide +kernel
theorem dX0_pieces_8 : decode cX0_pieces 8 = .ok (.iload 5, 2) := by decide +kernel
theorem dX0_pieces_10 : decode cX0_pieces 10 = .ok (.aload_n 0, 1) := by decide +kernel
theorem dX0_pieces_11 : decode cX0_pieces 11 = .ok (.getfield 9, 3) := by decide +kernel
theorem dX0_pieces_14 : decode cX0_pieces 14 = .ok (.if_icmp .ge 54, 3) := by decide +kernel
theorem dX0_pieces_17 : decode cX0_pieces 17 = .ok (.iload_n 3, 1) := by decide +kernel
theorem dX0_pieces_18 : decode cX0_pieces 18 = .ok (.iload 5, 2) := by decide +kernel
theorem dX0_pieces_20 : decode cX0_pieces 20 = .ok (.ishr, 1) := by decide +kernel
theorem dX0_pieces_21 : decode cX0_pieces 21 = .ok (.iconst 1, 1) := by decide +kernel
theorem dX0_pieces_22 : decode cX0_pieces 22 = .ok (.iand, 1) := by decide +kernel
theorem dX0_pieces_23 : decode cX0_pieces 23 = .ok (.ifCond .eq 39, 3) := by decide +kernel
theorem dX0_pieces_26 : decode cX0_pieces 26 = .ok (.aload_n 0, 1) := by decide +kernel
theorem dX0_pieces_27 : decode cX0_pieces 27 = .ok (.iload 5, 2) := by decide +kernel
theorem dX0_pieces_29 : decode cX0_pieces 29 = .ok (.iload_n 1, 1) := by decide +kernel
theorem dX0_pieces_30 : decode cX0_pieces 30 = .ok (.invokevirtual 47, 3) := by decide +kernel
theorem dX0_pieces_33 : decode cX0_pieces 33 = .ok (.istore 6, 2) := by decide +kernel
theorem dX0_pieces_35 : decode cX0_pieces 35 = .ok (.iload_n 3, 1) := by decide +kernel
theorem dX0_pieces_36 : decode cX0_pieces 36 = .ok (.iload 6, 2) := by decide +kernel
theorem dX0_pieces_38 : decode cX0_pieces 38 = .ok (.iconst (-1), 1) := by decide +kernel
theorem dX0_pieces_39 : decode cX0_pieces 39 = .ok (.ixor, 1) := by decide +kernel
theorem dX0_pieces_40 : decode cX0_pieces 40 = .ok (.iand, 1) := by decide +kernel
theorem dX0_pieces_41 : decode cX0_pieces 41 = .ok (.istore_n 3, 1) := by decide +kernel
theorem dX0_pieces_42 : decode cX0_pieces 42 = .ok (.iload 4, 2) := by decide +kernel
theorem dX0_pieces_44 : decode cX0_pieces 44 = .ok (.iload_n 2, 1) := by decide +kernel
theorem dX0_pieces_45 : decode cX0_pieces 45 = .ok (.ifCond .eq 13, 3) := by decide +kernel
theorem dX0_pieces_48 : decode cX0_pieces 48 = .ok (.iload 6, 2) := by decide +kernel
theorem dX0_pieces_50 : decode cX0_pieces 50 = .ok (.invokestatic 38, 3) := by decide +kernel
theorem dX0_pieces_53 : decode cX0_pieces 53 = .ok (.iconst 1, 1) := by decide +kernel
theorem dX0_pieces_54 : decode cX0_pieces 54 = .ok (.iand, 1) := by decide +kernel
theorem dX0_pieces_55 : decode cX0_pieces 55 = .ok (.goto 4, 3) := by decide +kernel
theorem dX0_pieces_58 : decode cX0_pieces 58 = .ok (.iconst 1, 1) := by decide +kernel
theorem dX0_pieces_59 : decode cX0_pieces 59 = .ok (.iadd, 1) := by decide +kernel
theorem dX0_pieces_60 : decode cX0_pieces 60 = .ok (.istore 4, 2) := by decide +kernel
theorem dX0_pieces_62 : decode cX0_pieces 62 = .ok (.iinc 5 1, 3) := by decide +kernel
theorem dX0_pieces_65 : decode cX0_pieces 65 = .ok (.goto (-57), 3) := by decide +kernel
theorem dX0_pieces_68 : decode cX0_pieces 68 = .ok (.iload 4, 2) := by decide +kernel
theorem dX0_pieces_70 : decode cX0_pieces 70 = .ok (.ireturn, 1) := by decide +kernel
theorem dX0_shortestOddWalk_0 : decode cX0_shortestOddWalk 0 = .ok (.iconst 1, 1) := by decide +kernel
theorem dX0_shortestOddWalk_1 : decode cX0_shortestOddWalk 1 = .ok (.iload_n 1, 1) := by decide +kernel
theorem dX0_shortestOddWalk_2 : decode cX0_shortestOddWalk 2 = .ok (.ishl, 1) := by decide +kernel
theorem dX0_shortestOddWalk_3 : decode cX0_shortestOddWalk 3 = .ok (.istore_n 2, 1) := by decide +kernel
theorem dX0_shortestOddWalk_4 : decode cX0_shortestOddWalk 4 = .ok (.iconst 1, 1) := by decide +kernel
theorem dX0_shortestOddWalk_5 : decode cX0_shortestOddWalk 5 = .ok (.istore_n 3, 1) := by decide +kernel
theorem dX0_shortestOddWalk_6 : decode cX0_shortestOddWalk 6 = .ok (.iload_n 3, 1) := by decide +kernel
theorem dX0_shortestOddWalk_7 : decode cX0_shortestOddWalk 7 = .ok (.aload_n 0, 1) := by decide +kernel
theorem dX0_shortestOddWalk_8 : decode cX0_shortestOddWalk 8 = .ok (.getfield 9, 3) := by decide +kernel
theorem dX0_shortestOddWalk_11 : decode cX0_shortestOddWalk 11 = .ok (.if_icmp .gt 32, 3) := by decide +kernel
theorem dX0_shortestOddWalk_14 : decode cX0_shortestOddWalk 14 = .ok (.aload_n 0, 1) := by decide +kernel
theorem dX0_shortestOddWalk_15 : decode cX0_shortestOddWalk 15 = .ok (.iload_n 2, 1) := by decide +kernel
theorem dX0_shortestOddWalk_16 : decode cX0_shortestOddWalk 16 = .ok (.invokevirtual 51, 3) := by decide +kernel
theorem dX0_shortestOddWalk_19 : decode cX0_shortestOddWalk 19 = .ok (.istore_n 2, 1) := by decide +kernel
theorem dX0_shortestOddWalk_20 : decode cX0_shortestOddWalk 20 = .ok (.iload_n 3, 1) := by decide +kernel
theorem dX0_shortestOddWalk_21 : decode cX0_shortestOddWalk 21 = .ok (.iconst 2, 1) := by decide +kernel
theorem dX0_shortestOddWalk_22 : decode cX0_shortestOddWalk 22 = .ok (.irem, 1) := by decide +kernel
theorem dX0_shortestOddWalk_23 : decode cX0_shortestOddWalk 23 = .ok (.iconst 1, 1) := by decide +kernel
theorem dX0_shortestOddWalk_24 : decode cX0_shortestOddWalk 24 = .ok (.if_icmp .ne 13, 3) := by decide +kernel
theorem dX0_shortestOddWalk_27 : decode cX0_shortestOddWalk 27 = .ok (.iload_n 2, 1) := by decide +kernel
theorem dX0_shortestOddWalk_28 : decode cX0_shortestOddWalk 28 = .ok (.iload_n 1, 1) := by decide +kernel
theorem dX0_shortestOddWalk_29 : decode cX0_shortestOddWalk 29 = .ok (.ishr, 1) := by decide +kernel
theorem dX0_shortestOddWalk_30 : decode cX0_shortestOddWalk 30 = .ok (.iconst 1, 1) := by decide +kernel
theorem dX0_shortestOddWalk_31 : decode cX0_shortestOddWalk 31 = .ok (.iand, 1) := by decide +kernel
theorem dX0_shortestOddWalk_32 : decode cX0_shortestOddWalk 32 = .ok (.ifCond .eq 5, 3) := by decide +kernel
theorem dX0_shortestOddWalk_35 : decode cX0_shortestOddWalk 35 = .ok (.iload_n 3, 1) := by decide +kernel
theorem dX0_shortestOddWalk_36 : decode cX0_shortestOddWalk 36 = .ok (.ireturn, 1) := by decide +kernel
theorem dX0_shortestOddWalk_37 : decode cX0_shortestOddWalk 37 = .ok (.iinc 3 1, 3) := by decide +kernel
theorem dX0_shortestOddWalk_40 : decode cX0_shortestOddWalk 40 = .ok (.goto (-34), 3) := by decide +kernel
theorem dX0_shortestOddWalk_43 : decode cX0_shortestOddWalk 43 = .ok (.iconst (-1), 1) := by decide +kernel
theorem dX0_shortestOddWalk_44 : decode cX0_shortestOddWalk 44 = .ok (.ireturn, 1) := by decide +kernel
theorem dX0_besides_0 : decode cX0_besides 0 = .ok (.iconst 0, 1) := by decide +kernel
theorem dX0_besides_1 : decode cX0_besides 1 = .ok (.istore_n 2, 1) := by decide +kernel
theorem dX0_besides_2 : decode cX0_besides 2 = .ok (.iconst 0, 1) := by decide +kernel
theorem dX0_besides_3 : decode cX0_besides 3 = .ok (.istore_n 3, 1) := by decide +kernel
theorem dX0_besides_4 : decode cX0_besides 4 = .ok (.iload_n 3, 1) := by decide +kernel
theorem dX0_besides_5 : decode cX0_besides 5 = .ok (.aload_n 0, 1) := by decide +kernel
theorem dX0_besides_6 : decode cX0_besides 6 = .ok (.getfield 9, 3) := by decide +kernel
theorem dX0_besides_9 : decode cX0_besides 9 = .ok (.if_icmp .ge 26, 3) := by decide +kernel
theorem dX0_besides_12 : decode cX0_besides 12 = .ok (.iload_n 1, 1) := by decide +kernel
theorem dX0_besides_13 : decode cX0_besides 13 = .ok (.iload_n 3, 1) := by decide +kernel
theorem dX0_besides_14 : decode cX0_besides 14 = .ok (.ishr, 1) := by decide +kernel
theorem dX0_besides_15 : decode cX0_besides 15 = .ok (.iconst 1, 1) := by decide +kernel
theorem dX0_besides_16 : decode cX0_besides 16 = .ok (.iand, 1) := by decide +kernel
theorem dX0_besides_17 : decode cX0_besides 17 = .ok (.ifCond .eq 12, 3) := by decide +kernel
theorem dX0_besides_20 : decode cX0_besides 20 = .ok (.iload_n 2, 1) := by decide +kernel
theorem dX0_besides_21 : decode cX0_besides 21 = .ok (.aload_n 0, 1) := by decide +kernel
theorem dX0_besides_22 : decode cX0_besides 22 = .ok (.getfield 15, 3) := by decide +kernel
theorem dX0_besides_25 : decode cX0_besides 25 = .ok (.iload_n 3, 1) := by decide +kernel
theorem dX0_besides_26 : decode cX0_besides 26 = .ok (.iaload, 1) := by decide +kernel
theorem dX0_besides_27 : decode cX0_besides 27 = .ok (.ior, 1) := by decide +kernel
theorem dX0_besides_28 : decode cX0_besides 28 = .ok (.istore_n 2, 1) := by decide +kernel
theorem dX0_besides_29 : decode cX0_besides 29 = .ok (.iinc 3 1, 3) := by decide +kernel
theorem dX0_besides_32 : decode cX0_besides 32 = .ok (.goto (-28), 3) := by decide +kernel
theorem dX0_besides_35 : decode cX0_besides 35 = .ok (.iload_n 2, 1) := by decide +kernel
theorem dX0_besides_36 : decode cX0_besides 36 = .ok (.ireturn, 1) := by decide +kernel
theorem dX0_hasNoEnd_0 : decode cX0_hasNoEnd 0 = .ok (.iconst 0, 1) := by decide +kernel
theorem dX0_hasNoEnd_1 : decode cX0_hasNoEnd 1 = .ok (.istore_n 2, 1) := by decide +kernel
theorem dX0_hasNoEnd_2 : decode cX0_hasNoEnd 2 = .ok (.iload_n 2, 1) := by decide +kernel
theorem dX0_hasNoEnd_3 : decode cX0_hasNoEnd 3 = .ok (.aload_n 0, 1) := by decide +kernel
theorem dX0_hasNoEnd_4 : decode cX0_hasNoEnd 4 = .ok (.getfield 9, 3) := by decide +kernel
theorem dX0_hasNoEnd_7 : decode cX0_hasNoEnd 7 = .ok (.if_icmp .ge 32, 3) := by decide +kernel
theorem dX0_hasNoEnd_10 : decode cX0_hasNoEnd 10 = .ok (.iload_n 1, 1) := by decide +kernel
theorem dX0_hasNoEnd_11 : decode cX0_hasNoEnd 11 = .ok (.iload_n 2, 1) := by decide +kernel
theorem dX0_hasNoEnd_12 : decode cX0_hasNoEnd 12 = .ok (.ishr, 1) := by decide +kernel
theorem dX0_hasNoEnd_13 : decode cX0_hasNoEnd 13 = .ok (.iconst 1, 1) := by decide +kernel
theorem dX0_hasNoEnd_14 : decode cX0_hasNoEnd 14 = .ok (.iand, 1) := by decide +kernel
theorem dX0_hasNoEnd_15 : decode cX0_hasNoEnd 15 = .ok (.ifCond .eq 18, 3) := by decide +kernel
theorem dX0_hasNoEnd_18 : decode cX0_hasNoEnd 18 = .ok (.aload_n 0, 1) := by decide +kernel
theorem dX0_hasNoEnd_19 : decode cX0_hasNoEnd 19 = .ok (.getfield 15, 3) := by decide +kernel
theorem dX0_hasNoEnd_22 : decode cX0_hasNoEnd 22 = .ok (.iload_n 2, 1) := by decide +kernel
theorem dX0_hasNoEnd_23 : decode cX0_hasNoEnd 23 = .ok (.iaload, 1) := by decide +kernel
theorem dX0_hasNoEnd_24 : decode cX0_hasNoEnd 24 = .ok (.invokestatic 38, 3) := by decide +kernel
theorem dX0_hasNoEnd_27 : decode cX0_hasNoEnd 27 = .ok (.iconst 2, 1) := by decide +kernel
theorem dX0_hasNoEnd_28 : decode cX0_hasNoEnd 28 = .ok (.if_icmp .ge 5, 3) := by decide +kernel
theorem dX0_hasNoEnd_31 : decode cX0_hasNoEnd 31 = .ok (.iconst 0, 1) := by decide +kernel
theorem dX0_hasNoEnd_32 : decode cX0_hasNoEnd 32 = .ok (.ireturn, 1) := by decide +kernel
theorem dX0_hasNoEnd_33 : decode cX0_hasNoEnd 33 = .ok (.iinc 2 1, 3) := by decide +kernel
theorem dX0_hasNoEnd_36 : decode cX0_hasNoEnd 36 = .ok (.goto (-34), 3) := by decide +kernel
theorem dX0_hasNoEnd_39 : decode cX0_hasNoEnd 39 = .ok (.iconst 1, 1) := by decide +kernel
theorem dX0_hasNoEnd_40 : decode cX0_hasNoEnd 40 = .ok (.ireturn, 1) := by decide +kernel
theorem dX1_init_0 : decode cX1_init 0 = .ok (.aload_n 0, 1) := by decide +kernel
theorem dX1_init_1 : decode cX1_init 1 = .ok (.invokespecial 3, 3) := by decide +kernel
theorem dX1_init_4 : decode cX1_init 4 = .ok (.aload_n 0, 1) := by decide +kernel
theorem dX1_init_5 : decode cX1_init 5 = .ok (.iconst 4, 1) := by decide +kernel
theorem dX1_init_6 : decode cX1_init 6 = .ok (.bipush 12, 2) := by decide +kernel
theorem dX1_init_8 : decode cX1_init 8 = .ok (.multianewarray 9 2, 4) := by decide +kernel
theorem dX1_init_12 : decode cX1_init 12 = .ok (.putfield 11, 3) := by decide +kernel
theorem dX1_init_15 : decode cX1_init 15 = .ok (.aload_n 0, 1) := by decide +kernel
theorem dX1_init_16 : decode cX1_init 16 = .ok (.iconst 4, 1) := by decide +kernel
theorem dX1_init_17 : decode cX1_init 17 = .ok (.bipush 12, 2) := by decide +kernel
theorem dX1_init_19 : decode cX1_init 19 = .ok (.multianewarray 9 2, 4) := by decide +kernel
theorem dX1_init_23 : decode cX1_init 23 = .ok (.putfield 16, 3) := by decide +kernel
theorem dX1_init_26 : decode cX1_init 26 = .ok (.aload_n 0, 1) := by decide +kernel
theorem dX1_init_27 : decode cX1_init 27 = .ok (.iconst 0, 1) := by decide +kernel
theorem dX1_init_28 : decode cX1_init 28 = .ok (.putfield 19, 3) := by decide +kernel
theorem dX1_init_31 : decode cX1_init 31 = .ok (.aload_n 0, 1) := by decide +kernel
theorem dX1_init_32 : decode cX1_init 32 = .ok (.iconst 0, 1) := by decide +kernel
theorem dX1_init_33 : decode cX1_init 33 = .ok (.putfield 23, 3) := by decide +kernel
theorem dX1_init_36 : decode cX1_init 36 = .ok (.return_, 1) := by decide +kernel
theorem dX1_clear_0 : decode cX1_clear 0 = .ok (.aload_n 0, 1) := by decide +kernel
theorem dX1_clear_1 : decode cX1_clear 1 = .ok (.iconst 0, 1) := by decide +kernel
theorem dX1_clear_2 : decode cX1_clear 2 = .ok (.putfield 23, 3) := by decide +kernel
theorem dX1_clear_5 : decode cX1_clear 5 = .ok (.return_, 1) := by decide +kernel
theorem dX1_save_0 : decode cX1_save 0 = .ok (.aload_n 0, 1) := by decide +kernel
theorem dX1_save_1 : decode cX1_save 1 = .ok (.aload_n 0, 1) := by decide +kernel
theorem dX1_save_2 : decode cX1_save 2 = .ok (.getfield 19, 3) := by decide +kernel
theorem dX1_save_5 : decode cX1_save 5 = .ok (.iconst 1, 1) := by decide +kernel
theorem dX1_save_6 : decode cX1_save 6 = .ok (.iadd, 1) := by decide +kernel
theorem dX1_save_7 : decode cX1_save 7 = .ok (.iconst 4, 1) := by decide +kernel
theorem dX1_save_8 : decode cX1_save 8 = .ok (.irem, 1) := by decide +kernel
theorem dX1_save_9 : decode cX1_save 9 = .ok (.putfield 19, 3) := by decide +kernel
theorem dX1_save_12 : decode cX1_save 12 = .ok (.aload_n 1, 1) := by decide +kernel
theorem dX1_save_13 : decode cX1_save 13 = .ok (.getfield 26, 3) := by decide +kernel
theorem dX1_save_16 : decode cX1_save 16 = .ok (.iconst 0, 1) := by decide +kernel
theorem dX1_save_17 : decode cX1_save 17 = .ok (.aload_n 0, 1) := by decide +kernel
theorem dX1_save_18 : decode cX1_save 18 = .ok (.getfield 11, 3) := by decide +kernel
theorem dX1_save_21 : decode cX1_save 21 = .ok (.aload_n 0, 1) := by decide +kernel
theorem dX1_save_22 : decode cX1_save 22 = .ok (.getfield 19, 3) := by decide +kernel
theorem dX1_save_25 : decode cX1_save 25 = .ok (.aaload, 1) := by decide +kernel
theorem dX1_save_26 : decode cX1_save 26 = .ok (.iconst 0, 1) := by decide +kernel
theorem dX1_save_27 : decode cX1_save 27 = .ok (.bipush 12, 2) := by decide +kernel
theorem dX1_save_29 : decode cX1_save 29 = .ok (.invokestatic 32, 3) := by decide +kernel
theorem dX1_save_32 : decode cX1_save 32 = .ok (.aload_n 2, 1) := by decide +kernel
theorem dX1_save_33 : decode cX1_save 33 = .ok (.getfield 38, 3) := by decide +kernel
theorem dX1_save_36 : decode cX1_save 36 = .ok (.iconst 0, 1) := by decide +kernel
theorem dX1_save_37 : decode cX1_save 37 = .ok (.aload_n 0, 1) := by decide +kernel
theorem dX1_save_38 : decode cX1_save 38 = .ok (.getfield 16, 3) := by decide +kernel
theorem dX1_save_41 : decode cX1_save 41 = .ok (.aload_n 0, 1) := by decide +kernel
theorem dX1_save_42 : decode cX1_save 42 = .ok (.getfield 19, 3) := by decide +kernel
theorem dX1_save_45 : decode cX1_save 45 = .ok (.aaload, 1) := by decide +kernel
theorem dX1_save_46 : decode cX1_save 46 = .ok (.iconst 0, 1) := by decide +kernel
theorem dX1_save_47 : decode cX1_save 47 = .ok (.bipush 12, 2) := by decide +kernel
theorem dX1_save_49 : decode cX1_save 49 = .ok (.invokestatic 32, 3) := by decide +kernel
theorem dX1_save_52 : decode cX1_save 52 = .ok (.aload_n 0, 1) := by decide +kernel
theorem dX1_save_53 : decode cX1_save 53 = .ok (.aload_n 0, 1) := by decide +kernel
theorem dX1_save_54 : decode cX1_save 54 = .ok (.getfield 23, 3) := by decide +kernel
theorem dX1_save_57 : decode cX1_save 57 = .ok (.iconst 1, 1) := by decide +kernel
theorem dX1_save_58 : decode cX1_save 58 = .ok (.iadd, 1) := by decide +kernel
theorem dX1_save_59 : decode cX1_save 59 = .ok (.iconst 4, 1) := by decide +kernel
theorem dX1_save_60 : decode cX1_save 60 = .ok (.invokestatic 43, 3) := by decide +kernel
theorem dX1_save_63 : decode cX1_save 63 = .ok (.putfield 23, 3) := by decide +kernel
theorem dX1_save_66 : decode cX1_save 66 = .ok (.return_, 1) := by decide +kernel
theorem dX1_restore_0 : decode cX1_restore 0 = .ok (.aload_n 1, 1) := by decide +kernel
theorem dX1_restore_1 : decode cX1_restore 1 = .ok (.aload_n 0, 1) := by decide +kernel
theorem dX1_restore_2 : decode cX1_restore 2 = .ok (.getfield 11, 3) := by decide +kernel
theorem dX1_restore_5 : decode cX1_restore 5 = .ok (.aload_n 0, 1) := by decide +kernel
theorem dX1_restore_6 : decode cX1_restore 6 = .ok (.getfield 19, 3) := by decide +kernel
theorem dX1_restore_9 : decode cX1_restore 9 = .ok (.aaload, 1) := by decide +kernel
theorem dX1_restore_10 : decode cX1_restore 10 = .ok (.invokevirtual 49, 3) := by decide +kernel
theorem dX1_restore_13 : decode cX1_restore 13 = .ok (.aload_n 2, 1) := by decide +kernel
theorem dX1_restore_14 : decode cX1_restore 14 = .ok (.aload_n 0, 1) := by decide +kernel
theorem dX1_restore_15 : decode cX1_restore 15 = .ok (.getfield 16, 3) := by decide +kernel
theorem dX1_restore_18 : decode cX1_restore 18 = .ok (.aload_n 0, 1) := by decide +kernel
theorem dX1_restore_19 : decode cX1_restore 19 = .ok (.getfield 19, 3) := by decide +kernel
theorem dX1_restore_22 : decode cX1_restore 22 = .ok (.aaload, 1) := by decide +kernel
theorem dX1_restore_23 : decode cX1_restore 23 = .ok (.invokevirtual 53, 3) := by decide +kernel
theorem dX1_restore_26 : decode cX1_restore 26 = .ok (.aload_n 0, 1) := by decide +kernel
theorem dX1_restore_27 : decode cX1_restore 27 = .ok (.aload_n 0, 1) := by decide +kernel
theorem dX1_restore_28 : decode cX1_restore 28 = .ok (.getfield 19, 3) := by decide +kernel
theorem dX1_restore_31 : decode cX1_restore 31 = .ok (.iconst 4, 1) := by decide +kernel
theorem dX1_restore_32 : decode cX1_restore 32 = .ok (.iadd, 1) := by decide +kernel
theorem dX1_restore_33 : decode cX1_restore 33 = .ok (.iconst 1, 1) := by decide +kernel
theorem dX1_restore_34 : decode cX1_restore 34 = .ok (.isub, 1) := by decide +kernel
theorem dX1_restore_35 : decode cX1_restore 35 = .ok (.iconst 4, 1) := by decide +kernel
theorem dX1_restore_36 : decode cX1_restore 36 = .ok (.irem, 1) := by decide +kernel
theorem dX1_restore_37 : decode cX1_restore 37 = .ok (.putfield 19, 3) := by decide +kernel
theorem dX1_restore_40 : decode cX1_restore 40 = .ok (.aload_n 0, 1) := by decide +kernel
theorem dX1_restore_41 : decode cX1_restore 41 = .ok (.dup, 1) := by decide +kernel
theorem dX1_restore_42 : decode cX1_restore 42 = .ok (.getfield 23, 3) := by decide +kernel
theorem dX1_restore_45 : decode cX1_restore 45 = .ok (.iconst 1, 1) := by decide +kernel
theorem dX1_restore_46 : decode cX1_restore 46 = .ok (.isub, 1) := by decide +kernel
theorem dX1_restore_47 : decode cX1_restore 47 = .ok (.putfield 23, 3) := by decide +kernel
theorem dX1_restore_50 : decode cX1_restore 50 = .ok (.return_, 1) := by decide +kernel
theorem dX2_init_0 : decode cX2_init 0 = .ok (.aload_n 0, 1) := by decide +kernel
theorem dX2_init_1 : decode cX2_init 1 = .ok (.invokespecial 3, 3) := by decide +kernel
theorem dX2_init_4 : decode cX2_init 4 = .ok (.aload_n 0, 1) := by decide +kernel
theorem dX2_init_5 : decode cX2_init 5 = .ok (.bipush 60, 2) := by decide +kernel
theorem dX2_init_7 : decode cX2_init 7 = .ok (.newarray .int, 2) := by decide +kernel
theorem dX2_init_9 : decode cX2_init 9 = .ok (.putfield 9, 3) := by decide +kernel
theorem dX2_init_12 : decode cX2_init 12 = .ok (.aload_n 0, 1) := by decide +kernel
theorem dX2_init_13 : decode cX2_init 13 = .ok (.iconst 0, 1) := by decide +kernel
theorem dX2_init_14 : decode cX2_init 14 = .ok (.putfield 15, 3) := by decide +kernel
theorem dX2_init_17 : decode cX2_init 17 = .ok (.return_, 1) := by decide +kernel
theorem dX2_add_0 : decode cX2_add 0 = .ok (.aload_n 0, 1) := by decide +kernel
theorem dX2_add_1 : decode cX2_add 1 = .ok (.getfield 15, 3) := by decide +kernel
theorem dX2_add_4 : decode cX2_add 4 = .ok (.bipush 60, 2) := by decide +kernel
theorem dX2_add_6 : decode cX2_add 6 = .ok (.if_icmp .ge 23, 3) := by decide +kernel
theorem dX2_add_9 : decode cX2_add 9 = .ok (.aload_n 0, 1) := by decide +kernel
theorem dX2_add_10 : decode cX2_add 10 = .ok (.getfield 9, 3) := by decide +kernel
theorem dX2_add_13 : decode cX2_add 13 = .ok (.aload_n 0, 1) := by decide +kernel
theorem dX2_add_14 : decode cX2_add 14 = .ok (.getfield 15, 3) := by decide +kernel
theorem dX2_add_17 : decode cX2_add 17 = .ok (.iload_n 1, 1) := by decide +kernel
theorem dX2_add_18 : decode cX2_add 18 = .ok (.iastore, 1) := by decide +kernel
theorem dX2_add_19 : decode cX2_add 19 = .ok (.aload_n 0, 1) := by decide +kernel
theorem dX2_add_20 : decode cX2_add 20 = .ok (.dup, 1) := by decide +kernel
theorem dX2_add_21 : decode cX2_add 21 = .ok (.getfield 15, 3) := by decide +kernel
theorem dX2_add_24 : decode cX2_add 24 = .ok (.iconst 1, 1) := by decide +kernel
theorem dX2_add_25 : decode cX2_add 25 = .ok (.iadd, 1) := by decide +kernel
theorem dX2_add_26 : decode cX2_add 26 = .ok (.putfield 15, 3) := by decide +kernel
theorem dX2_add_29 : decode cX2_add 29 = .ok (.return_, 1) := by decide +kernel
theorem dX2_errorPlace_0 : decode cX2_errorPlace 0 = .ok (.iconst 0, 1) := by decide +kernel
theorem dX2_errorPlace_1 : decode cX2_errorPlace 1 = .ok (.istore_n 2, 1) := by decide +kernel
theorem dX2_errorPlace_2 : decode cX2_errorPlace 2 = .ok (.iconst 0, 1) := by decide +kernel
theorem dX2_errorPlace_3 : decode cX2_errorPlace 3 = .ok (.istore_n 3, 1) := by decide +kernel
theorem dX2_errorPlace_4 : decode cX2_errorPlace 4 = .ok (.iload_n 3, 1) := by decide +kernel
theorem dX2_errorPlace_5 : decode cX2_errorPlace 5 = .ok (.aload_n 0, 1) := by decide +kernel
theorem dX2_errorPlace_6 : decode cX2_errorPlace 6 = .ok (.getfield 15, 3) := by decide +kernel
theorem dX2_errorPlace_9 : decode cX2_errorPlace 9 = .ok (.if_icmp .ge 24, 3) := by decide +kernel
theorem dX2_errorPlace_12 : decode cX2_errorPlace 12 = .ok (.aload_n 0, 1) := by decide +kernel
theorem dX2_errorPlace_13 : decode cX2_errorPlace 13 = .ok (.iload_n 3, 1) := by decide +kernel
theorem dX2_errorPlace_14 : decode cX2_errorPlace 14 = .ok (.iload_n 2, 1) := by decide +kernel
theorem dX2_errorPlace_15 : decode cX2_errorPlace 15 = .ok (.iload_n 1, 1) := by decide +kernel
theorem dX2_errorPlace_16 : decode cX2_errorPlace 16 = .ok (.invokevirtual 19, 3) := by decide +kernel
theorem dX2_errorPlace_19 : decode cX2_errorPlace 19 = .ok (.istore_n 2, 1) := by decide +kernel
theorem dX2_errorPlace_20 : decode cX2_errorPlace 20 = .ok (.iload_n 2, 1) := by decide +kernel
theorem dX2_errorPlace_21 : decode cX2_errorPlace 21 = .ok (.iconst 4, 1) := by decide +kernel
theorem dX2_errorPlace_22 : decode cX2_errorPlace 22 = .ok (.if_icmp .ne 5, 3) := by decide +kernel
theorem dX2_errorPlace_25 : decode cX2_errorPlace 25 = .ok (.iload_n 3, 1) := by decide +kernel
theorem dX2_errorPlace_26 : decode cX2_errorPlace 26 = .ok (.ireturn, 1) := by decide +kernel
theorem dX2_errorPlace_27 : decode cX2_errorPlace 27 = .ok (.iinc 3 1, 3) := by decide +kernel
theorem dX2_errorPlace_30 : decode cX2_errorPlace 30 = .ok (.goto (-26), 3) := by decide +kernel
theorem dX2_errorPlace_33 : decode cX2_errorPlace 33 = .ok (.aload_n 0, 1) := by decide +kernel
theorem dX2_errorPlace_34 : decode cX2_errorPlace 34 = .ok (.getfield 15, 3) := by decide +kernel
theorem dX2_errorPlace_37 : decode cX2_errorPlace 37 = .ok (.ireturn, 1) := by decide +kernel
theorem dX2_isComplete_0 : decode cX2_isComplete 0 = .ok (.iconst 0, 1) := by decide +kernel
theorem dX2_isComplete_1 : decode cX2_isComplete 1 = .ok (.istore_n 2, 1) := by decide +kernel
theorem dX2_isComplete_2 : decode cX2_isComplete 2 = .ok (.iconst 0, 1) := by decide +kernel
theorem dX2_isComplete_3 : decode cX2_isComplete 3 = .ok (.istore_n 3, 1) := by decide +kernel
theorem dX2_isComplete_4 : decode cX2_isComplete 4 = .ok (.iload_n 3, 1) := by decide +kernel
theorem dX2_isComplete_5 : decode cX2_isComplete 5 = .ok (.aload_n 0, 1) := by decide +kernel
theorem dX2_isComplete_6 : decode cX2_isComplete 6 = .ok (.getfield 15, 3) := by decide +kernel
theorem dX2_isComplete_9 : decode cX2_isComplete 9 = .ok (.if_icmp .ge 17, 3) := by decide +kernel
theorem dX2_isComplete_12 : decode cX2_isComplete 12 = .ok (.aload_n 0, 1) := by decide +kernel
theorem dX2_isComplete_13 : decode cX2_isComplete 13 = .ok (.iload_n 3, 1) := by decide +kernel
theorem dX2_isComplete_14 : decode cX2_isComplete 14 = .ok (.iload_n 2, 1) := by decide +kernel
theorem dX2_isComplete_15 : decode cX2_isComplete 15 = .ok (.iload_n 1, 1) := by decide +kernel
theorem dX2_isComplete_16 : decode cX2_isComplete 16 = .ok (.invokevirtual 19, 3) := by decide +kernel
theorem dX2_isComplete_19 : decode cX2_isComplete 19 = .ok (.istore_n 2, 1) := by decide +kernel
theorem dX2_isComplete_20 : decode cX2_isComplete 20 = .ok (.iinc 3 1, 3) := by decide +kernel
theorem dX2_isComplete_23 : decode cX2_isComplete 23 = .ok (.goto (-19), 3) := by decide +kernel
theorem dX2_isComplete_26 : decode cX2_isComplete 26 = .ok (.iload_n 2, 1) := by decide +kernel
theorem dX2_isComplete_27 : decode cX2_isComplete 27 = .ok (.iconst 2, 1) := by decide +kernel
theorem dX2_isComplete_28 : decode cX2_isComplete 28 = .ok (.if_icmp .eq 8, 3) := by decide +kernel
theorem dX2_isComplete_31 : decode cX2_isComplete 31 = .ok (.iload_n 2, 1) := by decide +kernel
theorem dX2_isComplete_32 : decode cX2_isComplete 32 = .ok (.iconst 3, 1) := by decide +kernel
theorem dX2_isComplete_33 : decode cX2_isComplete 33 = .ok (.if_icmp .ne 7, 3) := by decide +kernel
theorem dX2_isComplete_36 : decode cX2_isComplete 36 = .ok (.iconst 1, 1) := by decide +kernel
theorem dX2_isComplete_37 : decode cX2_isComplete 37 = .ok (.goto 4, 3) := by decide +kernel
theorem dX2_isComplete_40 : decode cX2_isComplete 40 = .ok (.iconst 0, 1) := by decide +kernel
theorem dX2_isComplete_41 : decode cX2_isComplete 41 = .ok (.ireturn, 1) := by decide +kernel
theorem dX2_stateAt_0 : decode cX2_stateAt 0 = .ok (.aload_n 0, 1) := by decide +kernel
theorem dX2_stateAt_1 : decode cX2_stateAt 1 = .ok (.iload_n 1, 1) := by decide +kernel
theorem dX2_stateAt_2 : decode cX2_stateAt 2 = .ok (.invokevirtual 23, 3) := by decide +kernel
theorem dX2_stateAt_5 : decode cX2_stateAt 5 = .ok (.istore 4, 2) := by decide +kernel
theorem dX2_stateAt_7 : decode cX2_stateAt 7 = .ok (.aload_n 0, 1) := by decide +kernel
theorem dX2_stateAt_8 : decode cX2_stateAt 8 = .ok (.getfield 9, 3) := by decide +kernel
theorem dX2_stateAt_11 : decode cX2_stateAt 11 = .ok (.iload_n 1, 1) := by decide +kernel
theorem dX2_stateAt_12 : decode cX2_stateAt 12 = .ok (.iaload, 1) := by decide +kernel
theorem dX2_stateAt_13 : decode cX2_stateAt 13 = .ok (.bipush 44, 2) := by decide +kernel
theorem dX2_stateAt_15 : decode cX2_stateAt 15 = .ok (.if_icmp .ne 7, 3) := by decide +kernel
theorem dX2_stateAt_18 : decode cX2_stateAt 18 = .ok (.iconst 1, 1) := by decide +kernel
theorem dX2_stateAt_19 : decode cX2_stateAt 19 = .ok (.goto 4, 3) := by decide +kernel
theorem dX2_stateAt_22 : decode cX2_stateAt 22 = .ok (.iconst 0, 1) := by decide +kernel
theorem dX2_stateAt_23 : decode cX2_stateAt 23 = .ok (.istore 5, 2) := by decide +kernel
theorem dX2_stateAt_25 : decode cX2_stateAt 25 = .ok (.iload_n 2, 1) := by decide +kernel
theorem dX2_stateAt_26 : decode cX2_stateAt 26 = .ok (.tableswitch 114 0 3 #[30, 49, 77, 103], 30) := by decide +kernel
theorem dX2_stateAt_56 : decode cX2_stateAt 56 = .ok (.iload 4, 2) := by decide +kernel
theorem dX2_stateAt_58 : decode cX2_stateAt 58 = .ok (.ifCond .lt 15, 3) := by decide +kernel
theorem dX2_stateAt_61 : decode cX2_stateAt 61 = .ok (.iload 4, 2) := by decide +kernel
theorem dX2_stateAt_63 : decode cX2_stateAt 63 = .ok (.iload_n 3, 1) := by decide +kernel
theorem dX2_stateAt_64 : decode cX2_stateAt 64 = .ok (.iconst 1, 1) := by decide +kernel
theorem dX2_stateAt_65 : decode cX2_stateAt 65 = .ok (.isub, 1) := by decide +kernel
theorem dX2_stateAt_66 : decode cX2_stateAt 66 = .ok (.if_icmp .ge 7, 3) := by decide +kernel
theorem dX2_stateAt_69 : decode cX2_stateAt 69 = .ok (.iconst 1, 1) := by decide +kernel
theorem dX2_stateAt_70 : decode cX2_stateAt 70 = .ok (.goto 4, 3) := by decide +kernel
theorem dX2_stateAt_73 : decode cX2_stateAt 73 = .ok (.iconst 4, 1) := by decide +kernel
theorem dX2_stateAt_74 : decode cX2_stateAt 74 = .ok (.ireturn, 1) := by decide +kernel
theorem dX2_stateAt_75 : decode cX2_stateAt 75 = .ok (.iload_n 1, 1) := by decide +kernel
theorem dX2_stateAt_76 : decode cX2_stateAt 76 = .ok (.ifCond .le 25, 3) := by decide +kernel
theorem dX2_stateAt_79 : decode cX2_stateAt 79 = .ok (.iload 4, 2) := by decide +kernel
theorem dX2_stateAt_81 : decode cX2_stateAt 81 = .ok (.aload_n 0, 1) := by decide +kernel
theorem dX2_stateAt_82 : decode cX2_stateAt 82 = .ok (.iload_n 1, 1) := by decide +kernel
theorem dX2_stateAt_83 : decode cX2_stateAt 83 = .ok (.iconst 1, 1) := by decide +kernel
theorem dX2_stateAt_84 : decode cX2_stateAt 84 = .ok (.isub, 1) := by decide +kernel
theorem dX2_stateAt_85 : decode cX2_stateAt 85 = .ok (.invokevirtual 23, 3) := by decide +kernel
theorem dX2_stateAt_88 : decode cX2_stateAt 88 = .ok (.if_icmp .le 13, 3) := by decide +kernel
theorem dX2_stateAt_91 : decode cX2_stateAt 91 = .ok (.iload 4, 2) := by decide +kernel
theorem dX2_stateAt_93 : decode cX2_stateAt 93 = .ok (.iload_n 3, 1) := by decide +kernel
theorem dX2_stateAt_94 : decode cX2_stateAt 94 = .ok (.if_icmp .ge 7, 3) := by decide +kernel
theorem dX2_stateAt_97 : decode cX2_stateAt 97 = .ok (.iconst 2, 1) := by decide +kernel
theorem dX2_stateAt_98 : decode cX2_stateAt 98 = .ok (.goto 4, 3) := by decide +kernel
theorem dX2_stateAt_101 : decode cX2_stateAt 101 = .ok (.iconst 4, 1) := by decide +kernel
theorem dX2_stateAt_102 : decode cX2_stateAt 102 = .ok (.ireturn, 1) := by decide +kernel
theorem dX2_stateAt_103 : decode cX2_stateAt 103 = .ok (.iload 5, 2) := by decide +kernel
theorem dX2_stateAt_105 : decode cX2_stateAt 105 = .ok (.ifCond .eq 7, 3) := by decide +kernel
theorem dX2_stateAt_108 : decode cX2_stateAt 108 = .ok (.iconst 0, 1) := by decide +kernel
theorem dX2_stateAt_109 : decode cX2_stateAt 109 = .ok (.goto 19, 3) := by decide +kernel
theorem dX2_stateAt_112 : decode cX2_stateAt 112 = .ok (.aload_n 0, 1) := by decide +kernel
theorem dX2_stateAt_113 : decode cX2_stateAt 113 = .ok (.getfield 9, 3) := by decide +kernel
theorem dX2_stateAt_116 : decode cX2_stateAt 116 = .ok (.iload_n 1, 1) := by decide +kernel
theorem dX2_stateAt_117 : decode cX2_stateAt 117 = .ok (.iaload, 1) := by decide +kernel
theorem dX2_stateAt_118 : decode cX2_stateAt 118 = .ok (.bipush 33, 2) := by decide +kernel
theorem dX2_stateAt_120 : decode cX2_stateAt 120 = .ok (.if_icmp .ne 7, 3) := by decide +kernel
theorem dX2_stateAt_123 : decode cX2_stateAt 123 = .ok (.iconst 3, 1) := by decide +kernel
theorem dX2_stateAt_124 : decode cX2_stateAt 124 = .ok (.goto 4, 3) := by decide +kernel
theorem dX2_stateAt_127 : decode cX2_stateAt 127 = .ok (.iconst 4, 1) := by decide +kernel
theorem dX2_stateAt_128 : decode cX2_stateAt 128 = .ok (.ireturn, 1) := by decide +kernel
theorem dX2_stateAt_129 : decode cX2_stateAt 129 = .ok (.iload 5, 2) := by decide +kernel
theorem dX2_stateAt_131 : decode cX2_stateAt 131 = .ok (.ifCond .eq 7, 3) := by decide +kernel
theorem dX2_stateAt_134 : decode cX2_stateAt 134 = .ok (.iconst 0, 1) := by decide +kernel
theorem dX2_stateAt_135 : decode cX2_stateAt 135 = .ok (.goto 4, 3) := by decide +kernel
theorem dX2_stateAt_138 : decode cX2_stateAt 138 = .ok (.iconst 4, 1) := by decide +kernel
theorem dX2_stateAt_139 : decode cX2_stateAt 139 = .ok (.ireturn, 1) := by decide +kernel
theorem dX2_stateAt_140 : decode cX2_stateAt 140 = .ok (.iconst 4, 1) := by decide +kernel
theorem dX2_stateAt_141 : decode cX2_stateAt 141 = .ok (.ireturn, 1) := by decide +kernel
theorem dX2_nodeAt_0 : decode cX2_nodeAt 0 = .ok (.aload_n 0, 1) := by decide +kernel
theorem dX2_nodeAt_1 : decode cX2_nodeAt 1 = .ok (.getfield 9, 3) := by decide +kernel
theorem dX2_nodeAt_4 : decode cX2_nodeAt 4 = .ok (.iload_n 1, 1) := by decide +kernel
theorem dX2_nodeAt_5 : decode cX2_nodeAt 5 = .ok (.iaload, 1) := by decide +kernel
theorem dX2_nodeAt_6 : decode cX2_nodeAt 6 = .ok (.bipush 97, 2) := by decide +kernel
theorem dX2_nodeAt_8 : decode cX2_nodeAt 8 = .ok (.isub, 1) := by decide +kernel
theorem dX2_nodeAt_9 : decode cX2_nodeAt 9 = .ok (.ireturn, 1) := by decide +kernel
theorem dX2_isMarked_0 : decode cX2_isMarked 0 = .ok (.iload_n 1, 1) := by decide +kernel
theorem dX2_isMarked_1 : decode cX2_isMarked 1 = .ok (.iconst 2, 1) := by decide +kernel
theorem dX2_isMarked_2 : decode cX2_isMarked 2 = .ok (.iadd, 1) := by decide +kernel
theorem dX2_isMarked_3 : decode cX2_isMarked 3 = .ok (.aload_n 0, 1) := by decide +kernel
theorem dX2_isMarked_4 : decode cX2_isMarked 4 = .ok (.getfield 15, 3) := by decide +kernel
theorem dX2_isMarked_7 : decode cX2_isMarked 7 = .ok (.if_icmp .ge 20, 3) := by decide +kernel
theorem dX2_isMarked_10 : decode cX2_isMarked 10 = .ok (.aload_n 0, 1) := by decide +kernel
theorem dX2_isMarked_11 : decode cX2_isMarked 11 = .ok (.getfield 9, 3) := by decide +kernel
theorem dX2_isMarked_14 : decode cX2_isMarked 14 = .ok (.iload_n 1, 1) := by decide +kernel
theorem dX2_isMarked_15 : decode cX2_isMarked 15 = .ok (.iconst 2, 1) := by decide +kernel
theorem dX2_isMarked_16 : decode cX2_isMarked 16 = .ok (.iadd, 1) := by decide +kernel
theorem dX2_isMarked_17 : decode cX2_isMarked 17 = .ok (.iaload, 1) := by decide +kernel
theorem dX2_isMarked_18 : decode cX2_isMarked 18 = .ok (.bipush 33, 2) := by decide +kernel
theorem dX2_isMarked_20 : decode cX2_isMarked 20 = .ok (.if_icmp .ne 7, 3) := by decide +kernel
theorem dX2_isMarked_23 : decode cX2_isMarked 23 = .ok (.iconst 1, 1) := by decide +kernel
theorem dX2_isMarked_24 : decode cX2_isMarked 24 = .ok (.goto 4, 3) := by decide +kernel
theorem dX2_isMarked_27 : decode cX2_isMarked 27 = .ok (.iconst 0, 1) := by decide +kernel
theorem dX2_isMarked_28 : decode cX2_isMarked 28 = .ok (.ireturn, 1) := by decide +kernel
theorem dX3_init_0 : decode cX3_init 0 = .ok (.aload_n 0, 1) := by decide +kernel
theorem dX3_init_1 : decode cX3_init 1 = .ok (.invokespecial 3, 3) := by decide +kernel
theorem dX3_init_4 : decode cX3_init 4 = .ok (.aload_n 0, 1) := by decide +kernel
theorem dX3_init_5 : decode cX3_init 5 = .ok (.bipush 12, 2) := by decide +kernel
theorem dX3_init_7 : decode cX3_init 7 = .ok (.newarray .int, 2) := by decide +kernel
theorem dX3_init_9 : decode cX3_init 9 = .ok (.putfield 9, 3) := by decide +kernel
theorem dX3_init_12 : decode cX3_init 12 = .ok (.aload_n 0, 1) := by decide +kernel
theorem dX3_init_13 : decode cX3_init 13 = .ok (.getfield 9, 3) := by decide +kernel
theorem dX3_init_16 : decode cX3_init 16 = .ok (.iconst (-1), 1) := by decide +kernel
theorem dX3_init_17 : decode cX3_init 17 = .ok (.invokestatic 15, 3) := by decide +kernel
theorem dX3_init_20 : decode cX3_init 20 = .ok (.return_, 1) := by decide +kernel
theorem dX3_clear_0 : decode cX3_clear 0 = .ok (.aload_n 0, 1) := by decide +kernel
theorem dX3_clear_1 : decode cX3_clear 1 = .ok (.getfield 9, 3) := by decide +kernel
theorem dX3_clear_4 : decode cX3_clear 4 = .ok (.iconst (-1), 1) := by decide +kernel
theorem dX3_clear_5 : decode cX3_clear 5 = .ok (.invokestatic 15, 3) := by decide +kernel
theorem dX3_clear_8 : decode cX3_clear 8 = .ok (.return_, 1) := by decide +kernel
theorem dX3_copyFrom_0 : decode cX3_copyFrom 0 = .ok (.aload_n 1, 1) := by decide +kernel
theorem dX3_copyFrom_1 : decode cX3_copyFrom 1 = .ok (.iconst 0, 1) := by decide +kernel
theorem dX3_copyFrom_2 : decode cX3_copyFrom 2 = .ok (.aload_n 0, 1) := by decide +kernel
theorem dX3_copyFrom_3 : decode cX3_copyFrom 3 = .ok (.getfield 9, 3) := by decide +kernel
theorem dX3_copyFrom_6 : decode cX3_copyFrom 6 = .ok (.iconst 0, 1) := by decide +kernel
theorem dX3_copyFrom_7 : decode cX3_copyFrom 7 = .ok (.bipush 12, 2) := by decide +kernel
theorem dX3_copyFrom_9 : decode cX3_copyFrom 9 = .ok (.invokestatic 21, 3) := by decide +kernel
theorem dX3_copyFrom_12 : decode cX3_copyFrom 12 = .ok (.return_, 1) := by decide +kernel
theorem dX3_isExposed_0 : decode cX3_isExposed 0 = .ok (.aload_n 0, 1) := by decide +kernel
theorem dX3_isExposed_1 : decode cX3_isExposed 1 = .ok (.getfield 9, 3) := by decide +kernel
theorem dX3_isExposed_4 : decode cX3_isExposed 4 = .ok (.iload_n 1, 1) := by decide +kernel
theorem dX3_isExposed_5 : decode cX3_isExposed 5 = .ok (.iaload, 1) := by decide +kernel
theorem dX3_isExposed_6 : decode cX3_isExposed 6 = .ok (.iconst (-1), 1) := by decide +kernel
theorem dX3_isExposed_7 : decode cX3_isExposed 7 = .ok (.if_icmp .ne 7, 3) := by decide +kernel
theorem dX3_isExposed_10 : decode cX3_isExposed 10 = .ok (.iconst 1, 1) := by decide +kernel
theorem dX3_isExposed_11 : decode cX3_isExposed 11 = .ok (.goto 4, 3) := by decide +kernel
theorem dX3_isExposed_14 : decode cX3_isExposed 14 = .ok (.iconst 0, 1) := by decide +kernel
theorem dX3_isExposed_15 : decode cX3_isExposed 15 = .ok (.ireturn, 1) := by decide +kernel
theorem dX3_has_0 : decode cX3_has 0 = .ok (.aload_n 0, 1) := by decide +kernel
theorem dX3_has_1 : decode cX3_has 1 = .ok (.getfield 9, 3) := by decide +kernel
theorem dX3_has_4 : decode cX3_has 4 = .ok (.iload_n 1, 1) := by decide +kernel
theorem dX3_has_5 : decode cX3_has 5 = .ok (.iaload, 1) := by decide +kernel
theorem dX3_has_6 : decode cX3_has 6 = .ok (.iload_n 2, 1) := by decide +kernel
theorem dX3_has_7 : decode cX3_has 7 = .ok (.if_icmp .ne 7, 3) := by decide +kernel
theorem dX3_has_10 : decode cX3_has 10 = .ok (.iconst 1, 1) := by decide +kernel
theorem dX3_has_11 : decode cX3_has 11 = .ok (.goto 4, 3) := by decide +kernel
theorem dX3_has_14 : decode cX3_has 14 = .ok (.iconst 0, 1) := by decide +kernel
theorem dX3_has_15 : decode cX3_has 15 = .ok (.ireturn, 1) := by decide +kernel
theorem dX3_join_0 : decode cX3_join 0 = .ok (.aload_n 0, 1) := by decide +kernel
theorem dX3_join_1 : decode cX3_join 1 = .ok (.getfield 9, 3) := by decide +kernel
theorem dX3_join_4 : decode cX3_join 4 = .ok (.iload_n 1, 1) := by decide +kernel
theorem dX3_join_5 : decode cX3_join 5 = .ok (.iload_n 2, 1) := by decide +kernel
theorem dX3_join_6 : decode cX3_join 6 = .ok (.iastore, 1) := by decide +kernel
theorem dX3_join_7 : decode cX3_join 7 = .ok (.aload_n 0, 1) := by decide +kernel
theorem dX3_join_8 : decode cX3_join 8 = .ok (.getfield 9, 3) := by decide +kernel
theorem dX3_join_11 : decode cX3_join 11 = .ok (.iload_n 2, 1) := by decide +kernel
theorem dX3_join_12 : decode cX3_join 12 = .ok (.iload_n 1, 1) := by decide +kernel
theorem dX3_join_13 : decode cX3_join 13 = .ok (.iastore, 1) := by decide +kernel
theorem dX3_join_14 : decode cX3_join 14 = .ok (.return_, 1) := by decide +kernel
theorem dX3_part_0 : decode cX3_part 0 = .ok (.aload_n 0, 1) := by decide +kernel
theorem dX3_part_1 : decode cX3_part 1 = .ok (.getfield 9, 3) := by decide +kernel
theorem dX3_part_4 : decode cX3_part 4 = .ok (.iload_n 1, 1) := by decide +kernel
theorem dX3_part_5 : decode cX3_part 5 = .ok (.iaload, 1) := by decide +kernel
theorem dX3_part_6 : decode cX3_part 6 = .ok (.istore_n 2, 1) := by decide +kernel
theorem dX3_part_7 : decode cX3_part 7 = .ok (.iload_n 2, 1) := by decide +kernel
theorem dX3_part_8 : decode cX3_part 8 = .ok (.iconst (-1), 1) := by decide +kernel
theorem dX3_part_9 : decode cX3_part 9 = .ok (.if_icmp .eq 17, 3) := by decide +kernel
theorem dX3_part_12 : decode cX3_part 12 = .ok (.aload_n 0, 1) := by decide +kernel
theorem dX3_part_13 : decode cX3_part 13 = .ok (.getfield 9, 3) := by decide +kernel
theorem dX3_part_16 : decode cX3_part 16 = .ok (.iload_n 2, 1) := by decide +kernel
theorem dX3_part_17 : decode cX3_part 17 = .ok (.iconst (-1), 1) := by decide +kernel
theorem dX3_part_18 : decode cX3_part 18 = .ok (.iastore, 1) := by decide +kernel
theorem dX3_part_19 : decode cX3_part 19 = .ok (.aload_n 0, 1) := by decide +kernel
theorem dX3_part_20 : decode cX3_part 20 = .ok (.getfield 9, 3) := by decide +kernel
theorem dX3_part_23 : decode cX3_part 23 = .ok (.iload_n 1, 1) := by decide +kernel
theorem dX3_part_24 : decode cX3_part 24 = .ok (.iconst (-1), 1) := by decide +kernel
theorem dX3_part_25 : decode cX3_part 25 = .ok (.iastore, 1) := by decide +kernel
theorem dX3_part_26 : decode cX3_part 26 = .ok (.return_, 1) := by decide +kernel
theorem dX3_size_0 : decode cX3_size 0 = .ok (.iconst 0, 1) := by decide +kernel
theorem dX3_size_1 : decode cX3_size 1 = .ok (.istore_n 1, 1) := by decide +kernel
theorem dX3_size_2 : decode cX3_size 2 = .ok (.iconst 0, 1) := by decide +kernel
theorem dX3_size_3 : decode cX3_size 3 = .ok (.istore_n 2, 1) := by decide +kernel
theorem dX3_size_4 : decode cX3_size 4 = .ok (.iload_n 2, 1) := by decide +kernel
theorem dX3_size_5 : decode cX3_size 5 = .ok (.bipush 12, 2) := by decide +kernel
theorem dX3_size_7 : decode cX3_size 7 = .ok (.if_icmp .ge 22, 3) := by decide +kernel
theorem dX3_size_10 : decode cX3_size 10 = .ok (.aload_n 0, 1) := by decide +kernel
theorem dX3_size_11 : decode cX3_size 11 = .ok (.getfield 9, 3) := by decide +kernel
theorem dX3_size_14 : decode cX3_size 14 = .ok (.iload_n 2, 1) := by decide +kernel
theorem dX3_size_15 : decode cX3_size 15 = .ok (.iaload, 1) := by decide +kernel
theorem dX3_size_16 : decode cX3_size 16 = .ok (.iload_n 2, 1) := by decide +kernel
theorem dX3_size_17 : decode cX3_size 17 = .ok (.if_icmp .le 6, 3) := by decide +kernel
theorem dX3_size_20 : decode cX3_size 20 = .ok (.iinc 1 1, 3) := by decide +kernel
theorem dX3_size_23 : decode cX3_size 23 = .ok (.iinc 2 1, 3) := by decide +kernel
theorem dX3_size_26 : decode cX3_size 26 = .ok (.goto (-22), 3) := by decide +kernel
theorem dX3_size_29 : decode cX3_size 29 = .ok (.iload_n 1, 1) := by decide +kernel
theorem dX3_size_30 : decode cX3_size 30 = .ok (.ireturn, 1) := by decide +kernel
theorem dX3_swapAlong_0 : decode cX3_swapAlong 0 = .ok (.iconst 0, 1) := by decide +kernel
theorem dX3_swapAlong_1 : decode cX3_swapAlong 1 = .ok (.istore_n 3, 1) := by decide +kernel
theorem dX3_swapAlong_2 : decode cX3_swapAlong 2 = .ok (.iload_n 3, 1) := by decide +kernel
theorem dX3_swapAlong_3 : decode cX3_swapAlong 3 = .ok (.iload_n 2, 1) := by decide +kernel
theorem dX3_swapAlong_4 : decode cX3_swapAlong 4 = .ok (.if_icmp .ge 21, 3) := by decide +kernel
theorem dX3_swapAlong_7 : decode cX3_swapAlong 7 = .ok (.aload_n 0, 1) := by decide +kernel
theorem dX3_swapAlong_8 : decode cX3_swapAlong 8 = .ok (.aload_n 1, 1) := by decide +kernel
theorem dX3_swapAlong_9 : decode cX3_swapAlong 9 = .ok (.iload_n 3, 1) := by decide +kernel
theorem dX3_swapAlong_10 : decode cX3_swapAlong 10 = .ok (.iaload, 1) := by decide +kernel
theorem dX3_swapAlong_11 : decode cX3_swapAlong 11 = .ok (.aload_n 1, 1) := by decide +kernel
theorem dX3_swapAlong_12 : decode cX3_swapAlong 12 = .ok (.iload_n 3, 1) := by decide +kernel
theorem dX3_swapAlong_13 : decode cX3_swapAlong 13 = .ok (.iconst 1, 1) := by decide +kernel
theorem dX3_swapAlong_14 : decode cX3_swapAlong 14 = .ok (.iadd, 1) := by decide +kernel
theorem dX3_swapAlong_15 : decode cX3_swapAlong 15 = .ok (.iaload, 1) := by decide +kernel
theorem dX3_swapAlong_16 : decode cX3_swapAlong 16 = .ok (.invokevirtual 27, 3) := by decide +kernel
theorem dX3_swapAlong_19 : decode cX3_swapAlong 19 = .ok (.iinc 3 2, 3) := by decide +kernel
theorem dX3_swapAlong_22 : decode cX3_swapAlong 22 = .ok (.goto (-20), 3) := by decide +kernel
theorem dX3_swapAlong_25 : decode cX3_swapAlong 25 = .ok (.return_, 1) := by decide +kernel
theorem dX4_init_0 : decode cX4_init 0 = .ok (.aload_n 0, 1) := by decide +kernel
theorem dX4_init_1 : decode cX4_init 1 = .ok (.invokespecial 3, 3) := by decide +kernel
theorem dX4_init_4 : decode cX4_init 4 = .ok (.aload_n 0, 1) := by decide +kernel
theorem dX4_init_5 : decode cX4_init 5 = .ok (.sipush 4096, 3) := by decide +kernel
theorem dX4_init_8 : decode cX4_init 8 = .ok (.newarray .int, 2) := by decide +kernel
theorem dX4_init_10 : decode cX4_init 10 = .ok (.putfield 9, 3) := by decide +kernel
theorem dX4_init_13 : decode cX4_init 13 = .ok (.aload_n 0, 1) := by decide +kernel
theorem dX4_init_14 : decode cX4_init 14 = .ok (.sipush 4096, 3) := by decide +kernel
theorem dX4_init_17 : decode cX4_init 17 = .ok (.newarray .int, 2) := by decide +kernel
theorem dX4_init_19 : decode cX4_init 19 = .ok (.putfield 15, 3) := by decide +kernel
theorem dX4_init_22 : decode cX4_init 22 = .ok (.aload_n 0, 1) := by decide +kernel
theorem dX4_init_23 : decode cX4_init 23 = .ok (.new 18, 3) := by decide +kernel
theorem dX4_init_26 : decode cX4_init 26 = .ok (.dup, 1) := by decide +kernel
theorem dX4_init_27 : decode cX4_init 27 = .ok (.invokespecial 20, 3) := by decide +kernel
theorem dX4_init_30 : decode cX4_init 30 = .ok (.putfield 21, 3) := by decide +kernel
theorem dX4_init_33 : decode cX4_init 33 = .ok (.aload_n 0, 1) := by decide +kernel
theorem dX4_init_34 : decode cX4_init 34 = .ok (.iconst 0, 1) := by decide +kernel
theorem dX4_init_35 : decode cX4_init 35 = .ok (.putfield 25, 3) := by decide +kernel
theorem dX4_init_38 : decode cX4_init 38 = .ok (.aload_n 0, 1) := by decide +kernel
theorem dX4_init_39 : decode cX4_init 39 = .ok (.iconst (-1), 1) := by decide +kernel
theorem dX4_init_40 : decode cX4_init 40 = .ok (.putfield 29, 3) := by decide +kernel
theorem dX4_init_43 : decode cX4_init 43 = .ok (.aload_n 0, 1) := by decide +kernel
theorem dX4_init_44 : decode cX4_init 44 = .ok (.aload_n 1, 1) := by decide +kernel
theorem dX4_init_45 : decode cX4_init 45 = .ok (.putfield 33, 3) := by decide +kernel
theorem dX4_init_48 : decode cX4_init 48 = .ok (.return_, 1) := by decide +kernel
theorem dX4_learn_0 : decode cX4_learn 0 = .ok (.aload_n 0, 1) := by decide +kernel
theorem dX4_learn_1 : decode cX4_learn 1 = .ok (.getfield 29, 3) := by decide +kernel
theorem dX4_learn_4 : decode cX4_learn 4 = .ok (.aload_n 0, 1) := by decide +kernel
theorem dX4_learn_5 : decode cX4_learn 5 = .ok (.getfield 33, 3) := by decide +kernel
theorem dX4_learn_8 : decode cX4_learn 8 = .ok (.getfield 37, 3) := by decide +kernel
theorem dX4_learn_11 : decode cX4_learn 11 = .ok (.if_icmp .ne 4, 3) := by decide +kernel
theorem dX4_learn_14 : decode cX4_learn 14 = .ok (.return_, 1) := by decide +kernel
theorem dX4_learn_15 : decode cX4_learn 15 = .ok (.aload_n 0, 1) := by decide +kernel
theorem dX4_learn_16 : decode cX4_learn 16 = .ok (.aload_n 0, 1) := by decide +kernel
theorem dX4_learn_17 : decode cX4_learn 17 = .ok (.getfield 33, 3) := by decide +kernel
theorem dX4_learn_20 : decode cX4_learn 20 = .ok (.getfield 37, 3) := by decide +kernel
theorem dX4_learn_23 : decode cX4_learn 23 = .ok (.putfield 29, 3) := by decide +kernel
theorem dX4_learn_26 : decode cX4_learn 26 = .ok (.aload_n 0, 1) := by decide +kernel
theorem dX4_learn_27 : decode cX4_learn 27 = .ok (.iconst 0, 1) := by decide +kernel
theorem dX4_learn_28 : decode cX4_learn 28 = .ok (.putfield 25, 3) := by decide +kernel
theorem dX4_learn_31 : decode cX4_learn 31 = .ok (.aload_n 0, 1) := by decide +kernel
theorem dX4_learn_32 : decode cX4_learn 32 = .ok (.getfield 15, 3) := by decide +kernel
theorem dX4_learn_35 : decode cX4_learn 35 = .ok (.iconst 0, 1) := by decide +kernel
theorem dX4_learn_36 : decode cX4_learn 36 = .ok (.invokestatic 42, 3) := by decide +kernel
theorem dX4_learn_39 : decode cX4_learn 39 = .ok (.aload_n 0, 1) := by decide +kernel
theorem dX4_learn_40 : decode cX4_learn 40 = .ok (.getfield 33, 3) := by decide +kernel
theorem dX4_learn_43 : decode cX4_learn 43 = .ok (.invokevirtual 48, 3) := by decide +kernel
theorem dX4_learn_46 : decode cX4_learn 46 = .ok (.istore_n 1, 1) := by decide +kernel
theorem dX4_learn_47 : decode cX4_learn 47 = .ok (.aload_n 0, 1) := by decide +kernel
theorem dX4_learn_48 : decode cX4_learn 48 = .ok (.iload_n 1, 1) := by decide +kernel
theorem dX4_learn_49 : decode cX4_learn 49 = .ok (.iconst 0, 1) := by decide +kernel
theorem dX4_learn_50 : decode cX4_learn 50 = .ok (.invokevirtual 52, 3) := by decide +kernel
theorem dX4_learn_53 : decode cX4_learn 53 = .ok (.iconst 0, 1) := by decide +kernel
theorem dX4_learn_54 : decode cX4_learn 54 = .ok (.istore_n 2, 1) := by decide +kernel
theorem dX4_learn_55 : decode cX4_learn 55 = .ok (.iload_n 2, 1) := by decide +kernel
theorem dX4_learn_56 : decode cX4_learn 56 = .ok (.aload_n 0, 1) := by decide +kernel
theorem dX4_learn_57 : decode cX4_learn 57 = .ok (.getfield 33, 3) := by decide +kernel
theorem dX4_learn_60 : decode cX4_learn 60 = .ok (.getfield 56, 3) := by decide +kernel
theorem dX4_learn_63 : decode cX4_learn 63 = .ok (.if_icmp .ge 21, 3) := by decide +kernel
theorem dX4_learn_66 : decode cX4_learn 66 = .ok (.aload_n 0, 1) := by decide +kernel
theorem dX4_learn_67 : decode cX4_learn 67 = .ok (.iload_n 1, 1) := by decide +kernel
theorem dX4_learn_68 : decode cX4_learn 68 = .ok (.iconst 1, 1) := by decide +kernel
theorem dX4_learn_69 : decode cX4_learn 69 = .ok (.iload_n 2, 1) := by decide +kernel
theorem dX4_learn_70 : decode cX4_learn 70 = .ok (.ishl, 1) := by decide +kernel
theorem dX4_learn_71 : decode cX4_learn 71 = .ok (.iconst (-1), 1) := by decide +kernel
theorem dX4_learn_72 : decode cX4_learn 72 = .ok (.ixor, 1) := by decide +kernel
theorem dX4_learn_73 : decode cX4_learn 73 = .ok (.iand, 1) := by decide +kernel
theorem dX4_learn_74 : decode cX4_learn 74 = .ok (.iconst 0, 1) := by decide +kernel
theorem dX4_learn_75 : decode cX4_learn 75 = .ok (.invokevirtual 52, 3) := by decide +kernel
theorem dX4_learn_78 : decode cX4_learn 78 = .ok (.iinc 2 1, 3) := by decide +kernel
theorem dX4_learn_81 : decode cX4_learn 81 = .ok (.goto (-26), 3) := by decide +kernel
theorem dX4_learn_84 : decode cX4_learn 84 = .ok (.return_, 1) := by decide +kernel
theorem dX4_findOut_0 : decode cX4_findOut 0 = .ok (.aload_n 0, 1) := by decide +kernel
theorem dX4_findOut_1 : decode cX4_findOut 1 = .ok (.getfield 15, 3) := by decide +kernel
theorem dX4_findOut_4 : decode cX4_findOut 4 = .ok (.iload_n 1, 1) := by decide +kernel
theorem dX4_findOut_5 : decode cX4_findOut 5 = .ok (.iaload, 1) := by decide +kernel
theorem dX4_findOut_6 : decode cX4_findOut 6 = .ok (.ifCond .eq 4, 3) := by decide +kernel
theorem dX4_findOut_9 : decode cX4_findOut 9 = .ok (.return_, 1) := by decide +kernel
theorem dX4_findOut_10 : decode cX4_findOut 10 = .ok (.iload_n 2, 1) := by decide +kernel
theorem dX4_findOut_11 : decode cX4_findOut 11 = .ok (.istore_n 3, 1) := by decide +kernel
theorem dX4_findOut_12 : decode cX4_findOut 12 = .ok (.iload_n 3, 1) := by decide +kernel
theorem dX4_findOut_13 : decode cX4_findOut 13 = .ok (.aload_n 0, 1) := by decide +kernel
theorem dX4_findOut_14 : decode cX4_findOut 14 = .ok (.getfield 33, 3) := by decide +kernel
theorem dX4_findOut_17 : decode cX4_findOut 17 = .ok (.getfield 56, 3) := by decide +kernel
theorem dX4_findOut_20 : decode cX4_findOut 20 = .ok (.if_icmp .ge 17, 3) := by decide +kernel
theorem dX4_findOut_23 : decode cX4_findOut 23 = .ok (.iload_n 1, 1) := by decide +kernel
theorem dX4_findOut_24 : decode cX4_findOut 24 = .ok (.iload_n 3, 1) := by decide +kernel
theorem dX4_findOut_25 : decode cX4_findOut 25 = .ok (.ishr, 1) := by decide +kernel
theorem dX4_findOut_26 : decode cX4_findOut 26 = .ok (.iconst 1, 1) := by decide +kernel
theorem dX4_findOut_27 : decode cX4_findOut 27 = .ok (.iand, 1) := by decide +kernel
theorem dX4_findOut_28 : decode cX4_findOut 28 = .ok (.ifCond .ne 9, 3) := by decide +kernel
theorem dX4_findOut_31 : decode cX4_findOut 31 = .ok (.iinc 3 1, 3) := by decide +kernel
theorem dX4_findOut_34 : decode cX4_findOut 34 = .ok (.goto (-22), 3) := by decide +kernel
theorem dX4_findOut_37 : decode cX4_findOut 37 = .ok (.iload_n 3, 1) := by decide +kernel
theorem dX4_findOut_38 : decode cX4_findOut 38 = .ok (.aload_n 0, 1) := by decide +kernel
theorem dX4_findOut_39 : decode cX4_findOut 39 = .ok (.getfield 33, 3) := by decide +kernel
theorem dX4_findOut_42 : decode cX4_findOut 42 = .ok (.getfield 56, 3) := by decide +kernel
theorem dX4_findOut_45 : decode cX4_findOut 45 = .ok (.if_icmp .lt 18, 3) := by decide +kernel
theorem dX4_findOut_48 : decode cX4_findOut 48 = .ok (.aload_n 0, 1) := by decide +kernel
theorem dX4_findOut_49 : decode cX4_findOut 49 = .ok (.getfield 9, 3) := by decide +kernel
theorem dX4_findOut_52 : decode cX4_findOut 52 = .ok (.iload_n 1, 1) := by decide +kernel
theorem dX4_findOut_53 : decode cX4_findOut 53 = .ok (.iconst 0, 1) := by decide +kernel
theorem dX4_findOut_54 : decode cX4_findOut 54 = .ok (.iastore, 1) := by decide +kernel
theorem dX4_findOut_55 : decode cX4_findOut 55 = .ok (.aload_n 0, 1) := by decide +kernel
theorem dX4_findOut_56 : decode cX4_findOut 56 = .ok (.getfield 15, 3) := by decide +kernel
theorem dX4_findOut_59 : decode cX4_findOut 59 = .ok (.iload_n 1, 1) := by decide +kernel
theorem dX4_findOut_60 : decode cX4_findOut 60 = .ok (.iconst 1, 1) := by decide +kernel
theorem dX4_findOut_61 : decode cX4_findOut 61 = .ok (.iastore, 1) := by decide +kernel
theorem dX4_findOut_62 : decode cX4_findOut 62 = .ok (.return_, 1) := by decide +kernel
theorem dX4_findOut_63 : decode cX4_findOut 63 = .ok (.iload_n 1, 1) := by decide +kernel
theorem dX4_findOut_64 : decode cX4_findOut 64 = .ok (.iconst 1, 1) := by decide +kernel
theorem dX4_findOut_65 : decode cX4_findOut 65 = .ok (.iload_n 3, 1) := by decide +kernel
theorem dX4_findOut_66 : decode cX4_findOut 66 = .ok (.ishl, 1) := by decide +kernel
theorem dX4_findOut_67 : decode cX4_findOut 67 = .ok (.iconst (-1), 1) := by decide +kernel
theorem dX4_findOut_68 : decode cX4_findOut 68 = .ok (.ixor, 1) := by decide +kernel
theorem dX4_findOut_69 : decode cX4_findOut 69 = .ok (.iand, 1) := by decide +kernel
theorem dX4_findOut_70 : decode cX4_findOut 70 = .ok (.istore 4, 2) := by decide +kernel
theorem dX4_findOut_72 : decode cX4_findOut 72 = .ok (.aload_n 0, 1) := by decide +kernel
theorem dX4_findOut_73 : decode cX4_findOut 73 = .ok (.iload 4, 2) := by decide +kernel
theorem dX4_findOut_75 : decode cX4_findOut 75 = .ok (.iload_n 3, 1) := by decide +kernel
theorem dX4_findOut_76 : decode cX4_findOut 76 = .ok (.iconst 1, 1) := by decide +kernel
theorem dX4_findOut_77 : decode cX4_findOut 77 = .ok (.iadd, 1) := by decide +kernel
theorem dX4_findOut_78 : decode cX4_findOut 78 = .ok (.invokevirtual 52, 3) := by decide +kernel
theorem dX4_findOut_81 : decode cX4_findOut 81 = .ok (.aload_n 0, 1) := by decide +kernel
theorem dX4_findOut_82 : decode cX4_findOut 82 = .ok (.getfield 9, 3) := by decide +kernel
theorem dX4_findOut_85 : decode cX4_findOut 85 = .ok (.iload 4, 2) := by decide +kernel
theorem dX4_findOut_87 : decode cX4_findOut 87 = .ok (.iaload, 1) := by decide +kernel
theorem dX4_findOut_88 : decode cX4_findOut 88 = .ok (.istore 5, 2) := by decide +kernel
theorem dX4_findOut_90 : decode cX4_findOut 90 = .ok (.aload_n 0, 1) := by decide +kernel
theorem dX4_findOut_91 : decode cX4_findOut 91 = .ok (.getfield 15, 3) := by decide +kernel
theorem dX4_findOut_94 : decode cX4_findOut 94 = .ok (.iload 4, 2) := by decide +kernel
theorem dX4_findOut_96 : decode cX4_findOut 96 = .ok (.iaload, 1) := by decide +kernel
theorem dX4_findOut_97 : decode cX4_findOut 97 = .ok (.istore 6, 2) := by decide +kernel
theorem dX4_findOut_99 : decode cX4_findOut 99 = .ok (.iload 4, 2) := by decide +kernel
theorem dX4_findOut_101 : decode cX4_findOut 101 = .ok (.aload_n 0, 1) := by decide +kernel
theorem dX4_findOut_102 : decode cX4_findOut 102 = .ok (.getfield 33, 3) := by decide +kernel
theorem dX4_findOut_105 : decode cX4_findOut 105 = .ok (.getfield 59, 3) := by decide +kernel
theorem dX4_findOut_108 : decode cX4_findOut 108 = .ok (.iload_n 3, 1) := by decide +kernel
theorem dX4_findOut_109 : decode cX4_findOut 109 = .ok (.iaload, 1) := by decide +kernel
theorem dX4_findOut_110 : decode cX4_findOut 110 = .ok (.iand, 1) := by decide +kernel
theorem dX4_findOut_111 : decode cX4_findOut 111 = .ok (.istore 7, 2) := by decide +kernel
theorem dX4_findOut_113 : decode cX4_findOut 113 = .ok (.iload_n 3, 1) := by decide +kernel
theorem dX4_findOut_114 : decode cX4_findOut 114 = .ok (.iconst 1, 1) := by decide +kernel
theorem dX4_findOut_115 : decode cX4_findOut 115 = .ok (.iadd, 1) := by decide +kernel
theorem dX4_findOut_116 : decode cX4_findOut 116 = .ok (.istore 8, 2) := by decide +kernel
theorem dX4_findOut_118 : decode cX4_findOut 118 = .ok (.iload 8, 2) := by decide +kernel
theorem dX4_findOut_120 : decode cX4_findOut 120 = .ok (.aload_n 0, 1) := by decide +kernel
theorem dX4_findOut_121 : decode cX4_findOut 121 = .ok (.getfield 33, 3) := by decide +kernel
theorem dX4_findOut_124 : decode cX4_findOut 124 = .ok (.getfield 56, 3) := by decide +kernel
theorem dX4_findOut_127 : decode cX4_findOut 127 = .ok (.if_icmp .ge 100, 3) := by decide +kernel
theorem dX4_findOut_130 : decode cX4_findOut 130 = .ok (.iload 7, 2) := by decide +kernel
theorem dX4_findOut_132 : decode cX4_findOut 132 = .ok (.iload 8, 2) := by decide +kernel
theorem dX4_findOut_134 : decode cX4_findOut 134 = .ok (.ishr, 1) := by decide +kernel
theorem dX4_findOut_135 : decode cX4_findOut 135 = .ok (.iconst 1, 1) := by decide +kernel
theorem dX4_findOut_136 : decode cX4_findOut 136 = .ok (.iand, 1) := by decide +kernel
theorem dX4_findOut_137 : decode cX4_findOut 137 = .ok (.ifCond .ne 6, 3) := by decide +kernel
theorem dX4_findOut_140 : decode cX4_findOut 140 = .ok (.goto 81, 3) := by decide +kernel
theorem dX4_findOut_143 : decode cX4_findOut 143 = .ok (.iload 4, 2) := by decide +kernel
theorem dX4_findOut_145 : decode cX4_findOut 145 = .ok (.iconst 1, 1) := by decide +kernel
theorem dX4_findOut_146 : decode cX4_findOut 146 = .ok (.iload 8, 2) := by decide +kernel
theorem dX4_findOut_148 : decode cX4_findOut 148 = .ok (.ishl, 1) := by decide +kernel
theorem dX4_findOut_149 : decode cX4_findOut 149 = .ok (.iconst (-1), 1) := by decide +kernel
theorem dX4_findOut_150 : decode cX4_findOut 150 = .ok (.ixor, 1) := by decide +kernel
theorem dX4_findOut_151 : decode cX4_findOut 151 = .ok (.iand, 1) := by decide +kernel
theorem dX4_findOut_152 : decode cX4_findOut 152 = .ok (.istore 9, 2) := by decide +kernel
theorem dX4_findOut_154 : decode cX4_findOut 154 = .ok (.aload_n 0, 1) := by decide +kernel
theorem dX4_findOut_155 : decode cX4_findOut 155 = .ok (.iload 9, 2) := by decide +kernel
theorem dX4_findOut_157 : decode cX4_findOut 157 = .ok (.iload_n 3, 1) := by decide +kernel
theorem dX4_findOut_158 : decode cX4_findOut 158 = .ok (.iconst 1, 1) := by decide +kernel
theorem dX4_findOut_159 : decode cX4_findOut 159 = .ok (.iadd, 1) := by decide +kernel
theorem dX4_findOut_160 : decode cX4_findOut 160 = .ok (.invokevirtual 52, 3) := by decide +kernel
theorem dX4_findOut_163 : decode cX4_findOut 163 = .ok (.aload_n 0, 1) := by decide +kernel
theorem dX4_findOut_164 : decode cX4_findOut 164 = .ok (.getfield 9, 3) := by decide +kernel
theorem dX4_findOut_167 : decode cX4_findOut 167 = .ok (.iload 9, 2) := by decide +kernel
theorem dX4_findOut_169 : decode cX4_findOut 169 = .ok (.iaload, 1) := by decide +kernel
theorem dX4_findOut_170 : decode cX4_findOut 170 = .ok (.iconst 1, 1) := by decide +kernel
theorem dX4_findOut_171 : decode cX4_findOut 171 = .ok (.iadd, 1) := by decide +kernel
theorem dX4_findOut_172 : decode cX4_findOut 172 = .ok (.iload 5, 2) := by decide +kernel
theorem dX4_findOut_174 : decode cX4_findOut 174 = .ok (.if_icmp .le 17, 3) := by decide +kernel
theorem dX4_findOut_177 : decode cX4_findOut 177 = .ok (.aload_n 0, 1) := by decide +kernel
theorem dX4_findOut_178 : decode cX4_findOut 178 = .ok (.getfield 9, 3) := by decide +kernel
theorem dX4_findOut_181 : decode cX4_findOut 181 = .ok (.iload 9, 2) := by decide +kernel
theorem dX4_findOut_183 : decode cX4_findOut 183 = .ok (.iaload, 1) := by decide +kernel
theorem dX4_findOut_184 : decode cX4_findOut 184 = .ok (.iconst 1, 1) := by decide +kernel
theorem dX4_findOut_185 : decode cX4_findOut 185 = .ok (.iadd, 1) := by decide +kernel
theorem dX4_findOut_186 : decode cX4_findOut 186 = .ok (.istore 5, 2) := by decide +kernel
theorem dX4_findOut_188 : decode cX4_findOut 188 = .ok (.iconst 0, 1) := by decide +kernel
theorem dX4_findOut_189 : decode cX4_findOut 189 = .ok (.istore 6, 2) := by decide +kernel
theorem dX4_findOut_191 : decode cX4_findOut 191 = .ok (.iload 6, 2) := by decide +kernel
theorem dX4_findOut_193 : decode cX4_findOut 193 = .ok (.aload_n 0, 1) := by decide +kernel
theorem dX4_findOut_194 : decode cX4_findOut 194 = .ok (.getfield 9, 3) := by decide +kernel
theorem dX4_findOut_197 : decode cX4_findOut 197 = .ok (.iload 9, 2) := by decide +kernel
theorem dX4_findOut_199 : decode cX4_findOut 199 = .ok (.iaload, 1) := by decide +kernel
theorem dX4_findOut_200 : decode cX4_findOut 200 = .ok (.iconst 1, 1) := by decide +kernel
theorem dX4_findOut_201 : decode cX4_findOut 201 = .ok (.iadd, 1) := by decide +kernel
theorem dX4_findOut_202 : decode cX4_findOut 202 = .ok (.iload 5, 2) := by decide +kernel
theorem dX4_findOut_204 : decode cX4_findOut 204 = .ok (.if_icmp .ne 13, 3) := by decide +kernel
theorem dX4_findOut_207 : decode cX4_findOut 207 = .ok (.aload_n 0, 1) := by decide +kernel
theorem dX4_findOut_208 : decode cX4_findOut 208 = .ok (.getfield 15, 3) := by decide +kernel
theorem dX4_findOut_211 : decode cX4_findOut 211 = .ok (.iload 9, 2) := by decide +kernel
theorem dX4_findOut_213 : decode cX4_findOut 213 = .ok (.iaload, 1) := by decide +kernel
theorem dX4_findOut_214 : decode cX4_findOut 214 = .ok (.goto 4, 3) := by decide +kernel
theorem dX4_findOut_217 : decode cX4_findOut 217 = .ok (.iconst 0, 1) := by decide +kernel
theorem dX4_findOut_218 : decode cX4_findOut 218 = .ok (.iadd, 1) := by decide +kernel
theorem dX4_findOut_219 : decode cX4_findOut 219 = .ok (.istore 6, 2) := by decide +kernel
theorem dX4_findOut_221 : decode cX4_findOut 221 = .ok (.iinc 8 1, 3) := by decide +kernel
theorem dX4_findOut_224 : decode cX4_findOut 224 = .ok (.goto (-106), 3) := by decide +kernel
theorem dX4_findOut_227 : decode cX4_findOut 227 = .ok (.aload_n 0, 1) := by decide +kernel
theorem dX4_findOut_228 : decode cX4_findOut 228 = .ok (.getfield 9, 3) := by decide +kernel
theorem dX4_findOut_231 : decode cX4_findOut 231 = .ok (.iload_n 1, 1) := by decide +kernel
theorem dX4_findOut_232 : decode cX4_findOut 232 = .ok (.iload 5, 2) := by decide +kernel
theorem dX4_findOut_234 : decode cX4_findOut 234 = .ok (.iastore, 1) := by decide +kernel
theorem dX4_findOut_235 : decode cX4_findOut 235 = .ok (.aload_n 0, 1) := by decide +kernel
theorem dX4_findOut_236 : decode cX4_findOut 236 = .ok (.getfield 15, 3) := by decide +kernel
theorem dX4_findOut_239 : decode cX4_findOut 239 = .ok (.iload_n 1, 1) := by decide +kernel
theorem dX4_findOut_240 : decode cX4_findOut 240 = .ok (.iload 6, 2) := by decide +kernel
theorem dX4_findOut_242 : decode cX4_findOut 242 = .ok (.iastore, 1) := by decide +kernel
theorem dX4_findOut_243 : decode cX4_findOut 243 = .ok (.return_, 1) := by decide +kernel
theorem dX4_number_0 : decode cX4_number 0 = .ok (.aload_n 0, 1) := by decide +kernel
theorem dX4_number_1 : decode cX4_number 1 = .ok (.invokevirtual 62, 3) := by decide +kernel
theorem dX4_number_4 : decode cX4_number 4 = .ok (.aload_n 0, 1) := by decide +kernel
theorem dX4_number_5 : decode cX4_number 5 = .ok (.getfield 9, 3) := by decide +kernel
theorem dX4_number_8 : decode cX4_number 8 = .ok (.aload_n 0, 1) := by decide +kernel
theorem dX4_number_9 : decode cX4_number 9 = .ok (.getfield 33, 3) := by decide +kernel
theorem dX4_number_12 : decode cX4_number 12 = .ok (.invokevirtual 48, 3) := by decide +kernel
theorem dX4_number_15 : decode cX4_number 15 = .ok (.iaload, 1) := by decide +kernel
theorem dX4_number_16 : decode cX4_number 16 = .ok (.ireturn, 1) := by decide +kernel
theorem dX4_howMany_0 : decode cX4_howMany 0 = .ok (.aload_n 0, 1) := by decide +kernel
theorem dX4_howMany_1 : decode cX4_howMany 1 = .ok (.invokevirtual 62, 3) := by decide +kernel
theorem dX4_howMany_4 : decode cX4_howMany 4 = .ok (.aload_n 0, 1) := by decide +kernel
theorem dX4_howMany_5 : decode cX4_howMany 5 = .ok (.getfield 15, 3) := by decide +kernel
theorem dX4_howMany_8 : decode cX4_howMany 8 = .ok (.aload_n 0, 1) := by decide +kernel
theorem dX4_howMany_9 : decode cX4_howMany 9 = .ok (.getfield 33, 3) := by decide +kernel
theorem dX4_howMany_12 : decode cX4_howMany 12 = .ok (.invokevirtual 48, 3) := by decide +kernel
theorem dX4_howMany_15 : decode cX4_howMany 15 = .ok (.iaload, 1) := by decide +kernel
theorem dX4_howMany_16 : decode cX4_howMany 16 = .ok (.ireturn, 1) := by decide +kernel
theorem dX4_exposing_0 : decode cX4_exposing 0 = .ok (.aload_n 0, 1) := by decide +kernel
theorem dX4_exposing_1 : decode cX4_exposing 1 = .ok (.invokevirtual 62, 3) := by decide +kernel
theorem dX4_exposing_4 : decode cX4_exposing 4 = .ok (.aload_n 0, 1) := by decide +kernel
theorem dX4_exposing_5 : decode cX4_exposing 5 = .ok (.getfield 33, 3) := by decide +kernel
theorem dX4_exposing_8 : decode cX4_exposing 8 = .ok (.invokevirtual 48, 3) := by decide +kernel
theorem dX4_exposing_11 : decode cX4_exposing 11 = .ok (.istore_n 2, 1) := by decide +kernel
theorem dX4_exposing_12 : decode cX4_exposing 12 = .ok (.iload_n 2, 1) := by decide +kernel
theorem dX4_exposing_13 : decode cX4_exposing 13 = .ok (.iconst 1, 1) := by decide +kernel
theorem dX4_exposing_14 : decode cX4_exposing 14 = .ok (.iload_n 1, 1) := by decide +kernel
theorem dX4_exposing_15 : decode cX4_exposing 15 = .ok (.ishl, 1) := by decide +kernel
theorem dX4_exposing_16 : decode cX4_exposing 16 = .ok (.iconst (-1), 1) := by decide +kernel
theorem dX4_exposing_17 : decode cX4_exposing 17 = .ok (.ixor, 1) := by decide +kernel
theorem dX4_exposing_18 : decode cX4_exposing 18 = .ok (.iand, 1) := by decide +kernel
theorem dX4_exposing_19 : decode cX4_exposing 19 = .ok (.istore_n 3, 1) := by decide +kernel
theorem dX4_exposing_20 : decode cX4_exposing 20 = .ok (.aload_n 0, 1) := by decide +kernel
theorem dX4_exposing_21 : decode cX4_exposing 21 = .ok (.getfield 9, 3) := by decide +kernel
theorem dX4_exposing_24 : decode cX4_exposing 24 = .ok (.iload_n 3, 1) := by decide +kernel
theorem dX4_exposing_25 : decode cX4_exposing 25 = .ok (.iaload, 1) := by decide +kernel
theorem dX4_exposing_26 : decode cX4_exposing 26 = .ok (.aload_n 0, 1) := by decide +kernel
theorem dX4_exposing_27 : decode cX4_exposing 27 = .ok (.getfield 9, 3) := by decide +kernel
theorem dX4_exposing_30 : decode cX4_exposing 30 = .ok (.iload_n 2, 1) := by decide +kernel
theorem dX4_exposing_31 : decode cX4_exposing 31 = .ok (.iaload, 1) := by decide +kernel
theorem dX4_exposing_32 : decode cX4_exposing 32 = .ok (.if_icmp .ne 12, 3) := by decide +kernel
theorem dX4_exposing_35 : decode cX4_exposing 35 = .ok (.aload_n 0, 1) := by decide +kernel
theorem dX4_exposing_36 : decode cX4_exposing 36 = .ok (.getfield 15, 3) := by decide +kernel
theorem dX4_exposing_39 : decode cX4_exposing 39 = .ok (.iload_n 3, 1) := by decide +kernel
theorem dX4_exposing_40 : decode cX4_exposing 40 = .ok (.iaload, 1) := by decide +kernel
theorem dX4_exposing_41 : decode cX4_exposing 41 = .ok (.goto 4, 3) := by decide +kernel
theorem dX4_exposing_44 : decode cX4_exposing 44 = .ok (.iconst 0, 1) := by decide +kernel
theorem dX4_exposing_45 : decode cX4_exposing 45 = .ok (.ireturn, 1) := by decide +kernel
theorem dX4_exposable_0 : decode cX4_exposable 0 = .ok (.aload_n 0, 1) := by decide +kernel
theorem dX4_exposable_1 : decode cX4_exposable 1 = .ok (.invokevirtual 62, 3) := by decide +kernel
theorem dX4_exposable_4 : decode cX4_exposable 4 = .ok (.aload_n 0, 1) := by decide +kernel
theorem dX4_exposable_5 : decode cX4_exposable 5 = .ok (.getfield 33, 3) := by decide +kernel
theorem dX4_exposable_8 : decode cX4_exposable 8 = .ok (.invokevirtual 48, 3) := by decide +kernel
theorem dX4_exposable_11 : decode cX4_exposable 11 = .ok (.istore_n 1, 1) := by decide +kernel
theorem dX4_exposable_12 : decode cX4_exposable 12 = .ok (.iconst 0, 1) := by decide +kernel
theorem dX4_exposable_13 : decode cX4_exposable 13 = .ok (.istore_n 2, 1) := by decide +kernel
theorem dX4_exposable_14 : decode cX4_exposable 14 = .ok (.iconst 0, 1) := by decide +kernel
theorem dX4_exposable_15 : decode cX4_exposable 15 = .ok (.istore_n 3, 1) := by decide +kernel
theorem dX4_exposable_16 : decode cX4_exposable 16 = .ok (.iload_n 3, 1) := by decide +kernel
theorem dX4_exposable_17 : decode cX4_exposable 17 = .ok (.aload_n 0, 1) := by decide +kernel
theorem dX4_exposable_18 : decode cX4_exposable 18 = .ok (.getfield 33, 3) := by decide +kernel
theorem dX4_exposable_21 : decode cX4_exposable 21 = .ok (.getfield 56, 3) := by decide +kernel
theorem dX4_exposable_24 : decode cX4_exposable 24 = .ok (.if_icmp .ge 36, 3) := by decide +kernel
theorem dX4_exposable_27 : decode cX4_exposable 27 = .ok (.aload_n 0, 1) := by decide +kernel
theorem dX4_exposable_28 : decode cX4_exposable 28 = .ok (.getfield 9, 3) := by decide +kernel
theorem dX4_exposable_31 : decode cX4_exposable 31 = .ok (.iload_n 1, 1) := by decide +kernel
theorem dX4_exposable_32 : decode cX4_exposable 32 = .ok (.iconst 1, 1) := by decide +kernel
theorem dX4_exposable_33 : decode cX4_exposable 33 = .ok (.iload_n 3, 1) := by decide +kernel
theorem dX4_exposable_34 : decode cX4_exposable 34 = .ok (.ishl, 1) := by decide +kernel
theorem dX4_exposable_35 : decode cX4_exposable 35 = .ok (.iconst (-1), 1) := by decide +kernel
theorem dX4_exposable_36 : decode cX4_exposable 36 = .ok (.ixor, 1) := by decide +kernel
theorem dX4_exposable_37 : decode cX4_exposable 37 = .ok (.iand, 1) := by decide +kernel
theorem dX4_exposable_38 : decode cX4_exposable 38 = .ok (.iaload, 1) := by decide +kernel
theorem dX4_exposable_39 : decode cX4_exposable 39 = .ok (.aload_n 0, 1) := by decide +kernel
theorem dX4_exposable_40 : decode cX4_exposable 40 = .ok (.getfield 9, 3) := by decide +kernel
theorem dX4_exposable_43 : decode cX4_exposable 43 = .ok (.iload_n 1, 1) := by decide +kernel
theorem dX4_exposable_44 : decode cX4_exposable 44 = .ok (.iaload, 1) := by decide +kernel
theorem dX4_exposable_45 : decode cX4_exposable 45 = .ok (.if_icmp .ne 9, 3) := by decide +kernel
theorem dX4_exposable_48 : decode cX4_exposable 48 = .ok (.iload_n 2, 1) := by decide +kernel
theorem dX4_exposable_49 : decode cX4_exposable 49 = .ok (.iconst 1, 1) := by decide +kernel
theorem dX4_exposable_50 : decode cX4_exposable 50 = .ok (.iload_n 3, 1) := by decide +kernel
theorem dX4_exposable_51 : decode cX4_exposable 51 = .ok (.ishl, 1) := by decide +kernel
theorem dX4_exposable_52 : decode cX4_exposable 52 = .ok (.ior, 1) := by decide +kernel
theorem dX4_exposable_53 : decode cX4_exposable 53 = .ok (.istore_n 2, 1) := by decide +kernel
theorem dX4_exposable_54 : decode cX4_exposable 54 = .ok (.iinc 3 1, 3) := by decide +kernel
theorem dX4_exposable_57 : decode cX4_exposable 57 = .ok (.goto (-41), 3) := by decide +kernel
theorem dX4_exposable_60 : decode cX4_exposable 60 = .ok (.iload_n 2, 1) := by decide +kernel
theorem dX4_exposable_61 : decode cX4_exposable 61 = .ok (.ireturn, 1) := by decide +kernel
theorem dX4_isCritical_0 : decode cX4_isCritical 0 = .ok (.aload_n 0, 1) := by decide +kernel
theorem dX4_isCritical_1 : decode cX4_isCritical 1 = .ok (.invokevirtual 62, 3) := by decide +kernel
theorem dX4_isCritical_4 : decode cX4_isCritical 4 = .ok (.aload_n 0, 1) := by decide +kernel
theorem dX4_isCritical_5 : decode cX4_isCritical 5 = .ok (.getfield 33, 3) := by decide +kernel
theorem dX4_isCritical_8 : decode cX4_isCritical 8 = .ok (.invokevirtual 48, 3) := by decide +kernel
theorem dX4_isCritical_11 : decode cX4_isCritical 11 = .ok (.istore_n 1, 1) := by decide +kernel
theorem dX4_isCritical_12 : decode cX4_isCritical 12 = .ok (.iconst 0, 1) := by decide +kernel
theorem dX4_isCritical_13 : decode cX4_isCritical 13 = .ok (.istore_n 2, 1) := by decide +kernel
theorem dX4_isCritical_14 : decode cX4_isCritical 14 = .ok (.iload_n 2, 1) := by decide +kernel
theorem dX4_isCritical_15 : decode cX4_isCritical 15 = .ok (.aload_n 0, 1) := by decide +kernel
theorem dX4_isCritical_16 : decode cX4_isCritical 16 = .ok (.getfield 33, 3) := by decide +kernel
theorem dX4_isCritical_19 : decode cX4_isCritical 19 = .ok (.getfield 56, 3) := by decide +kernel
theorem dX4_isCritical_22 : decode cX4_isCritical 22 = .ok (.if_icmp .ge 37, 3) := by decide +kernel
theorem dX4_isCritical_25 : decode cX4_isCritical 25 = .ok (.iconst 2, 1) := by decide +kernel
theorem dX4_isCritical_26 : decode cX4_isCritical 26 = .ok (.aload_n 0, 1) := by decide +kernel
theorem dX4_isCritical_27 : decode cX4_isCritical 27 = .ok (.getfield 9, 3) := by decide +kernel
theorem dX4_isCritical_30 : decode cX4_isCritical 30 = .ok (.iload_n 1, 1) := by decide +kernel
theorem dX4_isCritical_31 : decode cX4_isCritical 31 = .ok (.iconst 1, 1) := by decide +kernel
theorem dX4_isCritical_32 : decode cX4_isCritical 32 = .ok (.iload_n 2, 1) := by decide +kernel
theorem dX4_isCritical_33 : decode cX4_isCritical 33 = .ok (.ishl, 1) := by decide +kernel
theorem dX4_isCritical_34 : decode cX4_isCritical 34 = .ok (.iconst (-1), 1) := by decide +kernel
theorem dX4_isCritical_35 : decode cX4_isCritical 35 = .ok (.ixor, 1) := by decide +kernel
theorem dX4_isCritical_36 : decode cX4_isCritical 36 = .ok (.iand, 1) := by decide +kernel
theorem dX4_isCritical_37 : decode cX4_isCritical 37 = .ok (.iaload, 1) := by decide +kernel
theorem dX4_isCritical_38 : decode cX4_isCritical 38 = .ok (.imul, 1) := by decide +kernel
theorem dX4_isCritical_39 : decode cX4_isCritical 39 = .ok (.aload_n 0, 1) := by decide +kernel
theorem dX4_isCritical_40 : decode cX4_isCritical 40 = .ok (.getfield 33, 3) := by decide +kernel
theorem dX4_isCritical_43 : decode cX4_isCritical 43 = .ok (.getfield 56, 3) := by decide +kernel
theorem dX4_isCritical_46 : decode cX4_isCritical 46 = .ok (.iconst 1, 1) := by decide +kernel
theorem dX4_isCritical_47 : decode cX4_isCritical 47 = .ok (.isub, 1) := by decide +kernel
theorem dX4_isCritical_48 : decode cX4_isCritical 48 = .ok (.if_icmp .eq 5, 3) := by decide +kernel
theorem dX4_isCritical_51 : decode cX4_isCritical 51 = .ok (.iconst 0, 1) := by decide +kernel
theorem dX4_isCritical_52 : decode cX4_isCritical 52 = .ok (.ireturn, 1) := by decide +kernel
theorem dX4_isCritical_53 : decode cX4_isCritical 53 = .ok (.iinc 2 1, 3) := by decide +kernel
theorem dX4_isCritical_56 : decode cX4_isCritical 56 = .ok (.goto (-42), 3) := by decide +kernel
theorem dX4_isCritical_59 : decode cX4_isCritical 59 = .ok (.iconst 1, 1) := by decide +kernel
theorem dX4_isCritical_60 : decode cX4_isCritical 60 = .ok (.ireturn, 1) := by decide +kernel
theorem dX4_numberWithout_0 : decode cX4_numberWithout 0 = .ok (.aload_n 0, 1) := by decide +kernel
theorem dX4_numberWithout_1 : decode cX4_numberWithout 1 = .ok (.invokevirtual 62, 3) := by decide +kernel
theorem dX4_numberWithout_4 : decode cX4_numberWithout 4 = .ok (.aload_n 0, 1) := by decide +kernel
theorem dX4_numberWithout_5 : decode cX4_numberWithout 5 = .ok (.getfield 33, 3) := by decide +kernel
theorem dX4_numberWithout_8 : decode cX4_numberWithout 8 = .ok (.invokevirtual 48, 3) := by decide +kernel
theorem dX4_numberWithout_11 : decode cX4_numberWithout 11 = .ok (.iconst 1, 1) := by decide +kernel
theorem dX4_numberWithout_12 : decode cX4_numberWithout 12 = .ok (.iload_n 1, 1) := by decide +kernel
theorem dX4_numberWithout_13 : decode cX4_numberWithout 13 = .ok (.ishl, 1) := by decide +kernel
theorem dX4_numberWithout_14 : decode cX4_numberWithout 14 = .ok (.iconst (-1), 1) := by decide +kernel
theorem dX4_numberWithout_15 : decode cX4_numberWithout 15 = .ok (.ixor, 1) := by decide +kernel
theorem dX4_numberWithout_16 : decode cX4_numberWithout 16 = .ok (.iand, 1) := by decide +kernel
theorem dX4_numberWithout_17 : decode cX4_numberWithout 17 = .ok (.iconst 1, 1) := by decide +kernel
theorem dX4_numberWithout_18 : decode cX4_numberWithout 18 = .ok (.iload_n 2, 1) := by decide +kernel
theorem dX4_numberWithout_19 : decode cX4_numberWithout 19 = .ok (.ishl, 1) := by decide +kernel
theorem dX4_numberWithout_20 : decode cX4_numberWithout 20 = .ok (.iconst (-1), 1) := by decide +kernel
theorem dX4_numberWithout_21 : decode cX4_numberWithout 21 = .ok (.ixor, 1) := by decide +kernel
theorem dX4_numberWithout_22 : decode cX4_numberWithout 22 = .ok (.iand, 1) := by decide +kernel
theorem dX4_numberWithout_23 : decode cX4_numberWithout 23 = .ok (.istore_n 3, 1) := by decide +kernel
theorem dX4_numberWithout_24 : decode cX4_numberWithout 24 = .ok (.aload_n 0, 1) := by decide +kernel
theorem dX4_numberWithout_25 : decode cX4_numberWithout 25 = .ok (.iload_n 3, 1) := by decide +kernel
theorem dX4_numberWithout_26 : decode cX4_numberWithout 26 = .ok (.iconst 0, 1) := by decide +kernel
theorem dX4_numberWithout_27 : decode cX4_numberWithout 27 = .ok (.invokevirtual 52, 3) := by decide +kernel
theorem dX4_numberWithout_30 : decode cX4_numberWithout 30 = .ok (.aload_n 0, 1) := by decide +kernel
theorem dX4_numberWithout_31 : decode cX4_numberWithout 31 = .ok (.getfield 9, 3) := by decide +kernel
theorem dX4_numberWithout_34 : decode cX4_numberWithout 34 = .ok (.iload_n 3, 1) := by decide +kernel
theorem dX4_numberWithout_35 : decode cX4_numberWithout 35 = .ok (.iaload, 1) := by decide +kernel
theorem dX4_numberWithout_36 : decode cX4_numberWithout 36 = .ok (.ireturn, 1) := by decide +kernel
theorem dX4_having_0 : decode cX4_having 0 = .ok (.aload_n 0, 1) := by decide +kernel
theorem dX4_having_1 : decode cX4_having 1 = .ok (.getfield 33, 3) := by decide +kernel
theorem dX4_having_4 : decode cX4_having 4 = .ok (.iload_n 1, 1) := by decide +kernel
theorem dX4_having_5 : decode cX4_having 5 = .ok (.iload_n 2, 1) := by decide +kernel
theorem dX4_having_6 : decode cX4_having 6 = .ok (.invokevirtual 65, 3) := by decide +kernel
theorem dX4_having_9 : decode cX4_having 9 = .ok (.ifCond .ne 5, 3) := by decide +kernel
theorem dX4_having_12 : decode cX4_having 12 = .ok (.iconst 0, 1) := by decide +kernel
theorem dX4_having_13 : decode cX4_having 13 = .ok (.ireturn, 1) := by decide +kernel
theorem dX4_having_14 : decode cX4_having 14 = .ok (.aload_n 0, 1) := by decide +kernel
theorem dX4_having_15 : decode cX4_having 15 = .ok (.invokevirtual 62, 3) := by decide +kernel
theorem dX4_having_18 : decode cX4_having 18 = .ok (.aload_n 0, 1) := by decide +kernel
theorem dX4_having_19 : decode cX4_having 19 = .ok (.getfield 33, 3) := by decide +kernel
theorem dX4_having_22 : decode cX4_having 22 = .ok (.invokevirtual 48, 3) := by decide +kernel
theorem dX4_having_25 : decode cX4_having 25 = .ok (.istore_n 3, 1) := by decide +kernel
theorem dX4_having_26 : decode cX4_having 26 = .ok (.iload_n 3, 1) := by decide +kernel
theorem dX4_having_27 : decode cX4_having 27 = .ok (.iconst 1, 1) := by decide +kernel
theorem dX4_having_28 : decode cX4_having 28 = .ok (.iload_n 1, 1) := by decide +kernel
theorem dX4_having_29 : decode cX4_having 29 = .ok (.ishl, 1) := by decide +kernel
theorem dX4_having_30 : decode cX4_having 30 = .ok (.iconst (-1), 1) := by decide +kernel
theorem dX4_having_31 : decode cX4_having 31 = .ok (.ixor, 1) := by decide +kernel
theorem dX4_having_32 : decode cX4_having 32 = .ok (.iand, 1) := by decide +kernel
theorem dX4_having_33 : decode cX4_having 33 = .ok (.iconst 1, 1) := by decide +kernel
theorem dX4_having_34 : decode cX4_having 34 = .ok (.iload_n 2, 1) := by decide +kernel
theorem dX4_having_35 : decode cX4_having 35 = .ok (.ishl, 1) := by decide +kernel
theorem dX4_having_36 : decode cX4_having 36 = .ok (.iconst (-1), 1) := by decide +kernel
theorem dX4_having_37 : decode cX4_having 37 = .ok (.ixor, 1) := by decide +kernel
theorem dX4_having_38 : decode cX4_having 38 = .ok (.iand, 1) := by decide +kernel
theorem dX4_having_39 : decode cX4_having 39 = .ok (.istore 4, 2) := by decide +kernel
theorem dX4_having_41 : decode cX4_having 41 = .ok (.aload_n 0, 1) := by decide +kernel
theorem dX4_having_42 : decode cX4_having 42 = .ok (.iload 4, 2) := by decide +kernel
theorem dX4_having_44 : decode cX4_having 44 = .ok (.iconst 0, 1) := by decide +kernel
theorem dX4_having_45 : decode cX4_having 45 = .ok (.invokevirtual 52, 3) := by decide +kernel
theorem dX4_having_48 : decode cX4_having 48 = .ok (.aload_n 0, 1) := by decide +kernel
theorem dX4_having_49 : decode cX4_having 49 = .ok (.getfield 9, 3) := by decide +kernel
theorem dX4_having_52 : decode cX4_having 52 = .ok (.iload 4, 2) := by decide +kernel
theorem dX4_having_54 : decode cX4_having 54 = .ok (.iaload, 1) := by decide +kernel
theorem dX4_having_55 : decode cX4_having 55 = .ok (.iconst 1, 1) := by decide +kernel
theorem dX4_having_56 : decode cX4_having 56 = .ok (.iadd, 1) := by decide +kernel
theorem dX4_having_57 : decode cX4_having 57 = .ok (.aload_n 0, 1) := by decide +kernel
theorem dX4_having_58 : decode cX4_having 58 = .ok (.getfield 9, 3) := by decide +kernel
theorem dX4_having_61 : decode cX4_having 61 = .ok (.iload_n 3, 1) := by decide +kernel
theorem dX4_having_62 : decode cX4_having 62 = .ok (.iaload, 1) := by decide +kernel
theorem dX4_having_63 : decode cX4_having 63 = .ok (.if_icmp .ne 13, 3) := by decide +kernel
theorem dX4_having_66 : decode cX4_having 66 = .ok (.aload_n 0, 1) := by decide +kernel
theorem dX4_having_67 : decode cX4_having 67 = .ok (.getfield 15, 3) := by decide +kernel
theorem dX4_having_70 : decode cX4_having 70 = .ok (.iload 4, 2) := by decide +kernel
theorem dX4_having_72 : decode cX4_having 72 = .ok (.iaload, 1) := by decide +kernel
theorem dX4_having_73 : decode cX4_having 73 = .ok (.goto 4, 3) := by decide +kernel
theorem dX4_having_76 : decode cX4_having 76 = .ok (.iconst 0, 1) := by decide +kernel
theorem dX4_having_77 : decode cX4_having 77 = .ok (.ireturn, 1) := by decide +kernel
theorem dX4_edgesHadBy_0 : decode cX4_edgesHadBy 0 = .ok (.iconst 0, 1) := by decide +kernel
theorem dX4_edgesHadBy_1 : decode cX4_edgesHadBy 1 = .ok (.istore_n 2, 1) := by decide +kernel
theorem dX4_edgesHadBy_2 : decode cX4_edgesHadBy 2 = .ok (.iconst 0, 1) := by decide +kernel
theorem dX4_edgesHadBy_3 : decode cX4_edgesHadBy 3 = .ok (.istore_n 3, 1) := by decide +kernel
theorem dX4_edgesHadBy_4 : decode cX4_edgesHadBy 4 = .ok (.iload_n 3, 1) := by decide +kernel
theorem dX4_edgesHadBy_5 : decode cX4_edgesHadBy 5 = .ok (.aload_n 0, 1) := by decide +kernel
theorem dX4_edgesHadBy_6 : decode cX4_edgesHadBy 6 = .ok (.getfield 33, 3) := by decide +kernel
theorem dX4_edgesHadBy_9 : decode cX4_edgesHadBy 9 = .ok (.getfield 56, 3) := by decide +kernel
theorem dX4_edgesHadBy_12 : decode cX4_edgesHadBy 12 = .ok (.if_icmp .ge 59, 3) := by decide +kernel
theorem dX4_edgesHadBy_15 : decode cX4_edgesHadBy 15 = .ok (.iload_n 3, 1) := by decide +kernel
theorem dX4_edgesHadBy_16 : decode cX4_edgesHadBy 16 = .ok (.iconst 1, 1) := by decide +kernel
theorem dX4_edgesHadBy_17 : decode cX4_edgesHadBy 17 = .ok (.iadd, 1) := by decide +kernel
theorem dX4_edgesHadBy_18 : decode cX4_edgesHadBy 18 = .ok (.istore 4, 2) := by decide +kernel
theorem dX4_edgesHadBy_20 : decode cX4_edgesHadBy 20 = .ok (.iload 4, 2) := by decide +kernel
theorem dX4_edgesHadBy_22 : decode cX4_edgesHadBy 22 = .ok (.aload_n 0, 1) := by decide +kernel
theorem dX4_edgesHadBy_23 : decode cX4_edgesHadBy 23 = .ok (.getfield 33, 3) := by decide +kernel
theorem dX4_edgesHadBy_26 : decode cX4_edgesHadBy 26 = .ok (.getfield 56, 3) := by decide +kernel
theorem dX4_edgesHadBy_29 : decode cX4_edgesHadBy 29 = .ok (.if_icmp .ge 36, 3) := by decide +kernel
theorem dX4_edgesHadBy_32 : decode cX4_edgesHadBy 32 = .ok (.aload_n 0, 1) := by decide +kernel
theorem dX4_edgesHadBy_33 : decode cX4_edgesHadBy 33 = .ok (.getfield 33, 3) := by decide +kernel
theorem dX4_edgesHadBy_36 : decode cX4_edgesHadBy 36 = .ok (.iload_n 3, 1) := by decide +kernel
theorem dX4_edgesHadBy_37 : decode cX4_edgesHadBy 37 = .ok (.iload 4, 2) := by decide +kernel
theorem dX4_edgesHadBy_39 : decode cX4_edgesHadBy 39 = .ok (.invokevirtual 65, 3) := by decide +kernel
theorem dX4_edgesHadBy_42 : decode cX4_edgesHadBy 42 = .ok (.ifCond .eq 17, 3) := by decide +kernel
theorem dX4_edgesHadBy_45 : decode cX4_edgesHadBy 45 = .ok (.aload_n 0, 1) := by decide +kernel
theorem dX4_edgesHadBy_46 : decode cX4_edgesHadBy 46 = .ok (.iload_n 3, 1) := by decide +kernel
theorem dX4_edgesHadBy_47 : decode cX4_edgesHadBy 47 = .ok (.iload 4, 2) := by decide +kernel
theorem dX4_edgesHadBy_49 : decode cX4_edgesHadBy 49 = .ok (.invokevirtual 69, 3) := by decide +kernel
theorem dX4_edgesHadBy_52 : decode cX4_edgesHadBy 52 = .ok (.iload_n 1, 1) := by decide +kernel
theorem dX4_edgesHadBy_53 : decode cX4_edgesHadBy 53 = .ok (.if_icmp .ne 6, 3) := by decide +kernel
theorem dX4_edgesHadBy_56 : decode cX4_edgesHadBy 56 = .ok (.iinc 2 1, 3) := by decide +kernel
theorem dX4_edgesHadBy_59 : decode cX4_edgesHadBy 59 = .ok (.iinc 4 1, 3) := by decide +kernel
theorem dX4_edgesHadBy_62 : decode cX4_edgesHadBy 62 = .ok (.goto (-42), 3) := by decide +kernel
theorem dX4_edgesHadBy_65 : decode cX4_edgesHadBy 65 = .ok (.iinc 3 1, 3) := by decide +kernel
theorem dX4_edgesHadBy_68 : decode cX4_edgesHadBy 68 = .ok (.goto (-64), 3) := by decide +kernel
theorem dX4_edgesHadBy_71 : decode cX4_edgesHadBy 71 = .ok (.iload_n 2, 1) := by decide +kernel
theorem dX4_edgesHadBy_72 : decode cX4_edgesHadBy 72 = .ok (.ireturn, 1) := by decide +kernel
theorem dX4_first_0 : decode cX4_first 0 = .ok (.aload_n 0, 1) := by decide +kernel
theorem dX4_first_1 : decode cX4_first 1 = .ok (.invokevirtual 62, 3) := by decide +kernel
theorem dX4_first_4 : decode cX4_first 4 = .ok (.aload_n 0, 1) := by decide +kernel
theorem dX4_first_5 : decode cX4_first 5 = .ok (.getfield 25, 3) := by decide +kernel
theorem dX4_first_8 : decode cX4_first 8 = .ok (.ifCond .ne 12, 3) := by decide +kernel
theorem dX4_first_11 : decode cX4_first 11 = .ok (.aload_n 0, 1) := by decide +kernel
theorem dX4_first_12 : decode cX4_first 12 = .ok (.invokevirtual 73, 3) := by decide +kernel
theorem dX4_first_15 : decode cX4_first 15 = .ok (.aload_n 0, 1) := by decide +kernel
theorem dX4_first_16 : decode cX4_first 16 = .ok (.iconst 1, 1) := by decide +kernel
theorem dX4_first_17 : decode cX4_first 17 = .ok (.putfield 25, 3) := by decide +kernel
theorem dX4_first_20 : decode cX4_first 20 = .ok (.aload_n 0, 1) := by decide +kernel
theorem dX4_first_21 : decode cX4_first 21 = .ok (.getfield 21, 3) := by decide +kernel
theorem dX4_first_24 : decode cX4_first 24 = .ok (.areturn, 1) := by decide +kernel
theorem dX4_findFirst_0 : decode cX4_findFirst 0 = .ok (.aload_n 0, 1) := by decide +kernel
theorem dX4_findFirst_1 : decode cX4_findFirst 1 = .ok (.getfield 21, 3) := by decide +kernel
theorem dX4_findFirst_4 : decode cX4_findFirst 4 = .ok (.invokevirtual 76, 3) := by decide +kernel
theorem dX4_findFirst_7 : decode cX4_findFirst 7 = .ok (.aload_n 0, 1) := by decide +kernel
theorem dX4_findFirst_8 : decode cX4_findFirst 8 = .ok (.getfield 33, 3) := by decide +kernel
theorem dX4_findFirst_11 : decode cX4_findFirst 11 = .ok (.invokevirtual 48, 3) := by decide +kernel
theorem dX4_findFirst_14 : decode cX4_findFirst 14 = .ok (.istore_n 1, 1) := by decide +kernel
theorem dX4_findFirst_15 : decode cX4_findFirst 15 = .ok (.iconst 0, 1) := by decide +kernel
theorem dX4_findFirst_16 : decode cX4_findFirst 16 = .ok (.istore_n 2, 1) := by decide +kernel
theorem dX4_findFirst_17 : decode cX4_findFirst 17 = .ok (.iload_n 2, 1) := by decide +kernel
theorem dX4_findFirst_18 : decode cX4_findFirst 18 = .ok (.aload_n 0, 1) := by decide +kernel
theorem dX4_findFirst_19 : decode cX4_findFirst 19 = .ok (.getfield 33, 3) := by decide +kernel
theorem dX4_findFirst_22 : decode cX4_findFirst 22 = .ok (.getfield 56, 3) := by decide +kernel
theorem dX4_findFirst_25 : decode cX4_findFirst 25 = .ok (.if_icmp .ge 54, 3) := by decide +kernel
theorem dX4_findFirst_28 : decode cX4_findFirst 28 = .ok (.iload_n 1, 1) := by decide +kernel
theorem dX4_findFirst_29 : decode cX4_findFirst 29 = .ok (.iload_n 2, 1) := by decide +kernel
theorem dX4_findFirst_30 : decode cX4_findFirst 30 = .ok (.ishr, 1) := by decide +kernel
theorem dX4_findFirst_31 : decode cX4_findFirst 31 = .ok (.iconst 1, 1) := by decide +kernel
theorem dX4_findFirst_32 : decode cX4_findFirst 32 = .ok (.iand, 1) := by decide +kernel
theorem dX4_findFirst_33 : decode cX4_findFirst 33 = .ok (.ifCond .eq 40, 3) := by decide +kernel
theorem dX4_findFirst_36 : decode cX4_findFirst 36 = .ok (.aload_n 0, 1) := by decide +kernel
theorem dX4_findFirst_37 : decode cX4_findFirst 37 = .ok (.iload_n 2, 1) := by decide +kernel
theorem dX4_findFirst_38 : decode cX4_findFirst 38 = .ok (.iload_n 1, 1) := by decide +kernel
theorem dX4_findFirst_39 : decode cX4_findFirst 39 = .ok (.invokevirtual 79, 3) := by decide +kernel
theorem dX4_findFirst_42 : decode cX4_findFirst 42 = .ok (.istore_n 3, 1) := by decide +kernel
theorem dX4_findFirst_43 : decode cX4_findFirst 43 = .ok (.iload_n 1, 1) := by decide +kernel
theorem dX4_findFirst_44 : decode cX4_findFirst 44 = .ok (.iconst 1, 1) := by decide +kernel
theorem dX4_findFirst_45 : decode cX4_findFirst 45 = .ok (.iload_n 2, 1) := by decide +kernel
theorem dX4_findFirst_46 : decode cX4_findFirst 46 = .ok (.ishl, 1) := by decide +kernel
theorem dX4_findFirst_47 : decode cX4_findFirst 47 = .ok (.iconst (-1), 1) := by decide +kernel
theorem dX4_findFirst_48 : decode cX4_findFirst 48 = .ok (.ixor, 1) := by decide +kernel
theorem dX4_findFirst_49 : decode cX4_findFirst 49 = .ok (.iand, 1) := by decide +kernel
theorem dX4_findFirst_50 : decode cX4_findFirst 50 = .ok (.istore_n 1, 1) := by decide +kernel
theorem dX4_findFirst_51 : decode cX4_findFirst 51 = .ok (.iload_n 3, 1) := by decide +kernel
theorem dX4_findFirst_52 : decode cX4_findFirst 52 = .ok (.iconst (-1), 1) := by decide +kernel
theorem dX4_findFirst_53 : decode cX4_findFirst 53 = .ok (.if_icmp .eq 20, 3) := by decide +kernel
theorem dX4_findFirst_56 : decode cX4_findFirst 56 = .ok (.aload_n 0, 1) := by decide +kernel
theorem dX4_findFirst_57 : decode cX4_findFirst 57 = .ok (.getfield 21, 3) := by decide +kernel
theorem dX4_findFirst_60 : decode cX4_findFirst 60 = .ok (.iload_n 2, 1) := by decide +kernel
theorem dX4_findFirst_61 : decode cX4_findFirst 61 = .ok (.iload_n 3, 1) := by decide +kernel
theorem dX4_findFirst_62 : decode cX4_findFirst 62 = .ok (.invokevirtual 82, 3) := by decide +kernel
theorem dX4_findFirst_65 : decode cX4_findFirst 65 = .ok (.iload_n 1, 1) := by decide +kernel
theorem dX4_findFirst_66 : decode cX4_findFirst 66 = .ok (.iconst 1, 1) := by decide +kernel
theorem dX4_findFirst_67 : decode cX4_findFirst 67 = .ok (.iload_n 3, 1) := by decide +kernel
theorem dX4_findFirst_68 : decode cX4_findFirst 68 = .ok (.ishl, 1) := by decide +kernel
theorem dX4_findFirst_69 : decode cX4_findFirst 69 = .ok (.iconst (-1), 1) := by decide +kernel
theorem dX4_findFirst_70 : decode cX4_findFirst 70 = .ok (.ixor, 1) := by decide +kernel
theorem dX4_findFirst_71 : decode cX4_findFirst 71 = .ok (.iand, 1) := by decide +kernel
theorem dX4_findFirst_72 : decode cX4_findFirst 72 = .ok (.istore_n 1, 1) := by decide +kernel
theorem dX4_findFirst_73 : decode cX4_findFirst 73 = .ok (.iinc 2 1, 3) := by decide +kernel
theorem dX4_findFirst_76 : decode cX4_findFirst 76 = .ok (.goto (-59), 3) := by decide +kernel
theorem dX4_findFirst_79 : decode cX4_findFirst 79 = .ok (.return_, 1) := by decide +kernel
theorem dX4_leastMate_0 : decode cX4_leastMate 0 = .ok (.aload_n 0, 1) := by decide +kernel
theorem dX4_leastMate_1 : decode cX4_leastMate 1 = .ok (.iload_n 2, 1) := by decide +kernel
theorem dX4_leastMate_2 : decode cX4_leastMate 2 = .ok (.iload_n 1, 1) := by decide +kernel
theorem dX4_leastMate_3 : decode cX4_leastMate 3 = .ok (.invokevirtual 52, 3) := by decide +kernel
theorem dX4_leastMate_6 : decode cX4_leastMate 6 = .ok (.aload_n 0, 1) := by decide +kernel
theorem dX4_leastMate_7 : decode cX4_leastMate 7 = .ok (.getfield 33, 3) := by decide +kernel
theorem dX4_leastMate_10 : decode cX4_leastMate 10 = .ok (.getfield 59, 3) := by decide +kernel
theorem dX4_leastMate_13 : decode cX4_leastMate 13 = .ok (.iload_n 1, 1) := by decide +kernel
theorem dX4_leastMate_14 : decode cX4_leastMate 14 = .ok (.iaload, 1) := by decide +kernel
theorem dX4_leastMate_15 : decode cX4_leastMate 15 = .ok (.iload_n 2, 1) := by decide +kernel
theorem dX4_leastMate_16 : decode cX4_leastMate 16 = .ok (.iand, 1) := by decide +kernel
theorem dX4_leastMate_17 : decode cX4_leastMate 17 = .ok (.istore_n 3, 1) := by decide +kernel
theorem dX4_leastMate_18 : decode cX4_leastMate 18 = .ok (.iload_n 1, 1) := by decide +kernel
theorem dX4_leastMate_19 : decode cX4_leastMate 19 = .ok (.iconst 1, 1) := by decide +kernel
theorem dX4_leastMate_20 : decode cX4_leastMate 20 = .ok (.iadd, 1) := by decide +kernel
theorem dX4_leastMate_21 : decode cX4_leastMate 21 = .ok (.istore 4, 2) := by decide +kernel
theorem dX4_leastMate_23 : decode cX4_leastMate 23 = .ok (.iload 4, 2) := by decide +kernel
theorem dX4_leastMate_25 : decode cX4_leastMate 25 = .ok (.aload_n 0, 1) := by decide +kernel
theorem dX4_leastMate_26 : decode cX4_leastMate 26 = .ok (.getfield 33, 3) := by decide +kernel
theorem dX4_leastMate_29 : decode cX4_leastMate 29 = .ok (.getfield 56, 3) := by decide +kernel
theorem dX4_leastMate_32 : decode cX4_leastMate 32 = .ok (.if_icmp .ge 67, 3) := by decide +kernel
theorem dX4_leastMate_35 : decode cX4_leastMate 35 = .ok (.iload_n 3, 1) := by decide +kernel
theorem dX4_leastMate_36 : decode cX4_leastMate 36 = .ok (.iload 4, 2) := by decide +kernel
theorem dX4_leastMate_38 : decode cX4_leastMate 38 = .ok (.ishr, 1) := by decide +kernel
theorem dX4_leastMate_39 : decode cX4_leastMate 39 = .ok (.iconst 1, 1) := by decide +kernel
theorem dX4_leastMate_40 : decode cX4_leastMate 40 = .ok (.iand, 1) := by decide +kernel
theorem dX4_leastMate_41 : decode cX4_leastMate 41 = .ok (.ifCond .ne 6, 3) := by decide +kernel
theorem dX4_leastMate_44 : decode cX4_leastMate 44 = .ok (.goto 49, 3) := by decide +kernel
theorem dX4_leastMate_47 : decode cX4_leastMate 47 = .ok (.iload_n 2, 1) := by decide +kernel
theorem dX4_leastMate_48 : decode cX4_leastMate 48 = .ok (.iconst 1, 1) := by decide +kernel
theorem dX4_leastMate_49 : decode cX4_leastMate 49 = .ok (.iload_n 1, 1) := by decide +kernel
theorem dX4_leastMate_50 : decode cX4_leastMate 50 = .ok (.ishl, 1) := by decide +kernel
theorem dX4_leastMate_51 : decode cX4_leastMate 51 = .ok (.iconst (-1), 1) := by decide +kernel
theorem dX4_leastMate_52 : decode cX4_leastMate 52 = .ok (.ixor, 1) := by decide +kernel
theorem dX4_leastMate_53 : decode cX4_leastMate 53 = .ok (.iand, 1) := by decide +kernel
theorem dX4_leastMate_54 : decode cX4_leastMate 54 = .ok (.iconst 1, 1) := by decide +kernel
theorem dX4_leastMate_55 : decode cX4_leastMate 55 = .ok (.iload 4, 2) := by decide +kernel
theorem dX4_leastMate_57 : decode cX4_leastMate 57 = .ok (.ishl, 1) := by decide +kernel
theorem dX4_leastMate_58 : decode cX4_leastMate 58 = .ok (.iconst (-1), 1) := by decide +kernel
theorem dX4_leastMate_59 : decode cX4_leastMate 59 = .ok (.ixor, 1) := by decide +kernel
theorem dX4_leastMate_60 : decode cX4_leastMate 60 = .ok (.iand, 1) := by decide +kernel
theorem dX4_leastMate_61 : decode cX4_leastMate 61 = .ok (.istore 5, 2) := by decide +kernel
theorem dX4_leastMate_63 : decode cX4_leastMate 63 = .ok (.aload_n 0, 1) := by decide +kernel
theorem dX4_leastMate_64 : decode cX4_leastMate 64 = .ok (.iload 5, 2) := by decide +kernel
theorem dX4_leastMate_66 : decode cX4_leastMate 66 = .ok (.iload_n 1, 1) := by decide +kernel
theorem dX4_leastMate_67 : decode cX4_leastMate 67 = .ok (.iconst 1, 1) := by decide +kernel
theorem dX4_leastMate_68 : decode cX4_leastMate 68 = .ok (.iadd, 1) := by decide +kernel
theorem dX4_leastMate_69 : decode cX4_leastMate 69 = .ok (.invokevirtual 52, 3) := by decide +kernel
theorem dX4_leastMate_72 : decode cX4_leastMate 72 = .ok (.aload_n 0, 1) := by decide +kernel
theorem dX4_leastMate_73 : decode cX4_leastMate 73 = .ok (.getfield 9, 3) := by decide +kernel
theorem dX4_leastMate_76 : decode cX4_leastMate 76 = .ok (.iload 5, 2) := by decide +kernel
theorem dX4_leastMate_78 : decode cX4_leastMate 78 = .ok (.iaload, 1) := by decide +kernel
theorem dX4_leastMate_79 : decode cX4_leastMate 79 = .ok (.iconst 1, 1) := by decide +kernel
theorem dX4_leastMate_80 : decode cX4_leastMate 80 = .ok (.iadd, 1) := by decide +kernel
theorem dX4_leastMate_81 : decode cX4_leastMate 81 = .ok (.aload_n 0, 1) := by decide +kernel
theorem dX4_leastMate_82 : decode cX4_leastMate 82 = .ok (.getfield 9, 3) := by decide +kernel
theorem dX4_leastMate_85 : decode cX4_leastMate 85 = .ok (.iload_n 2, 1) := by decide +kernel
theorem dX4_leastMate_86 : decode cX4_leastMate 86 = .ok (.iaload, 1) := by decide +kernel
theorem dX4_leastMate_87 : decode cX4_leastMate 87 = .ok (.if_icmp .ne 6, 3) := by decide +kernel
theorem dX4_leastMate_90 : decode cX4_leastMate 90 = .ok (.iload 4, 2) := by decide +kernel
theorem dX4_leastMate_92 : decode cX4_leastMate 92 = .ok (.ireturn, 1) := by decide +kernel
theorem dX4_leastMate_93 : decode cX4_leastMate 93 = .ok (.iinc 4 1, 3) := by decide +kernel
theorem dX4_leastMate_96 : decode cX4_leastMate 96 = .ok (.goto (-73), 3) := by decide +kernel
theorem dX4_leastMate_99 : decode cX4_leastMate 99 = .ok (.iconst (-1), 1) := by decide +kernel
theorem dX4_leastMate_100 : decode cX4_leastMate 100 = .ok (.ireturn, 1) := by decide +kernel
theorem dX5_init_0 : decode cX5_init 0 = .ok (.aload_n 0, 1) := by decide +kernel
theorem dX5_init_1 : decode cX5_init 1 = .ok (.invokespecial 3, 3) := by decide +kernel
theorem dX5_init_4 : decode cX5_init 4 = .ok (.aload_n 0, 1) := by decide +kernel
theorem dX5_init_5 : decode cX5_init 5 = .ok (.bipush 12, 2) := by decide +kernel
theorem dX5_init_7 : decode cX5_init 7 = .ok (.newarray .int, 2) := by decide +kernel
theorem dX5_init_9 : decode cX5_init 9 = .ok (.putfield 9, 3) := by decide +kernel
theorem dX5_init_12 : decode cX5_init 12 = .ok (.aload_n 0, 1) := by decide +kernel
theorem dX5_init_13 : decode cX5_init 13 = .ok (.bipush 64, 2) := by decide +kernel
theorem dX5_init_15 : decode cX5_init 15 = .ok (.newarray .int, 2) := by decide +kernel
theorem dX5_init_17 : decode cX5_init 17 = .ok (.putfield 15, 3) := by decide +kernel
theorem dX5_init_20 : decode cX5_init 20 = .ok (.aload_n 0, 1) := by decide +kernel
theorem dX5_init_21 : decode cX5_init 21 = .ok (.bipush 12, 2) := by decide +kernel
theorem dX5_init_23 : decode cX5_init 23 = .ok (.newarray .int, 2) := by decide +kernel
theorem dX5_init_25 : decode cX5_init 25 = .ok (.putfield 18, 3) := by decide +kernel
theorem dX5_init_28 : decode cX5_init 28 = .ok (.aload_n 0, 1) := by decide +kernel
theorem dX5_init_29 : decode cX5_init 29 = .ok (.iconst 0, 1) := by decide +kernel
theorem dX5_init_30 : decode cX5_init 30 = .ok (.putfield 21, 3) := by decide +kernel
theorem dX5_init_33 : decode cX5_init 33 = .ok (.aload_n 0, 1) := by decide +kernel
theorem dX5_init_34 : decode cX5_init 34 = .ok (.iconst 0, 1) := by decide +kernel
theorem dX5_init_35 : decode cX5_init 35 = .ok (.putfield 25, 3) := by decide +kernel
theorem dX5_init_38 : decode cX5_init 38 = .ok (.aload_n 0, 1) := by decide +kernel
theorem dX5_init_39 : decode cX5_init 39 = .ok (.aload_n 1, 1) := by decide +kernel
theorem dX5_init_40 : decode cX5_init 40 = .ok (.putfield 28, 3) := by decide +kernel
theorem dX5_init_43 : decode cX5_init 43 = .ok (.aload_n 0, 1) := by decide +kernel
theorem dX5_init_44 : decode cX5_init 44 = .ok (.aload_n 2, 1) := by decide +kernel
theorem dX5_init_45 : decode cX5_init 45 = .ok (.putfield 32, 3) := by decide +kernel
theorem dX5_init_48 : decode cX5_init 48 = .ok (.return_, 1) := by decide +kernel
theorem dX5_numberPairs_0 : decode cX5_numberPairs 0 = .ok (.iconst 1, 1) := by decide +kernel
theorem dX5_numberPairs_1 : decode cX5_numberPairs 1 = .ok (.istore_n 1, 1) := by decide +kernel
theorem dX5_numberPairs_2 : decode cX5_numberPairs 2 = .ok (.iconst 0, 1) := by decide +kernel
theorem dX5_numberPairs_3 : decode cX5_numberPairs 3 = .ok (.istore_n 2, 1) := by decide +kernel
theorem dX5_numberPairs_4 : decode cX5_numberPairs 4 = .ok (.iload_n 2, 1) := by decide +kernel
theorem dX5_numberPairs_5 : decode cX5_numberPairs 5 = .ok (.aload_n 0, 1) := by decide +kernel
theorem dX5_numberPairs_6 : decode cX5_numberPairs 6 = .ok (.getfield 28, 3) := by decide +kernel
theorem dX5_numberPairs_9 : decode cX5_numberPairs 9 = .ok (.getfield 36, 3) := by decide +kernel
theorem dX5_numberPairs_12 : decode cX5_numberPairs 12 = .ok (.if_icmp .ge 57, 3) := by decide +kernel
theorem dX5_numberPairs_15 : decode cX5_numberPairs 15 = .ok (.aload_n 0, 1) := by decide +kernel
theorem dX5_numberPairs_16 : decode cX5_numberPairs 16 = .ok (.getfield 32, 3) := by decide +kernel
theorem dX5_numberPairs_19 : decode cX5_numberPairs 19 = .ok (.getfield 41, 3) := by decide +kernel
theorem dX5_numberPairs_22 : decode cX5_numberPairs 22 = .ok (.iload_n 2, 1) := by decide +kernel
theorem dX5_numberPairs_23 : decode cX5_numberPairs 23 = .ok (.iaload, 1) := by decide +kernel
theorem dX5_numberPairs_24 : decode cX5_numberPairs 24 = .ok (.istore_n 3, 1) := by decide +kernel
theorem dX5_numberPairs_25 : decode cX5_numberPairs 25 = .ok (.iload_n 3, 1) := by decide +kernel
theorem dX5_numberPairs_26 : decode cX5_numberPairs 26 = .ok (.iconst (-1), 1) := by decide +kernel
theorem dX5_numberPairs_27 : decode cX5_numberPairs 27 = .ok (.if_icmp .ne 13, 3) := by decide +kernel
theorem dX5_numberPairs_30 : decode cX5_numberPairs 30 = .ok (.aload_n 0, 1) := by decide +kernel
theorem dX5_numberPairs_31 : decode cX5_numberPairs 31 = .ok (.getfield 9, 3) := by decide +kernel
theorem dX5_numberPairs_34 : decode cX5_numberPairs 34 = .ok (.iload_n 2, 1) := by decide +kernel
theorem dX5_numberPairs_35 : decode cX5_numberPairs 35 = .ok (.iconst 0, 1) := by decide +kernel
theorem dX5_numberPairs_36 : decode cX5_numberPairs 36 = .ok (.iastore, 1) := by decide +kernel
theorem dX5_numberPairs_37 : decode cX5_numberPairs 37 = .ok (.goto 26, 3) := by decide +kernel
theorem dX5_numberPairs_40 : decode cX5_numberPairs 40 = .ok (.iload_n 3, 1) := by decide +kernel
theorem dX5_numberPairs_41 : decode cX5_numberPairs 41 = .ok (.iload_n 2, 1) := by decide +kernel
theorem dX5_numberPairs_42 : decode cX5_numberPairs 42 = .ok (.if_icmp .le 21, 3) := by decide +kernel
theorem dX5_numberPairs_45 : decode cX5_numberPairs 45 = .ok (.aload_n 0, 1) := by decide +kernel
theorem dX5_numberPairs_46 : decode cX5_numberPairs 46 = .ok (.getfield 9, 3) := by decide +kernel
theorem dX5_numberPairs_49 : decode cX5_numberPairs 49 = .ok (.iload_n 2, 1) := by decide +kernel
theorem dX5_numberPairs_50 : decode cX5_numberPairs 50 = .ok (.iload_n 1, 1) := by decide +kernel
theorem dX5_numberPairs_51 : decode cX5_numberPairs 51 = .ok (.iastore, 1) := by decide +kernel
theorem dX5_numberPairs_52 : decode cX5_numberPairs 52 = .ok (.aload_n 0, 1) := by decide +kernel
theorem dX5_numberPairs_53 : decode cX5_numberPairs 53 = .ok (.getfield 9, 3) := by decide +kernel
theorem dX5_numberPairs_56 : decode cX5_numberPairs 56 = .ok (.iload_n 3, 1) := by decide +kernel
theorem dX5_numberPairs_57 : decode cX5_numberPairs 57 = .ok (.iload_n 1, 1) := by decide +kernel
theorem dX5_numberPairs_58 : decode cX5_numberPairs 58 = .ok (.iastore, 1) := by decide +kernel
theorem dX5_numberPairs_59 : decode cX5_numberPairs 59 = .ok (.iload_n 1, 1) := by decide +kernel
theorem dX5_numberPairs_60 : decode cX5_numberPairs 60 = .ok (.iconst 1, 1) := by decide +kernel
theorem dX5_numberPairs_61 : decode cX5_numberPairs 61 = .ok (.ishl, 1) := by decide +kernel
theorem dX5_numberPairs_62 : decode cX5_numberPairs 62 = .ok (.istore_n 1, 1) := by decide +kernel
theorem dX5_numberPairs_63 : decode cX5_numberPairs 63 = .ok (.iinc 2 1, 3) := by decide +kernel
theorem dX5_numberPairs_66 : decode cX5_numberPairs 66 = .ok (.goto (-62), 3) := by decide +kernel
theorem dX5_numberPairs_69 : decode cX5_numberPairs 69 = .ok (.return_, 1) := by decide +kernel
theorem dX5_findEnds_0 : decode cX5_findEnds 0 = .ok (.aload_n 0, 1) := by decide +kernel
theorem dX5_findEnds_1 : decode cX5_findEnds 1 = .ok (.invokevirtual 46, 3) := by decide +kernel
theorem dX5_findEnds_4 : decode cX5_findEnds 4 = .ok (.aload_n 0, 1) := by decide +kernel
theorem dX5_findEnds_5 : decode cX5_findEnds 5 = .ok (.getfield 15, 3) := by decide +kernel
theorem dX5_findEnds_8 : decode cX5_findEnds 8 = .ok (.iconst 0, 1) := by decide +kernel
theorem dX5_findEnds_9 : decode cX5_findEnds 9 = .ok (.invokestatic 49, 3) := by decide +kernel
theorem dX5_findEnds_12 : decode cX5_findEnds 12 = .ok (.aload_n 0, 1) := by decide +kernel
theorem dX5_findEnds_13 : decode cX5_findEnds 13 = .ok (.getfield 15, 3) := by decide +kernel
theorem dX5_findEnds_16 : decode cX5_findEnds 16 = .ok (.iconst 0, 1) := by decide +kernel
theorem dX5_findEnds_17 : decode cX5_findEnds 17 = .ok (.iconst 1, 1) := by decide +kernel
theorem dX5_findEnds_18 : decode cX5_findEnds 18 = .ok (.iload_n 1, 1) := by decide +kernel
theorem dX5_findEnds_19 : decode cX5_findEnds 19 = .ok (.ishl, 1) := by decide +kernel
theorem dX5_findEnds_20 : decode cX5_findEnds 20 = .ok (.iastore, 1) := by decide +kernel
theorem dX5_findEnds_21 : decode cX5_findEnds 21 = .ok (.aload_n 0, 1) := by decide +kernel
theorem dX5_findEnds_22 : decode cX5_findEnds 22 = .ok (.iconst 0, 1) := by decide +kernel
theorem dX5_findEnds_23 : decode cX5_findEnds 23 = .ok (.putfield 21, 3) := by decide +kernel
theorem dX5_findEnds_26 : decode cX5_findEnds 26 = .ok (.aload_n 0, 1) := by decide +kernel
theorem dX5_findEnds_27 : decode cX5_findEnds 27 = .ok (.iconst 0, 1) := by decide +kernel
theorem dX5_findEnds_28 : decode cX5_findEnds 28 = .ok (.putfield 25, 3) := by decide +kernel
theorem dX5_findEnds_31 : decode cX5_findEnds 31 = .ok (.iconst 0, 1) := by decide +kernel
theorem dX5_findEnds_32 : decode cX5_findEnds 32 = .ok (.istore_n 2, 1) := by decide +kernel
theorem dX5_findEnds_33 : decode cX5_findEnds 33 = .ok (.iload_n 2, 1) := by decide +kernel
theorem dX5_findEnds_34 : decode cX5_findEnds 34 = .ok (.aload_n 0, 1) := by decide +kernel
theorem dX5_findEnds_35 : decode cX5_findEnds 35 = .ok (.getfield 15, 3) := by decide +kernel
theorem dX5_findEnds_38 : decode cX5_findEnds 38 = .ok (.arraylength, 1) := by decide +kernel
theorem dX5_findEnds_39 : decode cX5_findEnds 39 = .ok (.if_icmp .ge 63, 3) := by decide +kernel
theorem dX5_findEnds_42 : decode cX5_findEnds 42 = .ok (.aload_n 0, 1) := by decide +kernel
theorem dX5_findEnds_43 : decode cX5_findEnds 43 = .ok (.dup, 1) := by decide +kernel
theorem dX5_findEnds_44 : decode cX5_findEnds 44 = .ok (.getfield 21, 3) := by decide +kernel
theorem dX5_findEnds_47 : decode cX5_findEnds 47 = .ok (.aload_n 0, 1) := by decide +kernel
theorem dX5_findEnds_48 : decode cX5_findEnds 48 = .ok (.getfield 15, 3) := by decide +kernel
theorem dX5_findEnds_51 : decode cX5_findEnds 51 = .ok (.iload_n 2, 1) := by decide +kernel
theorem dX5_findEnds_52 : decode cX5_findEnds 52 = .ok (.iaload, 1) := by decide +kernel
theorem dX5_findEnds_53 : decode cX5_findEnds 53 = .ok (.ior, 1) := by decide +kernel
theorem dX5_findEnds_54 : decode cX5_findEnds 54 = .ok (.putfield 21, 3) := by decide +kernel
theorem dX5_findEnds_57 : decode cX5_findEnds 57 = .ok (.iconst 0, 1) := by decide +kernel
theorem dX5_findEnds_58 : decode cX5_findEnds 58 = .ok (.istore_n 3, 1) := by decide +kernel
theorem dX5_findEnds_59 : decode cX5_findEnds 59 = .ok (.iload_n 3, 1) := by decide +kernel
theorem dX5_findEnds_60 : decode cX5_findEnds 60 = .ok (.aload_n 0, 1) := by decide +kernel
theorem dX5_findEnds_61 : decode cX5_findEnds 61 = .ok (.getfield 28, 3) := by decide +kernel
theorem dX5_findEnds_64 : decode cX5_findEnds 64 = .ok (.getfield 36, 3) := by decide +kernel
theorem dX5_findEnds_67 : decode cX5_findEnds 67 = .ok (.if_icmp .ge 29, 3) := by decide +kernel
theorem dX5_findEnds_70 : decode cX5_findEnds 70 = .ok (.aload_n 0, 1) := by decide +kernel
theorem dX5_findEnds_71 : decode cX5_findEnds 71 = .ok (.getfield 15, 3) := by decide +kernel
theorem dX5_findEnds_74 : decode cX5_findEnds 74 = .ok (.iload_n 2, 1) := by decide +kernel
theorem dX5_findEnds_75 : decode cX5_findEnds 75 = .ok (.iaload, 1) := by decide +kernel
theorem dX5_findEnds_76 : decode cX5_findEnds 76 = .ok (.iload_n 3, 1) := by decide +kernel
theorem dX5_findEnds_77 : decode cX5_findEnds 77 = .ok (.ishr, 1) := by decide +kernel
theorem dX5_findEnds_78 : decode cX5_findEnds 78 = .ok (.iconst 1, 1) := by decide +kernel
theorem dX5_findEnds_79 : decode cX5_findEnds 79 = .ok (.iand, 1) := by decide +kernel
theorem dX5_findEnds_80 : decode cX5_findEnds 80 = .ok (.ifCond .eq 10, 3) := by decide +kernel
theorem dX5_findEnds_83 : decode cX5_findEnds 83 = .ok (.aload_n 0, 1) := by decide +kernel
theorem dX5_findEnds_84 : decode cX5_findEnds 84 = .ok (.iload_n 3, 1) := by decide +kernel
theorem dX5_findEnds_85 : decode cX5_findEnds 85 = .ok (.iload_n 2, 1) := by decide +kernel
theorem dX5_findEnds_86 : decode cX5_findEnds 86 = .ok (.iload_n 1, 1) := by decide +kernel
theorem dX5_findEnds_87 : decode cX5_findEnds 87 = .ok (.invokevirtual 55, 3) := by decide +kernel
theorem dX5_findEnds_90 : decode cX5_findEnds 90 = .ok (.iinc 3 1, 3) := by decide +kernel
theorem dX5_findEnds_93 : decode cX5_findEnds 93 = .ok (.goto (-34), 3) := by decide +kernel
theorem dX5_findEnds_96 : decode cX5_findEnds 96 = .ok (.iinc 2 1, 3) := by decide +kernel
theorem dX5_findEnds_99 : decode cX5_findEnds 99 = .ok (.goto (-66), 3) := by decide +kernel
theorem dX5_findEnds_102 : decode cX5_findEnds 102 = .ok (.return_, 1) := by decide +kernel
theorem dX5_followFrom_0 : decode cX5_followFrom 0 = .ok (.iconst 0, 1) := by decide +kernel
theorem dX5_followFrom_1 : decode cX5_followFrom 1 = .ok (.istore 4, 2) := by decide +kernel
theorem dX5_followFrom_3 : decode cX5_followFrom 3 = .ok (.iload 4, 2) := by decide +kernel
theorem dX5_followFrom_5 : decode cX5_followFrom 5 = .ok (.aload_n 0, 1) := by decide +kernel
theorem dX5_followFrom_6 : decode cX5_followFrom 6 = .ok (.getfield 28, 3) := by decide +kernel
theorem dX5_followFrom_9 : decode cX5_followFrom 9 = .ok (.getfield 36, 3) := by decide +kernel
theorem dX5_followFrom_12 : decode cX5_followFrom 12 = .ok (.if_icmp .ge 89, 3) := by decide +kernel
theorem dX5_followFrom_15 : decode cX5_followFrom 15 = .ok (.aload_n 0, 1) := by decide +kernel
theorem dX5_followFrom_16 : decode cX5_followFrom 16 = .ok (.getfield 9, 3) := by decide +kernel
theorem dX5_followFrom_19 : decode cX5_followFrom 19 = .ok (.iload 4, 2) := by decide +kernel
theorem dX5_followFrom_21 : decode cX5_followFrom 21 = .ok (.iaload, 1) := by decide +kernel
theorem dX5_followFrom_22 : decode cX5_followFrom 22 = .ok (.istore 5, 2) := by decide +kernel
theorem dX5_followFrom_24 : decode cX5_followFrom 24 = .ok (.iload 4, 2) := by decide +kernel
theorem dX5_followFrom_26 : decode cX5_followFrom 26 = .ok (.iload_n 3, 1) := by decide +kernel
theorem dX5_followFrom_27 : decode cX5_followFrom 27 = .ok (.if_icmp .eq 68, 3) := by decide +kernel
theorem dX5_followFrom_30 : decode cX5_followFrom 30 = .ok (.aload_n 0, 1) := by decide +kernel
theorem dX5_followFrom_31 : decode cX5_followFrom 31 = .ok (.getfield 28, 3) := by decide +kernel
theorem dX5_followFrom_34 : decode cX5_followFrom 34 = .ok (.iload_n 1, 1) := by decide +kernel
theorem dX5_followFrom_35 : decode cX5_followFrom 35 = .ok (.iload 4, 2) := by decide +kernel
theorem dX5_followFrom_37 : decode cX5_followFrom 37 = .ok (.invokevirtual 59, 3) := by decide +kernel
theorem dX5_followFrom_40 : decode cX5_followFrom 40 = .ok (.ifCond .eq 55, 3) := by decide +kernel
theorem dX5_followFrom_43 : decode cX5_followFrom 43 = .ok (.iload 5, 2) := by decide +kernel
theorem dX5_followFrom_45 : decode cX5_followFrom 45 = .ok (.iload_n 2, 1) := by decide +kernel
theorem dX5_followFrom_46 : decode cX5_followFrom 46 = .ok (.iand, 1) := by decide +kernel
theorem dX5_followFrom_47 : decode cX5_followFrom 47 = .ok (.ifCond .eq 6, 3) := by decide +kernel
theorem dX5_followFrom_50 : decode cX5_followFrom 50 = .ok (.goto 45, 3) := by decide +kernel
theorem dX5_followFrom_53 : decode cX5_followFrom 53 = .ok (.aload_n 0, 1) := by decide +kernel
theorem dX5_followFrom_54 : decode cX5_followFrom 54 = .ok (.dup, 1) := by decide +kernel
theorem dX5_followFrom_55 : decode cX5_followFrom 55 = .ok (.getfield 25, 3) := by decide +kernel
theorem dX5_followFrom_58 : decode cX5_followFrom 58 = .ok (.iconst 1, 1) := by decide +kernel
theorem dX5_followFrom_59 : decode cX5_followFrom 59 = .ok (.iload 4, 2) := by decide +kernel
theorem dX5_followFrom_61 : decode cX5_followFrom 61 = .ok (.ishl, 1) := by decide +kernel
theorem dX5_followFrom_62 : decode cX5_followFrom 62 = .ok (.ior, 1) := by decide +kernel
theorem dX5_followFrom_63 : decode cX5_followFrom 63 = .ok (.putfield 25, 3) := by decide +kernel
theorem dX5_followFrom_66 : decode cX5_followFrom 66 = .ok (.iload 5, 2) := by decide +kernel
theorem dX5_followFrom_68 : decode cX5_followFrom 68 = .ok (.ifCond .eq 27, 3) := by decide +kernel
theorem dX5_followFrom_71 : decode cX5_followFrom 71 = .ok (.aload_n 0, 1) := by decide +kernel
theorem dX5_followFrom_72 : decode cX5_followFrom 72 = .ok (.getfield 15, 3) := by decide +kernel
theorem dX5_followFrom_75 : decode cX5_followFrom 75 = .ok (.iload_n 2, 1) := by decide +kernel
theorem dX5_followFrom_76 : decode cX5_followFrom 76 = .ok (.iload 5, 2) := by decide +kernel
theorem dX5_followFrom_78 : decode cX5_followFrom 78 = .ok (.ior, 1) := by decide +kernel
theorem dX5_followFrom_79 : decode cX5_followFrom 79 = .ok (.dup2, 1) := by decide +kernel
theorem dX5_followFrom_80 : decode cX5_followFrom 80 = .ok (.iaload, 1) := by decide +kernel
theorem dX5_followFrom_81 : decode cX5_followFrom 81 = .ok (.iconst 1, 1) := by decide +kernel
theorem dX5_followFrom_82 : decode cX5_followFrom 82 = .ok (.aload_n 0, 1) := by decide +kernel
theorem dX5_followFrom_83 : decode cX5_followFrom 83 = .ok (.getfield 32, 3) := by decide +kernel
theorem dX5_followFrom_86 : decode cX5_followFrom 86 = .ok (.getfield 41, 3) := by decide +kernel
theorem dX5_followFrom_89 : decode cX5_followFrom 89 = .ok (.iload 4, 2) := by decide +kernel
theorem dX5_followFrom_91 : decode cX5_followFrom 91 = .ok (.iaload, 1) := by decide +kernel
theorem dX5_followFrom_92 : decode cX5_followFrom 92 = .ok (.ishl, 1) := by decide +kernel
theorem dX5_followFrom_93 : decode cX5_followFrom 93 = .ok (.ior, 1) := by decide +kernel
theorem dX5_followFrom_94 : decode cX5_followFrom 94 = .ok (.iastore, 1) := by decide +kernel
theorem dX5_followFrom_95 : decode cX5_followFrom 95 = .ok (.iinc 4 1, 3) := by decide +kernel
theorem dX5_followFrom_98 : decode cX5_followFrom 98 = .ok (.goto (-95), 3) := by decide +kernel
theorem dX5_followFrom_101 : decode cX5_followFrom 101 = .ok (.return_, 1) := by decide +kernel
theorem dX5_findWay_0 : decode cX5_findWay 0 = .ok (.aload_n 0, 1) := by decide +kernel
theorem dX5_findWay_1 : decode cX5_findWay 1 = .ok (.invokevirtual 46, 3) := by decide +kernel
theorem dX5_findWay_4 : decode cX5_findWay 4 = .ok (.aload_n 0, 1) := by decide +kernel
theorem dX5_findWay_5 : decode cX5_findWay 5 = .ok (.getfield 18, 3) := by decide +kernel
theorem dX5_findWay_8 : decode cX5_findWay 8 = .ok (.iconst 0, 1) := by decide +kernel
theorem dX5_findWay_9 : decode cX5_findWay 9 = .ok (.iload_n 1, 1) := by decide +kernel
theorem dX5_findWay_10 : decode cX5_findWay 10 = .ok (.iastore, 1) := by decide +kernel
theorem dX5_findWay_11 : decode cX5_findWay 11 = .ok (.aload_n 0, 1) := by decide +kernel
theorem dX5_findWay_12 : decode cX5_findWay 12 = .ok (.getfield 32, 3) := by decide +kernel
theorem dX5_findWay_15 : decode cX5_findWay 15 = .ok (.invokevirtual 63, 3) := by decide +kernel
theorem dX5_findWay_18 : decode cX5_findWay 18 = .ok (.istore_n 2, 1) := by decide +kernel
theorem dX5_findWay_19 : decode cX5_findWay 19 = .ok (.iconst 0, 1) := by decide +kernel
theorem dX5_findWay_20 : decode cX5_findWay 20 = .ok (.istore_n 3, 1) := by decide +kernel
theorem dX5_findWay_21 : decode cX5_findWay 21 = .ok (.iload_n 3, 1) := by decide +kernel
theorem dX5_findWay_22 : decode cX5_findWay 22 = .ok (.iload_n 2, 1) := by decide +kernel
theorem dX5_findWay_23 : decode cX5_findWay 23 = .ok (.if_icmp .gt 33, 3) := by decide +kernel
theorem dX5_findWay_26 : decode cX5_findWay 26 = .ok (.aload_n 0, 1) := by decide +kernel
theorem dX5_findWay_27 : decode cX5_findWay 27 = .ok (.getfield 15, 3) := by decide +kernel
theorem dX5_findWay_30 : decode cX5_findWay 30 = .ok (.iconst 0, 1) := by decide +kernel
theorem dX5_findWay_31 : decode cX5_findWay 31 = .ok (.invokestatic 49, 3) := by decide +kernel
theorem dX5_findWay_34 : decode cX5_findWay 34 = .ok (.aload_n 0, 1) := by decide +kernel
theorem dX5_findWay_35 : decode cX5_findWay 35 = .ok (.iconst 0, 1) := by decide +kernel
theorem dX5_findWay_36 : decode cX5_findWay 36 = .ok (.iconst 0, 1) := by decide +kernel
theorem dX5_findWay_37 : decode cX5_findWay 37 = .ok (.iload_n 3, 1) := by decide +kernel
theorem dX5_findWay_38 : decode cX5_findWay 38 = .ok (.invokevirtual 67, 3) := by decide +kernel
theorem dX5_findWay_41 : decode cX5_findWay 41 = .ok (.ifCond .eq 9, 3) := by decide +kernel
theorem dX5_findWay_44 : decode cX5_findWay 44 = .ok (.iconst 2, 1) := by decide +kernel
theorem dX5_findWay_45 : decode cX5_findWay 45 = .ok (.iload_n 3, 1) := by decide +kernel
theorem dX5_findWay_46 : decode cX5_findWay 46 = .ok (.imul, 1) := by decide +kernel
theorem dX5_findWay_47 : decode cX5_findWay 47 = .ok (.iconst 1, 1) := by decide +kernel
theorem dX5_findWay_48 : decode cX5_findWay 48 = .ok (.iadd, 1) := by decide +kernel
theorem dX5_findWay_49 : decode cX5_findWay 49 = .ok (.ireturn, 1) := by decide +kernel
theorem dX5_findWay_50 : decode cX5_findWay 50 = .ok (.iinc 3 1, 3) := by decide +kernel
theorem dX5_findWay_53 : decode cX5_findWay 53 = .ok (.goto (-32), 3) := by decide +kernel
theorem dX5_findWay_56 : decode cX5_findWay 56 = .ok (.iconst 0, 1) := by decide +kernel
theorem dX5_findWay_57 : decode cX5_findWay 57 = .ok (.ireturn, 1) := by decide +kernel
theorem dX5_followWay_0 : decode cX5_followWay 0 = .ok (.aload_n 0, 1) := by decide +kernel
theorem dX5_followWay_1 : decode cX5_followWay 1 = .ok (.getfield 18, 3) := by decide +kernel
theorem dX5_followWay_4 : decode cX5_followWay 4 = .ok (.iload_n 1, 1) := by decide +kernel
theorem dX5_followWay_5 : decode cX5_followWay 5 = .ok (.iaload, 1) := by decide +kernel
theorem dX5_followWay_6 : decode cX5_followWay 6 = .ok (.istore 4, 2) := by decide +kernel
theorem dX5_followWay_8 : decode cX5_followWay 8 = .ok (.aload_n 0, 1) := by decide +kernel
theorem dX5_followWay_9 : decode cX5_followWay 9 = .ok (.getfield 15, 3) := by decide +kernel
theorem dX5_followWay_12 : decode cX5_followWay 12 = .ok (.iload_n 2, 1) := by decide +kernel
theorem dX5_followWay_13 : decode cX5_followWay 13 = .ok (.iaload, 1) := by decide +kernel
theorem dX5_followWay_14 : decode cX5_followWay 14 = .ok (.iload 4, 2) := by decide +kernel
theorem dX5_followWay_16 : decode cX5_followWay 16 = .ok (.ishr, 1) := by decide +kernel
theorem dX5_followWay_17 : decode cX5_followWay 17 = .ok (.iconst 1, 1) := by decide +kernel
theorem dX5_followWay_18 : decode cX5_followWay 18 = .ok (.iand, 1) := by decide +kernel
theorem dX5_followWay_19 : decode cX5_followWay 19 = .ok (.ifCond .eq 5, 3) := by decide +kernel
theorem dX5_followWay_22 : decode cX5_followWay 22 = .ok (.iconst 0, 1) := by decide +kernel
theorem dX5_followWay_23 : decode cX5_followWay 23 = .ok (.ireturn, 1) := by decide +kernel
theorem dX5_followWay_24 : decode cX5_followWay 24 = .ok (.aload_n 0, 1) := by decide +kernel
theorem dX5_followWay_25 : decode cX5_followWay 25 = .ok (.getfield 15, 3) := by decide +kernel
theorem dX5_followWay_28 : decode cX5_followWay 28 = .ok (.iload_n 2, 1) := by decide +kernel
theorem dX5_followWay_29 : decode cX5_followWay 29 = .ok (.dup2, 1) := by decide +kernel
theorem dX5_followWay_30 : decode cX5_followWay 30 = .ok (.iaload, 1) := by decide +kernel
theorem dX5_followWay_31 : decode cX5_followWay 31 = .ok (.iconst 1, 1) := by decide +kernel
theorem dX5_followWay_32 : decode cX5_followWay 32 = .ok (.iload 4, 2) := by decide +kernel
theorem dX5_followWay_34 : decode cX5_followWay 34 = .ok (.ishl, 1) := by decide +kernel
theorem dX5_followWay_35 : decode cX5_followWay 35 = .ok (.ior, 1) := by decide +kernel
theorem dX5_followWay_36 : decode cX5_followWay 36 = .ok (.iastore, 1) := by decide +kernel
theorem dX5_followWay_37 : decode cX5_followWay 37 = .ok (.iconst 0, 1) := by decide +kernel
theorem dX5_followWay_38 : decode cX5_followWay 38 = .ok (.istore 5, 2) := by decide +kernel
theorem dX5_followWay_40 : decode cX5_followWay 40 = .ok (.iload 5, 2) := by decide +kernel
theorem dX5_followWay_42 : decode cX5_followWay 42 = .ok (.aload_n 0, 1) := by decide +kernel
theorem dX5_followWay_43 : decode cX5_followWay 43 = .ok (.getfield 28, 3) := by decide +kernel
theorem dX5_followWay_46 : decode cX5_followWay 46 = .ok (.getfield 36, 3) := by decide +kernel
theorem dX5_followWay_49 : decode cX5_followWay 49 = .ok (.if_icmp .ge 37, 3) := by decide +kernel
theorem dX5_followWay_52 : decode cX5_followWay 52 = .ok (.aload_n 0, 1) := by decide +kernel
theorem dX5_followWay_53 : decode cX5_followWay 53 = .ok (.getfield 28, 3) := by decide +kernel
theorem dX5_followWay_56 : decode cX5_followWay 56 = .ok (.iload 4, 2) := by decide +kernel
theorem dX5_followWay_58 : decode cX5_followWay 58 = .ok (.iload 5, 2) := by decide +kernel
theorem dX5_followWay_60 : decode cX5_followWay 60 = .ok (.invokevirtual 59, 3) := by decide +kernel
theorem dX5_followWay_63 : decode cX5_followWay 63 = .ok (.ifCond .eq 17, 3) := by decide +kernel
theorem dX5_followWay_66 : decode cX5_followWay 66 = .ok (.aload_n 0, 1) := by decide +kernel
theorem dX5_followWay_67 : decode cX5_followWay 67 = .ok (.iload 5, 2) := by decide +kernel
theorem dX5_followWay_69 : decode cX5_followWay 69 = .ok (.iload_n 1, 1) := by decide +kernel
theorem dX5_followWay_70 : decode cX5_followWay 70 = .ok (.iload_n 2, 1) := by decide +kernel
theorem dX5_followWay_71 : decode cX5_followWay 71 = .ok (.iload_n 3, 1) := by decide +kernel
theorem dX5_followWay_72 : decode cX5_followWay 72 = .ok (.invokevirtual 71, 3) := by decide +kernel
theorem dX5_followWay_75 : decode cX5_followWay 75 = .ok (.ifCond .eq 5, 3) := by decide +kernel
theorem dX5_followWay_78 : decode cX5_followWay 78 = .ok (.iconst 1, 1) := by decide +kernel
theorem dX5_followWay_79 : decode cX5_followWay 79 = .ok (.ireturn, 1) := by decide +kernel
theorem dX5_followWay_80 : decode cX5_followWay 80 = .ok (.iinc 5 1, 3) := by decide +kernel
theorem dX5_followWay_83 : decode cX5_followWay 83 = .ok (.goto (-43), 3) := by decide +kernel
theorem dX5_followWay_86 : decode cX5_followWay 86 = .ok (.iconst 0, 1) := by decide +kernel
theorem dX5_followWay_87 : decode cX5_followWay 87 = .ok (.ireturn, 1) := by decide +kernel
theorem dX5_followWayTo_0 : decode cX5_followWayTo 0 = .ok (.aload_n 0, 1) := by decide +kernel
theorem dX5_followWayTo_1 : decode cX5_followWayTo 1 = .ok (.getfield 9, 3) := by decide +kernel
theorem dX5_followWayTo_4 : decode cX5_followWayTo 4 = .ok (.iload_n 1, 1) := by decide +kernel
theorem dX5_followWayTo_5 : decode cX5_followWayTo 5 = .ok (.iaload, 1) := by decide +kernel
theorem dX5_followWayTo_6 : decode cX5_followWayTo 6 = .ok (.istore 5, 2) := by decide +kernel
theorem dX5_followWayTo_8 : decode cX5_followWayTo 8 = .ok (.iload 4, 2) := by decide +kernel
theorem dX5_followWayTo_10 : decode cX5_followWayTo 10 = .ok (.ifCond .ne 33, 3) := by decide +kernel
theorem dX5_followWayTo_13 : decode cX5_followWayTo 13 = .ok (.aload_n 0, 1) := by decide +kernel
theorem dX5_followWayTo_14 : decode cX5_followWayTo 14 = .ok (.getfield 18, 3) := by decide +kernel
theorem dX5_followWayTo_17 : decode cX5_followWayTo 17 = .ok (.iload_n 2, 1) := by decide +kernel
theorem dX5_followWayTo_18 : decode cX5_followWayTo 18 = .ok (.iconst 1, 1) := by decide +kernel
theorem dX5_followWayTo_19 : decode cX5_followWayTo 19 = .ok (.iadd, 1) := by decide +kernel
theorem dX5_followWayTo_20 : decode cX5_followWayTo 20 = .ok (.iload_n 1, 1) := by decide +kernel
theorem dX5_followWayTo_21 : decode cX5_followWayTo 21 = .ok (.iastore, 1) := by decide +kernel
theorem dX5_followWayTo_22 : decode cX5_followWayTo 22 = .ok (.iload 5, 2) := by decide +kernel
theorem dX5_followWayTo_24 : decode cX5_followWayTo 24 = .ok (.ifCond .ne 17, 3) := by decide +kernel
theorem dX5_followWayTo_27 : decode cX5_followWayTo 27 = .ok (.iload_n 1, 1) := by decide +kernel
theorem dX5_followWayTo_28 : decode cX5_followWayTo 28 = .ok (.aload_n 0, 1) := by decide +kernel
theorem dX5_followWayTo_29 : decode cX5_followWayTo 29 = .ok (.getfield 18, 3) := by decide +kernel
theorem dX5_followWayTo_32 : decode cX5_followWayTo 32 = .ok (.iconst 0, 1) := by decide +kernel
theorem dX5_followWayTo_33 : decode cX5_followWayTo 33 = .ok (.iaload, 1) := by decide +kernel
theorem dX5_followWayTo_34 : decode cX5_followWayTo 34 = .ok (.if_icmp .eq 7, 3) := by decide +kernel
theorem dX5_followWayTo_37 : decode cX5_followWayTo 37 = .ok (.iconst 1, 1) := by decide +kernel
theorem dX5_followWayTo_38 : decode cX5_followWayTo 38 = .ok (.goto 4, 3) := by decide +kernel
theorem dX5_followWayTo_41 : decode cX5_followWayTo 41 = .ok (.iconst 0, 1) := by decide +kernel
theorem dX5_followWayTo_42 : decode cX5_followWayTo 42 = .ok (.ireturn, 1) := by decide +kernel
theorem dX5_followWayTo_43 : decode cX5_followWayTo 43 = .ok (.iload 5, 2) := by decide +kernel
theorem dX5_followWayTo_45 : decode cX5_followWayTo 45 = .ok (.ifCond .eq 10, 3) := by decide +kernel
theorem dX5_followWayTo_48 : decode cX5_followWayTo 48 = .ok (.iload 5, 2) := by decide +kernel
theorem dX5_followWayTo_50 : decode cX5_followWayTo 50 = .ok (.iload_n 3, 1) := by decide +kernel
theorem dX5_followWayTo_51 : decode cX5_followWayTo 51 = .ok (.iand, 1) := by decide +kernel
theorem dX5_followWayTo_52 : decode cX5_followWayTo 52 = .ok (.ifCond .eq 5, 3) := by decide +kernel
theorem dX5_followWayTo_55 : decode cX5_followWayTo 55 = .ok (.iconst 0, 1) := by decide +kernel
theorem dX5_followWayTo_56 : decode cX5_followWayTo 56 = .ok (.ireturn, 1) := by decide +kernel
theorem dX5_followWayTo_57 : decode cX5_followWayTo 57 = .ok (.aload_n 0, 1) := by decide +kernel
theorem dX5_followWayTo_58 : decode cX5_followWayTo 58 = .ok (.getfield 18, 3) := by decide +kernel
theorem dX5_followWayTo_61 : decode cX5_followWayTo 61 = .ok (.iload_n 2, 1) := by decide +kernel
theorem dX5_followWayTo_62 : decode cX5_followWayTo 62 = .ok (.iconst 1, 1) := by decide +kernel
theorem dX5_followWayTo_63 : decode cX5_followWayTo 63 = .ok (.iadd, 1) := by decide +kernel
theorem dX5_followWayTo_64 : decode cX5_followWayTo 64 = .ok (.iload_n 1, 1) := by decide +kernel
theorem dX5_followWayTo_65 : decode cX5_followWayTo 65 = .ok (.iastore, 1) := by decide +kernel
theorem dX5_followWayTo_66 : decode cX5_followWayTo 66 = .ok (.aload_n 0, 1) := by decide +kernel
theorem dX5_followWayTo_67 : decode cX5_followWayTo 67 = .ok (.getfield 18, 3) := by decide +kernel
theorem dX5_followWayTo_70 : decode cX5_followWayTo 70 = .ok (.iload_n 2, 1) := by decide +kernel
theorem dX5_followWayTo_71 : decode cX5_followWayTo 71 = .ok (.iconst 2, 1) := by decide +kernel
theorem dX5_followWayTo_72 : decode cX5_followWayTo 72 = .ok (.iadd, 1) := by decide +kernel
theorem dX5_followWayTo_73 : decode cX5_followWayTo 73 = .ok (.aload_n 0, 1) := by decide +kernel
theorem dX5_followWayTo_74 : decode cX5_followWayTo 74 = .ok (.getfield 32, 3) := by decide +kernel
theorem dX5_followWayTo_77 : decode cX5_followWayTo 77 = .ok (.getfield 41, 3) := by decide +kernel
theorem dX5_followWayTo_80 : decode cX5_followWayTo 80 = .ok (.iload_n 1, 1) := by decide +kernel
theorem dX5_followWayTo_81 : decode cX5_followWayTo 81 = .ok (.iaload, 1) := by decide +kernel
theorem dX5_followWayTo_82 : decode cX5_followWayTo 82 = .ok (.iastore, 1) := by decide +kernel
theorem dX5_followWayTo_83 : decode cX5_followWayTo 83 = .ok (.aload_n 0, 1) := by decide +kernel
theorem dX5_followWayTo_84 : decode cX5_followWayTo 84 = .ok (.iload_n 2, 1) := by decide +kernel
theorem dX5_followWayTo_85 : decode cX5_followWayTo 85 = .ok (.iconst 2, 1) := by decide +kernel
theorem dX5_followWayTo_86 : decode cX5_followWayTo 86 = .ok (.iadd, 1) := by decide +kernel
theorem dX5_followWayTo_87 : decode cX5_followWayTo 87 = .ok (.iload_n 3, 1) := by decide +kernel
theorem dX5_followWayTo_88 : decode cX5_followWayTo 88 = .ok (.iload 5, 2) := by decide +kernel
theorem dX5_followWayTo_90 : decode cX5_followWayTo 90 = .ok (.ior, 1) := by decide +kernel
theorem dX5_followWayTo_91 : decode cX5_followWayTo 91 = .ok (.iload 4, 2) := by decide +kernel
theorem dX5_followWayTo_93 : decode cX5_followWayTo 93 = .ok (.iconst 1, 1) := by decide +kernel
theorem dX5_followWayTo_94 : decode cX5_followWayTo 94 = .ok (.isub, 1) := by decide +kernel
theorem dX5_followWayTo_95 : decode cX5_followWayTo 95 = .ok (.invokevirtual 67, 3) := by decide +kernel
theorem dX5_followWayTo_98 : decode cX5_followWayTo 98 = .ok (.ireturn, 1) := by decide +kernel
theorem dJ6_numberOfTrailingZeros_0f7a4_0 : decode cJ6_numberOfTrailingZeros_0f7a4 0 = .ok (.iload_n 0, 1) := by decide +kernel
theorem dJ6_numberOfTrailingZeros_0f7a4_1 : decode cJ6_numberOfTrailingZeros_0f7a4 1 = .ok (.iconst (-1), 1) := by decide +kernel
theorem dJ6_numberOfTrailingZeros_0f7a4_2 : decode cJ6_numberOfTrailingZeros_0f7a4 2 = .ok (.ixor, 1) := by decide +kernel
theorem dJ6_numberOfTrailingZeros_0f7a4_3 : decode cJ6_numberOfTrailingZeros_0f7a4 3 = .ok (.iload_n 0, 1) := by decide +kernel
theorem dJ6_numberOfTrailingZeros_0f7a4_4 : decode cJ6_numberOfTrailingZeros_0f7a4 4 = .ok (.iconst 1, 1) := by decide +kernel
theorem dJ6_numberOfTrailingZeros_0f7a4_5 : decode cJ6_numberOfTrailingZeros_0f7a4 5 = .ok (.isub, 1) := by decide +kernel
theorem dJ6_numberOfTrailingZeros_0f7a4_6 : decode cJ6_numberOfTrailingZeros_0f7a4 6 = .ok (.iand, 1) := by decide +kernel
theorem dJ6_numberOfTrailingZeros_0f7a4_7 : decode cJ6_numberOfTrailingZeros_0f7a4 7 = .ok (.istore_n 0, 1) := by decide +kernel
theorem dJ6_numberOfTrailingZeros_0f7a4_8 : decode cJ6_numberOfTrailingZeros_0f7a4 8 = .ok (.iload_n 0, 1) := by decide +kernel
theorem dJ6_numberOfTrailingZeros_0f7a4_9 : decode cJ6_numberOfTrailingZeros_0f7a4 9 = .ok (.ifCond .gt 8, 3) := by decide +kernel
theorem dJ6_numberOfTrailingZeros_0f7a4_12 : decode cJ6_numberOfTrailingZeros_0f7a4 12 = .ok (.iload_n 0, 1) := by decide +kernel
theorem dJ6_numberOfTrailingZeros_0f7a4_13 : decode cJ6_numberOfTrailingZeros_0f7a4 13 = .ok (.bipush 32, 2) := by decide +kernel
theorem dJ6_numberOfTrailingZeros_0f7a4_15 : decode cJ6_numberOfTrailingZeros_0f7a4 15 = .ok (.iand, 1) := by decide +kernel
theorem dJ6_numberOfTrailingZeros_0f7a4_16 : decode cJ6_numberOfTrailingZeros_0f7a4 16 = .ok (.ireturn, 1) := by decide +kernel
theorem dJ6_numberOfTrailingZeros_0f7a4_17 : decode cJ6_numberOfTrailingZeros_0f7a4 17 = .ok (.iconst 1, 1) := by decide +kernel
theorem dJ6_numberOfTrailingZeros_0f7a4_18 : decode cJ6_numberOfTrailingZeros_0f7a4 18 = .ok (.istore_n 1, 1) := by decide +kernel
theorem dJ6_numberOfTrailingZeros_0f7a4_19 : decode cJ6_numberOfTrailingZeros_0f7a4 19 = .ok (.iload_n 0, 1) := by decide +kernel
theorem dJ6_numberOfTrailingZeros_0f7a4_20 : decode cJ6_numberOfTrailingZeros_0f7a4 20 = .ok (.ldc_w 264, 3) := by decide +kernel
theorem dJ6_numberOfTrailingZeros_0f7a4_23 : decode cJ6_numberOfTrailingZeros_0f7a4 23 = .ok (.if_icmp .le 11, 3) := by decide +kernel
theorem dJ6_numberOfTrailingZeros_0f7a4_26 : decode cJ6_numberOfTrailingZeros_0f7a4 26 = .ok (.iinc 1 16, 3) := by decide +kernel
theorem dJ6_numberOfTrailingZeros_0f7a4_29 : decode cJ6_numberOfTrailingZeros_0f7a4 29 = .ok (.iload_n 0, 1) := by decide +kernel
theorem dJ6_numberOfTrailingZeros_0f7a4_30 : decode cJ6_numberOfTrailingZeros_0f7a4 30 = .ok (.bipush 16, 2) := by decide +kernel
theorem dJ6_numberOfTrailingZeros_0f7a4_32 : decode cJ6_numberOfTrailingZeros_0f7a4 32 = .ok (.iushr, 1) := by decide +kernel
theorem dJ6_numberOfTrailingZeros_0f7a4_33 : decode cJ6_numberOfTrailingZeros_0f7a4 33 = .ok (.istore_n 0, 1) := by decide +kernel
theorem dJ6_numberOfTrailingZeros_0f7a4_34 : decode cJ6_numberOfTrailingZeros_0f7a4 34 = .ok (.iload_n 0, 1) := by decide +kernel
theorem dJ6_numberOfTrailingZeros_0f7a4_35 : decode cJ6_numberOfTrailingZeros_0f7a4 35 = .ok (.sipush 256, 3) := by decide +kernel
theorem dJ6_numberOfTrailingZeros_0f7a4_38 : decode cJ6_numberOfTrailingZeros_0f7a4 38 = .ok (.if_icmp .le 11, 3) := by decide +kernel
theorem dJ6_numberOfTrailingZeros_0f7a4_41 : decode cJ6_numberOfTrailingZeros_0f7a4 41 = .ok (.iinc 1 8, 3) := by decide +kernel
theorem dJ6_numberOfTrailingZeros_0f7a4_44 : decode cJ6_numberOfTrailingZeros_0f7a4 44 = .ok (.iload_n 0, 1) := by decide +kernel
theorem dJ6_numberOfTrailingZeros_0f7a4_45 : decode cJ6_numberOfTrailingZeros_0f7a4 45 = .ok (.bipush 8, 2) := by decide +kernel
theorem dJ6_numberOfTrailingZeros_0f7a4_47 : decode cJ6_numberOfTrailingZeros_0f7a4 47 = .ok (.iushr, 1) := by decide +kernel
theorem dJ6_numberOfTrailingZeros_0f7a4_48 : decode cJ6_numberOfTrailingZeros_0f7a4 48 = .ok (.istore_n 0, 1) := by decide +kernel
theorem dJ6_numberOfTrailingZeros_0f7a4_49 : decode cJ6_numberOfTrailingZeros_0f7a4 49 = .ok (.iload_n 0, 1) := by decide +kernel
theorem dJ6_numberOfTrailingZeros_0f7a4_50 : decode cJ6_numberOfTrailingZeros_0f7a4 50 = .ok (.bipush 16, 2) := by decide +kernel
theorem dJ6_numberOfTrailingZeros_0f7a4_52 : decode cJ6_numberOfTrailingZeros_0f7a4 52 = .ok (.if_icmp .le 10, 3) := by decide +kernel
theorem dJ6_numberOfTrailingZeros_0f7a4_55 : decode cJ6_numberOfTrailingZeros_0f7a4 55 = .ok (.iinc 1 4, 3) := by decide +kernel
theorem dJ6_numberOfTrailingZeros_0f7a4_58 : decode cJ6_numberOfTrailingZeros_0f7a4 58 = .ok (.iload_n 0, 1) := by decide +kernel
theorem dJ6_numberOfTrailingZeros_0f7a4_59 : decode cJ6_numberOfTrailingZeros_0f7a4 59 = .ok (.iconst 4, 1) := by decide +kernel
theorem dJ6_numberOfTrailingZeros_0f7a4_60 : decode cJ6_numberOfTrailingZeros_0f7a4 60 = .ok (.iushr, 1) := by decide +kernel
theorem dJ6_numberOfTrailingZeros_0f7a4_61 : decode cJ6_numberOfTrailingZeros_0f7a4 61 = .ok (.istore_n 0, 1) := by decide +kernel
theorem dJ6_numberOfTrailingZeros_0f7a4_62 : decode cJ6_numberOfTrailingZeros_0f7a4 62 = .ok (.iload_n 0, 1) := by decide +kernel
theorem dJ6_numberOfTrailingZeros_0f7a4_63 : decode cJ6_numberOfTrailingZeros_0f7a4 63 = .ok (.iconst 4, 1) := by decide +kernel
theorem dJ6_numberOfTrailingZeros_0f7a4_64 : decode cJ6_numberOfTrailingZeros_0f7a4 64 = .ok (.if_icmp .le 10, 3) := by decide +kernel
theorem dJ6_numberOfTrailingZeros_0f7a4_67 : decode cJ6_numberOfTrailingZeros_0f7a4 67 = .ok (.iinc 1 2, 3) := by decide +kernel
theorem dJ6_numberOfTrailingZeros_0f7a4_70 : decode cJ6_numberOfTrailingZeros_0f7a4 70 = .ok (.iload_n 0, 1) := by decide +kernel
theorem dJ6_numberOfTrailingZeros_0f7a4_71 : decode cJ6_numberOfTrailingZeros_0f7a4 71 = .ok (.iconst 2, 1) := by decide +kernel
theorem dJ6_numberOfTrailingZeros_0f7a4_72 : decode cJ6_numberOfTrailingZeros_0f7a4 72 = .ok (.iushr, 1) := by decide +kernel
theorem dJ6_numberOfTrailingZeros_0f7a4_73 : decode cJ6_numberOfTrailingZeros_0f7a4 73 = .ok (.istore_n 0, 1) := by decide +kernel
theorem dJ6_numberOfTrailingZeros_0f7a4_74 : decode cJ6_numberOfTrailingZeros_0f7a4 74 = .ok (.iload_n 1, 1) := by decide +kernel
theorem dJ6_numberOfTrailingZeros_0f7a4_75 : decode cJ6_numberOfTrailingZeros_0f7a4 75 = .ok (.iload_n 0, 1) := by decide +kernel
theorem dJ6_numberOfTrailingZeros_0f7a4_76 : decode cJ6_numberOfTrailingZeros_0f7a4 76 = .ok (.iconst 1, 1) := by decide +kernel
theorem dJ6_numberOfTrailingZeros_0f7a4_77 : decode cJ6_numberOfTrailingZeros_0f7a4 77 = .ok (.iushr, 1) := by decide +kernel
theorem dJ6_numberOfTrailingZeros_0f7a4_78 : decode cJ6_numberOfTrailingZeros_0f7a4 78 = .ok (.iadd, 1) := by decide +kernel
theorem dJ6_numberOfTrailingZeros_0f7a4_79 : decode cJ6_numberOfTrailingZeros_0f7a4 79 = .ok (.ireturn, 1) := by decide +kernel
theorem dJ6_bitCount_0f7a4_0 : decode cJ6_bitCount_0f7a4 0 = .ok (.iload_n 0, 1) := by decide +kernel
theorem dJ6_bitCount_0f7a4_1 : decode cJ6_bitCount_0f7a4 1 = .ok (.iload_n 0, 1) := by decide +kernel
theorem dJ6_bitCount_0f7a4_2 : decode cJ6_bitCount_0f7a4 2 = .ok (.iconst 1, 1) := by decide +kernel
theorem dJ6_bitCount_0f7a4_3 : decode cJ6_bitCount_0f7a4 3 = .ok (.iushr, 1) := by decide +kernel
theorem dJ6_bitCount_0f7a4_4 : decode cJ6_bitCount_0f7a4 4 = .ok (.ldc_w 265, 3) := by decide +kernel
theorem dJ6_bitCount_0f7a4_7 : decode cJ6_bitCount_0f7a4 7 = .ok (.iand, 1) := by decide +kernel
theorem dJ6_bitCount_0f7a4_8 : decode cJ6_bitCount_0f7a4 8 = .ok (.isub, 1) := by decide +kernel
theorem dJ6_bitCount_0f7a4_9 : decode cJ6_bitCount_0f7a4 9 = .ok (.istore_n 0, 1) := by decide +kernel
theorem dJ6_bitCount_0f7a4_10 : decode cJ6_bitCount_0f7a4 10 = .ok (.iload_n 0, 1) := by decide +kernel
theorem dJ6_bitCount_0f7a4_11 : decode cJ6_bitCount_0f7a4 11 = .ok (.ldc_w 266, 3) := by decide +kernel
theorem dJ6_bitCount_0f7a4_14 : decode cJ6_bitCount_0f7a4 14 = .ok (.iand, 1) := by decide +kernel
theorem dJ6_bitCount_0f7a4_15 : decode cJ6_bitCount_0f7a4 15 = .ok (.iload_n 0, 1) := by decide +kernel
theorem dJ6_bitCount_0f7a4_16 : decode cJ6_bitCount_0f7a4 16 = .ok (.iconst 2, 1) := by decide +kernel
theorem dJ6_bitCount_0f7a4_17 : decode cJ6_bitCount_0f7a4 17 = .ok (.iushr, 1) := by decide +kernel
theorem dJ6_bitCount_0f7a4_18 : decode cJ6_bitCount_0f7a4 18 = .ok (.ldc_w 266, 3) := by decide +kernel
theorem dJ6_bitCount_0f7a4_21 : decode cJ6_bitCount_0f7a4 21 = .ok (.iand, 1) := by decide +kernel
theorem dJ6_bitCount_0f7a4_22 : decode cJ6_bitCount_0f7a4 22 = .ok (.iadd, 1) := by decide +kernel
theorem dJ6_bitCount_0f7a4_23 : decode cJ6_bitCount_0f7a4 23 = .ok (.istore_n 0, 1) := by decide +kernel
theorem dJ6_bitCount_0f7a4_24 : decode cJ6_bitCount_0f7a4 24 = .ok (.iload_n 0, 1) := by decide +kernel
theorem dJ6_bitCount_0f7a4_25 : decode cJ6_bitCount_0f7a4 25 = .ok (.iload_n 0, 1) := by decide +kernel
theorem dJ6_bitCount_0f7a4_26 : decode cJ6_bitCount_0f7a4 26 = .ok (.iconst 4, 1) := by decide +kernel
theorem dJ6_bitCount_0f7a4_27 : decode cJ6_bitCount_0f7a4 27 = .ok (.iushr, 1) := by decide +kernel
theorem dJ6_bitCount_0f7a4_28 : decode cJ6_bitCount_0f7a4 28 = .ok (.iadd, 1) := by decide +kernel
theorem dJ6_bitCount_0f7a4_29 : decode cJ6_bitCount_0f7a4 29 = .ok (.ldc_w 267, 3) := by decide +kernel
theorem dJ6_bitCount_0f7a4_32 : decode cJ6_bitCount_0f7a4 32 = .ok (.iand, 1) := by decide +kernel
theorem dJ6_bitCount_0f7a4_33 : decode cJ6_bitCount_0f7a4 33 = .ok (.istore_n 0, 1) := by decide +kernel
theorem dJ6_bitCount_0f7a4_34 : decode cJ6_bitCount_0f7a4 34 = .ok (.iload_n 0, 1) := by decide +kernel
theorem dJ6_bitCount_0f7a4_35 : decode cJ6_bitCount_0f7a4 35 = .ok (.iload_n 0, 1) := by decide +kernel
theorem dJ6_bitCount_0f7a4_36 : decode cJ6_bitCount_0f7a4 36 = .ok (.bipush 8, 2) := by decide +kernel
theorem dJ6_bitCount_0f7a4_38 : decode cJ6_bitCount_0f7a4 38 = .ok (.iushr, 1) := by decide +kernel
theorem dJ6_bitCount_0f7a4_39 : decode cJ6_bitCount_0f7a4 39 = .ok (.iadd, 1) := by decide +kernel
theorem dJ6_bitCount_0f7a4_40 : decode cJ6_bitCount_0f7a4 40 = .ok (.istore_n 0, 1) := by decide +kernel
theorem dJ6_bitCount_0f7a4_41 : decode cJ6_bitCount_0f7a4 41 = .ok (.iload_n 0, 1) := by decide +kernel
theorem dJ6_bitCount_0f7a4_42 : decode cJ6_bitCount_0f7a4 42 = .ok (.iload_n 0, 1) := by decide +kernel
theorem dJ6_bitCount_0f7a4_43 : decode cJ6_bitCount_0f7a4 43 = .ok (.bipush 16, 2) := by decide +kernel
theorem dJ6_bitCount_0f7a4_45 : decode cJ6_bitCount_0f7a4 45 = .ok (.iushr, 1) := by decide +kernel
theorem dJ6_bitCount_0f7a4_46 : decode cJ6_bitCount_0f7a4 46 = .ok (.iadd, 1) := by decide +kernel
theorem dJ6_bitCount_0f7a4_47 : decode cJ6_bitCount_0f7a4 47 = .ok (.istore_n 0, 1) := by decide +kernel
theorem dJ6_bitCount_0f7a4_48 : decode cJ6_bitCount_0f7a4 48 = .ok (.iload_n 0, 1) := by decide +kernel
theorem dJ6_bitCount_0f7a4_49 : decode cJ6_bitCount_0f7a4 49 = .ok (.bipush 63, 2) := by decide +kernel
theorem dJ6_bitCount_0f7a4_51 : decode cJ6_bitCount_0f7a4 51 = .ok (.iand, 1) := by decide +kernel
theorem dJ6_bitCount_0f7a4_52 : decode cJ6_bitCount_0f7a4 52 = .ok (.ireturn, 1) := by decide +kernel
theorem dJ9_max_7cf53_0 : decode cJ9_max_7cf53 0 = .ok (.iload_n 0, 1) := by decide +kernel
theorem dJ9_max_7cf53_1 : decode cJ9_max_7cf53 1 = .ok (.iload_n 1, 1) := by decide +kernel
theorem dJ9_max_7cf53_2 : decode cJ9_max_7cf53 2 = .ok (.if_icmp .lt 7, 3) := by decide +kernel
theorem dJ9_max_7cf53_5 : decode cJ9_max_7cf53 5 = .ok (.iload_n 0, 1) := by decide +kernel
theorem dJ9_max_7cf53_6 : decode cJ9_max_7cf53 6 = .ok (.goto 4, 3) := by decide +kernel
theorem dJ9_max_7cf53_9 : decode cJ9_max_7cf53 9 = .ok (.iload_n 1, 1) := by decide +kernel
theorem dJ9_max_7cf53_10 : decode cJ9_max_7cf53 10 = .ok (.ireturn, 1) := by decide +kernel
theorem dJ9_min_7cf53_0 : decode cJ9_min_7cf53 0 = .ok (.iload_n 0, 1) := by decide +kernel
theorem dJ9_min_7cf53_1 : decode cJ9_min_7cf53 1 = .ok (.iload_n 1, 1) := by decide +kernel
theorem dJ9_min_7cf53_2 : decode cJ9_min_7cf53 2 = .ok (.if_icmp .gt 7, 3) := by decide +kernel
theorem dJ9_min_7cf53_5 : decode cJ9_min_7cf53 5 = .ok (.iload_n 0, 1) := by decide +kernel
theorem dJ9_min_7cf53_6 : decode cJ9_min_7cf53 6 = .ok (.goto 4, 3) := by decide +kernel
theorem dJ9_min_7cf53_9 : decode cJ9_min_7cf53 9 = .ok (.iload_n 1, 1) := by decide +kernel
theorem dJ9_min_7cf53_10 : decode cJ9_min_7cf53 10 = .ok (.ireturn, 1) := by decide +kernel
theorem dJ7_fill_53178_0 : decode cJ7_fill_53178 0 = .ok (.iconst 0, 1) := by decide +kernel
theorem dJ7_fill_53178_1 : decode cJ7_fill_53178 1 = .ok (.istore_n 2, 1) := by decide +kernel
theorem dJ7_fill_53178_2 : decode cJ7_fill_53178 2 = .ok (.aload_n 0, 1) := by decide +kernel
theorem dJ7_fill_53178_3 : decode cJ7_fill_53178 3 = .ok (.arraylength, 1) := by decide +kernel
theorem dJ7_fill_53178_4 : decode cJ7_fill_53178 4 = .ok (.istore_n 3, 1) := by decide +kernel
theorem dJ7_fill_53178_5 : decode cJ7_fill_53178 5 = .ok (.iload_n 2, 1) := by decide +kernel
theorem dJ7_fill_53178_6 : decode cJ7_fill_53178 6 = .ok (.iload_n 3, 1) := by decide +kernel
theorem dJ7_fill_53178_7 : decode cJ7_fill_53178 7 = .ok (.if_icmp .ge 13, 3) := by decide +kernel
theorem dJ7_fill_53178_10 : decode cJ7_fill_53178 10 = .ok (.aload_n 0, 1) := by decide +kernel
theorem dJ7_fill_53178_11 : decode cJ7_fill_53178 11 = .ok (.iload_n 2, 1) := by decide +kernel
theorem dJ7_fill_53178_12 : decode cJ7_fill_53178 12 = .ok (.iload_n 1, 1) := by decide +kernel
theorem dJ7_fill_53178_13 : decode cJ7_fill_53178 13 = .ok (.iastore, 1) := by decide +kernel
theorem dJ7_fill_53178_14 : decode cJ7_fill_53178 14 = .ok (.iinc 2 1, 3) := by decide +kernel
theorem dJ7_fill_53178_17 : decode cJ7_fill_53178 17 = .ok (.goto (-12), 3) := by decide +kernel
theorem dJ7_fill_53178_20 : decode cJ7_fill_53178 20 = .ok (.return_, 1) := by decide +kernel
