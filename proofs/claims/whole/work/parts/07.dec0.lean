theorem dX0_init_0 : decode cX0_init 0 = .ok (.aload_n 0, 1) := by decide +kernel
theorem dX0_init_1 : decode cX0_init 1 = .ok (.invokespecial 3, 3) := by decide +kernel
theorem dX0_init_4 : decode cX0_init 4 = .ok (.aload_n 0, 1) := by decide +kernel
theorem dX0_init_5 : decode cX0_init 5 = .ok (.new 9, 3) := by decide +kernel
theorem dX0_init_8 : decode cX0_init 8 = .ok (.dup, 1) := by decide +kernel
theorem dX0_init_9 : decode cX0_init 9 = .ok (.invokespecial 11, 3) := by decide +kernel
theorem dX0_init_12 : decode cX0_init 12 = .ok (.putfield 12, 3) := by decide +kernel
theorem dX0_init_15 : decode cX0_init 15 = .ok (.aload_n 0, 1) := by decide +kernel
theorem dX0_init_16 : decode cX0_init 16 = .ok (.iconst 3, 1) := by decide +kernel
theorem dX0_init_17 : decode cX0_init 17 = .ok (.newarray .long, 2) := by decide +kernel
theorem dX0_init_19 : decode cX0_init 19 = .ok (.putfield 18, 3) := by decide +kernel
theorem dX0_init_22 : decode cX0_init 22 = .ok (.aload_n 0, 1) := by decide +kernel
theorem dX0_init_23 : decode cX0_init 23 = .ok (.iconst 3, 1) := by decide +kernel
theorem dX0_init_24 : decode cX0_init 24 = .ok (.newarray .long, 2) := by decide +kernel
theorem dX0_init_26 : decode cX0_init 26 = .ok (.putfield 22, 3) := by decide +kernel
theorem dX0_init_29 : decode cX0_init 29 = .ok (.aload_n 0, 1) := by decide +kernel
theorem dX0_init_30 : decode cX0_init 30 = .ok (.iconst 3, 1) := by decide +kernel
theorem dX0_init_31 : decode cX0_init 31 = .ok (.newarray .long, 2) := by decide +kernel
theorem dX0_init_33 : decode cX0_init 33 = .ok (.putfield 25, 3) := by decide +kernel
theorem dX0_init_36 : decode cX0_init 36 = .ok (.aload_n 0, 1) := by decide +kernel
theorem dX0_init_37 : decode cX0_init 37 = .ok (.iconst 3, 1) := by decide +kernel
theorem dX0_init_38 : decode cX0_init 38 = .ok (.newarray .long, 2) := by decide +kernel
theorem dX0_init_40 : decode cX0_init 40 = .ok (.putfield 28, 3) := by decide +kernel
theorem dX0_init_43 : decode cX0_init 43 = .ok (.aload_n 0, 1) := by decide +kernel
theorem dX0_init_44 : decode cX0_init 44 = .ok (.bipush 6, 2) := by decide +kernel
theorem dX0_init_46 : decode cX0_init 46 = .ok (.newarray .long, 2) := by decide +kernel
theorem dX0_init_48 : decode cX0_init 48 = .ok (.putfield 31, 3) := by decide +kernel
theorem dX0_init_51 : decode cX0_init 51 = .ok (.aload_n 0, 1) := by decide +kernel
theorem dX0_init_52 : decode cX0_init 52 = .ok (.bipush 6, 2) := by decide +kernel
theorem dX0_init_54 : decode cX0_init 54 = .ok (.newarray .long, 2) := by decide +kernel
theorem dX0_init_56 : decode cX0_init 56 = .ok (.putfield 34, 3) := by decide +kernel
theorem dX0_init_59 : decode cX0_init 59 = .ok (.aload_n 0, 1) := by decide +kernel
theorem dX0_init_60 : decode cX0_init 60 = .ok (.bipush 6, 2) := by decide +kernel
theorem dX0_init_62 : decode cX0_init 62 = .ok (.newarray .boolean, 2) := by decide +kernel
theorem dX0_init_64 : decode cX0_init 64 = .ok (.putfield 37, 3) := by decide +kernel
theorem dX0_init_67 : decode cX0_init 67 = .ok (.return_, 1) := by decide +kernel
theorem dX0_find_0 : decode cX0_find 0 = .ok (.iload_n 2, 1) := by decide +kernel
theorem dX0_find_1 : decode cX0_find 1 = .ok (.invokestatic 41, 3) := by decide +kernel
theorem dX0_find_4 : decode cX0_find 4 = .ok (.istore 4, 2) := by decide +kernel
theorem dX0_find_6 : decode cX0_find 6 = .ok (.iconst 0, 1) := by decide +kernel
theorem dX0_find_7 : decode cX0_find 7 = .ok (.istore 5, 2) := by decide +kernel
theorem dX0_find_9 : decode cX0_find 9 = .ok (.iload 5, 2) := by decide +kernel
theorem dX0_find_11 : decode cX0_find 11 = .ok (.iload 4, 2) := by decide +kernel
theorem dX0_find_13 : decode cX0_find 13 = .ok (.if_icmp .ge 29, 3) := by decide +kernel
theorem dX0_find_16 : decode cX0_find 16 = .ok (.aload_n 0, 1) := by decide +kernel
theorem dX0_find_17 : decode cX0_find 17 = .ok (.aload_n 1, 1) := by decide +kernel
theorem dX0_find_18 : decode cX0_find 18 = .ok (.iload 5, 2) := by decide +kernel
theorem dX0_find_20 : decode cX0_find 20 = .ok (.invokevirtual 45, 3) := by decide +kernel
theorem dX0_find_23 : decode cX0_find 23 = .ok (.ifCond .eq 13, 3) := by decide +kernel
theorem dX0_find_26 : decode cX0_find 26 = .ok (.aload_n 0, 1) := by decide +kernel
theorem dX0_find_27 : decode cX0_find 27 = .ok (.iload_n 3, 1) := by decide +kernel
theorem dX0_find_28 : decode cX0_find 28 = .ok (.invokevirtual 49, 3) := by decide +kernel
theorem dX0_find_31 : decode cX0_find 31 = .ok (.ifCond .eq 5, 3) := by decide +kernel
theorem dX0_find_34 : decode cX0_find 34 = .ok (.iconst 1, 1) := by decide +kernel
theorem dX0_find_35 : decode cX0_find 35 = .ok (.ireturn, 1) := by decide +kernel
theorem dX0_find_36 : decode cX0_find 36 = .ok (.iinc 5 1, 3) := by decide +kernel
theorem dX0_find_39 : decode cX0_find 39 = .ok (.goto (-30), 3) := by decide +kernel
theorem dX0_find_42 : decode cX0_find 42 = .ok (.iconst 0, 1) := by decide +kernel
theorem dX0_find_43 : decode cX0_find 43 = .ok (.ireturn, 1) := by decide +kernel
theorem dX0_weightTop_0 : decode cX0_weightTop 0 = .ok (.aload_n 0, 1) := by decide +kernel
theorem dX0_weightTop_1 : decode cX0_weightTop 1 = .ok (.getfield 25, 3) := by decide +kernel
theorem dX0_weightTop_4 : decode cX0_weightTop 4 = .ok (.iload_n 1, 1) := by decide +kernel
theorem dX0_weightTop_5 : decode cX0_weightTop 5 = .ok (.laload, 1) := by decide +kernel
theorem dX0_weightTop_6 : decode cX0_weightTop 6 = .ok (.aload_n 0, 1) := by decide +kernel
theorem dX0_weightTop_7 : decode cX0_weightTop 7 = .ok (.getfield 28, 3) := by decide +kernel
theorem dX0_weightTop_10 : decode cX0_weightTop 10 = .ok (.iload_n 1, 1) := by decide +kernel
theorem dX0_weightTop_11 : decode cX0_weightTop 11 = .ok (.laload, 1) := by decide +kernel
theorem dX0_weightTop_12 : decode cX0_weightTop 12 = .ok (.iload_n 2, 1) := by decide +kernel
theorem dX0_weightTop_13 : decode cX0_weightTop 13 = .ok (.i2l, 1) := by decide +kernel
theorem dX0_weightTop_14 : decode cX0_weightTop 14 = .ok (.lmul, 1) := by decide +kernel
theorem dX0_weightTop_15 : decode cX0_weightTop 15 = .ok (.lsub, 1) := by decide +kernel
theorem dX0_weightTop_16 : decode cX0_weightTop 16 = .ok (.lreturn, 1) := by decide +kernel
theorem dX0_weightBottom_0 : decode cX0_weightBottom 0 = .ok (.ldc2_w 53, 3) := by decide +kernel
theorem dX0_weightBottom_3 : decode cX0_weightBottom 3 = .ok (.aload_n 0, 1) := by decide +kernel
theorem dX0_weightBottom_4 : decode cX0_weightBottom 4 = .ok (.getfield 12, 3) := by decide +kernel
theorem dX0_weightBottom_7 : decode cX0_weightBottom 7 = .ok (.invokevirtual 55, 3) := by decide +kernel
theorem dX0_weightBottom_10 : decode cX0_weightBottom 10 = .ok (.lmul, 1) := by decide +kernel
theorem dX0_weightBottom_11 : decode cX0_weightBottom 11 = .ok (.lreturn, 1) := by decide +kernel
theorem dX0_costTop_0 : decode cX0_costTop 0 = .ok (.lconst 0, 1) := by decide +kernel
theorem dX0_costTop_1 : decode cX0_costTop 1 = .ok (.lstore_n 2, 1) := by decide +kernel
theorem dX0_costTop_2 : decode cX0_costTop 2 = .ok (.iconst 0, 1) := by decide +kernel
theorem dX0_costTop_3 : decode cX0_costTop 3 = .ok (.istore 4, 2) := by decide +kernel
theorem dX0_costTop_5 : decode cX0_costTop 5 = .ok (.iload 4, 2) := by decide +kernel
theorem dX0_costTop_7 : decode cX0_costTop 7 = .ok (.iconst 3, 1) := by decide +kernel
theorem dX0_costTop_8 : decode cX0_costTop 8 = .ok (.if_icmp .ge 38, 3) := by decide +kernel
theorem dX0_costTop_11 : decode cX0_costTop 11 = .ok (.lload_n 2, 1) := by decide +kernel
theorem dX0_costTop_12 : decode cX0_costTop 12 = .ok (.aload_n 0, 1) := by decide +kernel
theorem dX0_costTop_13 : decode cX0_costTop 13 = .ok (.iload 4, 2) := by decide +kernel
theorem dX0_costTop_15 : decode cX0_costTop 15 = .ok (.iload_n 1, 1) := by decide +kernel
theorem dX0_costTop_16 : decode cX0_costTop 16 = .ok (.invokevirtual 59, 3) := by decide +kernel
theorem dX0_costTop_19 : decode cX0_costTop 19 = .ok (.aload_n 0, 1) := by decide +kernel
theorem dX0_costTop_20 : decode cX0_costTop 20 = .ok (.getfield 22, 3) := by decide +kernel
theorem dX0_costTop_23 : decode cX0_costTop 23 = .ok (.iload 4, 2) := by decide +kernel
theorem dX0_costTop_25 : decode cX0_costTop 25 = .ok (.laload, 1) := by decide +kernel
theorem dX0_costTop_26 : decode cX0_costTop 26 = .ok (.aload_n 0, 1) := by decide +kernel
theorem dX0_costTop_27 : decode cX0_costTop 27 = .ok (.getfield 18, 3) := by decide +kernel
theorem dX0_costTop_30 : decode cX0_costTop 30 = .ok (.iload 4, 2) := by decide +kernel
theorem dX0_costTop_32 : decode cX0_costTop 32 = .ok (.laload, 1) := by decide +kernel
theorem dX0_costTop_33 : decode cX0_costTop 33 = .ok (.iload_n 1, 1) := by decide +kernel
theorem dX0_costTop_34 : decode cX0_costTop 34 = .ok (.i2l, 1) := by decide +kernel
theorem dX0_costTop_35 : decode cX0_costTop 35 = .ok (.lmul, 1) := by decide +kernel
theorem dX0_costTop_36 : decode cX0_costTop 36 = .ok (.lsub, 1) := by decide +kernel
theorem dX0_costTop_37 : decode cX0_costTop 37 = .ok (.lmul, 1) := by decide +kernel
theorem dX0_costTop_38 : decode cX0_costTop 38 = .ok (.ladd, 1) := by decide +kernel
theorem dX0_costTop_39 : decode cX0_costTop 39 = .ok (.lstore_n 2, 1) := by decide +kernel
theorem dX0_costTop_40 : decode cX0_costTop 40 = .ok (.iinc 4 1, 3) := by decide +kernel
theorem dX0_costTop_43 : decode cX0_costTop 43 = .ok (.goto (-38), 3) := by decide +kernel
theorem dX0_costTop_46 : decode cX0_costTop 46 = .ok (.ldc2_w 63, 3) := by decide +kernel
theorem dX0_costTop_49 : decode cX0_costTop 49 = .ok (.aload_n 0, 1) := by decide +kernel
theorem dX0_costTop_50 : decode cX0_costTop 50 = .ok (.getfield 12, 3) := by decide +kernel
theorem dX0_costTop_53 : decode cX0_costTop 53 = .ok (.invokevirtual 55, 3) := by decide +kernel
theorem dX0_costTop_56 : decode cX0_costTop 56 = .ok (.lmul, 1) := by decide +kernel
theorem dX0_costTop_57 : decode cX0_costTop 57 = .ok (.aload_n 0, 1) := by decide +kernel
theorem dX0_costTop_58 : decode cX0_costTop 58 = .ok (.getfield 12, 3) := by decide +kernel
theorem dX0_costTop_61 : decode cX0_costTop 61 = .ok (.getfield 65, 3) := by decide +kernel
theorem dX0_costTop_64 : decode cX0_costTop 64 = .ok (.lmul, 1) := by decide +kernel
theorem dX0_costTop_65 : decode cX0_costTop 65 = .ok (.lload_n 2, 1) := by decide +kernel
theorem dX0_costTop_66 : decode cX0_costTop 66 = .ok (.lsub, 1) := by decide +kernel
theorem dX0_costTop_67 : decode cX0_costTop 67 = .ok (.lreturn, 1) := by decide +kernel
theorem dX0_costBottom_0 : decode cX0_costBottom 0 = .ok (.ldc2_w 63, 3) := by decide +kernel
theorem dX0_costBottom_3 : decode cX0_costBottom 3 = .ok (.aload_n 0, 1) := by decide +kernel
theorem dX0_costBottom_4 : decode cX0_costBottom 4 = .ok (.getfield 12, 3) := by decide +kernel
theorem dX0_costBottom_7 : decode cX0_costBottom 7 = .ok (.invokevirtual 55, 3) := by decide +kernel
theorem dX0_costBottom_10 : decode cX0_costBottom 10 = .ok (.lmul, 1) := by decide +kernel
theorem dX0_costBottom_11 : decode cX0_costBottom 11 = .ok (.lreturn, 1) := by decide +kernel
theorem dX0_collectTurns_0 : decode cX0_collectTurns 0 = .ok (.iload_n 2, 1) := by decide +kernel
theorem dX0_collectTurns_1 : decode cX0_collectTurns 1 = .ok (.invokestatic 41, 3) := by decide +kernel
theorem dX0_collectTurns_4 : decode cX0_collectTurns 4 = .ok (.istore 4, 2) := by decide +kernel
theorem dX0_collectTurns_6 : decode cX0_collectTurns 6 = .ok (.iconst 0, 1) := by decide +kernel
theorem dX0_collectTurns_7 : decode cX0_collectTurns 7 = .ok (.istore 5, 2) := by decide +kernel
theorem dX0_collectTurns_9 : decode cX0_collectTurns 9 = .ok (.iload 5, 2) := by decide +kernel
theorem dX0_collectTurns_11 : decode cX0_collectTurns 11 = .ok (.iload 4, 2) := by decide +kernel
theorem dX0_collectTurns_13 : decode cX0_collectTurns 13 = .ok (.if_icmp .ge 41, 3) := by decide +kernel
theorem dX0_collectTurns_16 : decode cX0_collectTurns 16 = .ok (.aload_n 0, 1) := by decide +kernel
theorem dX0_collectTurns_17 : decode cX0_collectTurns 17 = .ok (.aload_n 1, 1) := by decide +kernel
theorem dX0_collectTurns_18 : decode cX0_collectTurns 18 = .ok (.iload 5, 2) := by decide +kernel
theorem dX0_collectTurns_20 : decode cX0_collectTurns 20 = .ok (.invokevirtual 45, 3) := by decide +kernel
theorem dX0_collectTurns_23 : decode cX0_collectTurns 23 = .ok (.ifCond .eq 25, 3) := by decide +kernel
theorem dX0_collectTurns_26 : decode cX0_collectTurns 26 = .ok (.iconst 0, 1) := by decide +kernel
theorem dX0_collectTurns_27 : decode cX0_collectTurns 27 = .ok (.istore 6, 2) := by decide +kernel
theorem dX0_collectTurns_29 : decode cX0_collectTurns 29 = .ok (.iload 6, 2) := by decide +kernel
theorem dX0_collectTurns_31 : decode cX0_collectTurns 31 = .ok (.iload_n 2, 1) := by decide +kernel
theorem dX0_collectTurns_32 : decode cX0_collectTurns 32 = .ok (.if_icmp .ge 16, 3) := by decide +kernel
theorem dX0_collectTurns_35 : decode cX0_collectTurns 35 = .ok (.aload_n 0, 1) := by decide +kernel
theorem dX0_collectTurns_36 : decode cX0_collectTurns 36 = .ok (.iload 6, 2) := by decide +kernel
theorem dX0_collectTurns_38 : decode cX0_collectTurns 38 = .ok (.aload_n 3, 1) := by decide +kernel
theorem dX0_collectTurns_39 : decode cX0_collectTurns 39 = .ok (.invokevirtual 69, 3) := by decide +kernel
theorem dX0_collectTurns_42 : decode cX0_collectTurns 42 = .ok (.iinc 6 1, 3) := by decide +kernel
theorem dX0_collectTurns_45 : decode cX0_collectTurns 45 = .ok (.goto (-16), 3) := by decide +kernel
theorem dX0_collectTurns_48 : decode cX0_collectTurns 48 = .ok (.iinc 5 1, 3) := by decide +kernel
theorem dX0_collectTurns_51 : decode cX0_collectTurns 51 = .ok (.goto (-42), 3) := by decide +kernel
theorem dX0_collectTurns_54 : decode cX0_collectTurns 54 = .ok (.return_, 1) := by decide +kernel
theorem dX0_collectTurn_0 : decode cX0_collectTurn 0 = .ok (.aload_n 0, 1) := by decide +kernel
theorem dX0_collectTurn_1 : decode cX0_collectTurn 1 = .ok (.getfield 25, 3) := by decide +kernel
theorem dX0_collectTurn_4 : decode cX0_collectTurn 4 = .ok (.iload_n 1, 1) := by decide +kernel
theorem dX0_collectTurn_5 : decode cX0_collectTurn 5 = .ok (.laload, 1) := by decide +kernel
theorem dX0_collectTurn_6 : decode cX0_collectTurn 6 = .ok (.lconst 0, 1) := by decide +kernel
theorem dX0_collectTurn_7 : decode cX0_collectTurn 7 = .ok (.lcmp, 1) := by decide +kernel
theorem dX0_collectTurn_8 : decode cX0_collectTurn 8 = .ok (.ifCond .le 14, 3) := by decide +kernel
theorem dX0_collectTurn_11 : decode cX0_collectTurn 11 = .ok (.aload_n 0, 1) := by decide +kernel
theorem dX0_collectTurn_12 : decode cX0_collectTurn 12 = .ok (.getfield 28, 3) := by decide +kernel
theorem dX0_collectTurn_15 : decode cX0_collectTurn 15 = .ok (.iload_n 1, 1) := by decide +kernel
theorem dX0_collectTurn_16 : decode cX0_collectTurn 16 = .ok (.laload, 1) := by decide +kernel
theorem dX0_collectTurn_17 : decode cX0_collectTurn 17 = .ok (.lconst 0, 1) := by decide +kernel
theorem dX0_collectTurn_18 : decode cX0_collectTurn 18 = .ok (.lcmp, 1) := by decide +kernel
theorem dX0_collectTurn_19 : decode cX0_collectTurn 19 = .ok (.ifCond .gt 25, 3) := by decide +kernel
theorem dX0_collectTurn_22 : decode cX0_collectTurn 22 = .ok (.aload_n 0, 1) := by decide +kernel
theorem dX0_collectTurn_23 : decode cX0_collectTurn 23 = .ok (.getfield 25, 3) := by decide +kernel
theorem dX0_collectTurn_26 : decode cX0_collectTurn 26 = .ok (.iload_n 1, 1) := by decide +kernel
theorem dX0_collectTurn_27 : decode cX0_collectTurn 27 = .ok (.laload, 1) := by decide +kernel
theorem dX0_collectTurn_28 : decode cX0_collectTurn 28 = .ok (.lconst 0, 1) := by decide +kernel
theorem dX0_collectTurn_29 : decode cX0_collectTurn 29 = .ok (.lcmp, 1) := by decide +kernel
theorem dX0_collectTurn_30 : decode cX0_collectTurn 30 = .ok (.ifCond .ge 18, 3) := by decide +kernel
theorem dX0_collectTurn_33 : decode cX0_collectTurn 33 = .ok (.aload_n 0, 1) := by decide +kernel
theorem dX0_collectTurn_34 : decode cX0_collectTurn 34 = .ok (.getfield 28, 3) := by decide +kernel
theorem dX0_collectTurn_37 : decode cX0_collectTurn 37 = .ok (.iload_n 1, 1) := by decide +kernel
theorem dX0_collectTurn_38 : decode cX0_collectTurn 38 = .ok (.laload, 1) := by decide +kernel
theorem dX0_collectTurn_39 : decode cX0_collectTurn 39 = .ok (.lconst 0, 1) := by decide +kernel
theorem dX0_collectTurn_40 : decode cX0_collectTurn 40 = .ok (.lcmp, 1) := by decide +kernel
theorem dX0_collectTurn_41 : decode cX0_collectTurn 41 = .ok (.ifCond .ge 7, 3) := by decide +kernel
theorem dX0_collectTurn_44 : decode cX0_collectTurn 44 = .ok (.iconst 1, 1) := by decide +kernel
theorem dX0_collectTurn_45 : decode cX0_collectTurn 45 = .ok (.goto 4, 3) := by decide +kernel
theorem dX0_collectTurn_48 : decode cX0_collectTurn 48 = .ok (.iconst 0, 1) := by decide +kernel
theorem dX0_collectTurn_49 : decode cX0_collectTurn 49 = .ok (.istore_n 3, 1) := by decide +kernel
theorem dX0_collectTurn_50 : decode cX0_collectTurn 50 = .ok (.aload_n 0, 1) := by decide +kernel
theorem dX0_collectTurn_51 : decode cX0_collectTurn 51 = .ok (.getfield 18, 3) := by decide +kernel
theorem dX0_collectTurn_54 : decode cX0_collectTurn 54 = .ok (.iload_n 1, 1) := by decide +kernel
theorem dX0_collectTurn_55 : decode cX0_collectTurn 55 = .ok (.laload, 1) := by decide +kernel
theorem dX0_collectTurn_56 : decode cX0_collectTurn 56 = .ok (.lconst 0, 1) := by decide +kernel
theorem dX0_collectTurn_57 : decode cX0_collectTurn 57 = .ok (.lcmp, 1) := by decide +kernel
theorem dX0_collectTurn_58 : decode cX0_collectTurn 58 = .ok (.ifCond .eq 7, 3) := by decide +kernel
theorem dX0_collectTurn_61 : decode cX0_collectTurn 61 = .ok (.iload_n 3, 1) := by decide +kernel
theorem dX0_collectTurn_62 : decode cX0_collectTurn 62 = .ok (.ifCond .ne 4, 3) := by decide +kernel
theorem dX0_collectTurn_65 : decode cX0_collectTurn 65 = .ok (.return_, 1) := by decide +kernel
theorem dX0_collectTurn_66 : decode cX0_collectTurn 66 = .ok (.aload_n 0, 1) := by decide +kernel
theorem dX0_collectTurn_67 : decode cX0_collectTurn 67 = .ok (.getfield 25, 3) := by decide +kernel
theorem dX0_collectTurn_70 : decode cX0_collectTurn 70 = .ok (.iload_n 1, 1) := by decide +kernel
theorem dX0_collectTurn_71 : decode cX0_collectTurn 71 = .ok (.laload, 1) := by decide +kernel
theorem dX0_collectTurn_72 : decode cX0_collectTurn 72 = .ok (.aload_n 0, 1) := by decide +kernel
theorem dX0_collectTurn_73 : decode cX0_collectTurn 73 = .ok (.getfield 28, 3) := by decide +kernel
theorem dX0_collectTurn_76 : decode cX0_collectTurn 76 = .ok (.iload_n 1, 1) := by decide +kernel
theorem dX0_collectTurn_77 : decode cX0_collectTurn 77 = .ok (.laload, 1) := by decide +kernel
theorem dX0_collectTurn_78 : decode cX0_collectTurn 78 = .ok (.iconst 0, 1) := by decide +kernel
theorem dX0_collectTurn_79 : decode cX0_collectTurn 79 = .ok (.invokestatic 73, 3) := by decide +kernel
theorem dX0_collectTurn_82 : decode cX0_collectTurn 82 = .ok (.lstore 4, 2) := by decide +kernel
theorem dX0_collectTurn_84 : decode cX0_collectTurn 84 = .ok (.aload_n 0, 1) := by decide +kernel
theorem dX0_collectTurn_85 : decode cX0_collectTurn 85 = .ok (.getfield 25, 3) := by decide +kernel
theorem dX0_collectTurn_88 : decode cX0_collectTurn 88 = .ok (.iload_n 1, 1) := by decide +kernel
theorem dX0_collectTurn_89 : decode cX0_collectTurn 89 = .ok (.laload, 1) := by decide +kernel
theorem dX0_collectTurn_90 : decode cX0_collectTurn 90 = .ok (.aload_n 0, 1) := by decide +kernel
theorem dX0_collectTurn_91 : decode cX0_collectTurn 91 = .ok (.getfield 28, 3) := by decide +kernel
theorem dX0_collectTurn_94 : decode cX0_collectTurn 94 = .ok (.iload_n 1, 1) := by decide +kernel
theorem dX0_collectTurn_95 : decode cX0_collectTurn 95 = .ok (.laload, 1) := by decide +kernel
theorem dX0_collectTurn_96 : decode cX0_collectTurn 96 = .ok (.iconst 1, 1) := by decide +kernel
theorem dX0_collectTurn_97 : decode cX0_collectTurn 97 = .ok (.invokestatic 73, 3) := by decide +kernel
theorem dX0_collectTurn_100 : decode cX0_collectTurn 100 = .ok (.lstore 6, 2) := by decide +kernel
theorem dX0_collectTurn_102 : decode cX0_collectTurn 102 = .ok (.aload_n 0, 1) := by decide +kernel
theorem dX0_collectTurn_103 : decode cX0_collectTurn 103 = .ok (.lload 4, 2) := by decide +kernel
theorem dX0_collectTurn_105 : decode cX0_collectTurn 105 = .ok (.lload 6, 2) := by decide +kernel
theorem dX0_collectTurn_107 : decode cX0_collectTurn 107 = .ok (.iconst (-1), 1) := by decide +kernel
theorem dX0_collectTurn_108 : decode cX0_collectTurn 108 = .ok (.invokevirtual 79, 3) := by decide +kernel
theorem dX0_collectTurn_111 : decode cX0_collectTurn 111 = .ok (.ifCond .ne 15, 3) := by decide +kernel
theorem dX0_collectTurn_114 : decode cX0_collectTurn 114 = .ok (.aload_n 0, 1) := by decide +kernel
theorem dX0_collectTurn_115 : decode cX0_collectTurn 115 = .ok (.lload 4, 2) := by decide +kernel
theorem dX0_collectTurn_117 : decode cX0_collectTurn 117 = .ok (.lload 6, 2) := by decide +kernel
theorem dX0_collectTurn_119 : decode cX0_collectTurn 119 = .ok (.iconst 1, 1) := by decide +kernel
theorem dX0_collectTurn_120 : decode cX0_collectTurn 120 = .ok (.invokevirtual 79, 3) := by decide +kernel
theorem dX0_collectTurn_123 : decode cX0_collectTurn 123 = .ok (.ifCond .eq 11, 3) := by decide +kernel
theorem dX0_collectTurn_126 : decode cX0_collectTurn 126 = .ok (.aload_n 2, 1) := by decide +kernel
theorem dX0_collectTurn_127 : decode cX0_collectTurn 127 = .ok (.lload 4, 2) := by decide +kernel
theorem dX0_collectTurn_129 : decode cX0_collectTurn 129 = .ok (.lload 6, 2) := by decide +kernel
theorem dX0_collectTurn_131 : decode cX0_collectTurn 131 = .ok (.invokevirtual 83, 3) := by decide +kernel
theorem dX0_collectTurn_134 : decode cX0_collectTurn 134 = .ok (.return_, 1) := by decide +kernel
theorem dX0_patternsOf_0 : decode cX0_patternsOf 0 = .ok (.iconst 1, 1) := by decide +kernel
theorem dX0_patternsOf_1 : decode cX0_patternsOf 1 = .ok (.istore_n 1, 1) := by decide +kernel
theorem dX0_patternsOf_2 : decode cX0_patternsOf 2 = .ok (.iconst 0, 1) := by decide +kernel
theorem dX0_patternsOf_3 : decode cX0_patternsOf 3 = .ok (.istore_n 2, 1) := by decide +kernel
theorem dX0_patternsOf_4 : decode cX0_patternsOf 4 = .ok (.iload_n 2, 1) := by decide +kernel
theorem dX0_patternsOf_5 : decode cX0_patternsOf 5 = .ok (.iload_n 0, 1) := by decide +kernel
theorem dX0_patternsOf_6 : decode cX0_patternsOf 6 = .ok (.if_icmp .ge 13, 3) := by decide +kernel
theorem dX0_patternsOf_9 : decode cX0_patternsOf 9 = .ok (.iload_n 1, 1) := by decide +kernel
theorem dX0_patternsOf_10 : decode cX0_patternsOf 10 = .ok (.iconst 3, 1) := by decide +kernel
theorem dX0_patternsOf_11 : decode cX0_patternsOf 11 = .ok (.imul, 1) := by decide +kernel
theorem dX0_patternsOf_12 : decode cX0_patternsOf 12 = .ok (.istore_n 1, 1) := by decide +kernel
theorem dX0_patternsOf_13 : decode cX0_patternsOf 13 = .ok (.iinc 2 1, 3) := by decide +kernel
theorem dX0_patternsOf_16 : decode cX0_patternsOf 16 = .ok (.goto (-12), 3) := by decide +kernel
theorem dX0_patternsOf_19 : decode cX0_patternsOf 19 = .ok (.iload_n 1, 1) := by decide +kernel
theorem dX0_patternsOf_20 : decode cX0_patternsOf 20 = .ok (.ireturn, 1) := by decide +kernel
theorem dX0_lay_0 : decode cX0_lay 0 = .ok (.iconst 0, 1) := by decide +kernel
theorem dX0_lay_1 : decode cX0_lay 1 = .ok (.istore_n 3, 1) := by decide +kernel
theorem dX0_lay_2 : decode cX0_lay 2 = .ok (.iload_n 2, 1) := by decide +kernel
theorem dX0_lay_3 : decode cX0_lay 3 = .ok (.istore 4, 2) := by decide +kernel
theorem dX0_lay_5 : decode cX0_lay 5 = .ok (.iconst 0, 1) := by decide +kernel
theorem dX0_lay_6 : decode cX0_lay 6 = .ok (.istore 5, 2) := by decide +kernel
theorem dX0_lay_8 : decode cX0_lay 8 = .ok (.iload 5, 2) := by decide +kernel
theorem dX0_lay_10 : decode cX0_lay 10 = .ok (.iconst 3, 1) := by decide +kernel
theorem dX0_lay_11 : decode cX0_lay 11 = .ok (.if_icmp .ge 86, 3) := by decide +kernel
theorem dX0_lay_14 : decode cX0_lay 14 = .ok (.iload 4, 2) := by decide +kernel
theorem dX0_lay_16 : decode cX0_lay 16 = .ok (.iconst 3, 1) := by decide +kernel
theorem dX0_lay_17 : decode cX0_lay 17 = .ok (.irem, 1) := by decide +kernel
theorem dX0_lay_18 : decode cX0_lay 18 = .ok (.istore 6, 2) := by decide +kernel
theorem dX0_lay_20 : decode cX0_lay 20 = .ok (.iload 4, 2) := by decide +kernel
theorem dX0_lay_22 : decode cX0_lay 22 = .ok (.iconst 3, 1) := by decide +kernel
theorem dX0_lay_23 : decode cX0_lay 23 = .ok (.idiv, 1) := by decide +kernel
theorem dX0_lay_24 : decode cX0_lay 24 = .ok (.istore 4, 2) := by decide +kernel
theorem dX0_lay_26 : decode cX0_lay 26 = .ok (.aload_n 0, 1) := by decide +kernel
theorem dX0_lay_27 : decode cX0_lay 27 = .ok (.getfield 18, 3) := by decide +kernel
theorem dX0_lay_30 : decode cX0_lay 30 = .ok (.iload 5, 2) := by decide +kernel
theorem dX0_lay_32 : decode cX0_lay 32 = .ok (.iload 6, 2) := by decide +kernel
theorem dX0_lay_34 : decode cX0_lay 34 = .ok (.iconst 2, 1) := by decide +kernel
theorem dX0_lay_35 : decode cX0_lay 35 = .ok (.if_icmp .ne 9, 3) := by decide +kernel
theorem dX0_lay_38 : decode cX0_lay 38 = .ok (.ldc2_w 89, 3) := by decide +kernel
theorem dX0_lay_41 : decode cX0_lay 41 = .ok (.goto 6, 3) := by decide +kernel
theorem dX0_lay_44 : decode cX0_lay 44 = .ok (.iload 6, 2) := by decide +kernel
theorem dX0_lay_46 : decode cX0_lay 46 = .ok (.i2l, 1) := by decide +kernel
theorem dX0_lay_47 : decode cX0_lay 47 = .ok (.lastore, 1) := by decide +kernel
theorem dX0_lay_48 : decode cX0_lay 48 = .ok (.iload_n 3, 1) := by decide +kernel
theorem dX0_lay_49 : decode cX0_lay 49 = .ok (.iload 6, 2) := by decide +kernel
theorem dX0_lay_51 : decode cX0_lay 51 = .ok (.ifCond .ne 7, 3) := by decide +kernel
theorem dX0_lay_54 : decode cX0_lay 54 = .ok (.iconst 0, 1) := by decide +kernel
theorem dX0_lay_55 : decode cX0_lay 55 = .ok (.goto 7, 3) := by decide +kernel
theorem dX0_lay_58 : decode cX0_lay 58 = .ok (.iconst 1, 1) := by decide +kernel
theorem dX0_lay_59 : decode cX0_lay 59 = .ok (.iload 5, 2) := by decide +kernel
theorem dX0_lay_61 : decode cX0_lay 61 = .ok (.ishl, 1) := by decide +kernel
theorem dX0_lay_62 : decode cX0_lay 62 = .ok (.ior, 1) := by decide +kernel
theorem dX0_lay_63 : decode cX0_lay 63 = .ok (.istore_n 3, 1) := by decide +kernel
theorem dX0_lay_64 : decode cX0_lay 64 = .ok (.aload_n 0, 1) := by decide +kernel
theorem dX0_lay_65 : decode cX0_lay 65 = .ok (.getfield 22, 3) := by decide +kernel
theorem dX0_lay_68 : decode cX0_lay 68 = .ok (.iload 5, 2) := by decide +kernel
theorem dX0_lay_70 : decode cX0_lay 70 = .ok (.iload 6, 2) := by decide +kernel
theorem dX0_lay_72 : decode cX0_lay 72 = .ok (.ifCond .ne 7, 3) := by decide +kernel
theorem dX0_lay_75 : decode cX0_lay 75 = .ok (.lconst 0, 1) := by decide +kernel
theorem dX0_lay_76 : decode cX0_lay 76 = .ok (.goto 14, 3) := by decide +kernel
theorem dX0_lay_79 : decode cX0_lay 79 = .ok (.ldc2_w 53, 3) := by decide +kernel
theorem dX0_lay_82 : decode cX0_lay 82 = .ok (.aload_n 1, 1) := by decide +kernel
theorem dX0_lay_83 : decode cX0_lay 83 = .ok (.getfield 91, 3) := by decide +kernel
theorem dX0_lay_86 : decode cX0_lay 86 = .ok (.iload 5, 2) := by decide +kernel
theorem dX0_lay_88 : decode cX0_lay 88 = .ok (.laload, 1) := by decide +kernel
theorem dX0_lay_89 : decode cX0_lay 89 = .ok (.lmul, 1) := by decide +kernel
theorem dX0_lay_90 : decode cX0_lay 90 = .ok (.lastore, 1) := by decide +kernel
theorem dX0_lay_91 : decode cX0_lay 91 = .ok (.iinc 5 1, 3) := by decide +kernel
theorem dX0_lay_94 : decode cX0_lay 94 = .ok (.goto (-86), 3) := by decide +kernel
theorem dX0_lay_97 : decode cX0_lay 97 = .ok (.aload_n 0, 1) := by decide +kernel
theorem dX0_lay_98 : decode cX0_lay 98 = .ok (.getfield 12, 3) := by decide +kernel
theorem dX0_lay_101 : decode cX0_lay 101 = .ok (.aload_n 1, 1) := by decide +kernel
theorem dX0_lay_102 : decode cX0_lay 102 = .ok (.iload_n 3, 1) := by decide +kernel
theorem dX0_lay_103 : decode cX0_lay 103 = .ok (.invokevirtual 94, 3) := by decide +kernel
theorem dX0_lay_106 : decode cX0_lay 106 = .ok (.aload_n 0, 1) := by decide +kernel
theorem dX0_lay_107 : decode cX0_lay 107 = .ok (.getfield 12, 3) := by decide +kernel
theorem dX0_lay_110 : decode cX0_lay 110 = .ok (.invokevirtual 98, 3) := by decide +kernel
theorem dX0_lay_113 : decode cX0_lay 113 = .ok (.aload_n 0, 1) := by decide +kernel
theorem dX0_lay_114 : decode cX0_lay 114 = .ok (.getfield 12, 3) := by decide +kernel
theorem dX0_lay_117 : decode cX0_lay 117 = .ok (.getfield 101, 3) := by decide +kernel
theorem dX0_lay_120 : decode cX0_lay 120 = .ok (.iload_n 3, 1) := by decide +kernel
theorem dX0_lay_121 : decode cX0_lay 121 = .ok (.invokestatic 105, 3) := by decide +kernel
theorem dX0_lay_124 : decode cX0_lay 124 = .ok (.if_icmp .eq 5, 3) := by decide +kernel
theorem dX0_lay_127 : decode cX0_lay 127 = .ok (.iconst 0, 1) := by decide +kernel
theorem dX0_lay_128 : decode cX0_lay 128 = .ok (.ireturn, 1) := by decide +kernel
theorem dX0_lay_129 : decode cX0_lay 129 = .ok (.aload_n 0, 1) := by decide +kernel
theorem dX0_lay_130 : decode cX0_lay 130 = .ok (.getfield 12, 3) := by decide +kernel
theorem dX0_lay_133 : decode cX0_lay 133 = .ok (.aload_n 0, 1) := by decide +kernel
theorem dX0_lay_134 : decode cX0_lay 134 = .ok (.getfield 22, 3) := by decide +kernel
theorem dX0_lay_137 : decode cX0_lay 137 = .ok (.aload_n 0, 1) := by decide +kernel
theorem dX0_lay_138 : decode cX0_lay 138 = .ok (.getfield 25, 3) := by decide +kernel
theorem dX0_lay_141 : decode cX0_lay 141 = .ok (.invokevirtual 110, 3) := by decide +kernel
theorem dX0_lay_144 : decode cX0_lay 144 = .ok (.aload_n 0, 1) := by decide +kernel
theorem dX0_lay_145 : decode cX0_lay 145 = .ok (.getfield 12, 3) := by decide +kernel
theorem dX0_lay_148 : decode cX0_lay 148 = .ok (.aload_n 0, 1) := by decide +kernel
theorem dX0_lay_149 : decode cX0_lay 149 = .ok (.getfield 18, 3) := by decide +kernel
theorem dX0_lay_152 : decode cX0_lay 152 = .ok (.aload_n 0, 1) := by decide +kernel
theorem dX0_lay_153 : decode cX0_lay 153 = .ok (.getfield 28, 3) := by decide +kernel
theorem dX0_lay_156 : decode cX0_lay 156 = .ok (.invokevirtual 110, 3) := by decide +kernel
theorem dX0_lay_159 : decode cX0_lay 159 = .ok (.aload_n 0, 1) := by decide +kernel
theorem dX0_lay_160 : decode cX0_lay 160 = .ok (.iconst 0, 1) := by decide +kernel
theorem dX0_lay_161 : decode cX0_lay 161 = .ok (.putfield 114, 3) := by decide +kernel
theorem dX0_lay_164 : decode cX0_lay 164 = .ok (.iconst 0, 1) := by decide +kernel
theorem dX0_lay_165 : decode cX0_lay 165 = .ok (.istore 5, 2) := by decide +kernel
theorem dX0_lay_167 : decode cX0_lay 167 = .ok (.iload 5, 2) := by decide +kernel
theorem dX0_lay_169 : decode cX0_lay 169 = .ok (.iconst 3, 1) := by decide +kernel
theorem dX0_lay_170 : decode cX0_lay 170 = .ok (.if_icmp .ge 67, 3) := by decide +kernel
theorem dX0_lay_173 : decode cX0_lay 173 = .ok (.aload_n 0, 1) := by decide +kernel
theorem dX0_lay_174 : decode cX0_lay 174 = .ok (.getfield 18, 3) := by decide +kernel
theorem dX0_lay_177 : decode cX0_lay 177 = .ok (.iload 5, 2) := by decide +kernel
theorem dX0_lay_179 : decode cX0_lay 179 = .ok (.laload, 1) := by decide +kernel
theorem dX0_lay_180 : decode cX0_lay 180 = .ok (.lconst 0, 1) := by decide +kernel
theorem dX0_lay_181 : decode cX0_lay 181 = .ok (.lcmp, 1) := by decide +kernel
theorem dX0_lay_182 : decode cX0_lay 182 = .ok (.ifCond .ne 13, 3) := by decide +kernel
theorem dX0_lay_185 : decode cX0_lay 185 = .ok (.aload_n 0, 1) := by decide +kernel
theorem dX0_lay_186 : decode cX0_lay 186 = .ok (.aload_n 1, 1) := by decide +kernel
theorem dX0_lay_187 : decode cX0_lay 187 = .ok (.iload 5, 2) := by decide +kernel
theorem dX0_lay_189 : decode cX0_lay 189 = .ok (.invokevirtual 117, 3) := by decide +kernel
theorem dX0_lay_192 : decode cX0_lay 192 = .ok (.goto 39, 3) := by decide +kernel
theorem dX0_lay_195 : decode cX0_lay 195 = .ok (.aload_n 0, 1) := by decide +kernel
theorem dX0_lay_196 : decode cX0_lay 196 = .ok (.aload_n 0, 1) := by decide +kernel
theorem dX0_lay_197 : decode cX0_lay 197 = .ok (.getfield 18, 3) := by decide +kernel
theorem dX0_lay_200 : decode cX0_lay 200 = .ok (.iload 5, 2) := by decide +kernel
theorem dX0_lay_202 : decode cX0_lay 202 = .ok (.laload, 1) := by decide +kernel
theorem dX0_lay_203 : decode cX0_lay 203 = .ok (.aload_n 0, 1) := by decide +kernel
theorem dX0_lay_204 : decode cX0_lay 204 = .ok (.getfield 25, 3) := by decide +kernel
theorem dX0_lay_207 : decode cX0_lay 207 = .ok (.iload 5, 2) := by decide +kernel
theorem dX0_lay_209 : decode cX0_lay 209 = .ok (.laload, 1) := by decide +kernel
theorem dX0_lay_210 : decode cX0_lay 210 = .ok (.lmul, 1) := by decide +kernel
theorem dX0_lay_211 : decode cX0_lay 211 = .ok (.aload_n 0, 1) := by decide +kernel
theorem dX0_lay_212 : decode cX0_lay 212 = .ok (.getfield 18, 3) := by decide +kernel
theorem dX0_lay_215 : decode cX0_lay 215 = .ok (.iload 5, 2) := by decide +kernel
theorem dX0_lay_217 : decode cX0_lay 217 = .ok (.laload, 1) := by decide +kernel
theorem dX0_lay_218 : decode cX0_lay 218 = .ok (.lneg, 1) := by decide +kernel
theorem dX0_lay_219 : decode cX0_lay 219 = .ok (.aload_n 0, 1) := by decide +kernel
theorem dX0_lay_220 : decode cX0_lay 220 = .ok (.getfield 28, 3) := by decide +kernel
theorem dX0_lay_223 : decode cX0_lay 223 = .ok (.iload 5, 2) := by decide +kernel
theorem dX0_lay_225 : decode cX0_lay 225 = .ok (.laload, 1) := by decide +kernel
theorem dX0_lay_226 : decode cX0_lay 226 = .ok (.lmul, 1) := by decide +kernel
theorem dX0_lay_227 : decode cX0_lay 227 = .ok (.iconst 1, 1) := by decide +kernel
theorem dX0_lay_228 : decode cX0_lay 228 = .ok (.invokevirtual 120, 3) := by decide +kernel
theorem dX0_lay_231 : decode cX0_lay 231 = .ok (.iinc 5 1, 3) := by decide +kernel
theorem dX0_lay_234 : decode cX0_lay 234 = .ok (.goto (-67), 3) := by decide +kernel
theorem dX0_lay_237 : decode cX0_lay 237 = .ok (.iconst 1, 1) := by decide +kernel
theorem dX0_lay_238 : decode cX0_lay 238 = .ok (.ireturn, 1) := by decide +kernel
theorem dX0_holdBack_0 : decode cX0_holdBack 0 = .ok (.aload_n 0, 1) := by decide +kernel
theorem dX0_holdBack_1 : decode cX0_holdBack 1 = .ok (.getfield 12, 3) := by decide +kernel
theorem dX0_holdBack_4 : decode cX0_holdBack 4 = .ok (.invokevirtual 55, 3) := by decide +kernel
theorem dX0_holdBack_7 : decode cX0_holdBack 7 = .ok (.lstore_n 3, 1) := by decide +kernel
theorem dX0_holdBack_8 : decode cX0_holdBack 8 = .ok (.ldc2_w 53, 3) := by decide +kernel
theorem dX0_holdBack_11 : decode cX0_holdBack 11 = .ok (.aload_n 1, 1) := by decide +kernel
theorem dX0_holdBack_12 : decode cX0_holdBack 12 = .ok (.getfield 91, 3) := by decide +kernel
theorem dX0_holdBack_15 : decode cX0_holdBack 15 = .ok (.iload_n 2, 1) := by decide +kernel
theorem dX0_holdBack_16 : decode cX0_holdBack 16 = .ok (.laload, 1) := by decide +kernel
theorem dX0_holdBack_17 : decode cX0_holdBack 17 = .ok (.lmul, 1) := by decide +kernel
theorem dX0_holdBack_18 : decode cX0_holdBack 18 = .ok (.lload_n 3, 1) := by decide +kernel
theorem dX0_holdBack_19 : decode cX0_holdBack 19 = .ok (.lmul, 1) := by decide +kernel
theorem dX0_holdBack_20 : decode cX0_holdBack 20 = .ok (.aload_n 1, 1) := by decide +kernel
theorem dX0_holdBack_21 : decode cX0_holdBack 21 = .ok (.iload_n 2, 1) := by decide +kernel
theorem dX0_holdBack_22 : decode cX0_holdBack 22 = .ok (.aload_n 0, 1) := by decide +kernel
theorem dX0_holdBack_23 : decode cX0_holdBack 23 = .ok (.getfield 25, 3) := by decide +kernel
theorem dX0_holdBack_26 : decode cX0_holdBack 26 = .ok (.iconst 0, 1) := by decide +kernel
theorem dX0_holdBack_27 : decode cX0_holdBack 27 = .ok (.laload, 1) := by decide +kernel
theorem dX0_holdBack_28 : decode cX0_holdBack 28 = .ok (.aload_n 0, 1) := by decide +kernel
theorem dX0_holdBack_29 : decode cX0_holdBack 29 = .ok (.getfield 25, 3) := by decide +kernel
theorem dX0_holdBack_32 : decode cX0_holdBack 32 = .ok (.iconst 1, 1) := by decide +kernel
theorem dX0_holdBack_33 : decode cX0_holdBack 33 = .ok (.laload, 1) := by decide +kernel
theorem dX0_holdBack_34 : decode cX0_holdBack 34 = .ok (.aload_n 0, 1) := by decide +kernel
theorem dX0_holdBack_35 : decode cX0_holdBack 35 = .ok (.getfield 25, 3) := by decide +kernel
theorem dX0_holdBack_38 : decode cX0_holdBack 38 = .ok (.iconst 2, 1) := by decide +kernel
theorem dX0_holdBack_39 : decode cX0_holdBack 39 = .ok (.laload, 1) := by decide +kernel
theorem dX0_holdBack_40 : decode cX0_holdBack 40 = .ok (.invokevirtual 124, 3) := by decide +kernel
theorem dX0_holdBack_43 : decode cX0_holdBack 43 = .ok (.lsub, 1) := by decide +kernel
theorem dX0_holdBack_44 : decode cX0_holdBack 44 = .ok (.lstore 5, 2) := by decide +kernel
theorem dX0_holdBack_46 : decode cX0_holdBack 46 = .ok (.aload_n 1, 1) := by decide +kernel
theorem dX0_holdBack_47 : decode cX0_holdBack 47 = .ok (.iload_n 2, 1) := by decide +kernel
theorem dX0_holdBack_48 : decode cX0_holdBack 48 = .ok (.aload_n 0, 1) := by decide +kernel
theorem dX0_holdBack_49 : decode cX0_holdBack 49 = .ok (.getfield 28, 3) := by decide +kernel
theorem dX0_holdBack_52 : decode cX0_holdBack 52 = .ok (.iconst 0, 1) := by decide +kernel
theorem dX0_holdBack_53 : decode cX0_holdBack 53 = .ok (.laload, 1) := by decide +kernel
theorem dX0_holdBack_54 : decode cX0_holdBack 54 = .ok (.aload_n 0, 1) := by decide +kernel
theorem dX0_holdBack_55 : decode cX0_holdBack 55 = .ok (.getfield 28, 3) := by decide +kernel
theorem dX0_holdBack_58 : decode cX0_holdBack 58 = .ok (.iconst 1, 1) := by decide +kernel
theorem dX0_holdBack_59 : decode cX0_holdBack 59 = .ok (.laload, 1) := by decide +kernel
theorem dX0_holdBack_60 : decode cX0_holdBack 60 = .ok (.aload_n 0, 1) := by decide +kernel
theorem dX0_holdBack_61 : decode cX0_holdBack 61 = .ok (.getfield 28, 3) := by decide +kernel
theorem dX0_holdBack_64 : decode cX0_holdBack 64 = .ok (.iconst 2, 1) := by decide +kernel
theorem dX0_holdBack_65 : decode cX0_holdBack 65 = .ok (.laload, 1) := by decide +kernel
theorem dX0_holdBack_66 : decode cX0_holdBack 66 = .ok (.invokevirtual 124, 3) := by decide +kernel
theorem dX0_holdBack_69 : decode cX0_holdBack 69 = .ok (.lstore 7, 2) := by decide +kernel
theorem dX0_holdBack_71 : decode cX0_holdBack 71 = .ok (.aload_n 0, 1) := by decide +kernel
theorem dX0_holdBack_72 : decode cX0_holdBack 72 = .ok (.lload 5, 2) := by decide +kernel
theorem dX0_holdBack_74 : decode cX0_holdBack 74 = .ok (.lneg, 1) := by decide +kernel
theorem dX0_holdBack_75 : decode cX0_holdBack 75 = .ok (.lload_n 3, 1) := by decide +kernel
theorem dX0_holdBack_76 : decode cX0_holdBack 76 = .ok (.lload 7, 2) := by decide +kernel
theorem dX0_holdBack_78 : decode cX0_holdBack 78 = .ok (.lsub, 1) := by decide +kernel
theorem dX0_holdBack_79 : decode cX0_holdBack 79 = .ok (.iconst 0, 1) := by decide +kernel
theorem dX0_holdBack_80 : decode cX0_holdBack 80 = .ok (.invokevirtual 120, 3) := by decide +kernel
theorem dX0_holdBack_83 : decode cX0_holdBack 83 = .ok (.aload_n 0, 1) := by decide +kernel
theorem dX0_holdBack_84 : decode cX0_holdBack 84 = .ok (.lload 5, 2) := by decide +kernel
theorem dX0_holdBack_86 : decode cX0_holdBack 86 = .ok (.lload_n 3, 1) := by decide +kernel
theorem dX0_holdBack_87 : decode cX0_holdBack 87 = .ok (.lload 7, 2) := by decide +kernel
theorem dX0_holdBack_89 : decode cX0_holdBack 89 = .ok (.ladd, 1) := by decide +kernel
theorem dX0_holdBack_90 : decode cX0_holdBack 90 = .ok (.iconst 0, 1) := by decide +kernel
theorem dX0_holdBack_91 : decode cX0_holdBack 91 = .ok (.invokevirtual 120, 3) := by decide +kernel
theorem dX0_holdBack_94 : decode cX0_holdBack 94 = .ok (.return_, 1) := by decide +kernel
theorem dX0_addCondition_0 : decode cX0_addCondition 0 = .ok (.aload_n 0, 1) := by decide +kernel
theorem dX0_addCondition_1 : decode cX0_addCondition 1 = .ok (.getfield 114, 3) := by decide +kernel
theorem dX0_addCondition_4 : decode cX0_addCondition 4 = .ok (.bipush 6, 2) := by decide +kernel
theorem dX0_addCondition_6 : decode cX0_addCondition 6 = .ok (.if_icmp .ge 44, 3) := by decide +kernel
theorem dX0_addCondition_9 : decode cX0_addCondition 9 = .ok (.aload_n 0, 1) := by decide +kernel
theorem dX0_addCondition_10 : decode cX0_addCondition 10 = .ok (.getfield 31, 3) := by decide +kernel
theorem dX0_addCondition_13 : decode cX0_addCondition 13 = .ok (.aload_n 0, 1) := by decide +kernel
theorem dX0_addCondition_14 : decode cX0_addCondition 14 = .ok (.getfield 114, 3) := by decide +kernel
theorem dX0_addCondition_17 : decode cX0_addCondition 17 = .ok (.lload_n 1, 1) := by decide +kernel
theorem dX0_addCondition_18 : decode cX0_addCondition 18 = .ok (.lastore, 1) := by decide +kernel
theorem dX0_addCondition_19 : decode cX0_addCondition 19 = .ok (.aload_n 0, 1) := by decide +kernel
theorem dX0_addCondition_20 : decode cX0_addCondition 20 = .ok (.getfield 34, 3) := by decide +kernel
theorem dX0_addCondition_23 : decode cX0_addCondition 23 = .ok (.aload_n 0, 1) := by decide +kernel
theorem dX0_addCondition_24 : decode cX0_addCondition 24 = .ok (.getfield 114, 3) := by decide +kernel
theorem dX0_addCondition_27 : decode cX0_addCondition 27 = .ok (.lload_n 3, 1) := by decide +kernel
theorem dX0_addCondition_28 : decode cX0_addCondition 28 = .ok (.lastore, 1) := by decide +kernel
theorem dX0_addCondition_29 : decode cX0_addCondition 29 = .ok (.aload_n 0, 1) := by decide +kernel
theorem dX0_addCondition_30 : decode cX0_addCondition 30 = .ok (.getfield 37, 3) := by decide +kernel
theorem dX0_addCondition_33 : decode cX0_addCondition 33 = .ok (.aload_n 0, 1) := by decide +kernel
theorem dX0_addCondition_34 : decode cX0_addCondition 34 = .ok (.getfield 114, 3) := by decide +kernel
theorem dX0_addCondition_37 : decode cX0_addCondition 37 = .ok (.iload 5, 2) := by decide +kernel
theorem dX0_addCondition_39 : decode cX0_addCondition 39 = .ok (.bastore, 1) := by decide +kernel
theorem dX0_addCondition_40 : decode cX0_addCondition 40 = .ok (.aload_n 0, 1) := by decide +kernel
theorem dX0_addCondition_41 : decode cX0_addCondition 41 = .ok (.dup, 1) := by decide +kernel
theorem dX0_addCondition_42 : decode cX0_addCondition 42 = .ok (.getfield 114, 3) := by decide +kernel
theorem dX0_addCondition_45 : decode cX0_addCondition 45 = .ok (.iconst 1, 1) := by decide +kernel
theorem dX0_addCondition_46 : decode cX0_addCondition 46 = .ok (.iadd, 1) := by decide +kernel
theorem dX0_addCondition_47 : decode cX0_addCondition 47 = .ok (.putfield 114, 3) := by decide +kernel
theorem dX0_addCondition_50 : decode cX0_addCondition 50 = .ok (.return_, 1) := by decide +kernel
theorem dX0_holdsAt_0 : decode cX0_holdsAt 0 = .ok (.iconst 0, 1) := by decide +kernel
theorem dX0_holdsAt_1 : decode cX0_holdsAt 1 = .ok (.istore_n 2, 1) := by decide +kernel
theorem dX0_holdsAt_2 : decode cX0_holdsAt 2 = .ok (.iload_n 2, 1) := by decide +kernel
theorem dX0_holdsAt_3 : decode cX0_holdsAt 3 = .ok (.aload_n 0, 1) := by decide +kernel
theorem dX0_holdsAt_4 : decode cX0_holdsAt 4 = .ok (.getfield 114, 3) := by decide +kernel
theorem dX0_holdsAt_7 : decode cX0_holdsAt 7 = .ok (.if_icmp .ge 49, 3) := by decide +kernel
theorem dX0_holdsAt_10 : decode cX0_holdsAt 10 = .ok (.aload_n 0, 1) := by decide +kernel
theorem dX0_holdsAt_11 : decode cX0_holdsAt 11 = .ok (.getfield 31, 3) := by decide +kernel
theorem dX0_holdsAt_14 : decode cX0_holdsAt 14 = .ok (.iload_n 2, 1) := by decide +kernel
theorem dX0_holdsAt_15 : decode cX0_holdsAt 15 = .ok (.laload, 1) := by decide +kernel
theorem dX0_holdsAt_16 : decode cX0_holdsAt 16 = .ok (.aload_n 0, 1) := by decide +kernel
theorem dX0_holdsAt_17 : decode cX0_holdsAt 17 = .ok (.getfield 34, 3) := by decide +kernel
theorem dX0_holdsAt_20 : decode cX0_holdsAt 20 = .ok (.iload_n 2, 1) := by decide +kernel
theorem dX0_holdsAt_21 : decode cX0_holdsAt 21 = .ok (.laload, 1) := by decide +kernel
theorem dX0_holdsAt_22 : decode cX0_holdsAt 22 = .ok (.iload_n 1, 1) := by decide +kernel
theorem dX0_holdsAt_23 : decode cX0_holdsAt 23 = .ok (.i2l, 1) := by decide +kernel
theorem dX0_holdsAt_24 : decode cX0_holdsAt 24 = .ok (.lmul, 1) := by decide +kernel
theorem dX0_holdsAt_25 : decode cX0_holdsAt 25 = .ok (.ladd, 1) := by decide +kernel
theorem dX0_holdsAt_26 : decode cX0_holdsAt 26 = .ok (.lstore_n 3, 1) := by decide +kernel
theorem dX0_holdsAt_27 : decode cX0_holdsAt 27 = .ok (.lload_n 3, 1) := by decide +kernel
theorem dX0_holdsAt_28 : decode cX0_holdsAt 28 = .ok (.lconst 0, 1) := by decide +kernel
theorem dX0_holdsAt_29 : decode cX0_holdsAt 29 = .ok (.lcmp, 1) := by decide +kernel
theorem dX0_holdsAt_30 : decode cX0_holdsAt 30 = .ok (.ifCond .lt 18, 3) := by decide +kernel
theorem dX0_holdsAt_33 : decode cX0_holdsAt 33 = .ok (.lload_n 3, 1) := by decide +kernel
theorem dX0_holdsAt_34 : decode cX0_holdsAt 34 = .ok (.lconst 0, 1) := by decide +kernel
theorem dX0_holdsAt_35 : decode cX0_holdsAt 35 = .ok (.lcmp, 1) := by decide +kernel
theorem dX0_holdsAt_36 : decode cX0_holdsAt 36 = .ok (.ifCond .ne 14, 3) := by decide +kernel
theorem dX0_holdsAt_39 : decode cX0_holdsAt 39 = .ok (.aload_n 0, 1) := by decide +kernel
theorem dX0_holdsAt_40 : decode cX0_holdsAt 40 = .ok (.getfield 37, 3) := by decide +kernel
theorem dX0_holdsAt_43 : decode cX0_holdsAt 43 = .ok (.iload_n 2, 1) := by decide +kernel
theorem dX0_holdsAt_44 : decode cX0_holdsAt 44 = .ok (.baload, 1) := by decide +kernel
theorem dX0_holdsAt_45 : decode cX0_holdsAt 45 = .ok (.ifCond .eq 5, 3) := by decide +kernel
theorem dX0_holdsAt_48 : decode cX0_holdsAt 48 = .ok (.iconst 0, 1) := by decide +kernel
theorem dX0_holdsAt_49 : decode cX0_holdsAt 49 = .ok (.ireturn, 1) := by decide +kernel
theorem dX0_holdsAt_50 : decode cX0_holdsAt 50 = .ok (.iinc 2 1, 3) := by decide +kernel
theorem dX0_holdsAt_53 : decode cX0_holdsAt 53 = .ok (.goto (-51), 3) := by decide +kernel
theorem dX0_holdsAt_56 : decode cX0_holdsAt 56 = .ok (.iconst 1, 1) := by decide +kernel
theorem dX0_holdsAt_57 : decode cX0_holdsAt 57 = .ok (.ireturn, 1) := by decide +kernel
theorem dX0_holdsBeside_0 : decode cX0_holdsBeside 0 = .ok (.iconst 0, 1) := by decide +kernel
theorem dX0_holdsBeside_1 : decode cX0_holdsBeside 1 = .ok (.istore 6, 2) := by decide +kernel
theorem dX0_holdsBeside_3 : decode cX0_holdsBeside 3 = .ok (.iload 6, 2) := by decide +kernel
theorem dX0_holdsBeside_5 : decode cX0_holdsBeside 5 = .ok (.aload_n 0, 1) := by decide +kernel
theorem dX0_holdsBeside_6 : decode cX0_holdsBeside 6 = .ok (.getfield 114, 3) := by decide +kernel
theorem dX0_holdsBeside_9 : decode cX0_holdsBeside 9 = .ok (.if_icmp .ge 76, 3) := by decide +kernel
theorem dX0_holdsBeside_12 : decode cX0_holdsBeside 12 = .ok (.aload_n 0, 1) := by decide +kernel
theorem dX0_holdsBeside_13 : decode cX0_holdsBeside 13 = .ok (.getfield 31, 3) := by decide +kernel
theorem dX0_holdsBeside_16 : decode cX0_holdsBeside 16 = .ok (.iload 6, 2) := by decide +kernel
theorem dX0_holdsBeside_18 : decode cX0_holdsBeside 18 = .ok (.laload, 1) := by decide +kernel
theorem dX0_holdsBeside_19 : decode cX0_holdsBeside 19 = .ok (.lload_n 3, 1) := by decide +kernel
theorem dX0_holdsBeside_20 : decode cX0_holdsBeside 20 = .ok (.lmul, 1) := by decide +kernel
theorem dX0_holdsBeside_21 : decode cX0_holdsBeside 21 = .ok (.aload_n 0, 1) := by decide +kernel
theorem dX0_holdsBeside_22 : decode cX0_holdsBeside 22 = .ok (.getfield 34, 3) := by decide +kernel
theorem dX0_holdsBeside_25 : decode cX0_holdsBeside 25 = .ok (.iload 6, 2) := by decide +kernel
theorem dX0_holdsBeside_27 : decode cX0_holdsBeside 27 = .ok (.laload, 1) := by decide +kernel
theorem dX0_holdsBeside_28 : decode cX0_holdsBeside 28 = .ok (.lload_n 1, 1) := by decide +kernel
theorem dX0_holdsBeside_29 : decode cX0_holdsBeside 29 = .ok (.lmul, 1) := by decide +kernel
theorem dX0_holdsBeside_30 : decode cX0_holdsBeside 30 = .ok (.ladd, 1) := by decide +kernel
theorem dX0_holdsBeside_31 : decode cX0_holdsBeside 31 = .ok (.lstore 7, 2) := by decide +kernel
theorem dX0_holdsBeside_33 : decode cX0_holdsBeside 33 = .ok (.lload 7, 2) := by decide +kernel
theorem dX0_holdsBeside_35 : decode cX0_holdsBeside 35 = .ok (.lconst 0, 1) := by decide +kernel
theorem dX0_holdsBeside_36 : decode cX0_holdsBeside 36 = .ok (.lcmp, 1) := by decide +kernel
theorem dX0_holdsBeside_37 : decode cX0_holdsBeside 37 = .ok (.ifCond .ne 16, 3) := by decide +kernel
theorem dX0_holdsBeside_40 : decode cX0_holdsBeside 40 = .ok (.aload_n 0, 1) := by decide +kernel
theorem dX0_holdsBeside_41 : decode cX0_holdsBeside 41 = .ok (.getfield 34, 3) := by decide +kernel
theorem dX0_holdsBeside_44 : decode cX0_holdsBeside 44 = .ok (.iload 6, 2) := by decide +kernel
theorem dX0_holdsBeside_46 : decode cX0_holdsBeside 46 = .ok (.laload, 1) := by decide +kernel
theorem dX0_holdsBeside_47 : decode cX0_holdsBeside 47 = .ok (.iload 5, 2) := by decide +kernel
theorem dX0_holdsBeside_49 : decode cX0_holdsBeside 49 = .ok (.i2l, 1) := by decide +kernel
theorem dX0_holdsBeside_50 : decode cX0_holdsBeside 50 = .ok (.lmul, 1) := by decide +kernel
theorem dX0_holdsBeside_51 : decode cX0_holdsBeside 51 = .ok (.lstore 7, 2) := by decide +kernel
theorem dX0_holdsBeside_53 : decode cX0_holdsBeside 53 = .ok (.lload 7, 2) := by decide +kernel
theorem dX0_holdsBeside_55 : decode cX0_holdsBeside 55 = .ok (.lconst 0, 1) := by decide +kernel
theorem dX0_holdsBeside_56 : decode cX0_holdsBeside 56 = .ok (.lcmp, 1) := by decide +kernel
theorem dX0_holdsBeside_57 : decode cX0_holdsBeside 57 = .ok (.ifCond .lt 20, 3) := by decide +kernel
theorem dX0_holdsBeside_60 : decode cX0_holdsBeside 60 = .ok (.lload 7, 2) := by decide +kernel
theorem dX0_holdsBeside_62 : decode cX0_holdsBeside 62 = .ok (.lconst 0, 1) := by decide +kernel
theorem dX0_holdsBeside_63 : decode cX0_holdsBeside 63 = .ok (.lcmp, 1) := by decide +kernel
theorem dX0_holdsBeside_64 : decode cX0_holdsBeside 64 = .ok (.ifCond .ne 15, 3) := by decide +kernel
theorem dX0_holdsBeside_67 : decode cX0_holdsBeside 67 = .ok (.aload_n 0, 1) := by decide +kernel
theorem dX0_holdsBeside_68 : decode cX0_holdsBeside 68 = .ok (.getfield 37, 3) := by decide +kernel
theorem dX0_holdsBeside_71 : decode cX0_holdsBeside 71 = .ok (.iload 6, 2) := by decide +kernel
theorem dX0_holdsBeside_73 : decode cX0_holdsBeside 73 = .ok (.baload, 1) := by decide +kernel
theorem dX0_holdsBeside_74 : decode cX0_holdsBeside 74 = .ok (.ifCond .eq 5, 3) := by decide +kernel
theorem dX0_holdsBeside_77 : decode cX0_holdsBeside 77 = .ok (.iconst 0, 1) := by decide +kernel
theorem dX0_holdsBeside_78 : decode cX0_holdsBeside 78 = .ok (.ireturn, 1) := by decide +kernel
theorem dX0_holdsBeside_79 : decode cX0_holdsBeside 79 = .ok (.iinc 6 1, 3) := by decide +kernel
theorem dX0_holdsBeside_82 : decode cX0_holdsBeside 82 = .ok (.goto (-79), 3) := by decide +kernel
theorem dX0_holdsBeside_85 : decode cX0_holdsBeside 85 = .ok (.iconst 1, 1) := by decide +kernel
theorem dX0_holdsBeside_86 : decode cX0_holdsBeside 86 = .ok (.ireturn, 1) := by decide +kernel
theorem dX1_init_0 : decode cX1_init 0 = .ok (.aload_n 0, 1) := by decide +kernel
theorem dX1_init_1 : decode cX1_init 1 = .ok (.invokespecial 3, 3) := by decide +kernel
theorem dX1_init_4 : decode cX1_init 4 = .ok (.aload_n 0, 1) := by decide +kernel
theorem dX1_init_5 : decode cX1_init 5 = .ok (.iconst 1, 1) := by decide +kernel
theorem dX1_init_6 : decode cX1_init 6 = .ok (.putfield 9, 3) := by decide +kernel
theorem dX1_init_9 : decode cX1_init 9 = .ok (.aload_n 0, 1) := by decide +kernel
theorem dX1_init_10 : decode cX1_init 10 = .ok (.lconst 1, 1) := by decide +kernel
theorem dX1_init_11 : decode cX1_init 11 = .ok (.putfield 15, 3) := by decide +kernel
theorem dX1_init_14 : decode cX1_init 14 = .ok (.return_, 1) := by decide +kernel
theorem dX1_clear_0 : decode cX1_clear 0 = .ok (.aload_n 0, 1) := by decide +kernel
theorem dX1_clear_1 : decode cX1_clear 1 = .ok (.iconst 1, 1) := by decide +kernel
theorem dX1_clear_2 : decode cX1_clear 2 = .ok (.putfield 9, 3) := by decide +kernel
theorem dX1_clear_5 : decode cX1_clear 5 = .ok (.return_, 1) := by decide +kernel
theorem dX1_offer_0 : decode cX1_offer 0 = .ok (.aload_n 0, 1) := by decide +kernel
theorem dX1_offer_1 : decode cX1_offer 1 = .ok (.getfield 9, 3) := by decide +kernel
theorem dX1_offer_4 : decode cX1_offer 4 = .ok (.ifCond .ne 19, 3) := by decide +kernel
theorem dX1_offer_7 : decode cX1_offer 7 = .ok (.lload_n 1, 1) := by decide +kernel
theorem dX1_offer_8 : decode cX1_offer 8 = .ok (.lload_n 3, 1) := by decide +kernel
theorem dX1_offer_9 : decode cX1_offer 9 = .ok (.aload_n 0, 1) := by decide +kernel
theorem dX1_offer_10 : decode cX1_offer 10 = .ok (.getfield 19, 3) := by decide +kernel
theorem dX1_offer_13 : decode cX1_offer 13 = .ok (.aload_n 0, 1) := by decide +kernel
theorem dX1_offer_14 : decode cX1_offer 14 = .ok (.getfield 15, 3) := by decide +kernel
theorem dX1_offer_17 : decode cX1_offer 17 = .ok (.invokestatic 22, 3) := by decide +kernel
theorem dX1_offer_20 : decode cX1_offer 20 = .ok (.ifCond .ge 24, 3) := by decide +kernel
theorem dX1_offer_23 : decode cX1_offer 23 = .ok (.aload_n 0, 1) := by decide +kernel
theorem dX1_offer_24 : decode cX1_offer 24 = .ok (.iconst 0, 1) := by decide +kernel
theorem dX1_offer_25 : decode cX1_offer 25 = .ok (.putfield 9, 3) := by decide +kernel
theorem dX1_offer_28 : decode cX1_offer 28 = .ok (.aload_n 0, 1) := by decide +kernel
theorem dX1_offer_29 : decode cX1_offer 29 = .ok (.lload_n 1, 1) := by decide +kernel
theorem dX1_offer_30 : decode cX1_offer 30 = .ok (.putfield 19, 3) := by decide +kernel
theorem dX1_offer_33 : decode cX1_offer 33 = .ok (.aload_n 0, 1) := by decide +kernel
theorem dX1_offer_34 : decode cX1_offer 34 = .ok (.lload_n 3, 1) := by decide +kernel
theorem dX1_offer_35 : decode cX1_offer 35 = .ok (.putfield 15, 3) := by decide +kernel
theorem dX1_offer_38 : decode cX1_offer 38 = .ok (.aload_n 0, 1) := by decide +kernel
theorem dX1_offer_39 : decode cX1_offer 39 = .ok (.lload 5, 2) := by decide +kernel
theorem dX1_offer_41 : decode cX1_offer 41 = .ok (.putfield 28, 3) := by decide +kernel
theorem dX1_offer_44 : decode cX1_offer 44 = .ok (.return_, 1) := by decide +kernel
theorem dX1_tell_0 : decode cX1_tell 0 = .ok (.aload_n 0, 1) := by decide +kernel
theorem dX1_tell_1 : decode cX1_tell 1 = .ok (.getfield 9, 3) := by decide +kernel
theorem dX1_tell_4 : decode cX1_tell 4 = .ok (.ifCond .eq 7, 3) := by decide +kernel
theorem dX1_tell_7 : decode cX1_tell 7 = .ok (.ldc2_w 31, 3) := by decide +kernel
theorem dX1_tell_10 : decode cX1_tell 10 = .ok (.lreturn, 1) := by decide +kernel
theorem dX1_tell_11 : decode cX1_tell 11 = .ok (.iload_n 1, 1) := by decide +kernel
theorem dX1_tell_12 : decode cX1_tell 12 = .ok (.iconst 2, 1) := by decide +kernel
theorem dX1_tell_13 : decode cX1_tell 13 = .ok (.if_icmp .ne 10, 3) := by decide +kernel
theorem dX1_tell_16 : decode cX1_tell 16 = .ok (.aload_n 0, 1) := by decide +kernel
theorem dX1_tell_17 : decode cX1_tell 17 = .ok (.getfield 28, 3) := by decide +kernel
theorem dX1_tell_20 : decode cX1_tell 20 = .ok (.goto 15, 3) := by decide +kernel
theorem dX1_tell_23 : decode cX1_tell 23 = .ok (.aload_n 0, 1) := by decide +kernel
theorem dX1_tell_24 : decode cX1_tell 24 = .ok (.getfield 19, 3) := by decide +kernel
theorem dX1_tell_27 : decode cX1_tell 27 = .ok (.aload_n 0, 1) := by decide +kernel
theorem dX1_tell_28 : decode cX1_tell 28 = .ok (.getfield 15, 3) := by decide +kernel
theorem dX1_tell_31 : decode cX1_tell 31 = .ok (.iload_n 1, 1) := by decide +kernel
theorem dX1_tell_32 : decode cX1_tell 32 = .ok (.invokestatic 33, 3) := by decide +kernel
theorem dX1_tell_35 : decode cX1_tell 35 = .ok (.lreturn, 1) := by decide +kernel
theorem dX2_common_0 : decode cX2_common 0 = .ok (.lload_n 0, 1) := by decide +kernel
theorem dX2_common_1 : decode cX2_common 1 = .ok (.invokestatic 9, 3) := by decide +kernel
theorem dX2_common_4 : decode cX2_common 4 = .ok (.lstore 4, 2) := by decide +kernel
theorem dX2_common_6 : decode cX2_common 6 = .ok (.lload_n 2, 1) := by decide +kernel
theorem dX2_common_7 : decode cX2_common 7 = .ok (.invokestatic 9, 3) := by decide +kernel
theorem dX2_common_10 : decode cX2_common 10 = .ok (.lstore 6, 2) := by decide +kernel
theorem dX2_common_12 : decode cX2_common 12 = .ok (.iconst 0, 1) := by decide +kernel
theorem dX2_common_13 : decode cX2_common 13 = .ok (.istore 8, 2) := by decide +kernel
theorem dX2_common_15 : decode cX2_common 15 = .ok (.lload 6, 2) := by decide +kernel
theorem dX2_common_17 : decode cX2_common 17 = .ok (.lconst 0, 1) := by decide +kernel
theorem dX2_common_18 : decode cX2_common 18 = .ok (.lcmp, 1) := by decide +kernel
theorem dX2_common_19 : decode cX2_common 19 = .ok (.ifCond .eq 32, 3) := by decide +kernel
theorem dX2_common_22 : decode cX2_common 22 = .ok (.iload 8, 2) := by decide +kernel
theorem dX2_common_24 : decode cX2_common 24 = .ok (.sipush 128, 3) := by decide +kernel
theorem dX2_common_27 : decode cX2_common 27 = .ok (.if_icmp .ge 24, 3) := by decide +kernel
theorem dX2_common_30 : decode cX2_common 30 = .ok (.lload 4, 2) := by decide +kernel
theorem dX2_common_32 : decode cX2_common 32 = .ok (.lload 6, 2) := by decide +kernel
theorem dX2_common_34 : decode cX2_common 34 = .ok (.lrem, 1) := by decide +kernel
theorem dX2_common_35 : decode cX2_common 35 = .ok (.lstore 9, 2) := by decide +kernel
theorem dX2_common_37 : decode cX2_common 37 = .ok (.lload 6, 2) := by decide +kernel
theorem dX2_common_39 : decode cX2_common 39 = .ok (.lstore 4, 2) := by decide +kernel
theorem dX2_common_41 : decode cX2_common 41 = .ok (.lload 9, 2) := by decide +kernel
theorem dX2_common_43 : decode cX2_common 43 = .ok (.lstore 6, 2) := by decide +kernel
theorem dX2_common_45 : decode cX2_common 45 = .ok (.iinc 8 1, 3) := by decide +kernel
theorem dX2_common_48 : decode cX2_common 48 = .ok (.goto (-33), 3) := by decide +kernel
theorem dX2_common_51 : decode cX2_common 51 = .ok (.lload 4, 2) := by decide +kernel
theorem dX2_common_53 : decode cX2_common 53 = .ok (.lreturn, 1) := by decide +kernel
theorem dX2_tell_0 : decode cX2_tell 0 = .ok (.lload_n 2, 1) := by decide +kernel
theorem dX2_tell_1 : decode cX2_tell 1 = .ok (.lconst 0, 1) := by decide +kernel
theorem dX2_tell_2 : decode cX2_tell 2 = .ok (.lcmp, 1) := by decide +kernel
theorem dX2_tell_3 : decode cX2_tell 3 = .ok (.ifCond .eq 14, 3) := by decide +kernel
theorem dX2_tell_6 : decode cX2_tell 6 = .ok (.iload 4, 2) := by decide +kernel
theorem dX2_tell_8 : decode cX2_tell 8 = .ok (.ifCond .lt 9, 3) := by decide +kernel
theorem dX2_tell_11 : decode cX2_tell 11 = .ok (.iload 4, 2) := by decide +kernel
theorem dX2_tell_13 : decode cX2_tell 13 = .ok (.iconst 1, 1) := by decide +kernel
theorem dX2_tell_14 : decode cX2_tell 14 = .ok (.if_icmp .le 7, 3) := by decide +kernel
theorem dX2_tell_17 : decode cX2_tell 17 = .ok (.ldc2_w 17, 3) := by decide +kernel
theorem dX2_tell_20 : decode cX2_tell 20 = .ok (.lreturn, 1) := by decide +kernel
theorem dX2_tell_21 : decode cX2_tell 21 = .ok (.lload_n 0, 1) := by decide +kernel
theorem dX2_tell_22 : decode cX2_tell 22 = .ok (.lload_n 2, 1) := by decide +kernel
theorem dX2_tell_23 : decode cX2_tell 23 = .ok (.invokestatic 19, 3) := by decide +kernel
theorem dX2_tell_26 : decode cX2_tell 26 = .ok (.lstore 5, 2) := by decide +kernel
theorem dX2_tell_28 : decode cX2_tell 28 = .ok (.lload 5, 2) := by decide +kernel
theorem dX2_tell_30 : decode cX2_tell 30 = .ok (.lconst 0, 1) := by decide +kernel
theorem dX2_tell_31 : decode cX2_tell 31 = .ok (.lcmp, 1) := by decide +kernel
theorem dX2_tell_32 : decode cX2_tell 32 = .ok (.ifCond .ne 7, 3) := by decide +kernel
theorem dX2_tell_35 : decode cX2_tell 35 = .ok (.ldc2_w 17, 3) := by decide +kernel
theorem dX2_tell_38 : decode cX2_tell 38 = .ok (.lreturn, 1) := by decide +kernel
theorem dX2_tell_39 : decode cX2_tell 39 = .ok (.lload_n 2, 1) := by decide +kernel
theorem dX2_tell_40 : decode cX2_tell 40 = .ok (.lconst 0, 1) := by decide +kernel
theorem dX2_tell_41 : decode cX2_tell 41 = .ok (.lcmp, 1) := by decide +kernel
theorem dX2_tell_42 : decode cX2_tell 42 = .ok (.ifCond .ge 8, 3) := by decide +kernel
theorem dX2_tell_45 : decode cX2_tell 45 = .ok (.lload 5, 2) := by decide +kernel
theorem dX2_tell_47 : decode cX2_tell 47 = .ok (.lneg, 1) := by decide +kernel
theorem dX2_tell_48 : decode cX2_tell 48 = .ok (.lstore 5, 2) := by decide +kernel
theorem dX2_tell_50 : decode cX2_tell 50 = .ok (.iload 4, 2) := by decide +kernel
theorem dX2_tell_52 : decode cX2_tell 52 = .ok (.ifCond .ne 10, 3) := by decide +kernel
theorem dX2_tell_55 : decode cX2_tell 55 = .ok (.lload_n 0, 1) := by decide +kernel
theorem dX2_tell_56 : decode cX2_tell 56 = .ok (.lload 5, 2) := by decide +kernel
theorem dX2_tell_58 : decode cX2_tell 58 = .ok (.ldiv, 1) := by decide +kernel
theorem dX2_tell_59 : decode cX2_tell 59 = .ok (.goto 7, 3) := by decide +kernel
theorem dX2_tell_62 : decode cX2_tell 62 = .ok (.lload_n 2, 1) := by decide +kernel
theorem dX2_tell_63 : decode cX2_tell 63 = .ok (.lload 5, 2) := by decide +kernel
theorem dX2_tell_65 : decode cX2_tell 65 = .ok (.ldiv, 1) := by decide +kernel
theorem dX2_tell_66 : decode cX2_tell 66 = .ok (.lreturn, 1) := by decide +kernel
theorem dX2_order_0 : decode cX2_order 0 = .ok (.iconst 1, 1) := by decide +kernel
theorem dX2_order_1 : decode cX2_order 1 = .ok (.istore 8, 2) := by decide +kernel
theorem dX2_order_3 : decode cX2_order 3 = .ok (.iconst 0, 1) := by decide +kernel
theorem dX2_order_4 : decode cX2_order 4 = .ok (.istore 9, 2) := by decide +kernel
theorem dX2_order_6 : decode cX2_order 6 = .ok (.lload_n 2, 1) := by decide +kernel
theorem dX2_order_7 : decode cX2_order 7 = .ok (.lconst 0, 1) := by decide +kernel
theorem dX2_order_8 : decode cX2_order 8 = .ok (.lcmp, 1) := by decide +kernel
theorem dX2_order_9 : decode cX2_order 9 = .ok (.ifCond .eq 97, 3) := by decide +kernel
theorem dX2_order_12 : decode cX2_order 12 = .ok (.lload 6, 2) := by decide +kernel
theorem dX2_order_14 : decode cX2_order 14 = .ok (.lconst 0, 1) := by decide +kernel
theorem dX2_order_15 : decode cX2_order 15 = .ok (.lcmp, 1) := by decide +kernel
theorem dX2_order_16 : decode cX2_order 16 = .ok (.ifCond .eq 90, 3) := by decide +kernel
theorem dX2_order_19 : decode cX2_order 19 = .ok (.iload 9, 2) := by decide +kernel
theorem dX2_order_21 : decode cX2_order 21 = .ok (.sipush 128, 3) := by decide +kernel
theorem dX2_order_24 : decode cX2_order 24 = .ok (.if_icmp .ge 82, 3) := by decide +kernel
theorem dX2_order_27 : decode cX2_order 27 = .ok (.lload_n 0, 1) := by decide +kernel
theorem dX2_order_28 : decode cX2_order 28 = .ok (.lload_n 2, 1) := by decide +kernel
theorem dX2_order_29 : decode cX2_order 29 = .ok (.ldiv, 1) := by decide +kernel
theorem dX2_order_30 : decode cX2_order 30 = .ok (.lstore 10, 2) := by decide +kernel
theorem dX2_order_32 : decode cX2_order 32 = .ok (.lload 4, 2) := by decide +kernel
theorem dX2_order_34 : decode cX2_order 34 = .ok (.lload 6, 2) := by decide +kernel
theorem dX2_order_36 : decode cX2_order 36 = .ok (.ldiv, 1) := by decide +kernel
theorem dX2_order_37 : decode cX2_order 37 = .ok (.lstore 12, 2) := by decide +kernel
theorem dX2_order_39 : decode cX2_order 39 = .ok (.lload 10, 2) := by decide +kernel
theorem dX2_order_41 : decode cX2_order 41 = .ok (.lload 12, 2) := by decide +kernel
theorem dX2_order_43 : decode cX2_order 43 = .ok (.lcmp, 1) := by decide +kernel
theorem dX2_order_44 : decode cX2_order 44 = .ok (.ifCond .eq 20, 3) := by decide +kernel
theorem dX2_order_47 : decode cX2_order 47 = .ok (.lload 10, 2) := by decide +kernel
theorem dX2_order_49 : decode cX2_order 49 = .ok (.lload 12, 2) := by decide +kernel
theorem dX2_order_51 : decode cX2_order 51 = .ok (.lcmp, 1) := by decide +kernel
theorem dX2_order_52 : decode cX2_order 52 = .ok (.ifCond .ge 9, 3) := by decide +kernel
theorem dX2_order_55 : decode cX2_order 55 = .ok (.iload 8, 2) := by decide +kernel
theorem dX2_order_57 : decode cX2_order 57 = .ok (.ineg, 1) := by decide +kernel
theorem dX2_order_58 : decode cX2_order 58 = .ok (.goto 5, 3) := by decide +kernel
theorem dX2_order_61 : decode cX2_order 61 = .ok (.iload 8, 2) := by decide +kernel
theorem dX2_order_63 : decode cX2_order 63 = .ok (.ireturn, 1) := by decide +kernel
theorem dX2_order_64 : decode cX2_order 64 = .ok (.lload_n 0, 1) := by decide +kernel
theorem dX2_order_65 : decode cX2_order 65 = .ok (.lload 10, 2) := by decide +kernel
theorem dX2_order_67 : decode cX2_order 67 = .ok (.lload_n 2, 1) := by decide +kernel
theorem dX2_order_68 : decode cX2_order 68 = .ok (.lmul, 1) := by decide +kernel
theorem dX2_order_69 : decode cX2_order 69 = .ok (.lsub, 1) := by decide +kernel
theorem dX2_order_70 : decode cX2_order 70 = .ok (.lstore 14, 2) := by decide +kernel
theorem dX2_order_72 : decode cX2_order 72 = .ok (.lload 4, 2) := by decide +kernel
theorem dX2_order_74 : decode cX2_order 74 = .ok (.lload 12, 2) := by decide +kernel
theorem dX2_order_76 : decode cX2_order 76 = .ok (.lload 6, 2) := by decide +kernel
theorem dX2_order_78 : decode cX2_order 78 = .ok (.lmul, 1) := by decide +kernel
theorem dX2_order_79 : decode cX2_order 79 = .ok (.lsub, 1) := by decide +kernel
theorem dX2_order_80 : decode cX2_order 80 = .ok (.lstore 16, 2) := by decide +kernel
theorem dX2_order_82 : decode cX2_order 82 = .ok (.lload_n 2, 1) := by decide +kernel
theorem dX2_order_83 : decode cX2_order 83 = .ok (.lstore_n 0, 1) := by decide +kernel
theorem dX2_order_84 : decode cX2_order 84 = .ok (.lload 14, 2) := by decide +kernel
theorem dX2_order_86 : decode cX2_order 86 = .ok (.lstore_n 2, 1) := by decide +kernel
theorem dX2_order_87 : decode cX2_order 87 = .ok (.lload 6, 2) := by decide +kernel
theorem dX2_order_89 : decode cX2_order 89 = .ok (.lstore 4, 2) := by decide +kernel
theorem dX2_order_91 : decode cX2_order 91 = .ok (.lload 16, 2) := by decide +kernel
theorem dX2_order_93 : decode cX2_order 93 = .ok (.lstore 6, 2) := by decide +kernel
theorem dX2_order_95 : decode cX2_order 95 = .ok (.iload 8, 2) := by decide +kernel
theorem dX2_order_97 : decode cX2_order 97 = .ok (.ineg, 1) := by decide +kernel
theorem dX2_order_98 : decode cX2_order 98 = .ok (.istore 8, 2) := by decide +kernel
theorem dX2_order_100 : decode cX2_order 100 = .ok (.iinc 9 1, 3) := by decide +kernel
theorem dX2_order_103 : decode cX2_order 103 = .ok (.goto (-97), 3) := by decide +kernel
theorem dX2_order_106 : decode cX2_order 106 = .ok (.lload_n 2, 1) := by decide +kernel
theorem dX2_order_107 : decode cX2_order 107 = .ok (.lload 6, 2) := by decide +kernel
theorem dX2_order_109 : decode cX2_order 109 = .ok (.lcmp, 1) := by decide +kernel
theorem dX2_order_110 : decode cX2_order 110 = .ok (.ifCond .ne 5, 3) := by decide +kernel
theorem dX2_order_113 : decode cX2_order 113 = .ok (.iconst 0, 1) := by decide +kernel
theorem dX2_order_114 : decode cX2_order 114 = .ok (.ireturn, 1) := by decide +kernel
theorem dX2_order_115 : decode cX2_order 115 = .ok (.lload_n 2, 1) := by decide +kernel
theorem dX2_order_116 : decode cX2_order 116 = .ok (.lconst 0, 1) := by decide +kernel
theorem dX2_order_117 : decode cX2_order 117 = .ok (.lcmp, 1) := by decide +kernel
theorem dX2_order_118 : decode cX2_order 118 = .ok (.ifCond .ne 8, 3) := by decide +kernel
theorem dX2_order_121 : decode cX2_order 121 = .ok (.iload 8, 2) := by decide +kernel
theorem dX2_order_123 : decode cX2_order 123 = .ok (.goto 6, 3) := by decide +kernel
theorem dX2_order_126 : decode cX2_order 126 = .ok (.iload 8, 2) := by decide +kernel
theorem dX2_order_128 : decode cX2_order 128 = .ok (.ineg, 1) := by decide +kernel
theorem dX2_order_129 : decode cX2_order 129 = .ok (.ireturn, 1) := by decide +kernel
theorem dX3_init_0 : decode cX3_init 0 = .ok (.aload_n 0, 1) := by decide +kernel
theorem dX3_init_1 : decode cX3_init 1 = .ok (.invokespecial 5, 3) := by decide +kernel
theorem dX3_init_4 : decode cX3_init 4 = .ok (.aload_n 0, 1) := by decide +kernel
theorem dX3_init_5 : decode cX3_init 5 = .ok (.sipush 2600, 3) := by decide +kernel
theorem dX3_init_8 : decode cX3_init 8 = .ok (.newarray .int, 2) := by decide +kernel
theorem dX3_init_10 : decode cX3_init 10 = .ok (.putfield 13, 3) := by decide +kernel
theorem dX3_init_13 : decode cX3_init 13 = .ok (.return_, 1) := by decide +kernel
theorem dX3_find_0 : decode cX3_find 0 = .ok (.iconst 3, 1) := by decide +kernel
theorem dX3_find_1 : decode cX3_find 1 = .ok (.iload_n 2, 1) := by decide +kernel
theorem dX3_find_2 : decode cX3_find 2 = .ok (.isub, 1) := by decide +kernel
theorem dX3_find_3 : decode cX3_find 3 = .ok (.istore_n 3, 1) := by decide +kernel
theorem dX3_find_4 : decode cX3_find 4 = .ok (.aload_n 1, 1) := by decide +kernel
theorem dX3_find_5 : decode cX3_find 5 = .ok (.getfield 17, 3) := by decide +kernel
theorem dX3_find_8 : decode cX3_find 8 = .ok (.iload_n 3, 1) := by decide +kernel
theorem dX3_find_9 : decode cX3_find 9 = .ok (.iadd, 1) := by decide +kernel
theorem dX3_find_10 : decode cX3_find 10 = .ok (.istore 4, 2) := by decide +kernel
theorem dX3_find_12 : decode cX3_find 12 = .ok (.aload_n 0, 1) := by decide +kernel
theorem dX3_find_13 : decode cX3_find 13 = .ok (.aload_n 1, 1) := by decide +kernel
theorem dX3_find_14 : decode cX3_find 14 = .ok (.iload 4, 2) := by decide +kernel
theorem dX3_find_16 : decode cX3_find 16 = .ok (.invokevirtual 21, 3) := by decide +kernel
theorem dX3_find_19 : decode cX3_find 19 = .ok (.aload_n 0, 1) := by decide +kernel
theorem dX3_find_20 : decode cX3_find 20 = .ok (.lconst 0, 1) := by decide +kernel
theorem dX3_find_21 : decode cX3_find 21 = .ok (.putfield 25, 3) := by decide +kernel
theorem dX3_find_24 : decode cX3_find 24 = .ok (.aload_n 0, 1) := by decide +kernel
theorem dX3_find_25 : decode cX3_find 25 = .ok (.lconst 1, 1) := by decide +kernel
theorem dX3_find_26 : decode cX3_find 26 = .ok (.putfield 29, 3) := by decide +kernel
theorem dX3_find_29 : decode cX3_find 29 = .ok (.iload_n 3, 1) := by decide +kernel
theorem dX3_find_30 : decode cX3_find 30 = .ok (.ifCond .le 10, 3) := by decide +kernel
theorem dX3_find_33 : decode cX3_find 33 = .ok (.iload 4, 2) := by decide +kernel
theorem dX3_find_35 : decode cX3_find 35 = .ok (.iconst 1, 1) := by decide +kernel
theorem dX3_find_36 : decode cX3_find 36 = .ok (.isub, 1) := by decide +kernel
theorem dX3_find_37 : decode cX3_find 37 = .ok (.goto 4, 3) := by decide +kernel
theorem dX3_find_40 : decode cX3_find 40 = .ok (.iconst 3, 1) := by decide +kernel
theorem dX3_find_41 : decode cX3_find 41 = .ok (.istore 5, 2) := by decide +kernel
theorem dX3_find_43 : decode cX3_find 43 = .ok (.iload 5, 2) := by decide +kernel
theorem dX3_find_45 : decode cX3_find 45 = .ok (.istore 6, 2) := by decide +kernel
theorem dX3_find_47 : decode cX3_find 47 = .ok (.iload 6, 2) := by decide +kernel
theorem dX3_find_49 : decode cX3_find 49 = .ok (.iload 4, 2) := by decide +kernel
theorem dX3_find_51 : decode cX3_find 51 = .ok (.if_icmp .ge 71, 3) := by decide +kernel
theorem dX3_find_54 : decode cX3_find 54 = .ok (.iload_n 3, 1) := by decide +kernel
theorem dX3_find_55 : decode cX3_find 55 = .ok (.iconst 1, 1) := by decide +kernel
theorem dX3_find_56 : decode cX3_find 56 = .ok (.if_icmp .le 10, 3) := by decide +kernel
theorem dX3_find_59 : decode cX3_find 59 = .ok (.iload 6, 2) := by decide +kernel
theorem dX3_find_61 : decode cX3_find 61 = .ok (.iconst 1, 1) := by decide +kernel
theorem dX3_find_62 : decode cX3_find 62 = .ok (.isub, 1) := by decide +kernel
theorem dX3_find_63 : decode cX3_find 63 = .ok (.goto 4, 3) := by decide +kernel
theorem dX3_find_66 : decode cX3_find 66 = .ok (.iconst 2, 1) := by decide +kernel
theorem dX3_find_67 : decode cX3_find 67 = .ok (.istore 7, 2) := by decide +kernel
theorem dX3_find_69 : decode cX3_find 69 = .ok (.iload 7, 2) := by decide +kernel
theorem dX3_find_71 : decode cX3_find 71 = .ok (.istore 8, 2) := by decide +kernel
theorem dX3_find_73 : decode cX3_find 73 = .ok (.iload 8, 2) := by decide +kernel
theorem dX3_find_75 : decode cX3_find 75 = .ok (.iload 6, 2) := by decide +kernel
theorem dX3_find_77 : decode cX3_find 77 = .ok (.if_icmp .ge 39, 3) := by decide +kernel
theorem dX3_find_80 : decode cX3_find 80 = .ok (.iconst 1, 1) := by decide +kernel
theorem dX3_find_81 : decode cX3_find 81 = .ok (.istore 9, 2) := by decide +kernel
theorem dX3_find_83 : decode cX3_find 83 = .ok (.iload 9, 2) := by decide +kernel
theorem dX3_find_85 : decode cX3_find 85 = .ok (.iload 8, 2) := by decide +kernel
theorem dX3_find_87 : decode cX3_find 87 = .ok (.if_icmp .ge 23, 3) := by decide +kernel
theorem dX3_find_90 : decode cX3_find 90 = .ok (.aload_n 0, 1) := by decide +kernel
theorem dX3_find_91 : decode cX3_find 91 = .ok (.aload_n 1, 1) := by decide +kernel
theorem dX3_find_92 : decode cX3_find 92 = .ok (.getfield 32, 3) := by decide +kernel
theorem dX3_find_95 : decode cX3_find 95 = .ok (.iload 9, 2) := by decide +kernel
theorem dX3_find_97 : decode cX3_find 97 = .ok (.iload 8, 2) := by decide +kernel
theorem dX3_find_99 : decode cX3_find 99 = .ok (.iload 6, 2) := by decide +kernel
theorem dX3_find_101 : decode cX3_find 101 = .ok (.invokevirtual 35, 3) := by decide +kernel
theorem dX3_find_104 : decode cX3_find 104 = .ok (.iinc 9 1, 3) := by decide +kernel
theorem dX3_find_107 : decode cX3_find 107 = .ok (.goto (-24), 3) := by decide +kernel
theorem dX3_find_110 : decode cX3_find 110 = .ok (.iinc 8 1, 3) := by decide +kernel
theorem dX3_find_113 : decode cX3_find 113 = .ok (.goto (-40), 3) := by decide +kernel
theorem dX3_find_116 : decode cX3_find 116 = .ok (.iinc 6 1, 3) := by decide +kernel
theorem dX3_find_119 : decode cX3_find 119 = .ok (.goto (-72), 3) := by decide +kernel
theorem dX3_find_122 : decode cX3_find 122 = .ok (.return_, 1) := by decide +kernel
theorem dX3_twosBelow_0 : decode cX3_twosBelow 0 = .ok (.iload_n 0, 1) := by decide +kernel
theorem dX3_twosBelow_1 : decode cX3_twosBelow 1 = .ok (.iload_n 0, 1) := by decide +kernel
theorem dX3_twosBelow_2 : decode cX3_twosBelow 2 = .ok (.iconst 1, 1) := by decide +kernel
theorem dX3_twosBelow_3 : decode cX3_twosBelow 3 = .ok (.isub, 1) := by decide +kernel
theorem dX3_twosBelow_4 : decode cX3_twosBelow 4 = .ok (.imul, 1) := by decide +kernel
theorem dX3_twosBelow_5 : decode cX3_twosBelow 5 = .ok (.iconst 2, 1) := by decide +kernel
theorem dX3_twosBelow_6 : decode cX3_twosBelow 6 = .ok (.idiv, 1) := by decide +kernel
theorem dX3_twosBelow_7 : decode cX3_twosBelow 7 = .ok (.ireturn, 1) := by decide +kernel
theorem dX3_threesBelow_0 : decode cX3_threesBelow 0 = .ok (.iload_n 0, 1) := by decide +kernel
theorem dX3_threesBelow_1 : decode cX3_threesBelow 1 = .ok (.iload_n 0, 1) := by decide +kernel
theorem dX3_threesBelow_2 : decode cX3_threesBelow 2 = .ok (.iconst 1, 1) := by decide +kernel
theorem dX3_threesBelow_3 : decode cX3_threesBelow 3 = .ok (.isub, 1) := by decide +kernel
theorem dX3_threesBelow_4 : decode cX3_threesBelow 4 = .ok (.imul, 1) := by decide +kernel
theorem dX3_threesBelow_5 : decode cX3_threesBelow 5 = .ok (.iload_n 0, 1) := by decide +kernel
theorem dX3_threesBelow_6 : decode cX3_threesBelow 6 = .ok (.iconst 2, 1) := by decide +kernel
theorem dX3_threesBelow_7 : decode cX3_threesBelow 7 = .ok (.isub, 1) := by decide +kernel
theorem dX3_threesBelow_8 : decode cX3_threesBelow 8 = .ok (.imul, 1) := by decide +kernel
theorem dX3_threesBelow_9 : decode cX3_threesBelow 9 = .ok (.bipush 6, 2) := by decide +kernel
theorem dX3_threesBelow_11 : decode cX3_threesBelow 11 = .ok (.idiv, 1) := by decide +kernel
theorem dX3_threesBelow_12 : decode cX3_threesBelow 12 = .ok (.ireturn, 1) := by decide +kernel
theorem dX3_measure_0 : decode cX3_measure 0 = .ok (.iconst 0, 1) := by decide +kernel
theorem dX3_measure_1 : decode cX3_measure 1 = .ok (.istore_n 3, 1) := by decide +kernel
theorem dX3_measure_2 : decode cX3_measure 2 = .ok (.iconst 2, 1) := by decide +kernel
theorem dX3_measure_3 : decode cX3_measure 3 = .ok (.istore 4, 2) := by decide +kernel
theorem dX3_measure_5 : decode cX3_measure 5 = .ok (.iload 4, 2) := by decide +kernel
theorem dX3_measure_7 : decode cX3_measure 7 = .ok (.iload_n 2, 1) := by decide +kernel
theorem dX3_measure_8 : decode cX3_measure 8 = .ok (.if_icmp .ge 181, 3) := by decide +kernel
theorem dX3_measure_11 : decode cX3_measure 11 = .ok (.iconst 1, 1) := by decide +kernel
theorem dX3_measure_12 : decode cX3_measure 12 = .ok (.istore 5, 2) := by decide +kernel
theorem dX3_measure_14 : decode cX3_measure 14 = .ok (.iload 5, 2) := by decide +kernel
theorem dX3_measure_16 : decode cX3_measure 16 = .ok (.iload 4, 2) := by decide +kernel
theorem dX3_measure_18 : decode cX3_measure 18 = .ok (.if_icmp .ge 165, 3) := by decide +kernel
theorem dX3_measure_21 : decode cX3_measure 21 = .ok (.aload_n 1, 1) := by decide +kernel
theorem dX3_measure_22 : decode cX3_measure 22 = .ok (.getfield 39, 3) := by decide +kernel
theorem dX3_measure_25 : decode cX3_measure 25 = .ok (.iload 5, 2) := by decide +kernel
theorem dX3_measure_27 : decode cX3_measure 27 = .ok (.iaload, 1) := by decide +kernel
theorem dX3_measure_28 : decode cX3_measure 28 = .ok (.aload_n 1, 1) := by decide +kernel
theorem dX3_measure_29 : decode cX3_measure 29 = .ok (.getfield 42, 3) := by decide +kernel
theorem dX3_measure_32 : decode cX3_measure 32 = .ok (.iload 4, 2) := by decide +kernel
theorem dX3_measure_34 : decode cX3_measure 34 = .ok (.iaload, 1) := by decide +kernel
theorem dX3_measure_35 : decode cX3_measure 35 = .ok (.imul, 1) := by decide +kernel
theorem dX3_measure_36 : decode cX3_measure 36 = .ok (.aload_n 1, 1) := by decide +kernel
theorem dX3_measure_37 : decode cX3_measure 37 = .ok (.getfield 42, 3) := by decide +kernel
theorem dX3_measure_40 : decode cX3_measure 40 = .ok (.iload 5, 2) := by decide +kernel
theorem dX3_measure_42 : decode cX3_measure 42 = .ok (.iaload, 1) := by decide +kernel
theorem dX3_measure_43 : decode cX3_measure 43 = .ok (.aload_n 1, 1) := by decide +kernel
theorem dX3_measure_44 : decode cX3_measure 44 = .ok (.getfield 39, 3) := by decide +kernel
theorem dX3_measure_47 : decode cX3_measure 47 = .ok (.iload 4, 2) := by decide +kernel
theorem dX3_measure_49 : decode cX3_measure 49 = .ok (.iaload, 1) := by decide +kernel
theorem dX3_measure_50 : decode cX3_measure 50 = .ok (.imul, 1) := by decide +kernel
theorem dX3_measure_51 : decode cX3_measure 51 = .ok (.isub, 1) := by decide +kernel
theorem dX3_measure_52 : decode cX3_measure 52 = .ok (.istore 6, 2) := by decide +kernel
theorem dX3_measure_54 : decode cX3_measure 54 = .ok (.aload_n 1, 1) := by decide +kernel
theorem dX3_measure_55 : decode cX3_measure 55 = .ok (.getfield 42, 3) := by decide +kernel
theorem dX3_measure_58 : decode cX3_measure 58 = .ok (.iload 5, 2) := by decide +kernel
theorem dX3_measure_60 : decode cX3_measure 60 = .ok (.iaload, 1) := by decide +kernel
theorem dX3_measure_61 : decode cX3_measure 61 = .ok (.aload_n 1, 1) := by decide +kernel
theorem dX3_measure_62 : decode cX3_measure 62 = .ok (.getfield 45, 3) := by decide +kernel
theorem dX3_measure_65 : decode cX3_measure 65 = .ok (.iload 4, 2) := by decide +kernel
theorem dX3_measure_67 : decode cX3_measure 67 = .ok (.iaload, 1) := by decide +kernel
theorem dX3_measure_68 : decode cX3_measure 68 = .ok (.imul, 1) := by decide +kernel
theorem dX3_measure_69 : decode cX3_measure 69 = .ok (.aload_n 1, 1) := by decide +kernel
theorem dX3_measure_70 : decode cX3_measure 70 = .ok (.getfield 45, 3) := by decide +kernel
theorem dX3_measure_73 : decode cX3_measure 73 = .ok (.iload 5, 2) := by decide +kernel
theorem dX3_measure_75 : decode cX3_measure 75 = .ok (.iaload, 1) := by decide +kernel
theorem dX3_measure_76 : decode cX3_measure 76 = .ok (.aload_n 1, 1) := by decide +kernel
theorem dX3_measure_77 : decode cX3_measure 77 = .ok (.getfield 42, 3) := by decide +kernel
theorem dX3_measure_80 : decode cX3_measure 80 = .ok (.iload 4, 2) := by decide +kernel
theorem dX3_measure_82 : decode cX3_measure 82 = .ok (.iaload, 1) := by decide +kernel
theorem dX3_measure_83 : decode cX3_measure 83 = .ok (.imul, 1) := by decide +kernel
theorem dX3_measure_84 : decode cX3_measure 84 = .ok (.isub, 1) := by decide +kernel
theorem dX3_measure_85 : decode cX3_measure 85 = .ok (.istore 7, 2) := by decide +kernel
theorem dX3_measure_87 : decode cX3_measure 87 = .ok (.aload_n 1, 1) := by decide +kernel
theorem dX3_measure_88 : decode cX3_measure 88 = .ok (.getfield 45, 3) := by decide +kernel
theorem dX3_measure_91 : decode cX3_measure 91 = .ok (.iload 5, 2) := by decide +kernel
theorem dX3_measure_93 : decode cX3_measure 93 = .ok (.iaload, 1) := by decide +kernel
theorem dX3_measure_94 : decode cX3_measure 94 = .ok (.aload_n 1, 1) := by decide +kernel
theorem dX3_measure_95 : decode cX3_measure 95 = .ok (.getfield 39, 3) := by decide +kernel
theorem dX3_measure_98 : decode cX3_measure 98 = .ok (.iload 4, 2) := by decide +kernel
theorem dX3_measure_100 : decode cX3_measure 100 = .ok (.iaload, 1) := by decide +kernel
theorem dX3_measure_101 : decode cX3_measure 101 = .ok (.imul, 1) := by decide +kernel
theorem dX3_measure_102 : decode cX3_measure 102 = .ok (.aload_n 1, 1) := by decide +kernel
theorem dX3_measure_103 : decode cX3_measure 103 = .ok (.getfield 39, 3) := by decide +kernel
theorem dX3_measure_106 : decode cX3_measure 106 = .ok (.iload 5, 2) := by decide +kernel
theorem dX3_measure_108 : decode cX3_measure 108 = .ok (.iaload, 1) := by decide +kernel
theorem dX3_measure_109 : decode cX3_measure 109 = .ok (.aload_n 1, 1) := by decide +kernel
theorem dX3_measure_110 : decode cX3_measure 110 = .ok (.getfield 45, 3) := by decide +kernel
theorem dX3_measure_113 : decode cX3_measure 113 = .ok (.iload 4, 2) := by decide +kernel
theorem dX3_measure_115 : decode cX3_measure 115 = .ok (.iaload, 1) := by decide +kernel
theorem dX3_measure_116 : decode cX3_measure 116 = .ok (.imul, 1) := by decide +kernel
theorem dX3_measure_117 : decode cX3_measure 117 = .ok (.isub, 1) := by decide +kernel
theorem dX3_measure_118 : decode cX3_measure 118 = .ok (.istore 8, 2) := by decide +kernel
theorem dX3_measure_120 : decode cX3_measure 120 = .ok (.iconst 0, 1) := by decide +kernel
theorem dX3_measure_121 : decode cX3_measure 121 = .ok (.istore 9, 2) := by decide +kernel
theorem dX3_measure_123 : decode cX3_measure 123 = .ok (.iload 9, 2) := by decide +kernel
theorem dX3_measure_125 : decode cX3_measure 125 = .ok (.iload 5, 2) := by decide +kernel
theorem dX3_measure_127 : decode cX3_measure 127 = .ok (.if_icmp .ge 50, 3) := by decide +kernel
theorem dX3_measure_130 : decode cX3_measure 130 = .ok (.aload_n 0, 1) := by decide +kernel
theorem dX3_measure_131 : decode cX3_measure 131 = .ok (.getfield 13, 3) := by decide +kernel
theorem dX3_measure_134 : decode cX3_measure 134 = .ok (.iload_n 3, 1) := by decide +kernel
theorem dX3_measure_135 : decode cX3_measure 135 = .ok (.aload_n 1, 1) := by decide +kernel
theorem dX3_measure_136 : decode cX3_measure 136 = .ok (.getfield 45, 3) := by decide +kernel
theorem dX3_measure_139 : decode cX3_measure 139 = .ok (.iload 9, 2) := by decide +kernel
theorem dX3_measure_141 : decode cX3_measure 141 = .ok (.iaload, 1) := by decide +kernel
theorem dX3_measure_142 : decode cX3_measure 142 = .ok (.iload 6, 2) := by decide +kernel
theorem dX3_measure_144 : decode cX3_measure 144 = .ok (.imul, 1) := by decide +kernel
theorem dX3_measure_145 : decode cX3_measure 145 = .ok (.aload_n 1, 1) := by decide +kernel
theorem dX3_measure_146 : decode cX3_measure 146 = .ok (.getfield 39, 3) := by decide +kernel
theorem dX3_measure_149 : decode cX3_measure 149 = .ok (.iload 9, 2) := by decide +kernel
theorem dX3_measure_151 : decode cX3_measure 151 = .ok (.iaload, 1) := by decide +kernel
theorem dX3_measure_152 : decode cX3_measure 152 = .ok (.iload 7, 2) := by decide +kernel
theorem dX3_measure_154 : decode cX3_measure 154 = .ok (.imul, 1) := by decide +kernel
theorem dX3_measure_155 : decode cX3_measure 155 = .ok (.iadd, 1) := by decide +kernel
theorem dX3_measure_156 : decode cX3_measure 156 = .ok (.aload_n 1, 1) := by decide +kernel
theorem dX3_measure_157 : decode cX3_measure 157 = .ok (.getfield 42, 3) := by decide +kernel
theorem dX3_measure_160 : decode cX3_measure 160 = .ok (.iload 9, 2) := by decide +kernel
theorem dX3_measure_162 : decode cX3_measure 162 = .ok (.iaload, 1) := by decide +kernel
theorem dX3_measure_163 : decode cX3_measure 163 = .ok (.iload 8, 2) := by decide +kernel
theorem dX3_measure_165 : decode cX3_measure 165 = .ok (.imul, 1) := by decide +kernel
theorem dX3_measure_166 : decode cX3_measure 166 = .ok (.iadd, 1) := by decide +kernel
theorem dX3_measure_167 : decode cX3_measure 167 = .ok (.iastore, 1) := by decide +kernel
theorem dX3_measure_168 : decode cX3_measure 168 = .ok (.iinc 3 1, 3) := by decide +kernel
theorem dX3_measure_171 : decode cX3_measure 171 = .ok (.iinc 9 1, 3) := by decide +kernel
theorem dX3_measure_174 : decode cX3_measure 174 = .ok (.goto (-51), 3) := by decide +kernel
theorem dX3_measure_177 : decode cX3_measure 177 = .ok (.iinc 5 1, 3) := by decide +kernel
theorem dX3_measure_180 : decode cX3_measure 180 = .ok (.goto (-166), 3) := by decide +kernel
theorem dX3_measure_183 : decode cX3_measure 183 = .ok (.iinc 4 1, 3) := by decide +kernel
theorem dX3_measure_186 : decode cX3_measure 186 = .ok (.goto (-181), 3) := by decide +kernel
theorem dX3_measure_189 : decode cX3_measure 189 = .ok (.return_, 1) := by decide +kernel
theorem dX3_raise_0 : decode cX3_raise 0 = .ok (.aload_n 0, 1) := by decide +kernel
theorem dX3_raise_1 : decode cX3_raise 1 = .ok (.getfield 13, 3) := by decide +kernel
theorem dX3_raise_4 : decode cX3_raise 4 = .ok (.astore 5, 2) := by decide +kernel
theorem dX3_raise_6 : decode cX3_raise 6 = .ok (.iload_n 3, 1) := by decide +kernel
theorem dX3_raise_7 : decode cX3_raise 7 = .ok (.invokestatic 48, 3) := by decide +kernel
theorem dX3_raise_10 : decode cX3_raise 10 = .ok (.iload_n 2, 1) := by decide +kernel
theorem dX3_raise_11 : decode cX3_raise 11 = .ok (.invokestatic 52, 3) := by decide +kernel
theorem dX3_raise_14 : decode cX3_raise 14 = .ok (.iadd, 1) := by decide +kernel
theorem dX3_raise_15 : decode cX3_raise 15 = .ok (.istore 6, 2) := by decide +kernel
theorem dX3_raise_17 : decode cX3_raise 17 = .ok (.iload 4, 2) := by decide +kernel
theorem dX3_raise_19 : decode cX3_raise 19 = .ok (.invokestatic 48, 3) := by decide +kernel
theorem dX3_raise_22 : decode cX3_raise 22 = .ok (.iload_n 2, 1) := by decide +kernel
theorem dX3_raise_23 : decode cX3_raise 23 = .ok (.invokestatic 52, 3) := by decide +kernel
theorem dX3_raise_26 : decode cX3_raise 26 = .ok (.iadd, 1) := by decide +kernel
theorem dX3_raise_27 : decode cX3_raise 27 = .ok (.istore 7, 2) := by decide +kernel
theorem dX3_raise_29 : decode cX3_raise 29 = .ok (.iload 4, 2) := by decide +kernel
theorem dX3_raise_31 : decode cX3_raise 31 = .ok (.invokestatic 48, 3) := by decide +kernel
theorem dX3_raise_34 : decode cX3_raise 34 = .ok (.iload_n 3, 1) := by decide +kernel
theorem dX3_raise_35 : decode cX3_raise 35 = .ok (.invokestatic 52, 3) := by decide +kernel
theorem dX3_raise_38 : decode cX3_raise 38 = .ok (.iadd, 1) := by decide +kernel
theorem dX3_raise_39 : decode cX3_raise 39 = .ok (.istore 8, 2) := by decide +kernel
theorem dX3_raise_41 : decode cX3_raise 41 = .ok (.aload 5, 2) := by decide +kernel
theorem dX3_raise_43 : decode cX3_raise 43 = .ok (.iload 8, 2) := by decide +kernel
theorem dX3_raise_45 : decode cX3_raise 45 = .ok (.iload_n 2, 1) := by decide +kernel
theorem dX3_raise_46 : decode cX3_raise 46 = .ok (.iadd, 1) := by decide +kernel
theorem dX3_raise_47 : decode cX3_raise 47 = .ok (.iaload, 1) := by decide +kernel
theorem dX3_raise_48 : decode cX3_raise 48 = .ok (.istore 9, 2) := by decide +kernel
theorem dX3_raise_50 : decode cX3_raise 50 = .ok (.iload 9, 2) := by decide +kernel
theorem dX3_raise_52 : decode cX3_raise 52 = .ok (.invokestatic 55, 3) := by decide +kernel
theorem dX3_raise_55 : decode cX3_raise 55 = .ok (.istore 10, 2) := by decide +kernel
theorem dX3_raise_57 : decode cX3_raise 57 = .ok (.aload_n 1, 1) := by decide +kernel
theorem dX3_raise_58 : decode cX3_raise 58 = .ok (.iload_n 2, 1) := by decide +kernel
theorem dX3_raise_59 : decode cX3_raise 59 = .ok (.iaload, 1) := by decide +kernel
theorem dX3_raise_60 : decode cX3_raise 60 = .ok (.istore 11, 2) := by decide +kernel
theorem dX3_raise_62 : decode cX3_raise 62 = .ok (.aload_n 1, 1) := by decide +kernel
theorem dX3_raise_63 : decode cX3_raise 63 = .ok (.iload_n 3, 1) := by decide +kernel
theorem dX3_raise_64 : decode cX3_raise 64 = .ok (.iaload, 1) := by decide +kernel
theorem dX3_raise_65 : decode cX3_raise 65 = .ok (.istore 12, 2) := by decide +kernel
theorem dX3_raise_67 : decode cX3_raise 67 = .ok (.aload_n 1, 1) := by decide +kernel
theorem dX3_raise_68 : decode cX3_raise 68 = .ok (.iload 4, 2) := by decide +kernel
theorem dX3_raise_70 : decode cX3_raise 70 = .ok (.iaload, 1) := by decide +kernel
theorem dX3_raise_71 : decode cX3_raise 71 = .ok (.istore 13, 2) := by decide +kernel
theorem dX3_raise_73 : decode cX3_raise 73 = .ok (.iconst 0, 1) := by decide +kernel
theorem dX3_raise_74 : decode cX3_raise 74 = .ok (.istore 14, 2) := by decide +kernel
theorem dX3_raise_76 : decode cX3_raise 76 = .ok (.iload 14, 2) := by decide +kernel
theorem dX3_raise_78 : decode cX3_raise 78 = .ok (.iload_n 2, 1) := by decide +kernel
theorem dX3_raise_79 : decode cX3_raise 79 = .ok (.if_icmp .ge 123, 3) := by decide +kernel
theorem dX3_raise_82 : decode cX3_raise 82 = .ok (.aload 5, 2) := by decide +kernel
theorem dX3_raise_84 : decode cX3_raise 84 = .ok (.iload 8, 2) := by decide +kernel
theorem dX3_raise_86 : decode cX3_raise 86 = .ok (.iload 14, 2) := by decide +kernel
theorem dX3_raise_88 : decode cX3_raise 88 = .ok (.iadd, 1) := by decide +kernel
theorem dX3_raise_89 : decode cX3_raise 89 = .ok (.iaload, 1) := by decide +kernel
theorem dX3_raise_90 : decode cX3_raise 90 = .ok (.istore 15, 2) := by decide +kernel
theorem dX3_raise_92 : decode cX3_raise 92 = .ok (.aload 5, 2) := by decide +kernel
theorem dX3_raise_94 : decode cX3_raise 94 = .ok (.iload 7, 2) := by decide +kernel
theorem dX3_raise_96 : decode cX3_raise 96 = .ok (.iload 14, 2) := by decide +kernel
theorem dX3_raise_98 : decode cX3_raise 98 = .ok (.iadd, 1) := by decide +kernel
theorem dX3_raise_99 : decode cX3_raise 99 = .ok (.iaload, 1) := by decide +kernel
theorem dX3_raise_100 : decode cX3_raise 100 = .ok (.istore 16, 2) := by decide +kernel
theorem dX3_raise_102 : decode cX3_raise 102 = .ok (.aload 5, 2) := by decide +kernel
theorem dX3_raise_104 : decode cX3_raise 104 = .ok (.iload 6, 2) := by decide +kernel
theorem dX3_raise_106 : decode cX3_raise 106 = .ok (.iload 14, 2) := by decide +kernel
theorem dX3_raise_108 : decode cX3_raise 108 = .ok (.iadd, 1) := by decide +kernel
theorem dX3_raise_109 : decode cX3_raise 109 = .ok (.iaload, 1) := by decide +kernel
theorem dX3_raise_110 : decode cX3_raise 110 = .ok (.istore 17, 2) := by decide +kernel
theorem dX3_raise_112 : decode cX3_raise 112 = .ok (.aload_n 1, 1) := by decide +kernel
theorem dX3_raise_113 : decode cX3_raise 113 = .ok (.iload 14, 2) := by decide +kernel
theorem dX3_raise_115 : decode cX3_raise 115 = .ok (.iaload, 1) := by decide +kernel
theorem dX3_raise_116 : decode cX3_raise 116 = .ok (.iload 9, 2) := by decide +kernel
theorem dX3_raise_118 : decode cX3_raise 118 = .ok (.imul, 1) := by decide +kernel
theorem dX3_raise_119 : decode cX3_raise 119 = .ok (.iload 11, 2) := by decide +kernel
theorem dX3_raise_121 : decode cX3_raise 121 = .ok (.iload 15, 2) := by decide +kernel
theorem dX3_raise_123 : decode cX3_raise 123 = .ok (.imul, 1) := by decide +kernel
theorem dX3_raise_124 : decode cX3_raise 124 = .ok (.isub, 1) := by decide +kernel
theorem dX3_raise_125 : decode cX3_raise 125 = .ok (.iload 12, 2) := by decide +kernel
theorem dX3_raise_127 : decode cX3_raise 127 = .ok (.iload 16, 2) := by decide +kernel
theorem dX3_raise_129 : decode cX3_raise 129 = .ok (.imul, 1) := by decide +kernel
theorem dX3_raise_130 : decode cX3_raise 130 = .ok (.iadd, 1) := by decide +kernel
theorem dX3_raise_131 : decode cX3_raise 131 = .ok (.iload 13, 2) := by decide +kernel
theorem dX3_raise_133 : decode cX3_raise 133 = .ok (.iload 17, 2) := by decide +kernel
theorem dX3_raise_135 : decode cX3_raise 135 = .ok (.imul, 1) := by decide +kernel
theorem dX3_raise_136 : decode cX3_raise 136 = .ok (.isub, 1) := by decide +kernel
theorem dX3_raise_137 : decode cX3_raise 137 = .ok (.invokestatic 55, 3) := by decide +kernel
theorem dX3_raise_140 : decode cX3_raise 140 = .ok (.i2l, 1) := by decide +kernel
theorem dX3_raise_141 : decode cX3_raise 141 = .ok (.lstore 18, 2) := by decide +kernel
theorem dX3_raise_143 : decode cX3_raise 143 = .ok (.iload 10, 2) := by decide +kernel
theorem dX3_raise_145 : decode cX3_raise 145 = .ok (.iload 15, 2) := by decide +kernel
theorem dX3_raise_147 : decode cX3_raise 147 = .ok (.invokestatic 55, 3) := by decide +kernel
theorem dX3_raise_150 : decode cX3_raise 150 = .ok (.iadd, 1) := by decide +kernel
theorem dX3_raise_151 : decode cX3_raise 151 = .ok (.iload 16, 2) := by decide +kernel
theorem dX3_raise_153 : decode cX3_raise 153 = .ok (.invokestatic 55, 3) := by decide +kernel
theorem dX3_raise_156 : decode cX3_raise 156 = .ok (.iadd, 1) := by decide +kernel
theorem dX3_raise_157 : decode cX3_raise 157 = .ok (.iload 17, 2) := by decide +kernel
theorem dX3_raise_159 : decode cX3_raise 159 = .ok (.invokestatic 55, 3) := by decide +kernel
theorem dX3_raise_162 : decode cX3_raise 162 = .ok (.iadd, 1) := by decide +kernel
theorem dX3_raise_163 : decode cX3_raise 163 = .ok (.i2l, 1) := by decide +kernel
theorem dX3_raise_164 : decode cX3_raise 164 = .ok (.lstore 20, 2) := by decide +kernel
theorem dX3_raise_166 : decode cX3_raise 166 = .ok (.lload 18, 2) := by decide +kernel
theorem dX3_raise_168 : decode cX3_raise 168 = .ok (.aload_n 0, 1) := by decide +kernel
theorem dX3_raise_169 : decode cX3_raise 169 = .ok (.getfield 29, 3) := by decide +kernel
theorem dX3_raise_172 : decode cX3_raise 172 = .ok (.lmul, 1) := by decide +kernel
theorem dX3_raise_173 : decode cX3_raise 173 = .ok (.aload_n 0, 1) := by decide +kernel
theorem dX3_raise_174 : decode cX3_raise 174 = .ok (.getfield 25, 3) := by decide +kernel
theorem dX3_raise_177 : decode cX3_raise 177 = .ok (.lload 20, 2) := by decide +kernel
theorem dX3_raise_179 : decode cX3_raise 179 = .ok (.lmul, 1) := by decide +kernel
theorem dX3_raise_180 : decode cX3_raise 180 = .ok (.lcmp, 1) := by decide +kernel
theorem dX3_raise_181 : decode cX3_raise 181 = .ok (.ifCond .le 15, 3) := by decide +kernel
theorem dX3_raise_184 : decode cX3_raise 184 = .ok (.aload_n 0, 1) := by decide +kernel
theorem dX3_raise_185 : decode cX3_raise 185 = .ok (.lload 18, 2) := by decide +kernel
theorem dX3_raise_187 : decode cX3_raise 187 = .ok (.putfield 25, 3) := by decide +kernel
theorem dX3_raise_190 : decode cX3_raise 190 = .ok (.aload_n 0, 1) := by decide +kernel
theorem dX3_raise_191 : decode cX3_raise 191 = .ok (.lload 20, 2) := by decide +kernel
theorem dX3_raise_193 : decode cX3_raise 193 = .ok (.putfield 29, 3) := by decide +kernel
theorem dX3_raise_196 : decode cX3_raise 196 = .ok (.iinc 14 1, 3) := by decide +kernel
theorem dX3_raise_199 : decode cX3_raise 199 = .ok (.goto (-123), 3) := by decide +kernel
theorem dX3_raise_202 : decode cX3_raise 202 = .ok (.return_, 1) := by decide +kernel
theorem dX4_init_0 : decode cX4_init 0 = .ok (.aload_n 0, 1) := by decide +kernel
theorem dX4_init_1 : decode cX4_init 1 = .ok (.invokespecial 3, 3) := by decide +kernel
theorem dX4_init_4 : decode cX4_init 4 = .ok (.aload_n 0, 1) := by decide +kernel
theorem dX4_init_5 : decode cX4_init 5 = .ok (.iconst 3, 1) := by decide +kernel
theorem dX4_init_6 : decode cX4_init 6 = .ok (.newarray .long, 2) := by decide +kernel
theorem dX4_init_8 : decode cX4_init 8 = .ok (.putfield 9, 3) := by decide +kernel
theorem dX4_init_11 : decode cX4_init 11 = .ok (.return_, 1) := by decide +kernel
theorem dX4_find_0 : decode cX4_find 0 = .ok (.aload_n 0, 1) := by decide +kernel
theorem dX4_find_1 : decode cX4_find 1 = .ok (.lconst 0, 1) := by decide +kernel
theorem dX4_find_2 : decode cX4_find 2 = .ok (.putfield 15, 3) := by decide +kernel
theorem dX4_find_5 : decode cX4_find 5 = .ok (.aload_n 0, 1) := by decide +kernel
theorem dX4_find_6 : decode cX4_find 6 = .ok (.lconst 0, 1) := by decide +kernel
theorem dX4_find_7 : decode cX4_find 7 = .ok (.putfield 19, 3) := by decide +kernel
theorem dX4_find_10 : decode cX4_find 10 = .ok (.aload_n 2, 1) := by decide +kernel
theorem dX4_find_11 : decode cX4_find 11 = .ok (.iload_n 3, 1) := by decide +kernel
theorem dX4_find_12 : decode cX4_find 12 = .ok (.aload_n 1, 1) := by decide +kernel
theorem dX4_find_13 : decode cX4_find 13 = .ok (.getfield 22, 3) := by decide +kernel
theorem dX4_find_16 : decode cX4_find 16 = .ok (.invokevirtual 28, 3) := by decide +kernel
theorem dX4_find_19 : decode cX4_find 19 = .ok (.istore 4, 2) := by decide +kernel
theorem dX4_find_21 : decode cX4_find 21 = .ok (.iconst 0, 1) := by decide +kernel
theorem dX4_find_22 : decode cX4_find 22 = .ok (.istore 5, 2) := by decide +kernel
theorem dX4_find_24 : decode cX4_find 24 = .ok (.iload 4, 2) := by decide +kernel
theorem dX4_find_26 : decode cX4_find 26 = .ok (.ifCond .eq 57, 3) := by decide +kernel
theorem dX4_find_29 : decode cX4_find 29 = .ok (.iload 5, 2) := by decide +kernel
theorem dX4_find_31 : decode cX4_find 31 = .ok (.sipush 10000, 3) := by decide +kernel
theorem dX4_find_34 : decode cX4_find 34 = .ok (.if_icmp .ge 49, 3) := by decide +kernel
theorem dX4_find_37 : decode cX4_find 37 = .ok (.aload_n 0, 1) := by decide +kernel
theorem dX4_find_38 : decode cX4_find 38 = .ok (.aload_n 1, 1) := by decide +kernel
theorem dX4_find_39 : decode cX4_find 39 = .ok (.aload_n 2, 1) := by decide +kernel
theorem dX4_find_40 : decode cX4_find 40 = .ok (.iconst 0, 1) := by decide +kernel
theorem dX4_find_41 : decode cX4_find 41 = .ok (.invokevirtual 34, 3) := by decide +kernel
theorem dX4_find_44 : decode cX4_find 44 = .ok (.aload_n 2, 1) := by decide +kernel
theorem dX4_find_45 : decode cX4_find 45 = .ok (.iconst 1, 1) := by decide +kernel
theorem dX4_find_46 : decode cX4_find 46 = .ok (.invokevirtual 34, 3) := by decide +kernel
theorem dX4_find_49 : decode cX4_find 49 = .ok (.aload_n 2, 1) := by decide +kernel
theorem dX4_find_50 : decode cX4_find 50 = .ok (.iconst 2, 1) := by decide +kernel
theorem dX4_find_51 : decode cX4_find 51 = .ok (.invokevirtual 34, 3) := by decide +kernel
theorem dX4_find_54 : decode cX4_find 54 = .ok (.invokevirtual 38, 3) := by decide +kernel
theorem dX4_find_57 : decode cX4_find 57 = .ok (.aload_n 0, 1) := by decide +kernel
theorem dX4_find_58 : decode cX4_find 58 = .ok (.getfield 42, 3) := by decide +kernel
theorem dX4_find_61 : decode cX4_find 61 = .ok (.lconst 0, 1) := by decide +kernel
theorem dX4_find_62 : decode cX4_find 62 = .ok (.lcmp, 1) := by decide +kernel
theorem dX4_find_63 : decode cX4_find 63 = .ok (.ifCond .eq 8, 3) := by decide +kernel
theorem dX4_find_66 : decode cX4_find 66 = .ok (.aload_n 0, 1) := by decide +kernel
theorem dX4_find_67 : decode cX4_find 67 = .ok (.aload_n 1, 1) := by decide +kernel
theorem dX4_find_68 : decode cX4_find 68 = .ok (.invokevirtual 45, 3) := by decide +kernel
theorem dX4_find_71 : decode cX4_find 71 = .ok (.aload_n 2, 1) := by decide +kernel
theorem dX4_find_72 : decode cX4_find 72 = .ok (.invokevirtual 49, 3) := by decide +kernel
theorem dX4_find_75 : decode cX4_find 75 = .ok (.istore 4, 2) := by decide +kernel
theorem dX4_find_77 : decode cX4_find 77 = .ok (.iinc 5 1, 3) := by decide +kernel
theorem dX4_find_80 : decode cX4_find 80 = .ok (.goto (-56), 3) := by decide +kernel
theorem dX4_find_83 : decode cX4_find 83 = .ok (.return_, 1) := by decide +kernel
theorem dX4_solveExactly_0 : decode cX4_solveExactly 0 = .ok (.aload_n 1, 1) := by decide +kernel
theorem dX4_solveExactly_1 : decode cX4_solveExactly 1 = .ok (.getfield 53, 3) := by decide +kernel
theorem dX4_solveExactly_4 : decode cX4_solveExactly 4 = .ok (.iload_n 3, 1) := by decide +kernel
theorem dX4_solveExactly_5 : decode cX4_solveExactly 5 = .ok (.iaload, 1) := by decide +kernel
theorem dX4_solveExactly_6 : decode cX4_solveExactly 6 = .ok (.aload_n 1, 1) := by decide +kernel
theorem dX4_solveExactly_7 : decode cX4_solveExactly 7 = .ok (.getfield 57, 3) := by decide +kernel
theorem dX4_solveExactly_10 : decode cX4_solveExactly 10 = .ok (.iload 4, 2) := by decide +kernel
theorem dX4_solveExactly_12 : decode cX4_solveExactly 12 = .ok (.iaload, 1) := by decide +kernel
theorem dX4_solveExactly_13 : decode cX4_solveExactly 13 = .ok (.imul, 1) := by decide +kernel
theorem dX4_solveExactly_14 : decode cX4_solveExactly 14 = .ok (.aload_n 1, 1) := by decide +kernel
theorem dX4_solveExactly_15 : decode cX4_solveExactly 15 = .ok (.getfield 57, 3) := by decide +kernel
theorem dX4_solveExactly_18 : decode cX4_solveExactly 18 = .ok (.iload_n 3, 1) := by decide +kernel
theorem dX4_solveExactly_19 : decode cX4_solveExactly 19 = .ok (.iaload, 1) := by decide +kernel
theorem dX4_solveExactly_20 : decode cX4_solveExactly 20 = .ok (.aload_n 1, 1) := by decide +kernel
theorem dX4_solveExactly_21 : decode cX4_solveExactly 21 = .ok (.getfield 53, 3) := by decide +kernel
theorem dX4_solveExactly_24 : decode cX4_solveExactly 24 = .ok (.iload 4, 2) := by decide +kernel
theorem dX4_solveExactly_26 : decode cX4_solveExactly 26 = .ok (.iaload, 1) := by decide +kernel
theorem dX4_solveExactly_27 : decode cX4_solveExactly 27 = .ok (.imul, 1) := by decide +kernel
theorem dX4_solveExactly_28 : decode cX4_solveExactly 28 = .ok (.isub, 1) := by decide +kernel
theorem dX4_solveExactly_29 : decode cX4_solveExactly 29 = .ok (.i2l, 1) := by decide +kernel
theorem dX4_solveExactly_30 : decode cX4_solveExactly 30 = .ok (.lstore 5, 2) := by decide +kernel
theorem dX4_solveExactly_32 : decode cX4_solveExactly 32 = .ok (.aload_n 1, 1) := by decide +kernel
theorem dX4_solveExactly_33 : decode cX4_solveExactly 33 = .ok (.getfield 57, 3) := by decide +kernel
theorem dX4_solveExactly_36 : decode cX4_solveExactly 36 = .ok (.iload_n 3, 1) := by decide +kernel
theorem dX4_solveExactly_37 : decode cX4_solveExactly 37 = .ok (.iaload, 1) := by decide +kernel
theorem dX4_solveExactly_38 : decode cX4_solveExactly 38 = .ok (.aload_n 1, 1) := by decide +kernel
theorem dX4_solveExactly_39 : decode cX4_solveExactly 39 = .ok (.getfield 60, 3) := by decide +kernel
theorem dX4_solveExactly_42 : decode cX4_solveExactly 42 = .ok (.iload 4, 2) := by decide +kernel
theorem dX4_solveExactly_44 : decode cX4_solveExactly 44 = .ok (.iaload, 1) := by decide +kernel
theorem dX4_solveExactly_45 : decode cX4_solveExactly 45 = .ok (.imul, 1) := by decide +kernel
theorem dX4_solveExactly_46 : decode cX4_solveExactly 46 = .ok (.aload_n 1, 1) := by decide +kernel
theorem dX4_solveExactly_47 : decode cX4_solveExactly 47 = .ok (.getfield 60, 3) := by decide +kernel
theorem dX4_solveExactly_50 : decode cX4_solveExactly 50 = .ok (.iload_n 3, 1) := by decide +kernel
theorem dX4_solveExactly_51 : decode cX4_solveExactly 51 = .ok (.iaload, 1) := by decide +kernel
theorem dX4_solveExactly_52 : decode cX4_solveExactly 52 = .ok (.aload_n 1, 1) := by decide +kernel
theorem dX4_solveExactly_53 : decode cX4_solveExactly 53 = .ok (.getfield 57, 3) := by decide +kernel
theorem dX4_solveExactly_56 : decode cX4_solveExactly 56 = .ok (.iload 4, 2) := by decide +kernel
theorem dX4_solveExactly_58 : decode cX4_solveExactly 58 = .ok (.iaload, 1) := by decide +kernel
theorem dX4_solveExactly_59 : decode cX4_solveExactly 59 = .ok (.imul, 1) := by decide +kernel
theorem dX4_solveExactly_60 : decode cX4_solveExactly 60 = .ok (.isub, 1) := by decide +kernel
theorem dX4_solveExactly_61 : decode cX4_solveExactly 61 = .ok (.i2l, 1) := by decide +kernel
theorem dX4_solveExactly_62 : decode cX4_solveExactly 62 = .ok (.lstore 7, 2) := by decide +kernel
theorem dX4_solveExactly_64 : decode cX4_solveExactly 64 = .ok (.aload_n 1, 1) := by decide +kernel
theorem dX4_solveExactly_65 : decode cX4_solveExactly 65 = .ok (.getfield 60, 3) := by decide +kernel
theorem dX4_solveExactly_68 : decode cX4_solveExactly 68 = .ok (.iload_n 3, 1) := by decide +kernel
theorem dX4_solveExactly_69 : decode cX4_solveExactly 69 = .ok (.iaload, 1) := by decide +kernel
theorem dX4_solveExactly_70 : decode cX4_solveExactly 70 = .ok (.aload_n 1, 1) := by decide +kernel
theorem dX4_solveExactly_71 : decode cX4_solveExactly 71 = .ok (.getfield 53, 3) := by decide +kernel
theorem dX4_solveExactly_74 : decode cX4_solveExactly 74 = .ok (.iload 4, 2) := by decide +kernel
theorem dX4_solveExactly_76 : decode cX4_solveExactly 76 = .ok (.iaload, 1) := by decide +kernel
theorem dX4_solveExactly_77 : decode cX4_solveExactly 77 = .ok (.imul, 1) := by decide +kernel
theorem dX4_solveExactly_78 : decode cX4_solveExactly 78 = .ok (.aload_n 1, 1) := by decide +kernel
theorem dX4_solveExactly_79 : decode cX4_solveExactly 79 = .ok (.getfield 53, 3) := by decide +kernel
theorem dX4_solveExactly_82 : decode cX4_solveExactly 82 = .ok (.iload_n 3, 1) := by decide +kernel
theorem dX4_solveExactly_83 : decode cX4_solveExactly 83 = .ok (.iaload, 1) := by decide +kernel
theorem dX4_solveExactly_84 : decode cX4_solveExactly 84 = .ok (.aload_n 1, 1) := by decide +kernel
theorem dX4_solveExactly_85 : decode cX4_solveExactly 85 = .ok (.getfield 60, 3) := by decide +kernel
theorem dX4_solveExactly_88 : decode cX4_solveExactly 88 = .ok (.iload 4, 2) := by decide +kernel
theorem dX4_solveExactly_90 : decode cX4_solveExactly 90 = .ok (.iaload, 1) := by decide +kernel
theorem dX4_solveExactly_91 : decode cX4_solveExactly 91 = .ok (.imul, 1) := by decide +kernel
theorem dX4_solveExactly_92 : decode cX4_solveExactly 92 = .ok (.isub, 1) := by decide +kernel
theorem dX4_solveExactly_93 : decode cX4_solveExactly 93 = .ok (.i2l, 1) := by decide +kernel
theorem dX4_solveExactly_94 : decode cX4_solveExactly 94 = .ok (.lstore 9, 2) := by decide +kernel
theorem dX4_solveExactly_96 : decode cX4_solveExactly 96 = .ok (.aload_n 0, 1) := by decide +kernel
theorem dX4_solveExactly_97 : decode cX4_solveExactly 97 = .ok (.aload_n 1, 1) := by decide +kernel
theorem dX4_solveExactly_98 : decode cX4_solveExactly 98 = .ok (.getfield 60, 3) := by decide +kernel
theorem dX4_solveExactly_101 : decode cX4_solveExactly 101 = .ok (.iload_n 2, 1) := by decide +kernel
theorem dX4_solveExactly_102 : decode cX4_solveExactly 102 = .ok (.iaload, 1) := by decide +kernel
theorem dX4_solveExactly_103 : decode cX4_solveExactly 103 = .ok (.i2l, 1) := by decide +kernel
theorem dX4_solveExactly_104 : decode cX4_solveExactly 104 = .ok (.lload 5, 2) := by decide +kernel
theorem dX4_solveExactly_106 : decode cX4_solveExactly 106 = .ok (.lmul, 1) := by decide +kernel
theorem dX4_solveExactly_107 : decode cX4_solveExactly 107 = .ok (.aload_n 1, 1) := by decide +kernel
theorem dX4_solveExactly_108 : decode cX4_solveExactly 108 = .ok (.getfield 53, 3) := by decide +kernel
theorem dX4_solveExactly_111 : decode cX4_solveExactly 111 = .ok (.iload_n 2, 1) := by decide +kernel
theorem dX4_solveExactly_112 : decode cX4_solveExactly 112 = .ok (.iaload, 1) := by decide +kernel
theorem dX4_solveExactly_113 : decode cX4_solveExactly 113 = .ok (.i2l, 1) := by decide +kernel
theorem dX4_solveExactly_114 : decode cX4_solveExactly 114 = .ok (.lload 7, 2) := by decide +kernel
theorem dX4_solveExactly_116 : decode cX4_solveExactly 116 = .ok (.lmul, 1) := by decide +kernel
theorem dX4_solveExactly_117 : decode cX4_solveExactly 117 = .ok (.ladd, 1) := by decide +kernel
theorem dX4_solveExactly_118 : decode cX4_solveExactly 118 = .ok (.aload_n 1, 1) := by decide +kernel
theorem dX4_solveExactly_119 : decode cX4_solveExactly 119 = .ok (.getfield 57, 3) := by decide +kernel
theorem dX4_solveExactly_122 : decode cX4_solveExactly 122 = .ok (.iload_n 2, 1) := by decide +kernel
theorem dX4_solveExactly_123 : decode cX4_solveExactly 123 = .ok (.iaload, 1) := by decide +kernel
theorem dX4_solveExactly_124 : decode cX4_solveExactly 124 = .ok (.i2l, 1) := by decide +kernel
theorem dX4_solveExactly_125 : decode cX4_solveExactly 125 = .ok (.lload 9, 2) := by decide +kernel
theorem dX4_solveExactly_127 : decode cX4_solveExactly 127 = .ok (.lmul, 1) := by decide +kernel
theorem dX4_solveExactly_128 : decode cX4_solveExactly 128 = .ok (.ladd, 1) := by decide +kernel
theorem dX4_solveExactly_129 : decode cX4_solveExactly 129 = .ok (.putfield 42, 3) := by decide +kernel
theorem dX4_solveExactly_132 : decode cX4_solveExactly 132 = .ok (.aload_n 0, 1) := by decide +kernel
theorem dX4_solveExactly_133 : decode cX4_solveExactly 133 = .ok (.getfield 42, 3) := by decide +kernel
theorem dX4_solveExactly_136 : decode cX4_solveExactly 136 = .ok (.lconst 0, 1) := by decide +kernel
theorem dX4_solveExactly_137 : decode cX4_solveExactly 137 = .ok (.lcmp, 1) := by decide +kernel
theorem dX4_solveExactly_138 : decode cX4_solveExactly 138 = .ok (.ifCond .ne 4, 3) := by decide +kernel
theorem dX4_solveExactly_141 : decode cX4_solveExactly 141 = .ok (.return_, 1) := by decide +kernel
theorem dX4_solveExactly_142 : decode cX4_solveExactly 142 = .ok (.aload_n 1, 1) := by decide +kernel
theorem dX4_solveExactly_143 : decode cX4_solveExactly 143 = .ok (.getfield 63, 3) := by decide +kernel
theorem dX4_solveExactly_146 : decode cX4_solveExactly 146 = .ok (.iload_n 2, 1) := by decide +kernel
theorem dX4_solveExactly_147 : decode cX4_solveExactly 147 = .ok (.iaload, 1) := by decide +kernel
theorem dX4_solveExactly_148 : decode cX4_solveExactly 148 = .ok (.i2l, 1) := by decide +kernel
theorem dX4_solveExactly_149 : decode cX4_solveExactly 149 = .ok (.lstore 11, 2) := by decide +kernel
theorem dX4_solveExactly_151 : decode cX4_solveExactly 151 = .ok (.aload_n 1, 1) := by decide +kernel
theorem dX4_solveExactly_152 : decode cX4_solveExactly 152 = .ok (.getfield 63, 3) := by decide +kernel
theorem dX4_solveExactly_155 : decode cX4_solveExactly 155 = .ok (.iload_n 3, 1) := by decide +kernel
theorem dX4_solveExactly_156 : decode cX4_solveExactly 156 = .ok (.iaload, 1) := by decide +kernel
theorem dX4_solveExactly_157 : decode cX4_solveExactly 157 = .ok (.i2l, 1) := by decide +kernel
theorem dX4_solveExactly_158 : decode cX4_solveExactly 158 = .ok (.lstore 13, 2) := by decide +kernel
theorem dX4_solveExactly_160 : decode cX4_solveExactly 160 = .ok (.aload_n 1, 1) := by decide +kernel
theorem dX4_solveExactly_161 : decode cX4_solveExactly 161 = .ok (.getfield 63, 3) := by decide +kernel
theorem dX4_solveExactly_164 : decode cX4_solveExactly 164 = .ok (.iload 4, 2) := by decide +kernel
theorem dX4_solveExactly_166 : decode cX4_solveExactly 166 = .ok (.iaload, 1) := by decide +kernel
theorem dX4_solveExactly_167 : decode cX4_solveExactly 167 = .ok (.i2l, 1) := by decide +kernel
theorem dX4_solveExactly_168 : decode cX4_solveExactly 168 = .ok (.lstore 15, 2) := by decide +kernel
theorem dX4_solveExactly_170 : decode cX4_solveExactly 170 = .ok (.aload_n 0, 1) := by decide +kernel
theorem dX4_solveExactly_171 : decode cX4_solveExactly 171 = .ok (.lload 11, 2) := by decide +kernel
theorem dX4_solveExactly_173 : decode cX4_solveExactly 173 = .ok (.lload 5, 2) := by decide +kernel
theorem dX4_solveExactly_175 : decode cX4_solveExactly 175 = .ok (.lmul, 1) := by decide +kernel
theorem dX4_solveExactly_176 : decode cX4_solveExactly 176 = .ok (.lload 13, 2) := by decide +kernel
theorem dX4_solveExactly_178 : decode cX4_solveExactly 178 = .ok (.aload_n 1, 1) := by decide +kernel
theorem dX4_solveExactly_179 : decode cX4_solveExactly 179 = .ok (.getfield 53, 3) := by decide +kernel
theorem dX4_solveExactly_182 : decode cX4_solveExactly 182 = .ok (.iload 4, 2) := by decide +kernel
theorem dX4_solveExactly_184 : decode cX4_solveExactly 184 = .ok (.iaload, 1) := by decide +kernel
theorem dX4_solveExactly_185 : decode cX4_solveExactly 185 = .ok (.aload_n 1, 1) := by decide +kernel
theorem dX4_solveExactly_186 : decode cX4_solveExactly 186 = .ok (.getfield 57, 3) := by decide +kernel
theorem dX4_solveExactly_189 : decode cX4_solveExactly 189 = .ok (.iload_n 2, 1) := by decide +kernel
theorem dX4_solveExactly_190 : decode cX4_solveExactly 190 = .ok (.iaload, 1) := by decide +kernel
theorem dX4_solveExactly_191 : decode cX4_solveExactly 191 = .ok (.imul, 1) := by decide +kernel
theorem dX4_solveExactly_192 : decode cX4_solveExactly 192 = .ok (.aload_n 1, 1) := by decide +kernel
theorem dX4_solveExactly_193 : decode cX4_solveExactly 193 = .ok (.getfield 57, 3) := by decide +kernel
theorem dX4_solveExactly_196 : decode cX4_solveExactly 196 = .ok (.iload 4, 2) := by decide +kernel
theorem dX4_solveExactly_198 : decode cX4_solveExactly 198 = .ok (.iaload, 1) := by decide +kernel
theorem dX4_solveExactly_199 : decode cX4_solveExactly 199 = .ok (.aload_n 1, 1) := by decide +kernel
theorem dX4_solveExactly_200 : decode cX4_solveExactly 200 = .ok (.getfield 53, 3) := by decide +kernel
theorem dX4_solveExactly_203 : decode cX4_solveExactly 203 = .ok (.iload_n 2, 1) := by decide +kernel
theorem dX4_solveExactly_204 : decode cX4_solveExactly 204 = .ok (.iaload, 1) := by decide +kernel
theorem dX4_solveExactly_205 : decode cX4_solveExactly 205 = .ok (.imul, 1) := by decide +kernel
theorem dX4_solveExactly_206 : decode cX4_solveExactly 206 = .ok (.isub, 1) := by decide +kernel
theorem dX4_solveExactly_207 : decode cX4_solveExactly 207 = .ok (.i2l, 1) := by decide +kernel
theorem dX4_solveExactly_208 : decode cX4_solveExactly 208 = .ok (.lmul, 1) := by decide +kernel
theorem dX4_solveExactly_209 : decode cX4_solveExactly 209 = .ok (.ladd, 1) := by decide +kernel
theorem dX4_solveExactly_210 : decode cX4_solveExactly 210 = .ok (.lload 15, 2) := by decide +kernel
theorem dX4_solveExactly_212 : decode cX4_solveExactly 212 = .ok (.aload_n 1, 1) := by decide +kernel
theorem dX4_solveExactly_213 : decode cX4_solveExactly 213 = .ok (.getfield 53, 3) := by decide +kernel
theorem dX4_solveExactly_216 : decode cX4_solveExactly 216 = .ok (.iload_n 2, 1) := by decide +kernel
theorem dX4_solveExactly_217 : decode cX4_solveExactly 217 = .ok (.iaload, 1) := by decide +kernel
theorem dX4_solveExactly_218 : decode cX4_solveExactly 218 = .ok (.aload_n 1, 1) := by decide +kernel
theorem dX4_solveExactly_219 : decode cX4_solveExactly 219 = .ok (.getfield 57, 3) := by decide +kernel
theorem dX4_solveExactly_222 : decode cX4_solveExactly 222 = .ok (.iload_n 3, 1) := by decide +kernel
theorem dX4_solveExactly_223 : decode cX4_solveExactly 223 = .ok (.iaload, 1) := by decide +kernel
theorem dX4_solveExactly_224 : decode cX4_solveExactly 224 = .ok (.imul, 1) := by decide +kernel
theorem dX4_solveExactly_225 : decode cX4_solveExactly 225 = .ok (.aload_n 1, 1) := by decide +kernel
theorem dX4_solveExactly_226 : decode cX4_solveExactly 226 = .ok (.getfield 57, 3) := by decide +kernel
theorem dX4_solveExactly_229 : decode cX4_solveExactly 229 = .ok (.iload_n 2, 1) := by decide +kernel
theorem dX4_solveExactly_230 : decode cX4_solveExactly 230 = .ok (.iaload, 1) := by decide +kernel
theorem dX4_solveExactly_231 : decode cX4_solveExactly 231 = .ok (.aload_n 1, 1) := by decide +kernel
theorem dX4_solveExactly_232 : decode cX4_solveExactly 232 = .ok (.getfield 53, 3) := by decide +kernel
theorem dX4_solveExactly_235 : decode cX4_solveExactly 235 = .ok (.iload_n 3, 1) := by decide +kernel
theorem dX4_solveExactly_236 : decode cX4_solveExactly 236 = .ok (.iaload, 1) := by decide +kernel
theorem dX4_solveExactly_237 : decode cX4_solveExactly 237 = .ok (.imul, 1) := by decide +kernel
theorem dX4_solveExactly_238 : decode cX4_solveExactly 238 = .ok (.isub, 1) := by decide +kernel
theorem dX4_solveExactly_239 : decode cX4_solveExactly 239 = .ok (.i2l, 1) := by decide +kernel
theorem dX4_solveExactly_240 : decode cX4_solveExactly 240 = .ok (.lmul, 1) := by decide +kernel
theorem dX4_solveExactly_241 : decode cX4_solveExactly 241 = .ok (.ladd, 1) := by decide +kernel
theorem dX4_solveExactly_242 : decode cX4_solveExactly 242 = .ok (.putfield 66, 3) := by decide +kernel
theorem dX4_solveExactly_245 : decode cX4_solveExactly 245 = .ok (.aload_n 0, 1) := by decide +kernel
theorem dX4_solveExactly_246 : decode cX4_solveExactly 246 = .ok (.lload 11, 2) := by decide +kernel
theorem dX4_solveExactly_248 : decode cX4_solveExactly 248 = .ok (.lload 7, 2) := by decide +kernel
theorem dX4_solveExactly_250 : decode cX4_solveExactly 250 = .ok (.lmul, 1) := by decide +kernel
theorem dX4_solveExactly_251 : decode cX4_solveExactly 251 = .ok (.lload 13, 2) := by decide +kernel
theorem dX4_solveExactly_253 : decode cX4_solveExactly 253 = .ok (.aload_n 1, 1) := by decide +kernel
theorem dX4_solveExactly_254 : decode cX4_solveExactly 254 = .ok (.getfield 57, 3) := by decide +kernel
theorem dX4_solveExactly_257 : decode cX4_solveExactly 257 = .ok (.iload 4, 2) := by decide +kernel
theorem dX4_solveExactly_259 : decode cX4_solveExactly 259 = .ok (.iaload, 1) := by decide +kernel
theorem dX4_solveExactly_260 : decode cX4_solveExactly 260 = .ok (.aload_n 1, 1) := by decide +kernel
theorem dX4_solveExactly_261 : decode cX4_solveExactly 261 = .ok (.getfield 60, 3) := by decide +kernel
theorem dX4_solveExactly_264 : decode cX4_solveExactly 264 = .ok (.iload_n 2, 1) := by decide +kernel
theorem dX4_solveExactly_265 : decode cX4_solveExactly 265 = .ok (.iaload, 1) := by decide +kernel
theorem dX4_solveExactly_266 : decode cX4_solveExactly 266 = .ok (.imul, 1) := by decide +kernel
theorem dX4_solveExactly_267 : decode cX4_solveExactly 267 = .ok (.aload_n 1, 1) := by decide +kernel
theorem dX4_solveExactly_268 : decode cX4_solveExactly 268 = .ok (.getfield 60, 3) := by decide +kernel
theorem dX4_solveExactly_271 : decode cX4_solveExactly 271 = .ok (.iload 4, 2) := by decide +kernel
theorem dX4_solveExactly_273 : decode cX4_solveExactly 273 = .ok (.iaload, 1) := by decide +kernel
theorem dX4_solveExactly_274 : decode cX4_solveExactly 274 = .ok (.aload_n 1, 1) := by decide +kernel
theorem dX4_solveExactly_275 : decode cX4_solveExactly 275 = .ok (.getfield 57, 3) := by decide +kernel
theorem dX4_solveExactly_278 : decode cX4_solveExactly 278 = .ok (.iload_n 2, 1) := by decide +kernel
theorem dX4_solveExactly_279 : decode cX4_solveExactly 279 = .ok (.iaload, 1) := by decide +kernel
theorem dX4_solveExactly_280 : decode cX4_solveExactly 280 = .ok (.imul, 1) := by decide +kernel
theorem dX4_solveExactly_281 : decode cX4_solveExactly 281 = .ok (.isub, 1) := by decide +kernel
theorem dX4_solveExactly_282 : decode cX4_solveExactly 282 = .ok (.i2l, 1) := by decide +kernel
theorem dX4_solveExactly_283 : decode cX4_solveExactly 283 = .ok (.lmul, 1) := by decide +kernel
theorem dX4_solveExactly_284 : decode cX4_solveExactly 284 = .ok (.ladd, 1) := by decide +kernel
theorem dX4_solveExactly_285 : decode cX4_solveExactly 285 = .ok (.lload 15, 2) := by decide +kernel
theorem dX4_solveExactly_287 : decode cX4_solveExactly 287 = .ok (.aload_n 1, 1) := by decide +kernel
theorem dX4_solveExactly_288 : decode cX4_solveExactly 288 = .ok (.getfield 57, 3) := by decide +kernel
theorem dX4_solveExactly_291 : decode cX4_solveExactly 291 = .ok (.iload_n 2, 1) := by decide +kernel
theorem dX4_solveExactly_292 : decode cX4_solveExactly 292 = .ok (.iaload, 1) := by decide +kernel
theorem dX4_solveExactly_293 : decode cX4_solveExactly 293 = .ok (.aload_n 1, 1) := by decide +kernel
theorem dX4_solveExactly_294 : decode cX4_solveExactly 294 = .ok (.getfield 60, 3) := by decide +kernel
theorem dX4_solveExactly_297 : decode cX4_solveExactly 297 = .ok (.iload_n 3, 1) := by decide +kernel
theorem dX4_solveExactly_298 : decode cX4_solveExactly 298 = .ok (.iaload, 1) := by decide +kernel
theorem dX4_solveExactly_299 : decode cX4_solveExactly 299 = .ok (.imul, 1) := by decide +kernel
theorem dX4_solveExactly_300 : decode cX4_solveExactly 300 = .ok (.aload_n 1, 1) := by decide +kernel
theorem dX4_solveExactly_301 : decode cX4_solveExactly 301 = .ok (.getfield 60, 3) := by decide +kernel
theorem dX4_solveExactly_304 : decode cX4_solveExactly 304 = .ok (.iload_n 2, 1) := by decide +kernel
theorem dX4_solveExactly_305 : decode cX4_solveExactly 305 = .ok (.iaload, 1) := by decide +kernel
theorem dX4_solveExactly_306 : decode cX4_solveExactly 306 = .ok (.aload_n 1, 1) := by decide +kernel
theorem dX4_solveExactly_307 : decode cX4_solveExactly 307 = .ok (.getfield 57, 3) := by decide +kernel
theorem dX4_solveExactly_310 : decode cX4_solveExactly 310 = .ok (.iload_n 3, 1) := by decide +kernel
theorem dX4_solveExactly_311 : decode cX4_solveExactly 311 = .ok (.iaload, 1) := by decide +kernel
theorem dX4_solveExactly_312 : decode cX4_solveExactly 312 = .ok (.imul, 1) := by decide +kernel
theorem dX4_solveExactly_313 : decode cX4_solveExactly 313 = .ok (.isub, 1) := by decide +kernel
theorem dX4_solveExactly_314 : decode cX4_solveExactly 314 = .ok (.i2l, 1) := by decide +kernel
theorem dX4_solveExactly_315 : decode cX4_solveExactly 315 = .ok (.lmul, 1) := by decide +kernel
theorem dX4_solveExactly_316 : decode cX4_solveExactly 316 = .ok (.ladd, 1) := by decide +kernel
theorem dX4_solveExactly_317 : decode cX4_solveExactly 317 = .ok (.putfield 68, 3) := by decide +kernel
theorem dX4_solveExactly_320 : decode cX4_solveExactly 320 = .ok (.aload_n 0, 1) := by decide +kernel
theorem dX4_solveExactly_321 : decode cX4_solveExactly 321 = .ok (.lload 11, 2) := by decide +kernel
theorem dX4_solveExactly_323 : decode cX4_solveExactly 323 = .ok (.lload 9, 2) := by decide +kernel
theorem dX4_solveExactly_325 : decode cX4_solveExactly 325 = .ok (.lmul, 1) := by decide +kernel
theorem dX4_solveExactly_326 : decode cX4_solveExactly 326 = .ok (.lload 13, 2) := by decide +kernel
theorem dX4_solveExactly_328 : decode cX4_solveExactly 328 = .ok (.aload_n 1, 1) := by decide +kernel
theorem dX4_solveExactly_329 : decode cX4_solveExactly 329 = .ok (.getfield 60, 3) := by decide +kernel
theorem dX4_solveExactly_332 : decode cX4_solveExactly 332 = .ok (.iload 4, 2) := by decide +kernel
theorem dX4_solveExactly_334 : decode cX4_solveExactly 334 = .ok (.iaload, 1) := by decide +kernel
theorem dX4_solveExactly_335 : decode cX4_solveExactly 335 = .ok (.aload_n 1, 1) := by decide +kernel
theorem dX4_solveExactly_336 : decode cX4_solveExactly 336 = .ok (.getfield 53, 3) := by decide +kernel
theorem dX4_solveExactly_339 : decode cX4_solveExactly 339 = .ok (.iload_n 2, 1) := by decide +kernel
theorem dX4_solveExactly_340 : decode cX4_solveExactly 340 = .ok (.iaload, 1) := by decide +kernel
theorem dX4_solveExactly_341 : decode cX4_solveExactly 341 = .ok (.imul, 1) := by decide +kernel
theorem dX4_solveExactly_342 : decode cX4_solveExactly 342 = .ok (.aload_n 1, 1) := by decide +kernel
theorem dX4_solveExactly_343 : decode cX4_solveExactly 343 = .ok (.getfield 53, 3) := by decide +kernel
theorem dX4_solveExactly_346 : decode cX4_solveExactly 346 = .ok (.iload 4, 2) := by decide +kernel
theorem dX4_solveExactly_348 : decode cX4_solveExactly 348 = .ok (.iaload, 1) := by decide +kernel
theorem dX4_solveExactly_349 : decode cX4_solveExactly 349 = .ok (.aload_n 1, 1) := by decide +kernel
theorem dX4_solveExactly_350 : decode cX4_solveExactly 350 = .ok (.getfield 60, 3) := by decide +kernel
theorem dX4_solveExactly_353 : decode cX4_solveExactly 353 = .ok (.iload_n 2, 1) := by decide +kernel
theorem dX4_solveExactly_354 : decode cX4_solveExactly 354 = .ok (.iaload, 1) := by decide +kernel
theorem dX4_solveExactly_355 : decode cX4_solveExactly 355 = .ok (.imul, 1) := by decide +kernel
theorem dX4_solveExactly_356 : decode cX4_solveExactly 356 = .ok (.isub, 1) := by decide +kernel
theorem dX4_solveExactly_357 : decode cX4_solveExactly 357 = .ok (.i2l, 1) := by decide +kernel
theorem dX4_solveExactly_358 : decode cX4_solveExactly 358 = .ok (.lmul, 1) := by decide +kernel
theorem dX4_solveExactly_359 : decode cX4_solveExactly 359 = .ok (.ladd, 1) := by decide +kernel
theorem dX4_solveExactly_360 : decode cX4_solveExactly 360 = .ok (.lload 15, 2) := by decide +kernel
theorem dX4_solveExactly_362 : decode cX4_solveExactly 362 = .ok (.aload_n 1, 1) := by decide +kernel
theorem dX4_solveExactly_363 : decode cX4_solveExactly 363 = .ok (.getfield 60, 3) := by decide +kernel
theorem dX4_solveExactly_366 : decode cX4_solveExactly 366 = .ok (.iload_n 2, 1) := by decide +kernel
theorem dX4_solveExactly_367 : decode cX4_solveExactly 367 = .ok (.iaload, 1) := by decide +kernel
theorem dX4_solveExactly_368 : decode cX4_solveExactly 368 = .ok (.aload_n 1, 1) := by decide +kernel
theorem dX4_solveExactly_369 : decode cX4_solveExactly 369 = .ok (.getfield 53, 3) := by decide +kernel
theorem dX4_solveExactly_372 : decode cX4_solveExactly 372 = .ok (.iload_n 3, 1) := by decide +kernel
theorem dX4_solveExactly_373 : decode cX4_solveExactly 373 = .ok (.iaload, 1) := by decide +kernel
theorem dX4_solveExactly_374 : decode cX4_solveExactly 374 = .ok (.imul, 1) := by decide +kernel
theorem dX4_solveExactly_375 : decode cX4_solveExactly 375 = .ok (.aload_n 1, 1) := by decide +kernel
theorem dX4_solveExactly_376 : decode cX4_solveExactly 376 = .ok (.getfield 53, 3) := by decide +kernel
theorem dX4_solveExactly_379 : decode cX4_solveExactly 379 = .ok (.iload_n 2, 1) := by decide +kernel
theorem dX4_solveExactly_380 : decode cX4_solveExactly 380 = .ok (.iaload, 1) := by decide +kernel
theorem dX4_solveExactly_381 : decode cX4_solveExactly 381 = .ok (.aload_n 1, 1) := by decide +kernel
theorem dX4_solveExactly_382 : decode cX4_solveExactly 382 = .ok (.getfield 60, 3) := by decide +kernel
theorem dX4_solveExactly_385 : decode cX4_solveExactly 385 = .ok (.iload_n 3, 1) := by decide +kernel
theorem dX4_solveExactly_386 : decode cX4_solveExactly 386 = .ok (.iaload, 1) := by decide +kernel
theorem dX4_solveExactly_387 : decode cX4_solveExactly 387 = .ok (.imul, 1) := by decide +kernel
theorem dX4_solveExactly_388 : decode cX4_solveExactly 388 = .ok (.isub, 1) := by decide +kernel
theorem dX4_solveExactly_389 : decode cX4_solveExactly 389 = .ok (.i2l, 1) := by decide +kernel
theorem dX4_solveExactly_390 : decode cX4_solveExactly 390 = .ok (.lmul, 1) := by decide +kernel
theorem dX4_solveExactly_391 : decode cX4_solveExactly 391 = .ok (.ladd, 1) := by decide +kernel
theorem dX4_solveExactly_392 : decode cX4_solveExactly 392 = .ok (.putfield 70, 3) := by decide +kernel
theorem dX4_solveExactly_395 : decode cX4_solveExactly 395 = .ok (.return_, 1) := by decide +kernel
theorem dX4_takeIfLess_0 : decode cX4_takeIfLess 0 = .ok (.aload_n 0, 1) := by decide +kernel
theorem dX4_takeIfLess_1 : decode cX4_takeIfLess 1 = .ok (.getfield 42, 3) := by decide +kernel
theorem dX4_takeIfLess_4 : decode cX4_takeIfLess 4 = .ok (.lconst 0, 1) := by decide +kernel
theorem dX4_takeIfLess_5 : decode cX4_takeIfLess 5 = .ok (.lcmp, 1) := by decide +kernel
theorem dX4_takeIfLess_6 : decode cX4_takeIfLess 6 = .ok (.ifCond .ge 9, 3) := by decide +kernel
theorem dX4_takeIfLess_9 : decode cX4_takeIfLess 9 = .ok (.ldc2_w 72, 3) := by decide +kernel
theorem dX4_takeIfLess_12 : decode cX4_takeIfLess 12 = .ok (.goto 4, 3) := by decide +kernel
theorem dX4_takeIfLess_15 : decode cX4_takeIfLess 15 = .ok (.lconst 1, 1) := by decide +kernel
theorem dX4_takeIfLess_16 : decode cX4_takeIfLess 16 = .ok (.lstore_n 2, 1) := by decide +kernel
theorem dX4_takeIfLess_17 : decode cX4_takeIfLess 17 = .ok (.lload_n 2, 1) := by decide +kernel
theorem dX4_takeIfLess_18 : decode cX4_takeIfLess 18 = .ok (.aload_n 0, 1) := by decide +kernel
theorem dX4_takeIfLess_19 : decode cX4_takeIfLess 19 = .ok (.getfield 42, 3) := by decide +kernel
theorem dX4_takeIfLess_22 : decode cX4_takeIfLess 22 = .ok (.lmul, 1) := by decide +kernel
theorem dX4_takeIfLess_23 : decode cX4_takeIfLess 23 = .ok (.lstore 4, 2) := by decide +kernel
theorem dX4_takeIfLess_25 : decode cX4_takeIfLess 25 = .ok (.aload_n 0, 1) := by decide +kernel
theorem dX4_takeIfLess_26 : decode cX4_takeIfLess 26 = .ok (.aload_n 1, 1) := by decide +kernel
theorem dX4_takeIfLess_27 : decode cX4_takeIfLess 27 = .ok (.aload_n 0, 1) := by decide +kernel
theorem dX4_takeIfLess_28 : decode cX4_takeIfLess 28 = .ok (.getfield 15, 3) := by decide +kernel
theorem dX4_takeIfLess_31 : decode cX4_takeIfLess 31 = .ok (.lload 4, 2) := by decide +kernel
theorem dX4_takeIfLess_33 : decode cX4_takeIfLess 33 = .ok (.lmul, 1) := by decide +kernel
theorem dX4_takeIfLess_34 : decode cX4_takeIfLess 34 = .ok (.invokevirtual 74, 3) := by decide +kernel
theorem dX4_takeIfLess_37 : decode cX4_takeIfLess 37 = .ok (.lstore 6, 2) := by decide +kernel
theorem dX4_takeIfLess_39 : decode cX4_takeIfLess 39 = .ok (.lload 6, 2) := by decide +kernel
theorem dX4_takeIfLess_41 : decode cX4_takeIfLess 41 = .ok (.ldc2_w 72, 3) := by decide +kernel
theorem dX4_takeIfLess_44 : decode cX4_takeIfLess 44 = .ok (.lcmp, 1) := by decide +kernel
theorem dX4_takeIfLess_45 : decode cX4_takeIfLess 45 = .ok (.ifCond .eq 51, 3) := by decide +kernel
theorem dX4_takeIfLess_48 : decode cX4_takeIfLess 48 = .ok (.aload_n 0, 1) := by decide +kernel
theorem dX4_takeIfLess_49 : decode cX4_takeIfLess 49 = .ok (.lload 6, 2) := by decide +kernel
theorem dX4_takeIfLess_51 : decode cX4_takeIfLess 51 = .ok (.putfield 15, 3) := by decide +kernel
theorem dX4_takeIfLess_54 : decode cX4_takeIfLess 54 = .ok (.aload_n 0, 1) := by decide +kernel
theorem dX4_takeIfLess_55 : decode cX4_takeIfLess 55 = .ok (.lload 4, 2) := by decide +kernel
theorem dX4_takeIfLess_57 : decode cX4_takeIfLess 57 = .ok (.putfield 19, 3) := by decide +kernel
theorem dX4_takeIfLess_60 : decode cX4_takeIfLess 60 = .ok (.aload_n 0, 1) := by decide +kernel
theorem dX4_takeIfLess_61 : decode cX4_takeIfLess 61 = .ok (.getfield 9, 3) := by decide +kernel
theorem dX4_takeIfLess_64 : decode cX4_takeIfLess 64 = .ok (.iconst 0, 1) := by decide +kernel
theorem dX4_takeIfLess_65 : decode cX4_takeIfLess 65 = .ok (.lload_n 2, 1) := by decide +kernel
theorem dX4_takeIfLess_66 : decode cX4_takeIfLess 66 = .ok (.aload_n 0, 1) := by decide +kernel
theorem dX4_takeIfLess_67 : decode cX4_takeIfLess 67 = .ok (.getfield 66, 3) := by decide +kernel
theorem dX4_takeIfLess_70 : decode cX4_takeIfLess 70 = .ok (.lmul, 1) := by decide +kernel
theorem dX4_takeIfLess_71 : decode cX4_takeIfLess 71 = .ok (.lastore, 1) := by decide +kernel
theorem dX4_takeIfLess_72 : decode cX4_takeIfLess 72 = .ok (.aload_n 0, 1) := by decide +kernel
theorem dX4_takeIfLess_73 : decode cX4_takeIfLess 73 = .ok (.getfield 9, 3) := by decide +kernel
theorem dX4_takeIfLess_76 : decode cX4_takeIfLess 76 = .ok (.iconst 1, 1) := by decide +kernel
theorem dX4_takeIfLess_77 : decode cX4_takeIfLess 77 = .ok (.lload_n 2, 1) := by decide +kernel
theorem dX4_takeIfLess_78 : decode cX4_takeIfLess 78 = .ok (.aload_n 0, 1) := by decide +kernel
theorem dX4_takeIfLess_79 : decode cX4_takeIfLess 79 = .ok (.getfield 68, 3) := by decide +kernel
theorem dX4_takeIfLess_82 : decode cX4_takeIfLess 82 = .ok (.lmul, 1) := by decide +kernel
theorem dX4_takeIfLess_83 : decode cX4_takeIfLess 83 = .ok (.lastore, 1) := by decide +kernel
theorem dX4_takeIfLess_84 : decode cX4_takeIfLess 84 = .ok (.aload_n 0, 1) := by decide +kernel
theorem dX4_takeIfLess_85 : decode cX4_takeIfLess 85 = .ok (.getfield 9, 3) := by decide +kernel
theorem dX4_takeIfLess_88 : decode cX4_takeIfLess 88 = .ok (.iconst 2, 1) := by decide +kernel
theorem dX4_takeIfLess_89 : decode cX4_takeIfLess 89 = .ok (.lload_n 2, 1) := by decide +kernel
theorem dX4_takeIfLess_90 : decode cX4_takeIfLess 90 = .ok (.aload_n 0, 1) := by decide +kernel
theorem dX4_takeIfLess_91 : decode cX4_takeIfLess 91 = .ok (.getfield 70, 3) := by decide +kernel
theorem dX4_takeIfLess_94 : decode cX4_takeIfLess 94 = .ok (.lmul, 1) := by decide +kernel
theorem dX4_takeIfLess_95 : decode cX4_takeIfLess 95 = .ok (.lastore, 1) := by decide +kernel
theorem dX4_takeIfLess_96 : decode cX4_takeIfLess 96 = .ok (.return_, 1) := by decide +kernel
theorem dX4_sumBelow_0 : decode cX4_sumBelow 0 = .ok (.aload_n 1, 1) := by decide +kernel
theorem dX4_sumBelow_1 : decode cX4_sumBelow 1 = .ok (.getfield 60, 3) := by decide +kernel
theorem dX4_sumBelow_4 : decode cX4_sumBelow 4 = .ok (.astore 4, 2) := by decide +kernel
theorem dX4_sumBelow_6 : decode cX4_sumBelow 6 = .ok (.aload_n 1, 1) := by decide +kernel
theorem dX4_sumBelow_7 : decode cX4_sumBelow 7 = .ok (.getfield 53, 3) := by decide +kernel
theorem dX4_sumBelow_10 : decode cX4_sumBelow 10 = .ok (.astore 5, 2) := by decide +kernel
theorem dX4_sumBelow_12 : decode cX4_sumBelow 12 = .ok (.aload_n 1, 1) := by decide +kernel
theorem dX4_sumBelow_13 : decode cX4_sumBelow 13 = .ok (.getfield 57, 3) := by decide +kernel
theorem dX4_sumBelow_16 : decode cX4_sumBelow 16 = .ok (.astore 6, 2) := by decide +kernel
theorem dX4_sumBelow_18 : decode cX4_sumBelow 18 = .ok (.aload_n 1, 1) := by decide +kernel
theorem dX4_sumBelow_19 : decode cX4_sumBelow 19 = .ok (.getfield 63, 3) := by decide +kernel
theorem dX4_sumBelow_22 : decode cX4_sumBelow 22 = .ok (.astore 7, 2) := by decide +kernel
theorem dX4_sumBelow_24 : decode cX4_sumBelow 24 = .ok (.aload_n 0, 1) := by decide +kernel
theorem dX4_sumBelow_25 : decode cX4_sumBelow 25 = .ok (.getfield 66, 3) := by decide +kernel
theorem dX4_sumBelow_28 : decode cX4_sumBelow 28 = .ok (.lstore 8, 2) := by decide +kernel
theorem dX4_sumBelow_30 : decode cX4_sumBelow 30 = .ok (.aload_n 0, 1) := by decide +kernel
theorem dX4_sumBelow_31 : decode cX4_sumBelow 31 = .ok (.getfield 68, 3) := by decide +kernel
theorem dX4_sumBelow_34 : decode cX4_sumBelow 34 = .ok (.lstore 10, 2) := by decide +kernel
theorem dX4_sumBelow_36 : decode cX4_sumBelow 36 = .ok (.aload_n 0, 1) := by decide +kernel
theorem dX4_sumBelow_37 : decode cX4_sumBelow 37 = .ok (.getfield 70, 3) := by decide +kernel
theorem dX4_sumBelow_40 : decode cX4_sumBelow 40 = .ok (.lstore 12, 2) := by decide +kernel
theorem dX4_sumBelow_42 : decode cX4_sumBelow 42 = .ok (.aload_n 0, 1) := by decide +kernel
theorem dX4_sumBelow_43 : decode cX4_sumBelow 43 = .ok (.getfield 42, 3) := by decide +kernel
theorem dX4_sumBelow_46 : decode cX4_sumBelow 46 = .ok (.lstore 14, 2) := by decide +kernel
theorem dX4_sumBelow_48 : decode cX4_sumBelow 48 = .ok (.aload_n 0, 1) := by decide +kernel
theorem dX4_sumBelow_49 : decode cX4_sumBelow 49 = .ok (.getfield 19, 3) := by decide +kernel
theorem dX4_sumBelow_52 : decode cX4_sumBelow 52 = .ok (.lstore 16, 2) := by decide +kernel
theorem dX4_sumBelow_54 : decode cX4_sumBelow 54 = .ok (.lconst 0, 1) := by decide +kernel
theorem dX4_sumBelow_55 : decode cX4_sumBelow 55 = .ok (.lstore 18, 2) := by decide +kernel
theorem dX4_sumBelow_57 : decode cX4_sumBelow 57 = .ok (.iconst 0, 1) := by decide +kernel
theorem dX4_sumBelow_58 : decode cX4_sumBelow 58 = .ok (.istore 20, 2) := by decide +kernel
theorem dX4_sumBelow_60 : decode cX4_sumBelow 60 = .ok (.iload 20, 2) := by decide +kernel
theorem dX4_sumBelow_62 : decode cX4_sumBelow 62 = .ok (.aload_n 1, 1) := by decide +kernel
theorem dX4_sumBelow_63 : decode cX4_sumBelow 63 = .ok (.getfield 22, 3) := by decide +kernel
theorem dX4_sumBelow_66 : decode cX4_sumBelow 66 = .ok (.if_icmp .ge 77, 3) := by decide +kernel
theorem dX4_sumBelow_69 : decode cX4_sumBelow 69 = .ok (.lload 18, 2) := by decide +kernel
theorem dX4_sumBelow_71 : decode cX4_sumBelow 71 = .ok (.aload 7, 2) := by decide +kernel
theorem dX4_sumBelow_73 : decode cX4_sumBelow 73 = .ok (.iload 20, 2) := by decide +kernel
theorem dX4_sumBelow_75 : decode cX4_sumBelow 75 = .ok (.iaload, 1) := by decide +kernel
theorem dX4_sumBelow_76 : decode cX4_sumBelow 76 = .ok (.i2l, 1) := by decide +kernel
theorem dX4_sumBelow_77 : decode cX4_sumBelow 77 = .ok (.lload 14, 2) := by decide +kernel
theorem dX4_sumBelow_79 : decode cX4_sumBelow 79 = .ok (.lmul, 1) := by decide +kernel
theorem dX4_sumBelow_80 : decode cX4_sumBelow 80 = .ok (.aload 4, 2) := by decide +kernel
theorem dX4_sumBelow_82 : decode cX4_sumBelow 82 = .ok (.iload 20, 2) := by decide +kernel
theorem dX4_sumBelow_84 : decode cX4_sumBelow 84 = .ok (.iaload, 1) := by decide +kernel
theorem dX4_sumBelow_85 : decode cX4_sumBelow 85 = .ok (.i2l, 1) := by decide +kernel
theorem dX4_sumBelow_86 : decode cX4_sumBelow 86 = .ok (.lload 8, 2) := by decide +kernel
theorem dX4_sumBelow_88 : decode cX4_sumBelow 88 = .ok (.lmul, 1) := by decide +kernel
theorem dX4_sumBelow_89 : decode cX4_sumBelow 89 = .ok (.lsub, 1) := by decide +kernel
theorem dX4_sumBelow_90 : decode cX4_sumBelow 90 = .ok (.aload 5, 2) := by decide +kernel
theorem dX4_sumBelow_92 : decode cX4_sumBelow 92 = .ok (.iload 20, 2) := by decide +kernel
theorem dX4_sumBelow_94 : decode cX4_sumBelow 94 = .ok (.iaload, 1) := by decide +kernel
theorem dX4_sumBelow_95 : decode cX4_sumBelow 95 = .ok (.i2l, 1) := by decide +kernel
theorem dX4_sumBelow_96 : decode cX4_sumBelow 96 = .ok (.lload 10, 2) := by decide +kernel
theorem dX4_sumBelow_98 : decode cX4_sumBelow 98 = .ok (.lmul, 1) := by decide +kernel
theorem dX4_sumBelow_99 : decode cX4_sumBelow 99 = .ok (.lsub, 1) := by decide +kernel
theorem dX4_sumBelow_100 : decode cX4_sumBelow 100 = .ok (.aload 6, 2) := by decide +kernel
theorem dX4_sumBelow_102 : decode cX4_sumBelow 102 = .ok (.iload 20, 2) := by decide +kernel
theorem dX4_sumBelow_104 : decode cX4_sumBelow 104 = .ok (.iaload, 1) := by decide +kernel
theorem dX4_sumBelow_105 : decode cX4_sumBelow 105 = .ok (.i2l, 1) := by decide +kernel
theorem dX4_sumBelow_106 : decode cX4_sumBelow 106 = .ok (.lload 12, 2) := by decide +kernel
theorem dX4_sumBelow_108 : decode cX4_sumBelow 108 = .ok (.lmul, 1) := by decide +kernel
theorem dX4_sumBelow_109 : decode cX4_sumBelow 109 = .ok (.lsub, 1) := by decide +kernel
theorem dX4_sumBelow_110 : decode cX4_sumBelow 110 = .ok (.invokestatic 78, 3) := by decide +kernel
theorem dX4_sumBelow_113 : decode cX4_sumBelow 113 = .ok (.ladd, 1) := by decide +kernel
theorem dX4_sumBelow_114 : decode cX4_sumBelow 114 = .ok (.lstore 18, 2) := by decide +kernel
theorem dX4_sumBelow_116 : decode cX4_sumBelow 116 = .ok (.lload 16, 2) := by decide +kernel
theorem dX4_sumBelow_118 : decode cX4_sumBelow 118 = .ok (.lconst 0, 1) := by decide +kernel
theorem dX4_sumBelow_119 : decode cX4_sumBelow 119 = .ok (.lcmp, 1) := by decide +kernel
theorem dX4_sumBelow_120 : decode cX4_sumBelow 120 = .ok (.ifCond .eq 17, 3) := by decide +kernel
theorem dX4_sumBelow_123 : decode cX4_sumBelow 123 = .ok (.lload 18, 2) := by decide +kernel
theorem dX4_sumBelow_125 : decode cX4_sumBelow 125 = .ok (.lload 16, 2) := by decide +kernel
theorem dX4_sumBelow_127 : decode cX4_sumBelow 127 = .ok (.lmul, 1) := by decide +kernel
theorem dX4_sumBelow_128 : decode cX4_sumBelow 128 = .ok (.lload_n 2, 1) := by decide +kernel
theorem dX4_sumBelow_129 : decode cX4_sumBelow 129 = .ok (.lcmp, 1) := by decide +kernel
theorem dX4_sumBelow_130 : decode cX4_sumBelow 130 = .ok (.ifCond .lt 7, 3) := by decide +kernel
theorem dX4_sumBelow_133 : decode cX4_sumBelow 133 = .ok (.ldc2_w 72, 3) := by decide +kernel
theorem dX4_sumBelow_136 : decode cX4_sumBelow 136 = .ok (.lreturn, 1) := by decide +kernel
theorem dX4_sumBelow_137 : decode cX4_sumBelow 137 = .ok (.iinc 20 1, 3) := by decide +kernel
theorem dX4_sumBelow_140 : decode cX4_sumBelow 140 = .ok (.goto (-80), 3) := by decide +kernel
theorem dX4_sumBelow_143 : decode cX4_sumBelow 143 = .ok (.lload 18, 2) := by decide +kernel
theorem dX4_sumBelow_145 : decode cX4_sumBelow 145 = .ok (.lreturn, 1) := by decide +kernel
theorem dX5_init_0 : decode cX5_init 0 = .ok (.aload_n 0, 1) := by decide +kernel
theorem dX5_init_1 : decode cX5_init 1 = .ok (.invokespecial 3, 3) := by decide +kernel
theorem dX5_init_4 : decode cX5_init 4 = .ok (.aload_n 0, 1) := by decide +kernel
theorem dX5_init_5 : decode cX5_init 5 = .ok (.bipush 10, 2) := by decide +kernel
theorem dX5_init_7 : decode cX5_init 7 = .ok (.newarray .int, 2) := by decide +kernel
theorem dX5_init_9 : decode cX5_init 9 = .ok (.putfield 9, 3) := by decide +kernel
theorem dX5_init_12 : decode cX5_init 12 = .ok (.return_, 1) := by decide +kernel
theorem dX5_begin_0 : decode cX5_begin 0 = .ok (.iload_n 1, 1) := by decide +kernel
theorem dX5_begin_1 : decode cX5_begin 1 = .ok (.ifCond .lt 17, 3) := by decide +kernel
theorem dX5_begin_4 : decode cX5_begin 4 = .ok (.iload_n 1, 1) := by decide +kernel
theorem dX5_begin_5 : decode cX5_begin 5 = .ok (.iload_n 2, 1) := by decide +kernel
theorem dX5_begin_6 : decode cX5_begin 6 = .ok (.if_icmp .gt 12, 3) := by decide +kernel
theorem dX5_begin_9 : decode cX5_begin 9 = .ok (.iload_n 1, 1) := by decide +kernel
theorem dX5_begin_10 : decode cX5_begin 10 = .ok (.aload_n 0, 1) := by decide +kernel
theorem dX5_begin_11 : decode cX5_begin 11 = .ok (.getfield 9, 3) := by decide +kernel
theorem dX5_begin_14 : decode cX5_begin 14 = .ok (.arraylength, 1) := by decide +kernel
theorem dX5_begin_15 : decode cX5_begin 15 = .ok (.if_icmp .le 5, 3) := by decide +kernel
theorem dX5_begin_18 : decode cX5_begin 18 = .ok (.iconst 0, 1) := by decide +kernel
theorem dX5_begin_19 : decode cX5_begin 19 = .ok (.ireturn, 1) := by decide +kernel
theorem dX5_begin_20 : decode cX5_begin 20 = .ok (.aload_n 0, 1) := by decide +kernel
theorem dX5_begin_21 : decode cX5_begin 21 = .ok (.iload_n 1, 1) := by decide +kernel
theorem dX5_begin_22 : decode cX5_begin 22 = .ok (.putfield 15, 3) := by decide +kernel
theorem dX5_begin_25 : decode cX5_begin 25 = .ok (.aload_n 0, 1) := by decide +kernel
theorem dX5_begin_26 : decode cX5_begin 26 = .ok (.iload_n 2, 1) := by decide +kernel
theorem dX5_begin_27 : decode cX5_begin 27 = .ok (.putfield 19, 3) := by decide +kernel
theorem dX5_begin_30 : decode cX5_begin 30 = .ok (.iconst 0, 1) := by decide +kernel
theorem dX5_begin_31 : decode cX5_begin 31 = .ok (.istore_n 3, 1) := by decide +kernel
theorem dX5_begin_32 : decode cX5_begin 32 = .ok (.iload_n 3, 1) := by decide +kernel
theorem dX5_begin_33 : decode cX5_begin 33 = .ok (.aload_n 0, 1) := by decide +kernel
theorem dX5_begin_34 : decode cX5_begin 34 = .ok (.getfield 15, 3) := by decide +kernel
theorem dX5_begin_37 : decode cX5_begin 37 = .ok (.if_icmp .ge 16, 3) := by decide +kernel
theorem dX5_begin_40 : decode cX5_begin 40 = .ok (.aload_n 0, 1) := by decide +kernel
theorem dX5_begin_41 : decode cX5_begin 41 = .ok (.getfield 9, 3) := by decide +kernel
theorem dX5_begin_44 : decode cX5_begin 44 = .ok (.iload_n 3, 1) := by decide +kernel
theorem dX5_begin_45 : decode cX5_begin 45 = .ok (.iload_n 3, 1) := by decide +kernel
theorem dX5_begin_46 : decode cX5_begin 46 = .ok (.iastore, 1) := by decide +kernel
theorem dX5_begin_47 : decode cX5_begin 47 = .ok (.iinc 3 1, 3) := by decide +kernel
theorem dX5_begin_50 : decode cX5_begin 50 = .ok (.goto (-18), 3) := by decide +kernel
theorem dX5_begin_53 : decode cX5_begin 53 = .ok (.iconst 1, 1) := by decide +kernel
theorem dX5_begin_54 : decode cX5_begin 54 = .ok (.ireturn, 1) := by decide +kernel
theorem dX5_advance_0 : decode cX5_advance 0 = .ok (.aload_n 0, 1) := by decide +kernel
theorem dX5_advance_1 : decode cX5_advance 1 = .ok (.getfield 15, 3) := by decide +kernel
theorem dX5_advance_4 : decode cX5_advance 4 = .ok (.iconst 1, 1) := by decide +kernel
theorem dX5_advance_5 : decode cX5_advance 5 = .ok (.isub, 1) := by decide +kernel
theorem dX5_advance_6 : decode cX5_advance 6 = .ok (.istore_n 1, 1) := by decide +kernel
theorem dX5_advance_7 : decode cX5_advance 7 = .ok (.iload_n 1, 1) := by decide +kernel
theorem dX5_advance_8 : decode cX5_advance 8 = .ok (.ifCond .lt 75, 3) := by decide +kernel
theorem dX5_advance_11 : decode cX5_advance 11 = .ok (.aload_n 0, 1) := by decide +kernel
theorem dX5_advance_12 : decode cX5_advance 12 = .ok (.getfield 9, 3) := by decide +kernel
theorem dX5_advance_15 : decode cX5_advance 15 = .ok (.iload_n 1, 1) := by decide +kernel
theorem dX5_advance_16 : decode cX5_advance 16 = .ok (.iaload, 1) := by decide +kernel
theorem dX5_advance_17 : decode cX5_advance 17 = .ok (.aload_n 0, 1) := by decide +kernel
theorem dX5_advance_18 : decode cX5_advance 18 = .ok (.getfield 19, 3) := by decide +kernel
theorem dX5_advance_21 : decode cX5_advance 21 = .ok (.aload_n 0, 1) := by decide +kernel
theorem dX5_advance_22 : decode cX5_advance 22 = .ok (.getfield 15, 3) := by decide +kernel
theorem dX5_advance_25 : decode cX5_advance 25 = .ok (.isub, 1) := by decide +kernel
theorem dX5_advance_26 : decode cX5_advance 26 = .ok (.iload_n 1, 1) := by decide +kernel
theorem dX5_advance_27 : decode cX5_advance 27 = .ok (.iadd, 1) := by decide +kernel
theorem dX5_advance_28 : decode cX5_advance 28 = .ok (.if_icmp .ge 49, 3) := by decide +kernel
theorem dX5_advance_31 : decode cX5_advance 31 = .ok (.aload_n 0, 1) := by decide +kernel
theorem dX5_advance_32 : decode cX5_advance 32 = .ok (.getfield 9, 3) := by decide +kernel
theorem dX5_advance_35 : decode cX5_advance 35 = .ok (.iload_n 1, 1) := by decide +kernel
theorem dX5_advance_36 : decode cX5_advance 36 = .ok (.dup2, 1) := by decide +kernel
theorem dX5_advance_37 : decode cX5_advance 37 = .ok (.iaload, 1) := by decide +kernel
theorem dX5_advance_38 : decode cX5_advance 38 = .ok (.iconst 1, 1) := by decide +kernel
theorem dX5_advance_39 : decode cX5_advance 39 = .ok (.iadd, 1) := by decide +kernel
theorem dX5_advance_40 : decode cX5_advance 40 = .ok (.iastore, 1) := by decide +kernel
theorem dX5_advance_41 : decode cX5_advance 41 = .ok (.iload_n 1, 1) := by decide +kernel
theorem dX5_advance_42 : decode cX5_advance 42 = .ok (.iconst 1, 1) := by decide +kernel
theorem dX5_advance_43 : decode cX5_advance 43 = .ok (.iadd, 1) := by decide +kernel
theorem dX5_advance_44 : decode cX5_advance 44 = .ok (.istore_n 2, 1) := by decide +kernel
theorem dX5_advance_45 : decode cX5_advance 45 = .ok (.iload_n 2, 1) := by decide +kernel
theorem dX5_advance_46 : decode cX5_advance 46 = .ok (.aload_n 0, 1) := by decide +kernel
theorem dX5_advance_47 : decode cX5_advance 47 = .ok (.getfield 15, 3) := by decide +kernel
theorem dX5_advance_50 : decode cX5_advance 50 = .ok (.if_icmp .ge 25, 3) := by decide +kernel
theorem dX5_advance_53 : decode cX5_advance 53 = .ok (.aload_n 0, 1) := by decide +kernel
theorem dX5_advance_54 : decode cX5_advance 54 = .ok (.getfield 9, 3) := by decide +kernel
theorem dX5_advance_57 : decode cX5_advance 57 = .ok (.iload_n 2, 1) := by decide +kernel
theorem dX5_advance_58 : decode cX5_advance 58 = .ok (.aload_n 0, 1) := by decide +kernel
theorem dX5_advance_59 : decode cX5_advance 59 = .ok (.getfield 9, 3) := by decide +kernel
theorem dX5_advance_62 : decode cX5_advance 62 = .ok (.iload_n 2, 1) := by decide +kernel
theorem dX5_advance_63 : decode cX5_advance 63 = .ok (.iconst 1, 1) := by decide +kernel
theorem dX5_advance_64 : decode cX5_advance 64 = .ok (.isub, 1) := by decide +kernel
theorem dX5_advance_65 : decode cX5_advance 65 = .ok (.iaload, 1) := by decide +kernel
theorem dX5_advance_66 : decode cX5_advance 66 = .ok (.iconst 1, 1) := by decide +kernel
theorem dX5_advance_67 : decode cX5_advance 67 = .ok (.iadd, 1) := by decide +kernel
theorem dX5_advance_68 : decode cX5_advance 68 = .ok (.iastore, 1) := by decide +kernel
theorem dX5_advance_69 : decode cX5_advance 69 = .ok (.iinc 2 1, 3) := by decide +kernel
theorem dX5_advance_72 : decode cX5_advance 72 = .ok (.goto (-27), 3) := by decide +kernel
theorem dX5_advance_75 : decode cX5_advance 75 = .ok (.iconst 1, 1) := by decide +kernel
theorem dX5_advance_76 : decode cX5_advance 76 = .ok (.ireturn, 1) := by decide +kernel
theorem dX5_advance_77 : decode cX5_advance 77 = .ok (.iinc 1 (-1), 3) := by decide +kernel
theorem dX5_advance_80 : decode cX5_advance 80 = .ok (.goto (-73), 3) := by decide +kernel
theorem dX5_advance_83 : decode cX5_advance 83 = .ok (.iconst 0, 1) := by decide +kernel
theorem dX5_advance_84 : decode cX5_advance 84 = .ok (.ireturn, 1) := by decide +kernel
theorem dX5_placeOf_0 : decode cX5_placeOf 0 = .ok (.iload_n 1, 1) := by decide +kernel
theorem dX5_placeOf_1 : decode cX5_placeOf 1 = .ok (.aload_n 0, 1) := by decide +kernel
theorem dX5_placeOf_2 : decode cX5_placeOf 2 = .ok (.getfield 15, 3) := by decide +kernel
theorem dX5_placeOf_5 : decode cX5_placeOf 5 = .ok (.if_icmp .ge 12, 3) := by decide +kernel
theorem dX5_placeOf_8 : decode cX5_placeOf 8 = .ok (.aload_n 0, 1) := by decide +kernel
theorem dX5_placeOf_9 : decode cX5_placeOf 9 = .ok (.getfield 9, 3) := by decide +kernel
theorem dX5_placeOf_12 : decode cX5_placeOf 12 = .ok (.iload_n 1, 1) := by decide +kernel
theorem dX5_placeOf_13 : decode cX5_placeOf 13 = .ok (.iaload, 1) := by decide +kernel
theorem dX5_placeOf_14 : decode cX5_placeOf 14 = .ok (.goto 14, 3) := by decide +kernel
theorem dX5_placeOf_17 : decode cX5_placeOf 17 = .ok (.aload_n 0, 1) := by decide +kernel
theorem dX5_placeOf_18 : decode cX5_placeOf 18 = .ok (.getfield 19, 3) := by decide +kernel
theorem dX5_placeOf_21 : decode cX5_placeOf 21 = .ok (.iload_n 1, 1) := by decide +kernel
theorem dX5_placeOf_22 : decode cX5_placeOf 22 = .ok (.iadd, 1) := by decide +kernel
theorem dX5_placeOf_23 : decode cX5_placeOf 23 = .ok (.aload_n 0, 1) := by decide +kernel
theorem dX5_placeOf_24 : decode cX5_placeOf 24 = .ok (.getfield 15, 3) := by decide +kernel
theorem dX5_placeOf_27 : decode cX5_placeOf 27 = .ok (.isub, 1) := by decide +kernel
theorem dX5_placeOf_28 : decode cX5_placeOf 28 = .ok (.ireturn, 1) := by decide +kernel
theorem dX6_init_0 : decode cX6_init 0 = .ok (.aload_n 0, 1) := by decide +kernel
theorem dX6_init_1 : decode cX6_init 1 = .ok (.invokespecial 3, 3) := by decide +kernel
theorem dX6_init_4 : decode cX6_init 4 = .ok (.aload_n 0, 1) := by decide +kernel
theorem dX6_init_5 : decode cX6_init 5 = .ok (.bipush 26, 2) := by decide +kernel
theorem dX6_init_7 : decode cX6_init 7 = .ok (.newarray .int, 2) := by decide +kernel
theorem dX6_init_9 : decode cX6_init 9 = .ok (.putfield 11, 3) := by decide +kernel
theorem dX6_init_12 : decode cX6_init 12 = .ok (.aload_n 0, 1) := by decide +kernel
theorem dX6_init_13 : decode cX6_init 13 = .ok (.bipush 26, 2) := by decide +kernel
theorem dX6_init_15 : decode cX6_init 15 = .ok (.newarray .int, 2) := by decide +kernel
theorem dX6_init_17 : decode cX6_init 17 = .ok (.putfield 15, 3) := by decide +kernel
theorem dX6_init_20 : decode cX6_init 20 = .ok (.aload_n 0, 1) := by decide +kernel
theorem dX6_init_21 : decode cX6_init 21 = .ok (.bipush 26, 2) := by decide +kernel
theorem dX6_init_23 : decode cX6_init 23 = .ok (.newarray .int, 2) := by decide +kernel
theorem dX6_init_25 : decode cX6_init 25 = .ok (.putfield 18, 3) := by decide +kernel
theorem dX6_init_28 : decode cX6_init 28 = .ok (.aload_n 0, 1) := by decide +kernel
theorem dX6_init_29 : decode cX6_init 29 = .ok (.bipush 26, 2) := by decide +kernel
theorem dX6_init_31 : decode cX6_init 31 = .ok (.newarray .int, 2) := by decide +kernel
theorem dX6_init_33 : decode cX6_init 33 = .ok (.putfield 21, 3) := by decide +kernel
theorem dX6_init_36 : decode cX6_init 36 = .ok (.aload_n 0, 1) := by decide +kernel
theorem dX6_init_37 : decode cX6_init 37 = .ok (.bipush 26, 2) := by decide +kernel
theorem dX6_init_39 : decode cX6_init 39 = .ok (.newarray .int, 2) := by decide +kernel
theorem dX6_init_41 : decode cX6_init 41 = .ok (.putfield 24, 3) := by decide +kernel
theorem dX6_init_44 : decode cX6_init 44 = .ok (.return_, 1) := by decide +kernel
theorem dX6_fill_0 : decode cX6_fill 0 = .ok (.aload_n 0, 1) := by decide +kernel
theorem dX6_fill_1 : decode cX6_fill 1 = .ok (.iconst 0, 1) := by decide +kernel
theorem dX6_fill_2 : decode cX6_fill 2 = .ok (.putfield 27, 3) := by decide +kernel
theorem dX6_fill_5 : decode cX6_fill 5 = .ok (.iconst 0, 1) := by decide +kernel
theorem dX6_fill_6 : decode cX6_fill 6 = .ok (.istore_n 2, 1) := by decide +kernel
theorem dX6_fill_7 : decode cX6_fill 7 = .ok (.iload_n 2, 1) := by decide +kernel
theorem dX6_fill_8 : decode cX6_fill 8 = .ok (.aload_n 1, 1) := by decide +kernel
theorem dX6_fill_9 : decode cX6_fill 9 = .ok (.getfield 31, 3) := by decide +kernel
theorem dX6_fill_12 : decode cX6_fill 12 = .ok (.if_icmp .ge 79, 3) := by decide +kernel
theorem dX6_fill_15 : decode cX6_fill 15 = .ok (.aload_n 1, 1) := by decide +kernel
theorem dX6_fill_16 : decode cX6_fill 16 = .ok (.getfield 36, 3) := by decide +kernel
theorem dX6_fill_19 : decode cX6_fill 19 = .ok (.iload_n 2, 1) := by decide +kernel
theorem dX6_fill_20 : decode cX6_fill 20 = .ok (.baload, 1) := by decide +kernel
theorem dX6_fill_21 : decode cX6_fill 21 = .ok (.ifCond .eq 64, 3) := by decide +kernel
theorem dX6_fill_24 : decode cX6_fill 24 = .ok (.aload_n 0, 1) := by decide +kernel
theorem dX6_fill_25 : decode cX6_fill 25 = .ok (.aload_n 0, 1) := by decide +kernel
theorem dX6_fill_26 : decode cX6_fill 26 = .ok (.getfield 27, 3) := by decide +kernel
theorem dX6_fill_29 : decode cX6_fill 29 = .ok (.aload_n 1, 1) := by decide +kernel
theorem dX6_fill_30 : decode cX6_fill 30 = .ok (.iload_n 2, 1) := by decide +kernel
theorem dX6_fill_31 : decode cX6_fill 31 = .ok (.iconst 0, 1) := by decide +kernel
theorem dX6_fill_32 : decode cX6_fill 32 = .ok (.invokevirtual 40, 3) := by decide +kernel
theorem dX6_fill_35 : decode cX6_fill 35 = .ok (.aload_n 1, 1) := by decide +kernel
theorem dX6_fill_36 : decode cX6_fill 36 = .ok (.iload_n 2, 1) := by decide +kernel
theorem dX6_fill_37 : decode cX6_fill 37 = .ok (.iconst 1, 1) := by decide +kernel
theorem dX6_fill_38 : decode cX6_fill 38 = .ok (.invokevirtual 40, 3) := by decide +kernel
theorem dX6_fill_41 : decode cX6_fill 41 = .ok (.aload_n 1, 1) := by decide +kernel
theorem dX6_fill_42 : decode cX6_fill 42 = .ok (.iload_n 2, 1) := by decide +kernel
theorem dX6_fill_43 : decode cX6_fill 43 = .ok (.iconst 2, 1) := by decide +kernel
theorem dX6_fill_44 : decode cX6_fill 44 = .ok (.invokevirtual 40, 3) := by decide +kernel
theorem dX6_fill_47 : decode cX6_fill 47 = .ok (.invokevirtual 44, 3) := by decide +kernel
theorem dX6_fill_50 : decode cX6_fill 50 = .ok (.aload_n 0, 1) := by decide +kernel
theorem dX6_fill_51 : decode cX6_fill 51 = .ok (.getfield 21, 3) := by decide +kernel
theorem dX6_fill_54 : decode cX6_fill 54 = .ok (.aload_n 0, 1) := by decide +kernel
theorem dX6_fill_55 : decode cX6_fill 55 = .ok (.getfield 27, 3) := by decide +kernel
theorem dX6_fill_58 : decode cX6_fill 58 = .ok (.aload_n 1, 1) := by decide +kernel
theorem dX6_fill_59 : decode cX6_fill 59 = .ok (.getfield 48, 3) := by decide +kernel
theorem dX6_fill_62 : decode cX6_fill 62 = .ok (.iload_n 2, 1) := by decide +kernel
theorem dX6_fill_63 : decode cX6_fill 63 = .ok (.iaload, 1) := by decide +kernel
theorem dX6_fill_64 : decode cX6_fill 64 = .ok (.iastore, 1) := by decide +kernel
theorem dX6_fill_65 : decode cX6_fill 65 = .ok (.aload_n 0, 1) := by decide +kernel
theorem dX6_fill_66 : decode cX6_fill 66 = .ok (.getfield 24, 3) := by decide +kernel
theorem dX6_fill_69 : decode cX6_fill 69 = .ok (.aload_n 0, 1) := by decide +kernel
theorem dX6_fill_70 : decode cX6_fill 70 = .ok (.getfield 27, 3) := by decide +kernel
theorem dX6_fill_73 : decode cX6_fill 73 = .ok (.iload_n 2, 1) := by decide +kernel
theorem dX6_fill_74 : decode cX6_fill 74 = .ok (.iastore, 1) := by decide +kernel
theorem dX6_fill_75 : decode cX6_fill 75 = .ok (.aload_n 0, 1) := by decide +kernel
theorem dX6_fill_76 : decode cX6_fill 76 = .ok (.dup, 1) := by decide +kernel
theorem dX6_fill_77 : decode cX6_fill 77 = .ok (.getfield 27, 3) := by decide +kernel
theorem dX6_fill_80 : decode cX6_fill 80 = .ok (.iconst 1, 1) := by decide +kernel
theorem dX6_fill_81 : decode cX6_fill 81 = .ok (.iadd, 1) := by decide +kernel
theorem dX6_fill_82 : decode cX6_fill 82 = .ok (.putfield 27, 3) := by decide +kernel
theorem dX6_fill_85 : decode cX6_fill 85 = .ok (.iinc 2 1, 3) := by decide +kernel
theorem dX6_fill_88 : decode cX6_fill 88 = .ok (.goto (-81), 3) := by decide +kernel
theorem dX6_fill_91 : decode cX6_fill 91 = .ok (.aload_n 0, 1) := by decide +kernel
theorem dX6_fill_92 : decode cX6_fill 92 = .ok (.aload_n 0, 1) := by decide +kernel
theorem dX6_fill_93 : decode cX6_fill 93 = .ok (.getfield 27, 3) := by decide +kernel
theorem dX6_fill_96 : decode cX6_fill 96 = .ok (.iconst 0, 1) := by decide +kernel
theorem dX6_fill_97 : decode cX6_fill 97 = .ok (.iconst 0, 1) := by decide +kernel
theorem dX6_fill_98 : decode cX6_fill 98 = .ok (.iconst 1, 1) := by decide +kernel
theorem dX6_fill_99 : decode cX6_fill 99 = .ok (.invokevirtual 44, 3) := by decide +kernel
theorem dX6_fill_102 : decode cX6_fill 102 = .ok (.aload_n 0, 1) := by decide +kernel
theorem dX6_fill_103 : decode cX6_fill 103 = .ok (.aload_n 0, 1) := by decide +kernel
theorem dX6_fill_104 : decode cX6_fill 104 = .ok (.getfield 27, 3) := by decide +kernel
theorem dX6_fill_107 : decode cX6_fill 107 = .ok (.iconst 1, 1) := by decide +kernel
theorem dX6_fill_108 : decode cX6_fill 108 = .ok (.iadd, 1) := by decide +kernel
theorem dX6_fill_109 : decode cX6_fill 109 = .ok (.iconst 0, 1) := by decide +kernel
theorem dX6_fill_110 : decode cX6_fill 110 = .ok (.iconst 1, 1) := by decide +kernel
theorem dX6_fill_111 : decode cX6_fill 111 = .ok (.iconst 0, 1) := by decide +kernel
theorem dX6_fill_112 : decode cX6_fill 112 = .ok (.invokevirtual 44, 3) := by decide +kernel
theorem dX6_fill_115 : decode cX6_fill 115 = .ok (.aload_n 0, 1) := by decide +kernel
theorem dX6_fill_116 : decode cX6_fill 116 = .ok (.getfield 21, 3) := by decide +kernel
theorem dX6_fill_119 : decode cX6_fill 119 = .ok (.aload_n 0, 1) := by decide +kernel
theorem dX6_fill_120 : decode cX6_fill 120 = .ok (.getfield 27, 3) := by decide +kernel
theorem dX6_fill_123 : decode cX6_fill 123 = .ok (.iconst 0, 1) := by decide +kernel
theorem dX6_fill_124 : decode cX6_fill 124 = .ok (.iastore, 1) := by decide +kernel
theorem dX6_fill_125 : decode cX6_fill 125 = .ok (.aload_n 0, 1) := by decide +kernel
theorem dX6_fill_126 : decode cX6_fill 126 = .ok (.getfield 21, 3) := by decide +kernel
theorem dX6_fill_129 : decode cX6_fill 129 = .ok (.aload_n 0, 1) := by decide +kernel
theorem dX6_fill_130 : decode cX6_fill 130 = .ok (.getfield 27, 3) := by decide +kernel
theorem dX6_fill_133 : decode cX6_fill 133 = .ok (.iconst 1, 1) := by decide +kernel
theorem dX6_fill_134 : decode cX6_fill 134 = .ok (.iadd, 1) := by decide +kernel
theorem dX6_fill_135 : decode cX6_fill 135 = .ok (.iconst 0, 1) := by decide +kernel
theorem dX6_fill_136 : decode cX6_fill 136 = .ok (.iastore, 1) := by decide +kernel
theorem dX6_fill_137 : decode cX6_fill 137 = .ok (.return_, 1) := by decide +kernel
theorem dX6_put_0 : decode cX6_put 0 = .ok (.aload_n 0, 1) := by decide +kernel
theorem dX6_put_1 : decode cX6_put 1 = .ok (.getfield 11, 3) := by decide +kernel
theorem dX6_put_4 : decode cX6_put 4 = .ok (.iload_n 1, 1) := by decide +kernel
theorem dX6_put_5 : decode cX6_put 5 = .ok (.iload_n 2, 1) := by decide +kernel
theorem dX6_put_6 : decode cX6_put 6 = .ok (.iastore, 1) := by decide +kernel
theorem dX6_put_7 : decode cX6_put 7 = .ok (.aload_n 0, 1) := by decide +kernel
theorem dX6_put_8 : decode cX6_put 8 = .ok (.getfield 15, 3) := by decide +kernel
theorem dX6_put_11 : decode cX6_put 11 = .ok (.iload_n 1, 1) := by decide +kernel
theorem dX6_put_12 : decode cX6_put 12 = .ok (.iload_n 3, 1) := by decide +kernel
theorem dX6_put_13 : decode cX6_put 13 = .ok (.iastore, 1) := by decide +kernel
theorem dX6_put_14 : decode cX6_put 14 = .ok (.aload_n 0, 1) := by decide +kernel
theorem dX6_put_15 : decode cX6_put 15 = .ok (.getfield 18, 3) := by decide +kernel
theorem dX6_put_18 : decode cX6_put 18 = .ok (.iload_n 1, 1) := by decide +kernel
theorem dX6_put_19 : decode cX6_put 19 = .ok (.iload 4, 2) := by decide +kernel
theorem dX6_put_21 : decode cX6_put 21 = .ok (.iastore, 1) := by decide +kernel
theorem dX6_put_22 : decode cX6_put 22 = .ok (.return_, 1) := by decide +kernel
theorem dX7_init_0 : decode cX7_init 0 = .ok (.aload_n 0, 1) := by decide +kernel
theorem dX7_init_1 : decode cX7_init 1 = .ok (.invokespecial 1, 3) := by decide +kernel
theorem dX7_init_4 : decode cX7_init 4 = .ok (.aload_n 0, 1) := by decide +kernel
theorem dX7_init_5 : decode cX7_init 5 = .ok (.bipush 54, 2) := by decide +kernel
theorem dX7_init_7 : decode cX7_init 7 = .ok (.newarray .long, 2) := by decide +kernel
theorem dX7_init_9 : decode cX7_init 9 = .ok (.putfield 9, 3) := by decide +kernel
theorem dX7_init_12 : decode cX7_init 12 = .ok (.aload_n 0, 1) := by decide +kernel
theorem dX7_init_13 : decode cX7_init 13 = .ok (.bipush 54, 2) := by decide +kernel
theorem dX7_init_15 : decode cX7_init 15 = .ok (.newarray .long, 2) := by decide +kernel
theorem dX7_init_17 : decode cX7_init 17 = .ok (.putfield 13, 3) := by decide +kernel
theorem dX7_init_20 : decode cX7_init 20 = .ok (.return_, 1) := by decide +kernel
theorem dX7_insert_0 : decode cX7_insert 0 = .ok (.iconst 0, 1) := by decide +kernel
theorem dX7_insert_1 : decode cX7_insert 1 = .ok (.istore 5, 2) := by decide +kernel
theorem dX7_insert_3 : decode cX7_insert 3 = .ok (.iload 5, 2) := by decide +kernel
theorem dX7_insert_5 : decode cX7_insert 5 = .ok (.aload_n 0, 1) := by decide +kernel
theorem dX7_insert_6 : decode cX7_insert 6 = .ok (.getfield 16, 3) := by decide +kernel
theorem dX7_insert_9 : decode cX7_insert 9 = .ok (.if_icmp .ge 31, 3) := by decide +kernel
theorem dX7_insert_12 : decode cX7_insert 12 = .ok (.aload_n 0, 1) := by decide +kernel
theorem dX7_insert_13 : decode cX7_insert 13 = .ok (.getfield 9, 3) := by decide +kernel
theorem dX7_insert_16 : decode cX7_insert 16 = .ok (.iload 5, 2) := by decide +kernel
theorem dX7_insert_18 : decode cX7_insert 18 = .ok (.laload, 1) := by decide +kernel
theorem dX7_insert_19 : decode cX7_insert 19 = .ok (.aload_n 0, 1) := by decide +kernel
theorem dX7_insert_20 : decode cX7_insert 20 = .ok (.getfield 13, 3) := by decide +kernel
theorem dX7_insert_23 : decode cX7_insert 23 = .ok (.iload 5, 2) := by decide +kernel
theorem dX7_insert_25 : decode cX7_insert 25 = .ok (.laload, 1) := by decide +kernel
theorem dX7_insert_26 : decode cX7_insert 26 = .ok (.lload_n 1, 1) := by decide +kernel
theorem dX7_insert_27 : decode cX7_insert 27 = .ok (.lload_n 3, 1) := by decide +kernel
theorem dX7_insert_28 : decode cX7_insert 28 = .ok (.invokestatic 20, 3) := by decide +kernel
theorem dX7_insert_31 : decode cX7_insert 31 = .ok (.ifCond .le 9, 3) := by decide +kernel
theorem dX7_insert_34 : decode cX7_insert 34 = .ok (.iinc 5 1, 3) := by decide +kernel
theorem dX7_insert_37 : decode cX7_insert 37 = .ok (.goto (-34), 3) := by decide +kernel
theorem dX7_insert_40 : decode cX7_insert 40 = .ok (.iload 5, 2) := by decide +kernel
theorem dX7_insert_42 : decode cX7_insert 42 = .ok (.aload_n 0, 1) := by decide +kernel
theorem dX7_insert_43 : decode cX7_insert 43 = .ok (.getfield 16, 3) := by decide +kernel
theorem dX7_insert_46 : decode cX7_insert 46 = .ok (.if_icmp .ge 31, 3) := by decide +kernel
theorem dX7_insert_49 : decode cX7_insert 49 = .ok (.aload_n 0, 1) := by decide +kernel
theorem dX7_insert_50 : decode cX7_insert 50 = .ok (.getfield 9, 3) := by decide +kernel
theorem dX7_insert_53 : decode cX7_insert 53 = .ok (.iload 5, 2) := by decide +kernel
theorem dX7_insert_55 : decode cX7_insert 55 = .ok (.laload, 1) := by decide +kernel
theorem dX7_insert_56 : decode cX7_insert 56 = .ok (.lload_n 1, 1) := by decide +kernel
theorem dX7_insert_57 : decode cX7_insert 57 = .ok (.lcmp, 1) := by decide +kernel
theorem dX7_insert_58 : decode cX7_insert 58 = .ok (.ifCond .ne 19, 3) := by decide +kernel
theorem dX7_insert_61 : decode cX7_insert 61 = .ok (.aload_n 0, 1) := by decide +kernel
theorem dX7_insert_62 : decode cX7_insert 62 = .ok (.getfield 13, 3) := by decide +kernel
theorem dX7_insert_65 : decode cX7_insert 65 = .ok (.iload 5, 2) := by decide +kernel
theorem dX7_insert_67 : decode cX7_insert 67 = .ok (.laload, 1) := by decide +kernel
theorem dX7_insert_68 : decode cX7_insert 68 = .ok (.lload_n 3, 1) := by decide +kernel
theorem dX7_insert_69 : decode cX7_insert 69 = .ok (.lcmp, 1) := by decide +kernel
theorem dX7_insert_70 : decode cX7_insert 70 = .ok (.ifCond .ne 7, 3) := by decide +kernel
theorem dX7_insert_73 : decode cX7_insert 73 = .ok (.iconst 1, 1) := by decide +kernel
theorem dX7_insert_74 : decode cX7_insert 74 = .ok (.goto 4, 3) := by decide +kernel
theorem dX7_insert_77 : decode cX7_insert 77 = .ok (.iconst 0, 1) := by decide +kernel
theorem dX7_insert_78 : decode cX7_insert 78 = .ok (.istore 6, 2) := by decide +kernel
theorem dX7_insert_80 : decode cX7_insert 80 = .ok (.iload 6, 2) := by decide +kernel
theorem dX7_insert_82 : decode cX7_insert 82 = .ok (.ifCond .ne 12, 3) := by decide +kernel
theorem dX7_insert_85 : decode cX7_insert 85 = .ok (.aload_n 0, 1) := by decide +kernel
theorem dX7_insert_86 : decode cX7_insert 86 = .ok (.getfield 16, 3) := by decide +kernel
theorem dX7_insert_89 : decode cX7_insert 89 = .ok (.bipush 54, 2) := by decide +kernel
theorem dX7_insert_91 : decode cX7_insert 91 = .ok (.if_icmp .lt 4, 3) := by decide +kernel
theorem dX7_insert_94 : decode cX7_insert 94 = .ok (.return_, 1) := by decide +kernel
theorem dX7_insert_95 : decode cX7_insert 95 = .ok (.aload_n 0, 1) := by decide +kernel
theorem dX7_insert_96 : decode cX7_insert 96 = .ok (.getfield 16, 3) := by decide +kernel
theorem dX7_insert_99 : decode cX7_insert 99 = .ok (.istore 7, 2) := by decide +kernel
theorem dX7_insert_101 : decode cX7_insert 101 = .ok (.iload 7, 2) := by decide +kernel
theorem dX7_insert_103 : decode cX7_insert 103 = .ok (.iload 5, 2) := by decide +kernel
theorem dX7_insert_105 : decode cX7_insert 105 = .ok (.if_icmp .le 41, 3) := by decide +kernel
theorem dX7_insert_108 : decode cX7_insert 108 = .ok (.aload_n 0, 1) := by decide +kernel
theorem dX7_insert_109 : decode cX7_insert 109 = .ok (.getfield 9, 3) := by decide +kernel
theorem dX7_insert_112 : decode cX7_insert 112 = .ok (.iload 7, 2) := by decide +kernel
theorem dX7_insert_114 : decode cX7_insert 114 = .ok (.aload_n 0, 1) := by decide +kernel
theorem dX7_insert_115 : decode cX7_insert 115 = .ok (.getfield 9, 3) := by decide +kernel
theorem dX7_insert_118 : decode cX7_insert 118 = .ok (.iload 7, 2) := by decide +kernel
theorem dX7_insert_120 : decode cX7_insert 120 = .ok (.iconst 1, 1) := by decide +kernel
theorem dX7_insert_121 : decode cX7_insert 121 = .ok (.isub, 1) := by decide +kernel
theorem dX7_insert_122 : decode cX7_insert 122 = .ok (.laload, 1) := by decide +kernel
theorem dX7_insert_123 : decode cX7_insert 123 = .ok (.lastore, 1) := by decide +kernel
theorem dX7_insert_124 : decode cX7_insert 124 = .ok (.aload_n 0, 1) := by decide +kernel
theorem dX7_insert_125 : decode cX7_insert 125 = .ok (.getfield 13, 3) := by decide +kernel
theorem dX7_insert_128 : decode cX7_insert 128 = .ok (.iload 7, 2) := by decide +kernel
theorem dX7_insert_130 : decode cX7_insert 130 = .ok (.aload_n 0, 1) := by decide +kernel
theorem dX7_insert_131 : decode cX7_insert 131 = .ok (.getfield 13, 3) := by decide +kernel
theorem dX7_insert_134 : decode cX7_insert 134 = .ok (.iload 7, 2) := by decide +kernel
theorem dX7_insert_136 : decode cX7_insert 136 = .ok (.iconst 1, 1) := by decide +kernel
theorem dX7_insert_137 : decode cX7_insert 137 = .ok (.isub, 1) := by decide +kernel
theorem dX7_insert_138 : decode cX7_insert 138 = .ok (.laload, 1) := by decide +kernel
theorem dX7_insert_139 : decode cX7_insert 139 = .ok (.lastore, 1) := by decide +kernel
theorem dX7_insert_140 : decode cX7_insert 140 = .ok (.iinc 7 (-1), 3) := by decide +kernel
theorem dX7_insert_143 : decode cX7_insert 143 = .ok (.goto (-42), 3) := by decide +kernel
theorem dX7_insert_146 : decode cX7_insert 146 = .ok (.aload_n 0, 1) := by decide +kernel
theorem dX7_insert_147 : decode cX7_insert 147 = .ok (.getfield 9, 3) := by decide +kernel
theorem dX7_insert_150 : decode cX7_insert 150 = .ok (.iload 5, 2) := by decide +kernel
theorem dX7_insert_152 : decode cX7_insert 152 = .ok (.lload_n 1, 1) := by decide +kernel
theorem dX7_insert_153 : decode cX7_insert 153 = .ok (.lastore, 1) := by decide +kernel
theorem dX7_insert_154 : decode cX7_insert 154 = .ok (.aload_n 0, 1) := by decide +kernel
theorem dX7_insert_155 : decode cX7_insert 155 = .ok (.getfield 13, 3) := by decide +kernel
theorem dX7_insert_158 : decode cX7_insert 158 = .ok (.iload 5, 2) := by decide +kernel
theorem dX7_insert_160 : decode cX7_insert 160 = .ok (.lload_n 3, 1) := by decide +kernel
theorem dX7_insert_161 : decode cX7_insert 161 = .ok (.lastore, 1) := by decide +kernel
theorem dX7_insert_162 : decode cX7_insert 162 = .ok (.aload_n 0, 1) := by decide +kernel
theorem dX7_insert_163 : decode cX7_insert 163 = .ok (.dup, 1) := by decide +kernel
theorem dX7_insert_164 : decode cX7_insert 164 = .ok (.getfield 16, 3) := by decide +kernel
theorem dX7_insert_167 : decode cX7_insert 167 = .ok (.iconst 1, 1) := by decide +kernel
theorem dX7_insert_168 : decode cX7_insert 168 = .ok (.iadd, 1) := by decide +kernel
theorem dX7_insert_169 : decode cX7_insert 169 = .ok (.putfield 16, 3) := by decide +kernel
theorem dX7_insert_172 : decode cX7_insert 172 = .ok (.return_, 1) := by decide +kernel
theorem dX8_init_0 : decode cX8_init 0 = .ok (.aload_n 0, 1) := by decide +kernel
theorem dX8_init_1 : decode cX8_init 1 = .ok (.invokespecial 3, 3) := by decide +kernel
theorem dX8_init_4 : decode cX8_init 4 = .ok (.aload_n 0, 1) := by decide +kernel
theorem dX8_init_5 : decode cX8_init 5 = .ok (.bipush 9, 2) := by decide +kernel
theorem dX8_init_7 : decode cX8_init 7 = .ok (.newarray .long, 2) := by decide +kernel
theorem dX8_init_9 : decode cX8_init 9 = .ok (.putfield 9, 3) := by decide +kernel
theorem dX8_init_12 : decode cX8_init 12 = .ok (.aload_n 0, 1) := by decide +kernel
theorem dX8_init_13 : decode cX8_init 13 = .ok (.iconst 3, 1) := by decide +kernel
theorem dX8_init_14 : decode cX8_init 14 = .ok (.newarray .long, 2) := by decide +kernel
theorem dX8_init_16 : decode cX8_init 16 = .ok (.putfield 15, 3) := by decide +kernel
theorem dX8_init_19 : decode cX8_init 19 = .ok (.aload_n 0, 1) := by decide +kernel
theorem dX8_init_20 : decode cX8_init 20 = .ok (.iconst 3, 1) := by decide +kernel
theorem dX8_init_21 : decode cX8_init 21 = .ok (.newarray .long, 2) := by decide +kernel
theorem dX8_init_23 : decode cX8_init 23 = .ok (.putfield 18, 3) := by decide +kernel
theorem dX8_init_26 : decode cX8_init 26 = .ok (.aload_n 0, 1) := by decide +kernel
theorem dX8_init_27 : decode cX8_init 27 = .ok (.iconst 4, 1) := by decide +kernel
theorem dX8_init_28 : decode cX8_init 28 = .ok (.newarray .long, 2) := by decide +kernel
theorem dX8_init_30 : decode cX8_init 30 = .ok (.putfield 21, 3) := by decide +kernel
theorem dX8_init_33 : decode cX8_init 33 = .ok (.return_, 1) := by decide +kernel
theorem dX8_product_0 : decode cX8_product 0 = .ok (.aload_n 0, 1) := by decide +kernel
theorem dX8_product_1 : decode cX8_product 1 = .ok (.iconst 0, 1) := by decide +kernel
theorem dX8_product_2 : decode cX8_product 2 = .ok (.laload, 1) := by decide +kernel
theorem dX8_product_3 : decode cX8_product 3 = .ok (.aload_n 1, 1) := by decide +kernel
theorem dX8_product_4 : decode cX8_product 4 = .ok (.iconst 0, 1) := by decide +kernel
theorem dX8_product_5 : decode cX8_product 5 = .ok (.laload, 1) := by decide +kernel
theorem dX8_product_6 : decode cX8_product 6 = .ok (.lmul, 1) := by decide +kernel
theorem dX8_product_7 : decode cX8_product 7 = .ok (.aload_n 0, 1) := by decide +kernel
theorem dX8_product_8 : decode cX8_product 8 = .ok (.iconst 1, 1) := by decide +kernel
theorem dX8_product_9 : decode cX8_product 9 = .ok (.laload, 1) := by decide +kernel
theorem dX8_product_10 : decode cX8_product 10 = .ok (.aload_n 1, 1) := by decide +kernel
theorem dX8_product_11 : decode cX8_product 11 = .ok (.iconst 1, 1) := by decide +kernel
theorem dX8_product_12 : decode cX8_product 12 = .ok (.laload, 1) := by decide +kernel
theorem dX8_product_13 : decode cX8_product 13 = .ok (.lmul, 1) := by decide +kernel
theorem dX8_product_14 : decode cX8_product 14 = .ok (.ladd, 1) := by decide +kernel
theorem dX8_product_15 : decode cX8_product 15 = .ok (.aload_n 0, 1) := by decide +kernel
theorem dX8_product_16 : decode cX8_product 16 = .ok (.iconst 2, 1) := by decide +kernel
theorem dX8_product_17 : decode cX8_product 17 = .ok (.laload, 1) := by decide +kernel
theorem dX8_product_18 : decode cX8_product 18 = .ok (.aload_n 1, 1) := by decide +kernel
theorem dX8_product_19 : decode cX8_product 19 = .ok (.iconst 2, 1) := by decide +kernel
theorem dX8_product_20 : decode cX8_product 20 = .ok (.laload, 1) := by decide +kernel
theorem dX8_product_21 : decode cX8_product 21 = .ok (.lmul, 1) := by decide +kernel
theorem dX8_product_22 : decode cX8_product 22 = .ok (.ladd, 1) := by decide +kernel
theorem dX8_product_23 : decode cX8_product 23 = .ok (.lreturn, 1) := by decide +kernel
theorem dX8_clear_0 : decode cX8_clear 0 = .ok (.iconst 0, 1) := by decide +kernel
theorem dX8_clear_1 : decode cX8_clear 1 = .ok (.istore_n 1, 1) := by decide +kernel
theorem dX8_clear_2 : decode cX8_clear 2 = .ok (.iload_n 1, 1) := by decide +kernel
theorem dX8_clear_3 : decode cX8_clear 3 = .ok (.aload_n 0, 1) := by decide +kernel
theorem dX8_clear_4 : decode cX8_clear 4 = .ok (.getfield 9, 3) := by decide +kernel
theorem dX8_clear_7 : decode cX8_clear 7 = .ok (.arraylength, 1) := by decide +kernel
theorem dX8_clear_8 : decode cX8_clear 8 = .ok (.if_icmp .ge 16, 3) := by decide +kernel
theorem dX8_clear_11 : decode cX8_clear 11 = .ok (.aload_n 0, 1) := by decide +kernel
theorem dX8_clear_12 : decode cX8_clear 12 = .ok (.getfield 9, 3) := by decide +kernel
theorem dX8_clear_15 : decode cX8_clear 15 = .ok (.iload_n 1, 1) := by decide +kernel
theorem dX8_clear_16 : decode cX8_clear 16 = .ok (.lconst 0, 1) := by decide +kernel
theorem dX8_clear_17 : decode cX8_clear 17 = .ok (.lastore, 1) := by decide +kernel
theorem dX8_clear_18 : decode cX8_clear 18 = .ok (.iinc 1 1, 3) := by decide +kernel
theorem dX8_clear_21 : decode cX8_clear 21 = .ok (.goto (-19), 3) := by decide +kernel
theorem dX8_clear_24 : decode cX8_clear 24 = .ok (.iconst 0, 1) := by decide +kernel
theorem dX8_clear_25 : decode cX8_clear 25 = .ok (.istore_n 1, 1) := by decide +kernel
theorem dX8_clear_26 : decode cX8_clear 26 = .ok (.iload_n 1, 1) := by decide +kernel
theorem dX8_clear_27 : decode cX8_clear 27 = .ok (.iconst 3, 1) := by decide +kernel
theorem dX8_clear_28 : decode cX8_clear 28 = .ok (.if_icmp .ge 16, 3) := by decide +kernel
theorem dX8_clear_31 : decode cX8_clear 31 = .ok (.aload_n 0, 1) := by decide +kernel
theorem dX8_clear_32 : decode cX8_clear 32 = .ok (.getfield 15, 3) := by decide +kernel
theorem dX8_clear_35 : decode cX8_clear 35 = .ok (.iload_n 1, 1) := by decide +kernel
theorem dX8_clear_36 : decode cX8_clear 36 = .ok (.lconst 0, 1) := by decide +kernel
theorem dX8_clear_37 : decode cX8_clear 37 = .ok (.lastore, 1) := by decide +kernel
theorem dX8_clear_38 : decode cX8_clear 38 = .ok (.iinc 1 1, 3) := by decide +kernel
theorem dX8_clear_41 : decode cX8_clear 41 = .ok (.goto (-15), 3) := by decide +kernel
theorem dX8_clear_44 : decode cX8_clear 44 = .ok (.aload_n 0, 1) := by decide +kernel
theorem dX8_clear_45 : decode cX8_clear 45 = .ok (.lconst 0, 1) := by decide +kernel
theorem dX8_clear_46 : decode cX8_clear 46 = .ok (.putfield 24, 3) := by decide +kernel
theorem dX8_clear_49 : decode cX8_clear 49 = .ok (.return_, 1) := by decide +kernel
theorem dX8_add_0 : decode cX8_add 0 = .ok (.aload_n 1, 1) := by decide +kernel
theorem dX8_add_1 : decode cX8_add 1 = .ok (.getfield 28, 3) := by decide +kernel
theorem dX8_add_4 : decode cX8_add 4 = .ok (.iload_n 2, 1) := by decide +kernel
theorem dX8_add_5 : decode cX8_add 5 = .ok (.iaload, 1) := by decide +kernel
theorem dX8_add_6 : decode cX8_add 6 = .ok (.i2l, 1) := by decide +kernel
theorem dX8_add_7 : decode cX8_add 7 = .ok (.lstore_n 3, 1) := by decide +kernel
theorem dX8_add_8 : decode cX8_add 8 = .ok (.iconst 0, 1) := by decide +kernel
theorem dX8_add_9 : decode cX8_add 9 = .ok (.istore 5, 2) := by decide +kernel
theorem dX8_add_11 : decode cX8_add 11 = .ok (.iload 5, 2) := by decide +kernel
theorem dX8_add_13 : decode cX8_add 13 = .ok (.iconst 3, 1) := by decide +kernel
theorem dX8_add_14 : decode cX8_add 14 = .ok (.if_icmp .ge 74, 3) := by decide +kernel
theorem dX8_add_17 : decode cX8_add 17 = .ok (.aload_n 1, 1) := by decide +kernel
theorem dX8_add_18 : decode cX8_add 18 = .ok (.iload_n 2, 1) := by decide +kernel
theorem dX8_add_19 : decode cX8_add 19 = .ok (.iload 5, 2) := by decide +kernel
theorem dX8_add_21 : decode cX8_add 21 = .ok (.invokevirtual 34, 3) := by decide +kernel
theorem dX8_add_24 : decode cX8_add 24 = .ok (.i2l, 1) := by decide +kernel
theorem dX8_add_25 : decode cX8_add 25 = .ok (.lstore 6, 2) := by decide +kernel
theorem dX8_add_27 : decode cX8_add 27 = .ok (.iconst 0, 1) := by decide +kernel
theorem dX8_add_28 : decode cX8_add 28 = .ok (.istore 8, 2) := by decide +kernel
theorem dX8_add_30 : decode cX8_add 30 = .ok (.iload 8, 2) := by decide +kernel
theorem dX8_add_32 : decode cX8_add 32 = .ok (.iconst 3, 1) := by decide +kernel
theorem dX8_add_33 : decode cX8_add 33 = .ok (.if_icmp .ge 35, 3) := by decide +kernel
theorem dX8_add_36 : decode cX8_add 36 = .ok (.aload_n 0, 1) := by decide +kernel
theorem dX8_add_37 : decode cX8_add 37 = .ok (.getfield 9, 3) := by decide +kernel
theorem dX8_add_40 : decode cX8_add 40 = .ok (.iload 5, 2) := by decide +kernel
theorem dX8_add_42 : decode cX8_add 42 = .ok (.iconst 3, 1) := by decide +kernel
theorem dX8_add_43 : decode cX8_add 43 = .ok (.imul, 1) := by decide +kernel
theorem dX8_add_44 : decode cX8_add 44 = .ok (.iload 8, 2) := by decide +kernel
theorem dX8_add_46 : decode cX8_add 46 = .ok (.iadd, 1) := by decide +kernel
theorem dX8_add_47 : decode cX8_add 47 = .ok (.dup2, 1) := by decide +kernel
theorem dX8_add_48 : decode cX8_add 48 = .ok (.laload, 1) := by decide +kernel
theorem dX8_add_49 : decode cX8_add 49 = .ok (.lload 6, 2) := by decide +kernel
theorem dX8_add_51 : decode cX8_add 51 = .ok (.aload_n 1, 1) := by decide +kernel
theorem dX8_add_52 : decode cX8_add 52 = .ok (.iload_n 2, 1) := by decide +kernel
theorem dX8_add_53 : decode cX8_add 53 = .ok (.iload 8, 2) := by decide +kernel
theorem dX8_add_55 : decode cX8_add 55 = .ok (.invokevirtual 34, 3) := by decide +kernel
theorem dX8_add_58 : decode cX8_add 58 = .ok (.i2l, 1) := by decide +kernel
theorem dX8_add_59 : decode cX8_add 59 = .ok (.lmul, 1) := by decide +kernel
theorem dX8_add_60 : decode cX8_add 60 = .ok (.ladd, 1) := by decide +kernel
theorem dX8_add_61 : decode cX8_add 61 = .ok (.lastore, 1) := by decide +kernel
theorem dX8_add_62 : decode cX8_add 62 = .ok (.iinc 8 1, 3) := by decide +kernel
theorem dX8_add_65 : decode cX8_add 65 = .ok (.goto (-35), 3) := by decide +kernel
theorem dX8_add_68 : decode cX8_add 68 = .ok (.aload_n 0, 1) := by decide +kernel
theorem dX8_add_69 : decode cX8_add 69 = .ok (.getfield 15, 3) := by decide +kernel
theorem dX8_add_72 : decode cX8_add 72 = .ok (.iload 5, 2) := by decide +kernel
theorem dX8_add_74 : decode cX8_add 74 = .ok (.dup2, 1) := by decide +kernel
theorem dX8_add_75 : decode cX8_add 75 = .ok (.laload, 1) := by decide +kernel
theorem dX8_add_76 : decode cX8_add 76 = .ok (.lload 6, 2) := by decide +kernel
theorem dX8_add_78 : decode cX8_add 78 = .ok (.lload_n 3, 1) := by decide +kernel
theorem dX8_add_79 : decode cX8_add 79 = .ok (.lmul, 1) := by decide +kernel
theorem dX8_add_80 : decode cX8_add 80 = .ok (.ladd, 1) := by decide +kernel
theorem dX8_add_81 : decode cX8_add 81 = .ok (.lastore, 1) := by decide +kernel
theorem dX8_add_82 : decode cX8_add 82 = .ok (.iinc 5 1, 3) := by decide +kernel
theorem dX8_add_85 : decode cX8_add 85 = .ok (.goto (-74), 3) := by decide +kernel
theorem dX8_add_88 : decode cX8_add 88 = .ok (.aload_n 0, 1) := by decide +kernel
theorem dX8_add_89 : decode cX8_add 89 = .ok (.dup, 1) := by decide +kernel
theorem dX8_add_90 : decode cX8_add 90 = .ok (.getfield 24, 3) := by decide +kernel
theorem dX8_add_93 : decode cX8_add 93 = .ok (.lload_n 3, 1) := by decide +kernel
theorem dX8_add_94 : decode cX8_add 94 = .ok (.lload_n 3, 1) := by decide +kernel
theorem dX8_add_95 : decode cX8_add 95 = .ok (.lmul, 1) := by decide +kernel
theorem dX8_add_96 : decode cX8_add 96 = .ok (.ladd, 1) := by decide +kernel
theorem dX8_add_97 : decode cX8_add 97 = .ok (.putfield 24, 3) := by decide +kernel
theorem dX8_add_100 : decode cX8_add 100 = .ok (.return_, 1) := by decide +kernel
theorem dX8_copyColumns_0 : decode cX8_copyColumns 0 = .ok (.iconst 0, 1) := by decide +kernel
theorem dX8_copyColumns_1 : decode cX8_copyColumns 1 = .ok (.istore_n 3, 1) := by decide +kernel
theorem dX8_copyColumns_2 : decode cX8_copyColumns 2 = .ok (.iload_n 3, 1) := by decide +kernel
theorem dX8_copyColumns_3 : decode cX8_copyColumns 3 = .ok (.iconst 3, 1) := by decide +kernel
theorem dX8_copyColumns_4 : decode cX8_copyColumns 4 = .ok (.if_icmp .ge 100, 3) := by decide +kernel
theorem dX8_copyColumns_7 : decode cX8_copyColumns 7 = .ok (.iload_n 2, 1) := by decide +kernel
theorem dX8_copyColumns_8 : decode cX8_copyColumns 8 = .ok (.iload_n 3, 1) := by decide +kernel
theorem dX8_copyColumns_9 : decode cX8_copyColumns 9 = .ok (.ishr, 1) := by decide +kernel
theorem dX8_copyColumns_10 : decode cX8_copyColumns 10 = .ok (.iconst 1, 1) := by decide +kernel
theorem dX8_copyColumns_11 : decode cX8_copyColumns 11 = .ok (.iand, 1) := by decide +kernel
theorem dX8_copyColumns_12 : decode cX8_copyColumns 12 = .ok (.ifCond .eq 7, 3) := by decide +kernel
theorem dX8_copyColumns_15 : decode cX8_copyColumns 15 = .ok (.iconst 1, 1) := by decide +kernel
theorem dX8_copyColumns_16 : decode cX8_copyColumns 16 = .ok (.goto 4, 3) := by decide +kernel
theorem dX8_copyColumns_19 : decode cX8_copyColumns 19 = .ok (.iconst 0, 1) := by decide +kernel
theorem dX8_copyColumns_20 : decode cX8_copyColumns 20 = .ok (.istore 4, 2) := by decide +kernel
theorem dX8_copyColumns_22 : decode cX8_copyColumns 22 = .ok (.iconst 0, 1) := by decide +kernel
theorem dX8_copyColumns_23 : decode cX8_copyColumns 23 = .ok (.istore 5, 2) := by decide +kernel
theorem dX8_copyColumns_25 : decode cX8_copyColumns 25 = .ok (.iload 5, 2) := by decide +kernel
theorem dX8_copyColumns_27 : decode cX8_copyColumns 27 = .ok (.iconst 3, 1) := by decide +kernel
theorem dX8_copyColumns_28 : decode cX8_copyColumns 28 = .ok (.if_icmp .ge 49, 3) := by decide +kernel
theorem dX8_copyColumns_31 : decode cX8_copyColumns 31 = .ok (.iload_n 3, 1) := by decide +kernel
theorem dX8_copyColumns_32 : decode cX8_copyColumns 32 = .ok (.iconst 3, 1) := by decide +kernel
theorem dX8_copyColumns_33 : decode cX8_copyColumns 33 = .ok (.imul, 1) := by decide +kernel
theorem dX8_copyColumns_34 : decode cX8_copyColumns 34 = .ok (.iload 5, 2) := by decide +kernel
theorem dX8_copyColumns_36 : decode cX8_copyColumns 36 = .ok (.iadd, 1) := by decide +kernel
theorem dX8_copyColumns_37 : decode cX8_copyColumns 37 = .ok (.istore 6, 2) := by decide +kernel
theorem dX8_copyColumns_39 : decode cX8_copyColumns 39 = .ok (.aload_n 0, 1) := by decide +kernel
theorem dX8_copyColumns_40 : decode cX8_copyColumns 40 = .ok (.getfield 9, 3) := by decide +kernel
theorem dX8_copyColumns_43 : decode cX8_copyColumns 43 = .ok (.iload 6, 2) := by decide +kernel
theorem dX8_copyColumns_45 : decode cX8_copyColumns 45 = .ok (.iload 4, 2) := by decide +kernel
theorem dX8_copyColumns_47 : decode cX8_copyColumns 47 = .ok (.ifCond .eq 22, 3) := by decide +kernel
theorem dX8_copyColumns_50 : decode cX8_copyColumns 50 = .ok (.iload_n 2, 1) := by decide +kernel
theorem dX8_copyColumns_51 : decode cX8_copyColumns 51 = .ok (.iload 5, 2) := by decide +kernel
theorem dX8_copyColumns_53 : decode cX8_copyColumns 53 = .ok (.ishr, 1) := by decide +kernel
theorem dX8_copyColumns_54 : decode cX8_copyColumns 54 = .ok (.iconst 1, 1) := by decide +kernel
theorem dX8_copyColumns_55 : decode cX8_copyColumns 55 = .ok (.iand, 1) := by decide +kernel
theorem dX8_copyColumns_56 : decode cX8_copyColumns 56 = .ok (.ifCond .eq 13, 3) := by decide +kernel
theorem dX8_copyColumns_59 : decode cX8_copyColumns 59 = .ok (.aload_n 1, 1) := by decide +kernel
theorem dX8_copyColumns_60 : decode cX8_copyColumns 60 = .ok (.getfield 9, 3) := by decide +kernel
theorem dX8_copyColumns_63 : decode cX8_copyColumns 63 = .ok (.iload 6, 2) := by decide +kernel
theorem dX8_copyColumns_65 : decode cX8_copyColumns 65 = .ok (.laload, 1) := by decide +kernel
theorem dX8_copyColumns_66 : decode cX8_copyColumns 66 = .ok (.goto 4, 3) := by decide +kernel
theorem dX8_copyColumns_69 : decode cX8_copyColumns 69 = .ok (.lconst 0, 1) := by decide +kernel
theorem dX8_copyColumns_70 : decode cX8_copyColumns 70 = .ok (.lastore, 1) := by decide +kernel
theorem dX8_copyColumns_71 : decode cX8_copyColumns 71 = .ok (.iinc 5 1, 3) := by decide +kernel
theorem dX8_copyColumns_74 : decode cX8_copyColumns 74 = .ok (.goto (-49), 3) := by decide +kernel
theorem dX8_copyColumns_77 : decode cX8_copyColumns 77 = .ok (.aload_n 0, 1) := by decide +kernel
theorem dX8_copyColumns_78 : decode cX8_copyColumns 78 = .ok (.getfield 15, 3) := by decide +kernel
theorem dX8_copyColumns_81 : decode cX8_copyColumns 81 = .ok (.iload_n 3, 1) := by decide +kernel
theorem dX8_copyColumns_82 : decode cX8_copyColumns 82 = .ok (.iload 4, 2) := by decide +kernel
theorem dX8_copyColumns_84 : decode cX8_copyColumns 84 = .ok (.ifCond .eq 12, 3) := by decide +kernel
theorem dX8_copyColumns_87 : decode cX8_copyColumns 87 = .ok (.aload_n 1, 1) := by decide +kernel
theorem dX8_copyColumns_88 : decode cX8_copyColumns 88 = .ok (.getfield 15, 3) := by decide +kernel
theorem dX8_copyColumns_91 : decode cX8_copyColumns 91 = .ok (.iload_n 3, 1) := by decide +kernel
theorem dX8_copyColumns_92 : decode cX8_copyColumns 92 = .ok (.laload, 1) := by decide +kernel
theorem dX8_copyColumns_93 : decode cX8_copyColumns 93 = .ok (.goto 4, 3) := by decide +kernel
theorem dX8_copyColumns_96 : decode cX8_copyColumns 96 = .ok (.lconst 0, 1) := by decide +kernel
theorem dX8_copyColumns_97 : decode cX8_copyColumns 97 = .ok (.lastore, 1) := by decide +kernel
theorem dX8_copyColumns_98 : decode cX8_copyColumns 98 = .ok (.iinc 3 1, 3) := by decide +kernel
theorem dX8_copyColumns_101 : decode cX8_copyColumns 101 = .ok (.goto (-99), 3) := by decide +kernel
theorem dX8_copyColumns_104 : decode cX8_copyColumns 104 = .ok (.aload_n 0, 1) := by decide +kernel
theorem dX8_copyColumns_105 : decode cX8_copyColumns 105 = .ok (.aload_n 1, 1) := by decide +kernel
theorem dX8_copyColumns_106 : decode cX8_copyColumns 106 = .ok (.getfield 24, 3) := by decide +kernel
theorem dX8_copyColumns_109 : decode cX8_copyColumns 109 = .ok (.putfield 24, 3) := by decide +kernel
theorem dX8_copyColumns_112 : decode cX8_copyColumns 112 = .ok (.return_, 1) := by decide +kernel
theorem dX8_solve_0 : decode cX8_solve 0 = .ok (.aload_n 0, 1) := by decide +kernel
theorem dX8_solve_1 : decode cX8_solve 1 = .ok (.invokevirtual 38, 3) := by decide +kernel
theorem dX8_solve_4 : decode cX8_solve 4 = .ok (.aload_n 0, 1) := by decide +kernel
theorem dX8_solve_5 : decode cX8_solve 5 = .ok (.aload_n 0, 1) := by decide +kernel
theorem dX8_solve_6 : decode cX8_solve 6 = .ok (.getfield 15, 3) := by decide +kernel
theorem dX8_solve_9 : decode cX8_solve 9 = .ok (.aload_n 0, 1) := by decide +kernel
theorem dX8_solve_10 : decode cX8_solve 10 = .ok (.getfield 18, 3) := by decide +kernel
theorem dX8_solve_13 : decode cX8_solve 13 = .ok (.invokevirtual 41, 3) := by decide +kernel
theorem dX8_solve_16 : decode cX8_solve 16 = .ok (.return_, 1) := by decide +kernel
theorem dX8_measure_0 : decode cX8_measure 0 = .ok (.aload_n 0, 1) := by decide +kernel
theorem dX8_measure_1 : decode cX8_measure 1 = .ok (.getfield 9, 3) := by decide +kernel
theorem dX8_measure_4 : decode cX8_measure 4 = .ok (.astore_n 1, 1) := by decide +kernel
theorem dX8_measure_5 : decode cX8_measure 5 = .ok (.aload_n 1, 1) := by decide +kernel
theorem dX8_measure_6 : decode cX8_measure 6 = .ok (.iconst 4, 1) := by decide +kernel
theorem dX8_measure_7 : decode cX8_measure 7 = .ok (.laload, 1) := by decide +kernel
theorem dX8_measure_8 : decode cX8_measure 8 = .ok (.aload_n 1, 1) := by decide +kernel
theorem dX8_measure_9 : decode cX8_measure 9 = .ok (.bipush 8, 2) := by decide +kernel
theorem dX8_measure_11 : decode cX8_measure 11 = .ok (.laload, 1) := by decide +kernel
theorem dX8_measure_12 : decode cX8_measure 12 = .ok (.lmul, 1) := by decide +kernel
theorem dX8_measure_13 : decode cX8_measure 13 = .ok (.aload_n 1, 1) := by decide +kernel
theorem dX8_measure_14 : decode cX8_measure 14 = .ok (.iconst 5, 1) := by decide +kernel
theorem dX8_measure_15 : decode cX8_measure 15 = .ok (.laload, 1) := by decide +kernel
theorem dX8_measure_16 : decode cX8_measure 16 = .ok (.aload_n 1, 1) := by decide +kernel
theorem dX8_measure_17 : decode cX8_measure 17 = .ok (.bipush 7, 2) := by decide +kernel
theorem dX8_measure_19 : decode cX8_measure 19 = .ok (.laload, 1) := by decide +kernel
theorem dX8_measure_20 : decode cX8_measure 20 = .ok (.lmul, 1) := by decide +kernel
theorem dX8_measure_21 : decode cX8_measure 21 = .ok (.lsub, 1) := by decide +kernel
theorem dX8_measure_22 : decode cX8_measure 22 = .ok (.lstore_n 2, 1) := by decide +kernel
theorem dX8_measure_23 : decode cX8_measure 23 = .ok (.aload_n 0, 1) := by decide +kernel
theorem dX8_measure_24 : decode cX8_measure 24 = .ok (.getfield 21, 3) := by decide +kernel
theorem dX8_measure_27 : decode cX8_measure 27 = .ok (.iconst 0, 1) := by decide +kernel
theorem dX8_measure_28 : decode cX8_measure 28 = .ok (.lconst 1, 1) := by decide +kernel
theorem dX8_measure_29 : decode cX8_measure 29 = .ok (.lastore, 1) := by decide +kernel
theorem dX8_measure_30 : decode cX8_measure 30 = .ok (.aload_n 0, 1) := by decide +kernel
theorem dX8_measure_31 : decode cX8_measure 31 = .ok (.getfield 21, 3) := by decide +kernel
theorem dX8_measure_34 : decode cX8_measure 34 = .ok (.iconst 1, 1) := by decide +kernel
theorem dX8_measure_35 : decode cX8_measure 35 = .ok (.aload_n 1, 1) := by decide +kernel
theorem dX8_measure_36 : decode cX8_measure 36 = .ok (.iconst 0, 1) := by decide +kernel
theorem dX8_measure_37 : decode cX8_measure 37 = .ok (.laload, 1) := by decide +kernel
theorem dX8_measure_38 : decode cX8_measure 38 = .ok (.aload_n 1, 1) := by decide +kernel
theorem dX8_measure_39 : decode cX8_measure 39 = .ok (.iconst 4, 1) := by decide +kernel
theorem dX8_measure_40 : decode cX8_measure 40 = .ok (.laload, 1) := by decide +kernel
theorem dX8_measure_41 : decode cX8_measure 41 = .ok (.ladd, 1) := by decide +kernel
theorem dX8_measure_42 : decode cX8_measure 42 = .ok (.aload_n 1, 1) := by decide +kernel
theorem dX8_measure_43 : decode cX8_measure 43 = .ok (.bipush 8, 2) := by decide +kernel
theorem dX8_measure_45 : decode cX8_measure 45 = .ok (.laload, 1) := by decide +kernel
theorem dX8_measure_46 : decode cX8_measure 46 = .ok (.ladd, 1) := by decide +kernel
theorem dX8_measure_47 : decode cX8_measure 47 = .ok (.lastore, 1) := by decide +kernel
theorem dX8_measure_48 : decode cX8_measure 48 = .ok (.aload_n 0, 1) := by decide +kernel
theorem dX8_measure_49 : decode cX8_measure 49 = .ok (.getfield 21, 3) := by decide +kernel
theorem dX8_measure_52 : decode cX8_measure 52 = .ok (.iconst 2, 1) := by decide +kernel
theorem dX8_measure_53 : decode cX8_measure 53 = .ok (.lload_n 2, 1) := by decide +kernel
theorem dX8_measure_54 : decode cX8_measure 54 = .ok (.aload_n 1, 1) := by decide +kernel
theorem dX8_measure_55 : decode cX8_measure 55 = .ok (.iconst 0, 1) := by decide +kernel
theorem dX8_measure_56 : decode cX8_measure 56 = .ok (.laload, 1) := by decide +kernel
theorem dX8_measure_57 : decode cX8_measure 57 = .ok (.aload_n 1, 1) := by decide +kernel
theorem dX8_measure_58 : decode cX8_measure 58 = .ok (.bipush 8, 2) := by decide +kernel
theorem dX8_measure_60 : decode cX8_measure 60 = .ok (.laload, 1) := by decide +kernel
theorem dX8_measure_61 : decode cX8_measure 61 = .ok (.lmul, 1) := by decide +kernel
theorem dX8_measure_62 : decode cX8_measure 62 = .ok (.ladd, 1) := by decide +kernel
theorem dX8_measure_63 : decode cX8_measure 63 = .ok (.aload_n 1, 1) := by decide +kernel
theorem dX8_measure_64 : decode cX8_measure 64 = .ok (.iconst 2, 1) := by decide +kernel
theorem dX8_measure_65 : decode cX8_measure 65 = .ok (.laload, 1) := by decide +kernel
theorem dX8_measure_66 : decode cX8_measure 66 = .ok (.aload_n 1, 1) := by decide +kernel
theorem dX8_measure_67 : decode cX8_measure 67 = .ok (.bipush 6, 2) := by decide +kernel
theorem dX8_measure_69 : decode cX8_measure 69 = .ok (.laload, 1) := by decide +kernel
theorem dX8_measure_70 : decode cX8_measure 70 = .ok (.lmul, 1) := by decide +kernel
theorem dX8_measure_71 : decode cX8_measure 71 = .ok (.lsub, 1) := by decide +kernel
theorem dX8_measure_72 : decode cX8_measure 72 = .ok (.aload_n 1, 1) := by decide +kernel
theorem dX8_measure_73 : decode cX8_measure 73 = .ok (.iconst 0, 1) := by decide +kernel
theorem dX8_measure_74 : decode cX8_measure 74 = .ok (.laload, 1) := by decide +kernel
theorem dX8_measure_75 : decode cX8_measure 75 = .ok (.aload_n 1, 1) := by decide +kernel
theorem dX8_measure_76 : decode cX8_measure 76 = .ok (.iconst 4, 1) := by decide +kernel
theorem dX8_measure_77 : decode cX8_measure 77 = .ok (.laload, 1) := by decide +kernel
theorem dX8_measure_78 : decode cX8_measure 78 = .ok (.lmul, 1) := by decide +kernel
theorem dX8_measure_79 : decode cX8_measure 79 = .ok (.ladd, 1) := by decide +kernel
theorem dX8_measure_80 : decode cX8_measure 80 = .ok (.aload_n 1, 1) := by decide +kernel
theorem dX8_measure_81 : decode cX8_measure 81 = .ok (.iconst 1, 1) := by decide +kernel
theorem dX8_measure_82 : decode cX8_measure 82 = .ok (.laload, 1) := by decide +kernel
theorem dX8_measure_83 : decode cX8_measure 83 = .ok (.aload_n 1, 1) := by decide +kernel
theorem dX8_measure_84 : decode cX8_measure 84 = .ok (.iconst 3, 1) := by decide +kernel
theorem dX8_measure_85 : decode cX8_measure 85 = .ok (.laload, 1) := by decide +kernel
theorem dX8_measure_86 : decode cX8_measure 86 = .ok (.lmul, 1) := by decide +kernel
theorem dX8_measure_87 : decode cX8_measure 87 = .ok (.lsub, 1) := by decide +kernel
theorem dX8_measure_88 : decode cX8_measure 88 = .ok (.lastore, 1) := by decide +kernel
theorem dX8_measure_89 : decode cX8_measure 89 = .ok (.aload_n 0, 1) := by decide +kernel
theorem dX8_measure_90 : decode cX8_measure 90 = .ok (.getfield 21, 3) := by decide +kernel
theorem dX8_measure_93 : decode cX8_measure 93 = .ok (.iconst 3, 1) := by decide +kernel
theorem dX8_measure_94 : decode cX8_measure 94 = .ok (.aload_n 1, 1) := by decide +kernel
theorem dX8_measure_95 : decode cX8_measure 95 = .ok (.iconst 0, 1) := by decide +kernel
theorem dX8_measure_96 : decode cX8_measure 96 = .ok (.laload, 1) := by decide +kernel
theorem dX8_measure_97 : decode cX8_measure 97 = .ok (.lload_n 2, 1) := by decide +kernel
theorem dX8_measure_98 : decode cX8_measure 98 = .ok (.lmul, 1) := by decide +kernel
theorem dX8_measure_99 : decode cX8_measure 99 = .ok (.aload_n 1, 1) := by decide +kernel
theorem dX8_measure_100 : decode cX8_measure 100 = .ok (.iconst 1, 1) := by decide +kernel
theorem dX8_measure_101 : decode cX8_measure 101 = .ok (.laload, 1) := by decide +kernel
theorem dX8_measure_102 : decode cX8_measure 102 = .ok (.aload_n 1, 1) := by decide +kernel
theorem dX8_measure_103 : decode cX8_measure 103 = .ok (.iconst 3, 1) := by decide +kernel
theorem dX8_measure_104 : decode cX8_measure 104 = .ok (.laload, 1) := by decide +kernel
theorem dX8_measure_105 : decode cX8_measure 105 = .ok (.aload_n 1, 1) := by decide +kernel
theorem dX8_measure_106 : decode cX8_measure 106 = .ok (.bipush 8, 2) := by decide +kernel
theorem dX8_measure_108 : decode cX8_measure 108 = .ok (.laload, 1) := by decide +kernel
theorem dX8_measure_109 : decode cX8_measure 109 = .ok (.lmul, 1) := by decide +kernel
theorem dX8_measure_110 : decode cX8_measure 110 = .ok (.aload_n 1, 1) := by decide +kernel
theorem dX8_measure_111 : decode cX8_measure 111 = .ok (.iconst 5, 1) := by decide +kernel
theorem dX8_measure_112 : decode cX8_measure 112 = .ok (.laload, 1) := by decide +kernel
theorem dX8_measure_113 : decode cX8_measure 113 = .ok (.aload_n 1, 1) := by decide +kernel
theorem dX8_measure_114 : decode cX8_measure 114 = .ok (.bipush 6, 2) := by decide +kernel
theorem dX8_measure_116 : decode cX8_measure 116 = .ok (.laload, 1) := by decide +kernel
theorem dX8_measure_117 : decode cX8_measure 117 = .ok (.lmul, 1) := by decide +kernel
theorem dX8_measure_118 : decode cX8_measure 118 = .ok (.lsub, 1) := by decide +kernel
theorem dX8_measure_119 : decode cX8_measure 119 = .ok (.lmul, 1) := by decide +kernel
theorem dX8_measure_120 : decode cX8_measure 120 = .ok (.lsub, 1) := by decide +kernel
theorem dX8_measure_121 : decode cX8_measure 121 = .ok (.aload_n 1, 1) := by decide +kernel
theorem dX8_measure_122 : decode cX8_measure 122 = .ok (.iconst 2, 1) := by decide +kernel
theorem dX8_measure_123 : decode cX8_measure 123 = .ok (.laload, 1) := by decide +kernel
theorem dX8_measure_124 : decode cX8_measure 124 = .ok (.aload_n 1, 1) := by decide +kernel
theorem dX8_measure_125 : decode cX8_measure 125 = .ok (.iconst 3, 1) := by decide +kernel
theorem dX8_measure_126 : decode cX8_measure 126 = .ok (.laload, 1) := by decide +kernel
theorem dX8_measure_127 : decode cX8_measure 127 = .ok (.aload_n 1, 1) := by decide +kernel
theorem dX8_measure_128 : decode cX8_measure 128 = .ok (.bipush 7, 2) := by decide +kernel
theorem dX8_measure_130 : decode cX8_measure 130 = .ok (.laload, 1) := by decide +kernel
theorem dX8_measure_131 : decode cX8_measure 131 = .ok (.lmul, 1) := by decide +kernel
theorem dX8_measure_132 : decode cX8_measure 132 = .ok (.aload_n 1, 1) := by decide +kernel
theorem dX8_measure_133 : decode cX8_measure 133 = .ok (.iconst 4, 1) := by decide +kernel
theorem dX8_measure_134 : decode cX8_measure 134 = .ok (.laload, 1) := by decide +kernel
theorem dX8_measure_135 : decode cX8_measure 135 = .ok (.aload_n 1, 1) := by decide +kernel
theorem dX8_measure_136 : decode cX8_measure 136 = .ok (.bipush 6, 2) := by decide +kernel
theorem dX8_measure_138 : decode cX8_measure 138 = .ok (.laload, 1) := by decide +kernel
theorem dX8_measure_139 : decode cX8_measure 139 = .ok (.lmul, 1) := by decide +kernel
theorem dX8_measure_140 : decode cX8_measure 140 = .ok (.lsub, 1) := by decide +kernel
theorem dX8_measure_141 : decode cX8_measure 141 = .ok (.lmul, 1) := by decide +kernel
theorem dX8_measure_142 : decode cX8_measure 142 = .ok (.ladd, 1) := by decide +kernel
theorem dX8_measure_143 : decode cX8_measure 143 = .ok (.lastore, 1) := by decide +kernel
theorem dX8_measure_144 : decode cX8_measure 144 = .ok (.aload_n 0, 1) := by decide +kernel
theorem dX8_measure_145 : decode cX8_measure 145 = .ok (.iconst 3, 1) := by decide +kernel
theorem dX8_measure_146 : decode cX8_measure 146 = .ok (.putfield 45, 3) := by decide +kernel
theorem dX8_measure_149 : decode cX8_measure 149 = .ok (.aload_n 0, 1) := by decide +kernel
theorem dX8_measure_150 : decode cX8_measure 150 = .ok (.getfield 45, 3) := by decide +kernel
theorem dX8_measure_153 : decode cX8_measure 153 = .ok (.ifCond .le 30, 3) := by decide +kernel
theorem dX8_measure_156 : decode cX8_measure 156 = .ok (.aload_n 0, 1) := by decide +kernel
theorem dX8_measure_157 : decode cX8_measure 157 = .ok (.getfield 21, 3) := by decide +kernel
theorem dX8_measure_160 : decode cX8_measure 160 = .ok (.aload_n 0, 1) := by decide +kernel
theorem dX8_measure_161 : decode cX8_measure 161 = .ok (.getfield 45, 3) := by decide +kernel
theorem dX8_measure_164 : decode cX8_measure 164 = .ok (.laload, 1) := by decide +kernel
theorem dX8_measure_165 : decode cX8_measure 165 = .ok (.lconst 0, 1) := by decide +kernel
theorem dX8_measure_166 : decode cX8_measure 166 = .ok (.lcmp, 1) := by decide +kernel
theorem dX8_measure_167 : decode cX8_measure 167 = .ok (.ifCond .ne 16, 3) := by decide +kernel
theorem dX8_measure_170 : decode cX8_measure 170 = .ok (.aload_n 0, 1) := by decide +kernel
theorem dX8_measure_171 : decode cX8_measure 171 = .ok (.dup, 1) := by decide +kernel
theorem dX8_measure_172 : decode cX8_measure 172 = .ok (.getfield 45, 3) := by decide +kernel
theorem dX8_measure_175 : decode cX8_measure 175 = .ok (.iconst 1, 1) := by decide +kernel
theorem dX8_measure_176 : decode cX8_measure 176 = .ok (.isub, 1) := by decide +kernel
theorem dX8_measure_177 : decode cX8_measure 177 = .ok (.putfield 45, 3) := by decide +kernel
theorem dX8_measure_180 : decode cX8_measure 180 = .ok (.goto (-31), 3) := by decide +kernel
theorem dX8_measure_183 : decode cX8_measure 183 = .ok (.return_, 1) := by decide +kernel
theorem dX8_solveFor_0 : decode cX8_solveFor 0 = .ok (.iconst 0, 1) := by decide +kernel
theorem dX8_solveFor_1 : decode cX8_solveFor 1 = .ok (.istore_n 3, 1) := by decide +kernel
theorem dX8_solveFor_2 : decode cX8_solveFor 2 = .ok (.iload_n 3, 1) := by decide +kernel
theorem dX8_solveFor_3 : decode cX8_solveFor 3 = .ok (.iconst 3, 1) := by decide +kernel
theorem dX8_solveFor_4 : decode cX8_solveFor 4 = .ok (.if_icmp .ge 26, 3) := by decide +kernel
theorem dX8_solveFor_7 : decode cX8_solveFor 7 = .ok (.aload_n 2, 1) := by decide +kernel
theorem dX8_solveFor_8 : decode cX8_solveFor 8 = .ok (.iload_n 3, 1) := by decide +kernel
theorem dX8_solveFor_9 : decode cX8_solveFor 9 = .ok (.aload_n 0, 1) := by decide +kernel
theorem dX8_solveFor_10 : decode cX8_solveFor 10 = .ok (.getfield 45, 3) := by decide +kernel
theorem dX8_solveFor_13 : decode cX8_solveFor 13 = .ok (.ifCond .ne 7, 3) := by decide +kernel
theorem dX8_solveFor_16 : decode cX8_solveFor 16 = .ok (.lconst 0, 1) := by decide +kernel
theorem dX8_solveFor_17 : decode cX8_solveFor 17 = .ok (.goto 6, 3) := by decide +kernel
theorem dX8_solveFor_20 : decode cX8_solveFor 20 = .ok (.aload_n 1, 1) := by decide +kernel
theorem dX8_solveFor_21 : decode cX8_solveFor 21 = .ok (.iload_n 3, 1) := by decide +kernel
theorem dX8_solveFor_22 : decode cX8_solveFor 22 = .ok (.laload, 1) := by decide +kernel
theorem dX8_solveFor_23 : decode cX8_solveFor 23 = .ok (.lastore, 1) := by decide +kernel
theorem dX8_solveFor_24 : decode cX8_solveFor 24 = .ok (.iinc 3 1, 3) := by decide +kernel
theorem dX8_solveFor_27 : decode cX8_solveFor 27 = .ok (.goto (-25), 3) := by decide +kernel
theorem dX8_solveFor_30 : decode cX8_solveFor 30 = .ok (.iconst 1, 1) := by decide +kernel
theorem dX8_solveFor_31 : decode cX8_solveFor 31 = .ok (.istore_n 3, 1) := by decide +kernel
theorem dX8_solveFor_32 : decode cX8_solveFor 32 = .ok (.iload_n 3, 1) := by decide +kernel
theorem dX8_solveFor_33 : decode cX8_solveFor 33 = .ok (.aload_n 0, 1) := by decide +kernel
theorem dX8_solveFor_34 : decode cX8_solveFor 34 = .ok (.getfield 45, 3) := by decide +kernel
theorem dX8_solveFor_37 : decode cX8_solveFor 37 = .ok (.if_icmp .ge 67, 3) := by decide +kernel
theorem dX8_solveFor_40 : decode cX8_solveFor 40 = .ok (.aload_n 2, 1) := by decide +kernel
theorem dX8_solveFor_41 : decode cX8_solveFor 41 = .ok (.iconst 0, 1) := by decide +kernel
theorem dX8_solveFor_42 : decode cX8_solveFor 42 = .ok (.laload, 1) := by decide +kernel
theorem dX8_solveFor_43 : decode cX8_solveFor 43 = .ok (.lstore 4, 2) := by decide +kernel
theorem dX8_solveFor_45 : decode cX8_solveFor 45 = .ok (.aload_n 2, 1) := by decide +kernel
theorem dX8_solveFor_46 : decode cX8_solveFor 46 = .ok (.iconst 1, 1) := by decide +kernel
theorem dX8_solveFor_47 : decode cX8_solveFor 47 = .ok (.laload, 1) := by decide +kernel
theorem dX8_solveFor_48 : decode cX8_solveFor 48 = .ok (.lstore 6, 2) := by decide +kernel
theorem dX8_solveFor_50 : decode cX8_solveFor 50 = .ok (.aload_n 2, 1) := by decide +kernel
theorem dX8_solveFor_51 : decode cX8_solveFor 51 = .ok (.iconst 2, 1) := by decide +kernel
theorem dX8_solveFor_52 : decode cX8_solveFor 52 = .ok (.laload, 1) := by decide +kernel
theorem dX8_solveFor_53 : decode cX8_solveFor 53 = .ok (.lstore 8, 2) := by decide +kernel
theorem dX8_solveFor_55 : decode cX8_solveFor 55 = .ok (.iconst 0, 1) := by decide +kernel
theorem dX8_solveFor_56 : decode cX8_solveFor 56 = .ok (.istore 10, 2) := by decide +kernel
theorem dX8_solveFor_58 : decode cX8_solveFor 58 = .ok (.iload 10, 2) := by decide +kernel
theorem dX8_solveFor_60 : decode cX8_solveFor 60 = .ok (.iconst 3, 1) := by decide +kernel
theorem dX8_solveFor_61 : decode cX8_solveFor 61 = .ok (.if_icmp .ge 37, 3) := by decide +kernel
theorem dX8_solveFor_64 : decode cX8_solveFor 64 = .ok (.aload_n 2, 1) := by decide +kernel
theorem dX8_solveFor_65 : decode cX8_solveFor 65 = .ok (.iload 10, 2) := by decide +kernel
theorem dX8_solveFor_67 : decode cX8_solveFor 67 = .ok (.aload_n 0, 1) := by decide +kernel
theorem dX8_solveFor_68 : decode cX8_solveFor 68 = .ok (.getfield 21, 3) := by decide +kernel
theorem dX8_solveFor_71 : decode cX8_solveFor 71 = .ok (.iload_n 3, 1) := by decide +kernel
theorem dX8_solveFor_72 : decode cX8_solveFor 72 = .ok (.laload, 1) := by decide +kernel
theorem dX8_solveFor_73 : decode cX8_solveFor 73 = .ok (.aload_n 1, 1) := by decide +kernel
theorem dX8_solveFor_74 : decode cX8_solveFor 74 = .ok (.iload 10, 2) := by decide +kernel
theorem dX8_solveFor_76 : decode cX8_solveFor 76 = .ok (.laload, 1) := by decide +kernel
theorem dX8_solveFor_77 : decode cX8_solveFor 77 = .ok (.lmul, 1) := by decide +kernel
theorem dX8_solveFor_78 : decode cX8_solveFor 78 = .ok (.aload_n 0, 1) := by decide +kernel
theorem dX8_solveFor_79 : decode cX8_solveFor 79 = .ok (.iload 10, 2) := by decide +kernel
theorem dX8_solveFor_81 : decode cX8_solveFor 81 = .ok (.lload 4, 2) := by decide +kernel
theorem dX8_solveFor_83 : decode cX8_solveFor 83 = .ok (.lload 6, 2) := by decide +kernel
theorem dX8_solveFor_85 : decode cX8_solveFor 85 = .ok (.lload 8, 2) := by decide +kernel
theorem dX8_solveFor_87 : decode cX8_solveFor 87 = .ok (.invokevirtual 49, 3) := by decide +kernel
theorem dX8_solveFor_90 : decode cX8_solveFor 90 = .ok (.lsub, 1) := by decide +kernel
theorem dX8_solveFor_91 : decode cX8_solveFor 91 = .ok (.lastore, 1) := by decide +kernel
theorem dX8_solveFor_92 : decode cX8_solveFor 92 = .ok (.iinc 10 1, 3) := by decide +kernel
theorem dX8_solveFor_95 : decode cX8_solveFor 95 = .ok (.goto (-37), 3) := by decide +kernel
theorem dX8_solveFor_98 : decode cX8_solveFor 98 = .ok (.iinc 3 1, 3) := by decide +kernel
theorem dX8_solveFor_101 : decode cX8_solveFor 101 = .ok (.goto (-69), 3) := by decide +kernel
theorem dX8_solveFor_104 : decode cX8_solveFor 104 = .ok (.return_, 1) := by decide +kernel
theorem dX8_rowProduct_0 : decode cX8_rowProduct 0 = .ok (.iload_n 1, 1) := by decide +kernel
theorem dX8_rowProduct_1 : decode cX8_rowProduct 1 = .ok (.iconst 3, 1) := by decide +kernel
theorem dX8_rowProduct_2 : decode cX8_rowProduct 2 = .ok (.imul, 1) := by decide +kernel
theorem dX8_rowProduct_3 : decode cX8_rowProduct 3 = .ok (.istore 8, 2) := by decide +kernel
theorem dX8_rowProduct_5 : decode cX8_rowProduct 5 = .ok (.aload_n 0, 1) := by decide +kernel
theorem dX8_rowProduct_6 : decode cX8_rowProduct 6 = .ok (.getfield 9, 3) := by decide +kernel
theorem dX8_rowProduct_9 : decode cX8_rowProduct 9 = .ok (.iload 8, 2) := by decide +kernel
theorem dX8_rowProduct_11 : decode cX8_rowProduct 11 = .ok (.laload, 1) := by decide +kernel
theorem dX8_rowProduct_12 : decode cX8_rowProduct 12 = .ok (.lload_n 2, 1) := by decide +kernel
theorem dX8_rowProduct_13 : decode cX8_rowProduct 13 = .ok (.lmul, 1) := by decide +kernel
theorem dX8_rowProduct_14 : decode cX8_rowProduct 14 = .ok (.aload_n 0, 1) := by decide +kernel
theorem dX8_rowProduct_15 : decode cX8_rowProduct 15 = .ok (.getfield 9, 3) := by decide +kernel
theorem dX8_rowProduct_18 : decode cX8_rowProduct 18 = .ok (.iload 8, 2) := by decide +kernel
theorem dX8_rowProduct_20 : decode cX8_rowProduct 20 = .ok (.iconst 1, 1) := by decide +kernel
theorem dX8_rowProduct_21 : decode cX8_rowProduct 21 = .ok (.iadd, 1) := by decide +kernel
theorem dX8_rowProduct_22 : decode cX8_rowProduct 22 = .ok (.laload, 1) := by decide +kernel
theorem dX8_rowProduct_23 : decode cX8_rowProduct 23 = .ok (.lload 4, 2) := by decide +kernel
theorem dX8_rowProduct_25 : decode cX8_rowProduct 25 = .ok (.lmul, 1) := by decide +kernel
theorem dX8_rowProduct_26 : decode cX8_rowProduct 26 = .ok (.ladd, 1) := by decide +kernel
theorem dX8_rowProduct_27 : decode cX8_rowProduct 27 = .ok (.aload_n 0, 1) := by decide +kernel
theorem dX8_rowProduct_28 : decode cX8_rowProduct 28 = .ok (.getfield 9, 3) := by decide +kernel
theorem dX8_rowProduct_31 : decode cX8_rowProduct 31 = .ok (.iload 8, 2) := by decide +kernel
theorem dX8_rowProduct_33 : decode cX8_rowProduct 33 = .ok (.iconst 2, 1) := by decide +kernel
theorem dX8_rowProduct_34 : decode cX8_rowProduct 34 = .ok (.iadd, 1) := by decide +kernel
theorem dX8_rowProduct_35 : decode cX8_rowProduct 35 = .ok (.laload, 1) := by decide +kernel
theorem dX8_rowProduct_36 : decode cX8_rowProduct 36 = .ok (.lload 6, 2) := by decide +kernel
theorem dX8_rowProduct_38 : decode cX8_rowProduct 38 = .ok (.lmul, 1) := by decide +kernel
theorem dX8_rowProduct_39 : decode cX8_rowProduct 39 = .ok (.ladd, 1) := by decide +kernel
theorem dX8_rowProduct_40 : decode cX8_rowProduct 40 = .ok (.lreturn, 1) := by decide +kernel
theorem dX8_bottom_0 : decode cX8_bottom 0 = .ok (.aload_n 0, 1) := by decide +kernel
theorem dX8_bottom_1 : decode cX8_bottom 1 = .ok (.getfield 21, 3) := by decide +kernel
theorem dX8_bottom_4 : decode cX8_bottom 4 = .ok (.aload_n 0, 1) := by decide +kernel
theorem dX8_bottom_5 : decode cX8_bottom 5 = .ok (.getfield 45, 3) := by decide +kernel
theorem dX8_bottom_8 : decode cX8_bottom 8 = .ok (.laload, 1) := by decide +kernel
theorem dX8_bottom_9 : decode cX8_bottom 9 = .ok (.lreturn, 1) := by decide +kernel
theorem dX8_leftTop_0 : decode cX8_leftTop 0 = .ok (.aload_n 0, 1) := by decide +kernel
theorem dX8_leftTop_1 : decode cX8_leftTop 1 = .ok (.getfield 24, 3) := by decide +kernel
theorem dX8_leftTop_4 : decode cX8_leftTop 4 = .ok (.aload_n 0, 1) := by decide +kernel
theorem dX8_leftTop_5 : decode cX8_leftTop 5 = .ok (.invokevirtual 53, 3) := by decide +kernel
theorem dX8_leftTop_8 : decode cX8_leftTop 8 = .ok (.lmul, 1) := by decide +kernel
theorem dX8_leftTop_9 : decode cX8_leftTop 9 = .ok (.aload_n 0, 1) := by decide +kernel
theorem dX8_leftTop_10 : decode cX8_leftTop 10 = .ok (.getfield 15, 3) := by decide +kernel
theorem dX8_leftTop_13 : decode cX8_leftTop 13 = .ok (.aload_n 0, 1) := by decide +kernel
theorem dX8_leftTop_14 : decode cX8_leftTop 14 = .ok (.getfield 18, 3) := by decide +kernel
theorem dX8_leftTop_17 : decode cX8_leftTop 17 = .ok (.invokestatic 57, 3) := by decide +kernel
theorem dX8_leftTop_20 : decode cX8_leftTop 20 = .ok (.lsub, 1) := by decide +kernel
theorem dX8_leftTop_21 : decode cX8_leftTop 21 = .ok (.lreturn, 1) := by decide +kernel
theorem dX9_init_0 : decode cX9_init 0 = .ok (.aload_n 0, 1) := by decide +kernel
theorem dX9_init_1 : decode cX9_init 1 = .ok (.invokespecial 3, 3) := by decide +kernel
theorem dX9_init_4 : decode cX9_init 4 = .ok (.aload_n 0, 1) := by decide +kernel
theorem dX9_init_5 : decode cX9_init 5 = .ok (.bipush 72, 2) := by decide +kernel
theorem dX9_init_7 : decode cX9_init 7 = .ok (.newarray .int, 2) := by decide +kernel
theorem dX9_init_9 : decode cX9_init 9 = .ok (.putfield 9, 3) := by decide +kernel
theorem dX9_init_12 : decode cX9_init 12 = .ok (.aload_n 0, 1) := by decide +kernel
theorem dX9_init_13 : decode cX9_init 13 = .ok (.bipush 24, 2) := by decide +kernel
theorem dX9_init_15 : decode cX9_init 15 = .ok (.newarray .int, 2) := by decide +kernel
theorem dX9_init_17 : decode cX9_init 17 = .ok (.putfield 15, 3) := by decide +kernel
theorem dX9_init_20 : decode cX9_init 20 = .ok (.aload_n 0, 1) := by decide +kernel
theorem dX9_init_21 : decode cX9_init 21 = .ok (.bipush 24, 2) := by decide +kernel
theorem dX9_init_23 : decode cX9_init 23 = .ok (.newarray .boolean, 2) := by decide +kernel
theorem dX9_init_25 : decode cX9_init 25 = .ok (.putfield 18, 3) := by decide +kernel
theorem dX9_init_28 : decode cX9_init 28 = .ok (.aload_n 0, 1) := by decide +kernel
theorem dX9_init_29 : decode cX9_init 29 = .ok (.iconst 1, 1) := by decide +kernel
theorem dX9_init_30 : decode cX9_init 30 = .ok (.putfield 22, 3) := by decide +kernel
theorem dX9_init_33 : decode cX9_init 33 = .ok (.return_, 1) := by decide +kernel
theorem dX9_clear_0 : decode cX9_clear 0 = .ok (.aload_n 0, 1) := by decide +kernel
theorem dX9_clear_1 : decode cX9_clear 1 = .ok (.iload_n 1, 1) := by decide +kernel
theorem dX9_clear_2 : decode cX9_clear 2 = .ok (.putfield 22, 3) := by decide +kernel
theorem dX9_clear_5 : decode cX9_clear 5 = .ok (.aload_n 0, 1) := by decide +kernel
theorem dX9_clear_6 : decode cX9_clear 6 = .ok (.iconst 0, 1) := by decide +kernel
theorem dX9_clear_7 : decode cX9_clear 7 = .ok (.putfield 26, 3) := by decide +kernel
theorem dX9_clear_10 : decode cX9_clear 10 = .ok (.aload_n 0, 1) := by decide +kernel
theorem dX9_clear_11 : decode cX9_clear 11 = .ok (.iconst 0, 1) := by decide +kernel
theorem dX9_clear_12 : decode cX9_clear 12 = .ok (.putfield 29, 3) := by decide +kernel
theorem dX9_clear_15 : decode cX9_clear 15 = .ok (.return_, 1) := by decide +kernel
theorem dX9_has_0 : decode cX9_has 0 = .ok (.iload_n 1, 1) := by decide +kernel
theorem dX9_has_1 : decode cX9_has 1 = .ok (.ifCond .lt 15, 3) := by decide +kernel
theorem dX9_has_4 : decode cX9_has 4 = .ok (.iload_n 1, 1) := by decide +kernel
theorem dX9_has_5 : decode cX9_has 5 = .ok (.aload_n 0, 1) := by decide +kernel
theorem dX9_has_6 : decode cX9_has 6 = .ok (.getfield 26, 3) := by decide +kernel
theorem dX9_has_9 : decode cX9_has 9 = .ok (.if_icmp .ge 7, 3) := by decide +kernel
theorem dX9_has_12 : decode cX9_has 12 = .ok (.iconst 1, 1) := by decide +kernel
theorem dX9_has_13 : decode cX9_has 13 = .ok (.goto 4, 3) := by decide +kernel
theorem dX9_has_16 : decode cX9_has 16 = .ok (.iconst 0, 1) := by decide +kernel
theorem dX9_has_17 : decode cX9_has 17 = .ok (.ireturn, 1) := by decide +kernel
theorem dX9_hasColumn_0 : decode cX9_hasColumn 0 = .ok (.iload_n 1, 1) := by decide +kernel
theorem dX9_hasColumn_1 : decode cX9_hasColumn 1 = .ok (.ifCond .lt 15, 3) := by decide +kernel
theorem dX9_hasColumn_4 : decode cX9_hasColumn 4 = .ok (.iload_n 1, 1) := by decide +kernel
theorem dX9_hasColumn_5 : decode cX9_hasColumn 5 = .ok (.aload_n 0, 1) := by decide +kernel
theorem dX9_hasColumn_6 : decode cX9_hasColumn 6 = .ok (.getfield 22, 3) := by decide +kernel
theorem dX9_hasColumn_9 : decode cX9_hasColumn 9 = .ok (.if_icmp .ge 7, 3) := by decide +kernel
theorem dX9_hasColumn_12 : decode cX9_hasColumn 12 = .ok (.iconst 1, 1) := by decide +kernel
theorem dX9_hasColumn_13 : decode cX9_hasColumn 13 = .ok (.goto 4, 3) := by decide +kernel
theorem dX9_hasColumn_16 : decode cX9_hasColumn 16 = .ok (.iconst 0, 1) := by decide +kernel
theorem dX9_hasColumn_17 : decode cX9_hasColumn 17 = .ok (.ireturn, 1) := by decide +kernel
theorem dX9_keeps_0 : decode cX9_keeps 0 = .ok (.aload_n 0, 1) := by decide +kernel
theorem dX9_keeps_1 : decode cX9_keeps 1 = .ok (.iload_n 1, 1) := by decide +kernel
theorem dX9_keeps_2 : decode cX9_keeps 2 = .ok (.invokevirtual 32, 3) := by decide +kernel
theorem dX9_keeps_5 : decode cX9_keeps 5 = .ok (.ifCond .eq 16, 3) := by decide +kernel
theorem dX9_keeps_8 : decode cX9_keeps 8 = .ok (.aload_n 0, 1) := by decide +kernel
theorem dX9_keeps_9 : decode cX9_keeps 9 = .ok (.getfield 18, 3) := by decide +kernel
theorem dX9_keeps_12 : decode cX9_keeps 12 = .ok (.iload_n 1, 1) := by decide +kernel
theorem dX9_keeps_13 : decode cX9_keeps 13 = .ok (.baload, 1) := by decide +kernel
theorem dX9_keeps_14 : decode cX9_keeps 14 = .ok (.ifCond .eq 7, 3) := by decide +kernel
theorem dX9_keeps_17 : decode cX9_keeps 17 = .ok (.iconst 1, 1) := by decide +kernel
theorem dX9_keeps_18 : decode cX9_keeps 18 = .ok (.goto 4, 3) := by decide +kernel
theorem dX9_keeps_21 : decode cX9_keeps 21 = .ok (.iconst 0, 1) := by decide +kernel
theorem dX9_keeps_22 : decode cX9_keeps 22 = .ok (.ireturn, 1) := by decide +kernel
theorem dX9_keep_0 : decode cX9_keep 0 = .ok (.aload_n 0, 1) := by decide +kernel
theorem dX9_keep_1 : decode cX9_keep 1 = .ok (.getfield 18, 3) := by decide +kernel
theorem dX9_keep_4 : decode cX9_keep 4 = .ok (.iload_n 1, 1) := by decide +kernel
theorem dX9_keep_5 : decode cX9_keep 5 = .ok (.iload_n 2, 1) := by decide +kernel
theorem dX9_keep_6 : decode cX9_keep 6 = .ok (.bastore, 1) := by decide +kernel
theorem dX9_keep_7 : decode cX9_keep 7 = .ok (.aload_n 0, 1) := by decide +kernel
theorem dX9_keep_8 : decode cX9_keep 8 = .ok (.dup, 1) := by decide +kernel
theorem dX9_keep_9 : decode cX9_keep 9 = .ok (.getfield 29, 3) := by decide +kernel
theorem dX9_keep_12 : decode cX9_keep 12 = .ok (.iload_n 2, 1) := by decide +kernel
theorem dX9_keep_13 : decode cX9_keep 13 = .ok (.ifCond .eq 7, 3) := by decide +kernel
theorem dX9_keep_16 : decode cX9_keep 16 = .ok (.iconst 1, 1) := by decide +kernel
theorem dX9_keep_17 : decode cX9_keep 17 = .ok (.goto 4, 3) := by decide +kernel
theorem dX9_keep_20 : decode cX9_keep 20 = .ok (.iconst (-1), 1) := by decide +kernel
theorem dX9_keep_21 : decode cX9_keep 21 = .ok (.iadd, 1) := by decide +kernel
theorem dX9_keep_22 : decode cX9_keep 22 = .ok (.putfield 29, 3) := by decide +kernel
theorem dX9_keep_25 : decode cX9_keep 25 = .ok (.return_, 1) := by decide +kernel
theorem dX9_number_0 : decode cX9_number 0 = .ok (.aload_n 0, 1) := by decide +kernel
theorem dX9_number_1 : decode cX9_number 1 = .ok (.getfield 9, 3) := by decide +kernel
theorem dX9_number_4 : decode cX9_number 4 = .ok (.iload_n 1, 1) := by decide +kernel
theorem dX9_number_5 : decode cX9_number 5 = .ok (.iconst 3, 1) := by decide +kernel
theorem dX9_number_6 : decode cX9_number 6 = .ok (.imul, 1) := by decide +kernel
theorem dX9_number_7 : decode cX9_number 7 = .ok (.iload_n 2, 1) := by decide +kernel
theorem dX9_number_8 : decode cX9_number 8 = .ok (.iadd, 1) := by decide +kernel
theorem dX9_number_9 : decode cX9_number 9 = .ok (.iaload, 1) := by decide +kernel
theorem dX9_number_10 : decode cX9_number 10 = .ok (.ireturn, 1) := by decide +kernel
theorem dX9_copyNumbers_0 : decode cX9_copyNumbers 0 = .ok (.iconst 0, 1) := by decide +kernel
theorem dX9_copyNumbers_1 : decode cX9_copyNumbers 1 = .ok (.istore_n 3, 1) := by decide +kernel
theorem dX9_copyNumbers_2 : decode cX9_copyNumbers 2 = .ok (.iload_n 3, 1) := by decide +kernel
theorem dX9_copyNumbers_3 : decode cX9_copyNumbers 3 = .ok (.iconst 3, 1) := by decide +kernel
theorem dX9_copyNumbers_4 : decode cX9_copyNumbers 4 = .ok (.if_icmp .ge 19, 3) := by decide +kernel
theorem dX9_copyNumbers_7 : decode cX9_copyNumbers 7 = .ok (.aload_n 2, 1) := by decide +kernel
theorem dX9_copyNumbers_8 : decode cX9_copyNumbers 8 = .ok (.iload_n 3, 1) := by decide +kernel
theorem dX9_copyNumbers_9 : decode cX9_copyNumbers 9 = .ok (.aload_n 0, 1) := by decide +kernel
theorem dX9_copyNumbers_10 : decode cX9_copyNumbers 10 = .ok (.iload_n 1, 1) := by decide +kernel
theorem dX9_copyNumbers_11 : decode cX9_copyNumbers 11 = .ok (.iload_n 3, 1) := by decide +kernel
theorem dX9_copyNumbers_12 : decode cX9_copyNumbers 12 = .ok (.invokevirtual 36, 3) := by decide +kernel
theorem dX9_copyNumbers_15 : decode cX9_copyNumbers 15 = .ok (.i2l, 1) := by decide +kernel
theorem dX9_copyNumbers_16 : decode cX9_copyNumbers 16 = .ok (.lastore, 1) := by decide +kernel
theorem dX9_copyNumbers_17 : decode cX9_copyNumbers 17 = .ok (.iinc 3 1, 3) := by decide +kernel
theorem dX9_copyNumbers_20 : decode cX9_copyNumbers 20 = .ok (.goto (-18), 3) := by decide +kernel
theorem dX9_copyNumbers_23 : decode cX9_copyNumbers 23 = .ok (.return_, 1) := by decide +kernel
theorem dX9_add_0 : decode cX9_add 0 = .ok (.aload_n 0, 1) := by decide +kernel
theorem dX9_add_1 : decode cX9_add 1 = .ok (.getfield 22, 3) := by decide +kernel
theorem dX9_add_4 : decode cX9_add 4 = .ok (.iconst 1, 1) := by decide +kernel
theorem dX9_add_5 : decode cX9_add 5 = .ok (.if_icmp .le 7, 3) := by decide +kernel
theorem dX9_add_8 : decode cX9_add 8 = .ok (.iload_n 3, 1) := by decide +kernel
theorem dX9_add_9 : decode cX9_add 9 = .ok (.goto 4, 3) := by decide +kernel
theorem dX9_add_12 : decode cX9_add 12 = .ok (.iconst 0, 1) := by decide +kernel
theorem dX9_add_13 : decode cX9_add 13 = .ok (.istore 5, 2) := by decide +kernel
theorem dX9_add_15 : decode cX9_add 15 = .ok (.aload_n 0, 1) := by decide +kernel
theorem dX9_add_16 : decode cX9_add 16 = .ok (.getfield 22, 3) := by decide +kernel
theorem dX9_add_19 : decode cX9_add 19 = .ok (.iconst 2, 1) := by decide +kernel
theorem dX9_add_20 : decode cX9_add 20 = .ok (.if_icmp .le 8, 3) := by decide +kernel
theorem dX9_add_23 : decode cX9_add 23 = .ok (.iload 4, 2) := by decide +kernel
theorem dX9_add_25 : decode cX9_add 25 = .ok (.goto 4, 3) := by decide +kernel
theorem dX9_add_28 : decode cX9_add 28 = .ok (.iconst 0, 1) := by decide +kernel
theorem dX9_add_29 : decode cX9_add 29 = .ok (.istore 6, 2) := by decide +kernel
theorem dX9_add_31 : decode cX9_add 31 = .ok (.iload_n 1, 1) := by decide +kernel
theorem dX9_add_32 : decode cX9_add 32 = .ok (.bipush 99, 2) := by decide +kernel
theorem dX9_add_34 : decode cX9_add 34 = .ok (.invokestatic 40, 3) := by decide +kernel
theorem dX9_add_37 : decode cX9_add 37 = .ok (.ifCond .eq 36, 3) := by decide +kernel
theorem dX9_add_40 : decode cX9_add 40 = .ok (.iload_n 2, 1) := by decide +kernel
theorem dX9_add_41 : decode cX9_add 41 = .ok (.bipush 9, 2) := by decide +kernel
theorem dX9_add_43 : decode cX9_add 43 = .ok (.invokestatic 40, 3) := by decide +kernel
theorem dX9_add_46 : decode cX9_add 46 = .ok (.ifCond .eq 27, 3) := by decide +kernel
theorem dX9_add_49 : decode cX9_add 49 = .ok (.iload 5, 2) := by decide +kernel
theorem dX9_add_51 : decode cX9_add 51 = .ok (.bipush 9, 2) := by decide +kernel
theorem dX9_add_53 : decode cX9_add 53 = .ok (.invokestatic 40, 3) := by decide +kernel
theorem dX9_add_56 : decode cX9_add 56 = .ok (.ifCond .eq 17, 3) := by decide +kernel
theorem dX9_add_59 : decode cX9_add 59 = .ok (.iload 6, 2) := by decide +kernel
theorem dX9_add_61 : decode cX9_add 61 = .ok (.bipush 9, 2) := by decide +kernel
theorem dX9_add_63 : decode cX9_add 63 = .ok (.invokestatic 40, 3) := by decide +kernel
theorem dX9_add_66 : decode cX9_add 66 = .ok (.ifCond .eq 7, 3) := by decide +kernel
theorem dX9_add_69 : decode cX9_add 69 = .ok (.iconst 1, 1) := by decide +kernel
theorem dX9_add_70 : decode cX9_add 70 = .ok (.goto 4, 3) := by decide +kernel
theorem dX9_add_73 : decode cX9_add 73 = .ok (.iconst 0, 1) := by decide +kernel
theorem dX9_add_74 : decode cX9_add 74 = .ok (.istore 7, 2) := by decide +kernel
theorem dX9_add_76 : decode cX9_add 76 = .ok (.aload_n 0, 1) := by decide +kernel
theorem dX9_add_77 : decode cX9_add 77 = .ok (.getfield 26, 3) := by decide +kernel
theorem dX9_add_80 : decode cX9_add 80 = .ok (.bipush 24, 2) := by decide +kernel
theorem dX9_add_82 : decode cX9_add 82 = .ok (.if_icmp .ge 8, 3) := by decide +kernel
theorem dX9_add_85 : decode cX9_add 85 = .ok (.iload 7, 2) := by decide +kernel
theorem dX9_add_87 : decode cX9_add 87 = .ok (.ifCond .ne 5, 3) := by decide +kernel
theorem dX9_add_90 : decode cX9_add 90 = .ok (.iconst (-1), 1) := by decide +kernel
theorem dX9_add_91 : decode cX9_add 91 = .ok (.ireturn, 1) := by decide +kernel
theorem dX9_add_92 : decode cX9_add 92 = .ok (.aload_n 0, 1) := by decide +kernel
theorem dX9_add_93 : decode cX9_add 93 = .ok (.getfield 26, 3) := by decide +kernel
theorem dX9_add_96 : decode cX9_add 96 = .ok (.iconst 3, 1) := by decide +kernel
theorem dX9_add_97 : decode cX9_add 97 = .ok (.imul, 1) := by decide +kernel
theorem dX9_add_98 : decode cX9_add 98 = .ok (.istore 8, 2) := by decide +kernel
theorem dX9_add_100 : decode cX9_add 100 = .ok (.aload_n 0, 1) := by decide +kernel
theorem dX9_add_101 : decode cX9_add 101 = .ok (.getfield 9, 3) := by decide +kernel
theorem dX9_add_104 : decode cX9_add 104 = .ok (.iload 8, 2) := by decide +kernel
theorem dX9_add_106 : decode cX9_add 106 = .ok (.iload_n 2, 1) := by decide +kernel
theorem dX9_add_107 : decode cX9_add 107 = .ok (.iastore, 1) := by decide +kernel
theorem dX9_add_108 : decode cX9_add 108 = .ok (.aload_n 0, 1) := by decide +kernel
theorem dX9_add_109 : decode cX9_add 109 = .ok (.getfield 9, 3) := by decide +kernel
theorem dX9_add_112 : decode cX9_add 112 = .ok (.iload 8, 2) := by decide +kernel
theorem dX9_add_114 : decode cX9_add 114 = .ok (.iconst 1, 1) := by decide +kernel
theorem dX9_add_115 : decode cX9_add 115 = .ok (.iadd, 1) := by decide +kernel
theorem dX9_add_116 : decode cX9_add 116 = .ok (.iload 5, 2) := by decide +kernel
theorem dX9_add_118 : decode cX9_add 118 = .ok (.iastore, 1) := by decide +kernel
theorem dX9_add_119 : decode cX9_add 119 = .ok (.aload_n 0, 1) := by decide +kernel
theorem dX9_add_120 : decode cX9_add 120 = .ok (.getfield 9, 3) := by decide +kernel
