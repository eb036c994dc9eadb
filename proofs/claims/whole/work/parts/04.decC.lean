theorem dX0_init_0 : decode cX0_init 0 = .ok (.aload_n 0, 1) := by decide +kernel
theorem dX0_init_1 : decode cX0_init 1 = .ok (.invokespecial 3, 3) := by decide +kernel
theorem dX0_init_4 : decode cX0_init 4 = .ok (.aload_n 0, 1) := by decide +kernel
theorem dX0_init_5 : decode cX0_init 5 = .ok (.bipush 8, 2) := by decide +kernel
theorem dX0_init_7 : decode cX0_init 7 = .ok (.newarray .int, 2) := by decide +kernel
theorem dX0_init_9 : decode cX0_init 9 = .ok (.putfield 9, 3) := by decide +kernel
theorem dX0_init_12 : decode cX0_init 12 = .ok (.aload_n 0, 1) := by decide +kernel
theorem dX0_init_13 : decode cX0_init 13 = .ok (.bipush 8, 2) := by decide +kernel
theorem dX0_init_15 : decode cX0_init 15 = .ok (.newarray .int, 2) := by decide +kernel
theorem dX0_init_17 : decode cX0_init 17 = .ok (.putfield 15, 3) := by decide +kernel
theorem dX0_init_20 : decode cX0_init 20 = .ok (.aload_n 0, 1) := by decide +kernel
theorem dX0_init_21 : decode cX0_init 21 = .ok (.bipush 8, 2) := by decide +kernel
theorem dX0_init_23 : decode cX0_init 23 = .ok (.newarray .int, 2) := by decide +kernel
theorem dX0_init_25 : decode cX0_init 25 = .ok (.putfield 18, 3) := by decide +kernel
theorem dX0_init_28 : decode cX0_init 28 = .ok (.aload_n 0, 1) := by decide +kernel
theorem dX0_init_29 : decode cX0_init 29 = .ok (.bipush 8, 2) := by decide +kernel
theorem dX0_init_31 : decode cX0_init 31 = .ok (.newarray .int, 2) := by decide +kernel
theorem dX0_init_33 : decode cX0_init 33 = .ok (.putfield 21, 3) := by decide +kernel
theorem dX0_init_36 : decode cX0_init 36 = .ok (.aload_n 0, 1) := by decide +kernel
theorem dX0_init_37 : decode cX0_init 37 = .ok (.bipush 8, 2) := by decide +kernel
theorem dX0_init_39 : decode cX0_init 39 = .ok (.newarray .int, 2) := by decide +kernel
theorem dX0_init_41 : decode cX0_init 41 = .ok (.putfield 24, 3) := by decide +kernel
theorem dX0_init_44 : decode cX0_init 44 = .ok (.aload_n 0, 1) := by decide +kernel
theorem dX0_init_45 : decode cX0_init 45 = .ok (.bipush 8, 2) := by decide +kernel
theorem dX0_init_47 : decode cX0_init 47 = .ok (.newarray .int, 2) := by decide +kernel
theorem dX0_init_49 : decode cX0_init 49 = .ok (.putfield 27, 3) := by decide +kernel
theorem dX0_init_52 : decode cX0_init 52 = .ok (.aload_n 0, 1) := by decide +kernel
theorem dX0_init_53 : decode cX0_init 53 = .ok (.bipush 6, 2) := by decide +kernel
theorem dX0_init_55 : decode cX0_init 55 = .ok (.newarray .int, 2) := by decide +kernel
theorem dX0_init_57 : decode cX0_init 57 = .ok (.putfield 30, 3) := by decide +kernel
theorem dX0_init_60 : decode cX0_init 60 = .ok (.aload_n 0, 1) := by decide +kernel
theorem dX0_init_61 : decode cX0_init 61 = .ok (.aload_n 1, 1) := by decide +kernel
theorem dX0_init_62 : decode cX0_init 62 = .ok (.putfield 33, 3) := by decide +kernel
theorem dX0_init_65 : decode cX0_init 65 = .ok (.aload_n 0, 1) := by decide +kernel
theorem dX0_init_66 : decode cX0_init 66 = .ok (.aload_n 2, 1) := by decide +kernel
theorem dX0_init_67 : decode cX0_init 67 = .ok (.putfield 37, 3) := by decide +kernel
theorem dX0_init_70 : decode cX0_init 70 = .ok (.aload_n 0, 1) := by decide +kernel
theorem dX0_init_71 : decode cX0_init 71 = .ok (.aload_n 2, 1) := by decide +kernel
theorem dX0_init_72 : decode cX0_init 72 = .ok (.getfield 41, 3) := by decide +kernel
theorem dX0_init_75 : decode cX0_init 75 = .ok (.putfield 47, 3) := by decide +kernel
theorem dX0_init_78 : decode cX0_init 78 = .ok (.return_, 1) := by decide +kernel
theorem dX0_run_0 : decode cX0_run 0 = .ok (.aload_n 0, 1) := by decide +kernel
theorem dX0_run_1 : decode cX0_run 1 = .ok (.aload_n 1, 1) := by decide +kernel
theorem dX0_run_2 : decode cX0_run 2 = .ok (.putfield 33, 3) := by decide +kernel
theorem dX0_run_5 : decode cX0_run 5 = .ok (.aload_n 0, 1) := by decide +kernel
theorem dX0_run_6 : decode cX0_run 6 = .ok (.iload_n 2, 1) := by decide +kernel
theorem dX0_run_7 : decode cX0_run 7 = .ok (.invokevirtual 50, 3) := by decide +kernel
theorem dX0_run_10 : decode cX0_run 10 = .ok (.iconst 0, 1) := by decide +kernel
theorem dX0_run_11 : decode cX0_run 11 = .ok (.istore 4, 2) := by decide +kernel
theorem dX0_run_13 : decode cX0_run 13 = .ok (.iload 4, 2) := by decide +kernel
theorem dX0_run_15 : decode cX0_run 15 = .ok (.iload_n 3, 1) := by decide +kernel
theorem dX0_run_16 : decode cX0_run 16 = .ok (.if_icmp .gt 57, 3) := by decide +kernel
theorem dX0_run_19 : decode cX0_run 19 = .ok (.aload_n 0, 1) := by decide +kernel
theorem dX0_run_20 : decode cX0_run 20 = .ok (.iload 4, 2) := by decide +kernel
theorem dX0_run_22 : decode cX0_run 22 = .ok (.invokevirtual 54, 3) := by decide +kernel
theorem dX0_run_25 : decode cX0_run 25 = .ok (.iload 4, 2) := by decide +kernel
theorem dX0_run_27 : decode cX0_run 27 = .ok (.aload_n 0, 1) := by decide +kernel
theorem dX0_run_28 : decode cX0_run 28 = .ok (.getfield 33, 3) := by decide +kernel
theorem dX0_run_31 : decode cX0_run 31 = .ok (.getfield 57, 3) := by decide +kernel
theorem dX0_run_34 : decode cX0_run 34 = .ok (.if_icmp .ne 9, 3) := by decide +kernel
theorem dX0_run_37 : decode cX0_run 37 = .ok (.aload_n 0, 1) := by decide +kernel
theorem dX0_run_38 : decode cX0_run 38 = .ok (.iload 4, 2) := by decide +kernel
theorem dX0_run_40 : decode cX0_run 40 = .ok (.invokevirtual 63, 3) := by decide +kernel
theorem dX0_run_43 : decode cX0_run 43 = .ok (.aload_n 0, 1) := by decide +kernel
theorem dX0_run_44 : decode cX0_run 44 = .ok (.iload 4, 2) := by decide +kernel
theorem dX0_run_46 : decode cX0_run 46 = .ok (.invokevirtual 66, 3) := by decide +kernel
theorem dX0_run_49 : decode cX0_run 49 = .ok (.aload_n 0, 1) := by decide +kernel
theorem dX0_run_50 : decode cX0_run 50 = .ok (.iload 4, 2) := by decide +kernel
theorem dX0_run_52 : decode cX0_run 52 = .ok (.invokevirtual 69, 3) := by decide +kernel
theorem dX0_run_55 : decode cX0_run 55 = .ok (.iload 4, 2) := by decide +kernel
theorem dX0_run_57 : decode cX0_run 57 = .ok (.iconst 1, 1) := by decide +kernel
theorem dX0_run_58 : decode cX0_run 58 = .ok (.iadd, 1) := by decide +kernel
theorem dX0_run_59 : decode cX0_run 59 = .ok (.aload_n 0, 1) := by decide +kernel
theorem dX0_run_60 : decode cX0_run 60 = .ok (.iload 4, 2) := by decide +kernel
theorem dX0_run_62 : decode cX0_run 62 = .ok (.invokevirtual 72, 3) := by decide +kernel
theorem dX0_run_65 : decode cX0_run 65 = .ok (.invokestatic 76, 3) := by decide +kernel
theorem dX0_run_68 : decode cX0_run 68 = .ok (.istore 4, 2) := by decide +kernel
theorem dX0_run_70 : decode cX0_run 70 = .ok (.goto (-57), 3) := by decide +kernel
theorem dX0_run_73 : decode cX0_run 73 = .ok (.aload_n 0, 1) := by decide +kernel
theorem dX0_run_74 : decode cX0_run 74 = .ok (.invokevirtual 82, 3) := by decide +kernel
theorem dX0_run_77 : decode cX0_run 77 = .ok (.ireturn, 1) := by decide +kernel
theorem dX0_coinInAll_0 : decode cX0_coinInAll 0 = .ok (.iconst 0, 1) := by decide +kernel
theorem dX0_coinInAll_1 : decode cX0_coinInAll 1 = .ok (.istore_n 1, 1) := by decide +kernel
theorem dX0_coinInAll_2 : decode cX0_coinInAll 2 = .ok (.iconst 0, 1) := by decide +kernel
theorem dX0_coinInAll_3 : decode cX0_coinInAll 3 = .ok (.istore_n 2, 1) := by decide +kernel
theorem dX0_coinInAll_4 : decode cX0_coinInAll 4 = .ok (.iload_n 2, 1) := by decide +kernel
theorem dX0_coinInAll_5 : decode cX0_coinInAll 5 = .ok (.aload_n 0, 1) := by decide +kernel
theorem dX0_coinInAll_6 : decode cX0_coinInAll 6 = .ok (.getfield 86, 3) := by decide +kernel
theorem dX0_coinInAll_9 : decode cX0_coinInAll 9 = .ok (.if_icmp .ge 22, 3) := by decide +kernel
theorem dX0_coinInAll_12 : decode cX0_coinInAll 12 = .ok (.iload_n 1, 1) := by decide +kernel
theorem dX0_coinInAll_13 : decode cX0_coinInAll 13 = .ok (.aload_n 0, 1) := by decide +kernel
theorem dX0_coinInAll_14 : decode cX0_coinInAll 14 = .ok (.aload_n 0, 1) := by decide +kernel
theorem dX0_coinInAll_15 : decode cX0_coinInAll 15 = .ok (.getfield 27, 3) := by decide +kernel
theorem dX0_coinInAll_18 : decode cX0_coinInAll 18 = .ok (.iload_n 2, 1) := by decide +kernel
theorem dX0_coinInAll_19 : decode cX0_coinInAll 19 = .ok (.iaload, 1) := by decide +kernel
theorem dX0_coinInAll_20 : decode cX0_coinInAll 20 = .ok (.invokevirtual 89, 3) := by decide +kernel
theorem dX0_coinInAll_23 : decode cX0_coinInAll 23 = .ok (.iadd, 1) := by decide +kernel
theorem dX0_coinInAll_24 : decode cX0_coinInAll 24 = .ok (.istore_n 1, 1) := by decide +kernel
theorem dX0_coinInAll_25 : decode cX0_coinInAll 25 = .ok (.iinc 2 1, 3) := by decide +kernel
theorem dX0_coinInAll_28 : decode cX0_coinInAll 28 = .ok (.goto (-24), 3) := by decide +kernel
theorem dX0_coinInAll_31 : decode cX0_coinInAll 31 = .ok (.iload_n 1, 1) := by decide +kernel
theorem dX0_coinInAll_32 : decode cX0_coinInAll 32 = .ok (.ireturn, 1) := by decide +kernel
theorem dX0_coinOf_0 : decode cX0_coinOf 0 = .ok (.aload_n 0, 1) := by decide +kernel
theorem dX0_coinOf_1 : decode cX0_coinOf 1 = .ok (.getfield 18, 3) := by decide +kernel
theorem dX0_coinOf_4 : decode cX0_coinOf 4 = .ok (.iload_n 1, 1) := by decide +kernel
theorem dX0_coinOf_5 : decode cX0_coinOf 5 = .ok (.iaload, 1) := by decide +kernel
theorem dX0_coinOf_6 : decode cX0_coinOf 6 = .ok (.bipush (-9), 2) := by decide +kernel
theorem dX0_coinOf_8 : decode cX0_coinOf 8 = .ok (.if_icmp .ne 7, 3) := by decide +kernel
theorem dX0_coinOf_11 : decode cX0_coinOf 11 = .ok (.iconst 0, 1) := by decide +kernel
theorem dX0_coinOf_12 : decode cX0_coinOf 12 = .ok (.goto 25, 3) := by decide +kernel
theorem dX0_coinOf_15 : decode cX0_coinOf 15 = .ok (.aload_n 0, 1) := by decide +kernel
theorem dX0_coinOf_16 : decode cX0_coinOf 16 = .ok (.getfield 47, 3) := by decide +kernel
theorem dX0_coinOf_19 : decode cX0_coinOf 19 = .ok (.iload_n 1, 1) := by decide +kernel
theorem dX0_coinOf_20 : decode cX0_coinOf 20 = .ok (.aaload, 1) := by decide +kernel
theorem dX0_coinOf_21 : decode cX0_coinOf 21 = .ok (.aload_n 0, 1) := by decide +kernel
theorem dX0_coinOf_22 : decode cX0_coinOf 22 = .ok (.getfield 21, 3) := by decide +kernel
theorem dX0_coinOf_25 : decode cX0_coinOf 25 = .ok (.iload_n 1, 1) := by decide +kernel
theorem dX0_coinOf_26 : decode cX0_coinOf 26 = .ok (.iaload, 1) := by decide +kernel
theorem dX0_coinOf_27 : decode cX0_coinOf 27 = .ok (.aload_n 0, 1) := by decide +kernel
theorem dX0_coinOf_28 : decode cX0_coinOf 28 = .ok (.getfield 18, 3) := by decide +kernel
theorem dX0_coinOf_31 : decode cX0_coinOf 31 = .ok (.iload_n 1, 1) := by decide +kernel
theorem dX0_coinOf_32 : decode cX0_coinOf 32 = .ok (.iaload, 1) := by decide +kernel
theorem dX0_coinOf_33 : decode cX0_coinOf 33 = .ok (.isub, 1) := by decide +kernel
theorem dX0_coinOf_34 : decode cX0_coinOf 34 = .ok (.invokevirtual 92, 3) := by decide +kernel
theorem dX0_coinOf_37 : decode cX0_coinOf 37 = .ok (.ireturn, 1) := by decide +kernel
theorem dX0_tablesTaken_0 : decode cX0_tablesTaken 0 = .ok (.iconst 0, 1) := by decide +kernel
theorem dX0_tablesTaken_1 : decode cX0_tablesTaken 1 = .ok (.istore_n 1, 1) := by decide +kernel
theorem dX0_tablesTaken_2 : decode cX0_tablesTaken 2 = .ok (.iconst 0, 1) := by decide +kernel
theorem dX0_tablesTaken_3 : decode cX0_tablesTaken 3 = .ok (.istore_n 2, 1) := by decide +kernel
theorem dX0_tablesTaken_4 : decode cX0_tablesTaken 4 = .ok (.iload_n 2, 1) := by decide +kernel
theorem dX0_tablesTaken_5 : decode cX0_tablesTaken 5 = .ok (.aload_n 0, 1) := by decide +kernel
theorem dX0_tablesTaken_6 : decode cX0_tablesTaken 6 = .ok (.getfield 33, 3) := by decide +kernel
theorem dX0_tablesTaken_9 : decode cX0_tablesTaken 9 = .ok (.getfield 97, 3) := by decide +kernel
theorem dX0_tablesTaken_12 : decode cX0_tablesTaken 12 = .ok (.if_icmp .ge 21, 3) := by decide +kernel
theorem dX0_tablesTaken_15 : decode cX0_tablesTaken 15 = .ok (.aload_n 0, 1) := by decide +kernel
theorem dX0_tablesTaken_16 : decode cX0_tablesTaken 16 = .ok (.getfield 30, 3) := by decide +kernel
theorem dX0_tablesTaken_19 : decode cX0_tablesTaken 19 = .ok (.iload_n 2, 1) := by decide +kernel
theorem dX0_tablesTaken_20 : decode cX0_tablesTaken 20 = .ok (.iaload, 1) := by decide +kernel
theorem dX0_tablesTaken_21 : decode cX0_tablesTaken 21 = .ok (.ifCond .lt 6, 3) := by decide +kernel
theorem dX0_tablesTaken_24 : decode cX0_tablesTaken 24 = .ok (.iinc 1 1, 3) := by decide +kernel
theorem dX0_tablesTaken_27 : decode cX0_tablesTaken 27 = .ok (.iinc 2 1, 3) := by decide +kernel
theorem dX0_tablesTaken_30 : decode cX0_tablesTaken 30 = .ok (.goto (-26), 3) := by decide +kernel
theorem dX0_tablesTaken_33 : decode cX0_tablesTaken 33 = .ok (.iload_n 1, 1) := by decide +kernel
theorem dX0_tablesTaken_34 : decode cX0_tablesTaken 34 = .ok (.ireturn, 1) := by decide +kernel
theorem dX0_othersWaiting_0 : decode cX0_othersWaiting 0 = .ok (.iconst 0, 1) := by decide +kernel
theorem dX0_othersWaiting_1 : decode cX0_othersWaiting 1 = .ok (.istore_n 2, 1) := by decide +kernel
theorem dX0_othersWaiting_2 : decode cX0_othersWaiting 2 = .ok (.iconst 0, 1) := by decide +kernel
theorem dX0_othersWaiting_3 : decode cX0_othersWaiting 3 = .ok (.istore_n 3, 1) := by decide +kernel
theorem dX0_othersWaiting_4 : decode cX0_othersWaiting 4 = .ok (.iload_n 3, 1) := by decide +kernel
theorem dX0_othersWaiting_5 : decode cX0_othersWaiting 5 = .ok (.aload_n 0, 1) := by decide +kernel
theorem dX0_othersWaiting_6 : decode cX0_othersWaiting 6 = .ok (.getfield 86, 3) := by decide +kernel
theorem dX0_othersWaiting_9 : decode cX0_othersWaiting 9 = .ok (.if_icmp .ge 37, 3) := by decide +kernel
theorem dX0_othersWaiting_12 : decode cX0_othersWaiting 12 = .ok (.aload_n 0, 1) := by decide +kernel
theorem dX0_othersWaiting_13 : decode cX0_othersWaiting 13 = .ok (.getfield 27, 3) := by decide +kernel
theorem dX0_othersWaiting_16 : decode cX0_othersWaiting 16 = .ok (.iload_n 3, 1) := by decide +kernel
theorem dX0_othersWaiting_17 : decode cX0_othersWaiting 17 = .ok (.iaload, 1) := by decide +kernel
theorem dX0_othersWaiting_18 : decode cX0_othersWaiting 18 = .ok (.iload_n 1, 1) := by decide +kernel
theorem dX0_othersWaiting_19 : decode cX0_othersWaiting 19 = .ok (.if_icmp .eq 21, 3) := by decide +kernel
theorem dX0_othersWaiting_22 : decode cX0_othersWaiting 22 = .ok (.aload_n 0, 1) := by decide +kernel
theorem dX0_othersWaiting_23 : decode cX0_othersWaiting 23 = .ok (.getfield 9, 3) := by decide +kernel
theorem dX0_othersWaiting_26 : decode cX0_othersWaiting 26 = .ok (.aload_n 0, 1) := by decide +kernel
theorem dX0_othersWaiting_27 : decode cX0_othersWaiting 27 = .ok (.getfield 27, 3) := by decide +kernel
theorem dX0_othersWaiting_30 : decode cX0_othersWaiting 30 = .ok (.iload_n 3, 1) := by decide +kernel
theorem dX0_othersWaiting_31 : decode cX0_othersWaiting 31 = .ok (.iaload, 1) := by decide +kernel
theorem dX0_othersWaiting_32 : decode cX0_othersWaiting 32 = .ok (.iaload, 1) := by decide +kernel
theorem dX0_othersWaiting_33 : decode cX0_othersWaiting 33 = .ok (.iconst 4, 1) := by decide +kernel
theorem dX0_othersWaiting_34 : decode cX0_othersWaiting 34 = .ok (.if_icmp .ne 6, 3) := by decide +kernel
theorem dX0_othersWaiting_37 : decode cX0_othersWaiting 37 = .ok (.iinc 2 1, 3) := by decide +kernel
theorem dX0_othersWaiting_40 : decode cX0_othersWaiting 40 = .ok (.iinc 3 1, 3) := by decide +kernel
theorem dX0_othersWaiting_43 : decode cX0_othersWaiting 43 = .ok (.goto (-39), 3) := by decide +kernel
theorem dX0_othersWaiting_46 : decode cX0_othersWaiting 46 = .ok (.iload_n 2, 1) := by decide +kernel
theorem dX0_othersWaiting_47 : decode cX0_othersWaiting 47 = .ok (.ireturn, 1) := by decide +kernel
theorem dX0_begin_0 : decode cX0_begin 0 = .ok (.aload_n 0, 1) := by decide +kernel
theorem dX0_begin_1 : decode cX0_begin 1 = .ok (.getfield 30, 3) := by decide +kernel
theorem dX0_begin_4 : decode cX0_begin 4 = .ok (.iconst (-1), 1) := by decide +kernel
theorem dX0_begin_5 : decode cX0_begin 5 = .ok (.invokestatic 100, 3) := by decide +kernel
theorem dX0_begin_8 : decode cX0_begin 8 = .ok (.aload_n 0, 1) := by decide +kernel
theorem dX0_begin_9 : decode cX0_begin 9 = .ok (.iconst 0, 1) := by decide +kernel
theorem dX0_begin_10 : decode cX0_begin 10 = .ok (.putfield 86, 3) := by decide +kernel
theorem dX0_begin_13 : decode cX0_begin 13 = .ok (.iconst 0, 1) := by decide +kernel
theorem dX0_begin_14 : decode cX0_begin 14 = .ok (.istore_n 2, 1) := by decide +kernel
theorem dX0_begin_15 : decode cX0_begin 15 = .ok (.iload_n 2, 1) := by decide +kernel
theorem dX0_begin_16 : decode cX0_begin 16 = .ok (.aload_n 0, 1) := by decide +kernel
theorem dX0_begin_17 : decode cX0_begin 17 = .ok (.getfield 37, 3) := by decide +kernel
theorem dX0_begin_20 : decode cX0_begin 20 = .ok (.getfield 106, 3) := by decide +kernel
theorem dX0_begin_23 : decode cX0_begin 23 = .ok (.if_icmp .ge 57, 3) := by decide +kernel
theorem dX0_begin_26 : decode cX0_begin 26 = .ok (.aload_n 0, 1) := by decide +kernel
theorem dX0_begin_27 : decode cX0_begin 27 = .ok (.getfield 9, 3) := by decide +kernel
theorem dX0_begin_30 : decode cX0_begin 30 = .ok (.iload_n 2, 1) := by decide +kernel
theorem dX0_begin_31 : decode cX0_begin 31 = .ok (.iconst 3, 1) := by decide +kernel
theorem dX0_begin_32 : decode cX0_begin 32 = .ok (.iastore, 1) := by decide +kernel
theorem dX0_begin_33 : decode cX0_begin 33 = .ok (.aload_n 0, 1) := by decide +kernel
theorem dX0_begin_34 : decode cX0_begin 34 = .ok (.getfield 15, 3) := by decide +kernel
theorem dX0_begin_37 : decode cX0_begin 37 = .ok (.iload_n 2, 1) := by decide +kernel
theorem dX0_begin_38 : decode cX0_begin 38 = .ok (.bipush (-9), 2) := by decide +kernel
theorem dX0_begin_40 : decode cX0_begin 40 = .ok (.iastore, 1) := by decide +kernel
theorem dX0_begin_41 : decode cX0_begin 41 = .ok (.aload_n 0, 1) := by decide +kernel
theorem dX0_begin_42 : decode cX0_begin 42 = .ok (.getfield 18, 3) := by decide +kernel
theorem dX0_begin_45 : decode cX0_begin 45 = .ok (.iload_n 2, 1) := by decide +kernel
theorem dX0_begin_46 : decode cX0_begin 46 = .ok (.bipush (-9), 2) := by decide +kernel
theorem dX0_begin_48 : decode cX0_begin 48 = .ok (.iastore, 1) := by decide +kernel
theorem dX0_begin_49 : decode cX0_begin 49 = .ok (.aload_n 0, 1) := by decide +kernel
theorem dX0_begin_50 : decode cX0_begin 50 = .ok (.getfield 21, 3) := by decide +kernel
theorem dX0_begin_53 : decode cX0_begin 53 = .ok (.iload_n 2, 1) := by decide +kernel
theorem dX0_begin_54 : decode cX0_begin 54 = .ok (.bipush (-9), 2) := by decide +kernel
theorem dX0_begin_56 : decode cX0_begin 56 = .ok (.iastore, 1) := by decide +kernel
theorem dX0_begin_57 : decode cX0_begin 57 = .ok (.aload_n 0, 1) := by decide +kernel
theorem dX0_begin_58 : decode cX0_begin 58 = .ok (.getfield 24, 3) := by decide +kernel
theorem dX0_begin_61 : decode cX0_begin 61 = .ok (.iload_n 2, 1) := by decide +kernel
theorem dX0_begin_62 : decode cX0_begin 62 = .ok (.iconst 0, 1) := by decide +kernel
theorem dX0_begin_63 : decode cX0_begin 63 = .ok (.iastore, 1) := by decide +kernel
theorem dX0_begin_64 : decode cX0_begin 64 = .ok (.iload_n 2, 1) := by decide +kernel
theorem dX0_begin_65 : decode cX0_begin 65 = .ok (.iload_n 1, 1) := by decide +kernel
theorem dX0_begin_66 : decode cX0_begin 66 = .ok (.if_icmp .eq 8, 3) := by decide +kernel
theorem dX0_begin_69 : decode cX0_begin 69 = .ok (.aload_n 0, 1) := by decide +kernel
theorem dX0_begin_70 : decode cX0_begin 70 = .ok (.iload_n 2, 1) := by decide +kernel
theorem dX0_begin_71 : decode cX0_begin 71 = .ok (.invokevirtual 109, 3) := by decide +kernel
theorem dX0_begin_74 : decode cX0_begin 74 = .ok (.iinc 2 1, 3) := by decide +kernel
theorem dX0_begin_77 : decode cX0_begin 77 = .ok (.goto (-62), 3) := by decide +kernel
theorem dX0_begin_80 : decode cX0_begin 80 = .ok (.return_, 1) := by decide +kernel
theorem dX0_list_0 : decode cX0_list 0 = .ok (.aload_n 0, 1) := by decide +kernel
theorem dX0_list_1 : decode cX0_list 1 = .ok (.getfield 86, 3) := by decide +kernel
theorem dX0_list_4 : decode cX0_list 4 = .ok (.istore_n 2, 1) := by decide +kernel
theorem dX0_list_5 : decode cX0_list 5 = .ok (.iload_n 2, 1) := by decide +kernel
theorem dX0_list_6 : decode cX0_list 6 = .ok (.ifCond .le 51, 3) := by decide +kernel
theorem dX0_list_9 : decode cX0_list 9 = .ok (.aload_n 0, 1) := by decide +kernel
theorem dX0_list_10 : decode cX0_list 10 = .ok (.getfield 47, 3) := by decide +kernel
theorem dX0_list_13 : decode cX0_list 13 = .ok (.aload_n 0, 1) := by decide +kernel
theorem dX0_list_14 : decode cX0_list 14 = .ok (.getfield 27, 3) := by decide +kernel
theorem dX0_list_17 : decode cX0_list 17 = .ok (.iload_n 2, 1) := by decide +kernel
theorem dX0_list_18 : decode cX0_list 18 = .ok (.iconst 1, 1) := by decide +kernel
theorem dX0_list_19 : decode cX0_list 19 = .ok (.isub, 1) := by decide +kernel
theorem dX0_list_20 : decode cX0_list 20 = .ok (.iaload, 1) := by decide +kernel
theorem dX0_list_21 : decode cX0_list 21 = .ok (.aaload, 1) := by decide +kernel
theorem dX0_list_22 : decode cX0_list 22 = .ok (.getfield 112, 3) := by decide +kernel
theorem dX0_list_25 : decode cX0_list 25 = .ok (.aload_n 0, 1) := by decide +kernel
theorem dX0_list_26 : decode cX0_list 26 = .ok (.getfield 47, 3) := by decide +kernel
theorem dX0_list_29 : decode cX0_list 29 = .ok (.iload_n 1, 1) := by decide +kernel
theorem dX0_list_30 : decode cX0_list 30 = .ok (.aaload, 1) := by decide +kernel
theorem dX0_list_31 : decode cX0_list 31 = .ok (.getfield 112, 3) := by decide +kernel
theorem dX0_list_34 : decode cX0_list 34 = .ok (.if_icmp .le 23, 3) := by decide +kernel
theorem dX0_list_37 : decode cX0_list 37 = .ok (.aload_n 0, 1) := by decide +kernel
theorem dX0_list_38 : decode cX0_list 38 = .ok (.getfield 27, 3) := by decide +kernel
theorem dX0_list_41 : decode cX0_list 41 = .ok (.iload_n 2, 1) := by decide +kernel
theorem dX0_list_42 : decode cX0_list 42 = .ok (.aload_n 0, 1) := by decide +kernel
theorem dX0_list_43 : decode cX0_list 43 = .ok (.getfield 27, 3) := by decide +kernel
theorem dX0_list_46 : decode cX0_list 46 = .ok (.iload_n 2, 1) := by decide +kernel
theorem dX0_list_47 : decode cX0_list 47 = .ok (.iconst 1, 1) := by decide +kernel
theorem dX0_list_48 : decode cX0_list 48 = .ok (.isub, 1) := by decide +kernel
theorem dX0_list_49 : decode cX0_list 49 = .ok (.iaload, 1) := by decide +kernel
theorem dX0_list_50 : decode cX0_list 50 = .ok (.iastore, 1) := by decide +kernel
theorem dX0_list_51 : decode cX0_list 51 = .ok (.iinc 2 (-1), 3) := by decide +kernel
theorem dX0_list_54 : decode cX0_list 54 = .ok (.goto (-49), 3) := by decide +kernel
theorem dX0_list_57 : decode cX0_list 57 = .ok (.aload_n 0, 1) := by decide +kernel
theorem dX0_list_58 : decode cX0_list 58 = .ok (.getfield 27, 3) := by decide +kernel
theorem dX0_list_61 : decode cX0_list 61 = .ok (.iload_n 2, 1) := by decide +kernel
theorem dX0_list_62 : decode cX0_list 62 = .ok (.iload_n 1, 1) := by decide +kernel
theorem dX0_list_63 : decode cX0_list 63 = .ok (.iastore, 1) := by decide +kernel
theorem dX0_list_64 : decode cX0_list 64 = .ok (.aload_n 0, 1) := by decide +kernel
theorem dX0_list_65 : decode cX0_list 65 = .ok (.dup, 1) := by decide +kernel
theorem dX0_list_66 : decode cX0_list 66 = .ok (.getfield 86, 3) := by decide +kernel
theorem dX0_list_69 : decode cX0_list 69 = .ok (.iconst 1, 1) := by decide +kernel
theorem dX0_list_70 : decode cX0_list 70 = .ok (.iadd, 1) := by decide +kernel
theorem dX0_list_71 : decode cX0_list 71 = .ok (.putfield 86, 3) := by decide +kernel
theorem dX0_list_74 : decode cX0_list 74 = .ok (.return_, 1) := by decide +kernel
theorem dX0_nextMinute_0 : decode cX0_nextMinute 0 = .ok (.aload_n 0, 1) := by decide +kernel
theorem dX0_nextMinute_1 : decode cX0_nextMinute 1 = .ok (.getfield 33, 3) := by decide +kernel
theorem dX0_nextMinute_4 : decode cX0_nextMinute 4 = .ok (.getfield 57, 3) := by decide +kernel
theorem dX0_nextMinute_7 : decode cX0_nextMinute 7 = .ok (.iload_n 1, 1) := by decide +kernel
theorem dX0_nextMinute_8 : decode cX0_nextMinute 8 = .ok (.if_icmp .le 13, 3) := by decide +kernel
theorem dX0_nextMinute_11 : decode cX0_nextMinute 11 = .ok (.aload_n 0, 1) := by decide +kernel
theorem dX0_nextMinute_12 : decode cX0_nextMinute 12 = .ok (.getfield 33, 3) := by decide +kernel
theorem dX0_nextMinute_15 : decode cX0_nextMinute 15 = .ok (.getfield 57, 3) := by decide +kernel
theorem dX0_nextMinute_18 : decode cX0_nextMinute 18 = .ok (.goto 6, 3) := by decide +kernel
theorem dX0_nextMinute_21 : decode cX0_nextMinute 21 = .ok (.sipush 400, 3) := by decide +kernel
theorem dX0_nextMinute_24 : decode cX0_nextMinute 24 = .ok (.istore_n 2, 1) := by decide +kernel
theorem dX0_nextMinute_25 : decode cX0_nextMinute 25 = .ok (.iconst 0, 1) := by decide +kernel
theorem dX0_nextMinute_26 : decode cX0_nextMinute 26 = .ok (.istore_n 3, 1) := by decide +kernel
theorem dX0_nextMinute_27 : decode cX0_nextMinute 27 = .ok (.iload_n 3, 1) := by decide +kernel
theorem dX0_nextMinute_28 : decode cX0_nextMinute 28 = .ok (.aload_n 0, 1) := by decide +kernel
theorem dX0_nextMinute_29 : decode cX0_nextMinute 29 = .ok (.getfield 86, 3) := by decide +kernel
theorem dX0_nextMinute_32 : decode cX0_nextMinute 32 = .ok (.if_icmp .ge 106, 3) := by decide +kernel
theorem dX0_nextMinute_35 : decode cX0_nextMinute 35 = .ok (.aload_n 0, 1) := by decide +kernel
theorem dX0_nextMinute_36 : decode cX0_nextMinute 36 = .ok (.getfield 27, 3) := by decide +kernel
theorem dX0_nextMinute_39 : decode cX0_nextMinute 39 = .ok (.iload_n 3, 1) := by decide +kernel
theorem dX0_nextMinute_40 : decode cX0_nextMinute 40 = .ok (.iaload, 1) := by decide +kernel
theorem dX0_nextMinute_41 : decode cX0_nextMinute 41 = .ok (.istore 4, 2) := by decide +kernel
theorem dX0_nextMinute_43 : decode cX0_nextMinute 43 = .ok (.aload_n 0, 1) := by decide +kernel
theorem dX0_nextMinute_44 : decode cX0_nextMinute 44 = .ok (.getfield 9, 3) := by decide +kernel
theorem dX0_nextMinute_47 : decode cX0_nextMinute 47 = .ok (.iload 4, 2) := by decide +kernel
theorem dX0_nextMinute_49 : decode cX0_nextMinute 49 = .ok (.iaload, 1) := by decide +kernel
theorem dX0_nextMinute_50 : decode cX0_nextMinute 50 = .ok (.iconst 3, 1) := by decide +kernel
theorem dX0_nextMinute_51 : decode cX0_nextMinute 51 = .ok (.if_icmp .ne 21, 3) := by decide +kernel
theorem dX0_nextMinute_54 : decode cX0_nextMinute 54 = .ok (.iload_n 2, 1) := by decide +kernel
theorem dX0_nextMinute_55 : decode cX0_nextMinute 55 = .ok (.aload_n 0, 1) := by decide +kernel
theorem dX0_nextMinute_56 : decode cX0_nextMinute 56 = .ok (.getfield 47, 3) := by decide +kernel
theorem dX0_nextMinute_59 : decode cX0_nextMinute 59 = .ok (.iload 4, 2) := by decide +kernel
theorem dX0_nextMinute_61 : decode cX0_nextMinute 61 = .ok (.aaload, 1) := by decide +kernel
theorem dX0_nextMinute_62 : decode cX0_nextMinute 62 = .ok (.getfield 112, 3) := by decide +kernel
theorem dX0_nextMinute_65 : decode cX0_nextMinute 65 = .ok (.invokestatic 115, 3) := by decide +kernel
theorem dX0_nextMinute_68 : decode cX0_nextMinute 68 = .ok (.istore_n 2, 1) := by decide +kernel
theorem dX0_nextMinute_69 : decode cX0_nextMinute 69 = .ok (.goto 63, 3) := by decide +kernel
theorem dX0_nextMinute_72 : decode cX0_nextMinute 72 = .ok (.aload_n 0, 1) := by decide +kernel
theorem dX0_nextMinute_73 : decode cX0_nextMinute 73 = .ok (.getfield 9, 3) := by decide +kernel
theorem dX0_nextMinute_76 : decode cX0_nextMinute 76 = .ok (.iload 4, 2) := by decide +kernel
theorem dX0_nextMinute_78 : decode cX0_nextMinute 78 = .ok (.iaload, 1) := by decide +kernel
theorem dX0_nextMinute_79 : decode cX0_nextMinute 79 = .ok (.iconst 4, 1) := by decide +kernel
theorem dX0_nextMinute_80 : decode cX0_nextMinute 80 = .ok (.if_icmp .ne 29, 3) := by decide +kernel
theorem dX0_nextMinute_83 : decode cX0_nextMinute 83 = .ok (.iload_n 2, 1) := by decide +kernel
theorem dX0_nextMinute_84 : decode cX0_nextMinute 84 = .ok (.aload_n 0, 1) := by decide +kernel
theorem dX0_nextMinute_85 : decode cX0_nextMinute 85 = .ok (.getfield 47, 3) := by decide +kernel
theorem dX0_nextMinute_88 : decode cX0_nextMinute 88 = .ok (.iload 4, 2) := by decide +kernel
theorem dX0_nextMinute_90 : decode cX0_nextMinute 90 = .ok (.aaload, 1) := by decide +kernel
theorem dX0_nextMinute_91 : decode cX0_nextMinute 91 = .ok (.getfield 112, 3) := by decide +kernel
theorem dX0_nextMinute_94 : decode cX0_nextMinute 94 = .ok (.aload_n 0, 1) := by decide +kernel
theorem dX0_nextMinute_95 : decode cX0_nextMinute 95 = .ok (.getfield 33, 3) := by decide +kernel
theorem dX0_nextMinute_98 : decode cX0_nextMinute 98 = .ok (.getfield 118, 3) := by decide +kernel
theorem dX0_nextMinute_101 : decode cX0_nextMinute 101 = .ok (.iadd, 1) := by decide +kernel
theorem dX0_nextMinute_102 : decode cX0_nextMinute 102 = .ok (.invokestatic 115, 3) := by decide +kernel
theorem dX0_nextMinute_105 : decode cX0_nextMinute 105 = .ok (.istore_n 2, 1) := by decide +kernel
theorem dX0_nextMinute_106 : decode cX0_nextMinute 106 = .ok (.goto 26, 3) := by decide +kernel
theorem dX0_nextMinute_109 : decode cX0_nextMinute 109 = .ok (.aload_n 0, 1) := by decide +kernel
theorem dX0_nextMinute_110 : decode cX0_nextMinute 110 = .ok (.getfield 9, 3) := by decide +kernel
theorem dX0_nextMinute_113 : decode cX0_nextMinute 113 = .ok (.iload 4, 2) := by decide +kernel
theorem dX0_nextMinute_115 : decode cX0_nextMinute 115 = .ok (.iaload, 1) := by decide +kernel
theorem dX0_nextMinute_116 : decode cX0_nextMinute 116 = .ok (.iconst 5, 1) := by decide +kernel
theorem dX0_nextMinute_117 : decode cX0_nextMinute 117 = .ok (.if_icmp .ne 15, 3) := by decide +kernel
theorem dX0_nextMinute_120 : decode cX0_nextMinute 120 = .ok (.iload_n 2, 1) := by decide +kernel
theorem dX0_nextMinute_121 : decode cX0_nextMinute 121 = .ok (.aload_n 0, 1) := by decide +kernel
theorem dX0_nextMinute_122 : decode cX0_nextMinute 122 = .ok (.getfield 21, 3) := by decide +kernel
theorem dX0_nextMinute_125 : decode cX0_nextMinute 125 = .ok (.iload 4, 2) := by decide +kernel
theorem dX0_nextMinute_127 : decode cX0_nextMinute 127 = .ok (.iaload, 1) := by decide +kernel
theorem dX0_nextMinute_128 : decode cX0_nextMinute 128 = .ok (.invokestatic 115, 3) := by decide +kernel
theorem dX0_nextMinute_131 : decode cX0_nextMinute 131 = .ok (.istore_n 2, 1) := by decide +kernel
theorem dX0_nextMinute_132 : decode cX0_nextMinute 132 = .ok (.iinc 3 1, 3) := by decide +kernel
theorem dX0_nextMinute_135 : decode cX0_nextMinute 135 = .ok (.goto (-108), 3) := by decide +kernel
theorem dX0_nextMinute_138 : decode cX0_nextMinute 138 = .ok (.iload_n 2, 1) := by decide +kernel
theorem dX0_nextMinute_139 : decode cX0_nextMinute 139 = .ok (.ireturn, 1) := by decide +kernel
theorem dX0_goWhoseTimeIsOver_0 : decode cX0_goWhoseTimeIsOver 0 = .ok (.iconst 0, 1) := by decide +kernel
theorem dX0_goWhoseTimeIsOver_1 : decode cX0_goWhoseTimeIsOver 1 = .ok (.istore_n 2, 1) := by decide +kernel
theorem dX0_goWhoseTimeIsOver_2 : decode cX0_goWhoseTimeIsOver 2 = .ok (.iload_n 2, 1) := by decide +kernel
theorem dX0_goWhoseTimeIsOver_3 : decode cX0_goWhoseTimeIsOver 3 = .ok (.aload_n 0, 1) := by decide +kernel
theorem dX0_goWhoseTimeIsOver_4 : decode cX0_goWhoseTimeIsOver 4 = .ok (.getfield 86, 3) := by decide +kernel
theorem dX0_goWhoseTimeIsOver_7 : decode cX0_goWhoseTimeIsOver 7 = .ok (.if_icmp .ge 48, 3) := by decide +kernel
theorem dX0_goWhoseTimeIsOver_10 : decode cX0_goWhoseTimeIsOver 10 = .ok (.aload_n 0, 1) := by decide +kernel
theorem dX0_goWhoseTimeIsOver_11 : decode cX0_goWhoseTimeIsOver 11 = .ok (.getfield 27, 3) := by decide +kernel
theorem dX0_goWhoseTimeIsOver_14 : decode cX0_goWhoseTimeIsOver 14 = .ok (.iload_n 2, 1) := by decide +kernel
theorem dX0_goWhoseTimeIsOver_15 : decode cX0_goWhoseTimeIsOver 15 = .ok (.iaload, 1) := by decide +kernel
theorem dX0_goWhoseTimeIsOver_16 : decode cX0_goWhoseTimeIsOver 16 = .ok (.istore_n 3, 1) := by decide +kernel
theorem dX0_goWhoseTimeIsOver_17 : decode cX0_goWhoseTimeIsOver 17 = .ok (.aload_n 0, 1) := by decide +kernel
theorem dX0_goWhoseTimeIsOver_18 : decode cX0_goWhoseTimeIsOver 18 = .ok (.getfield 9, 3) := by decide +kernel
theorem dX0_goWhoseTimeIsOver_21 : decode cX0_goWhoseTimeIsOver 21 = .ok (.iload_n 3, 1) := by decide +kernel
theorem dX0_goWhoseTimeIsOver_22 : decode cX0_goWhoseTimeIsOver 22 = .ok (.iaload, 1) := by decide +kernel
theorem dX0_goWhoseTimeIsOver_23 : decode cX0_goWhoseTimeIsOver 23 = .ok (.iconst 5, 1) := by decide +kernel
theorem dX0_goWhoseTimeIsOver_24 : decode cX0_goWhoseTimeIsOver 24 = .ok (.if_icmp .ne 25, 3) := by decide +kernel
theorem dX0_goWhoseTimeIsOver_27 : decode cX0_goWhoseTimeIsOver 27 = .ok (.aload_n 0, 1) := by decide +kernel
theorem dX0_goWhoseTimeIsOver_28 : decode cX0_goWhoseTimeIsOver 28 = .ok (.getfield 21, 3) := by decide +kernel
theorem dX0_goWhoseTimeIsOver_31 : decode cX0_goWhoseTimeIsOver 31 = .ok (.iload_n 3, 1) := by decide +kernel
theorem dX0_goWhoseTimeIsOver_32 : decode cX0_goWhoseTimeIsOver 32 = .ok (.iaload, 1) := by decide +kernel
theorem dX0_goWhoseTimeIsOver_33 : decode cX0_goWhoseTimeIsOver 33 = .ok (.iload_n 1, 1) := by decide +kernel
theorem dX0_goWhoseTimeIsOver_34 : decode cX0_goWhoseTimeIsOver 34 = .ok (.if_icmp .gt 15, 3) := by decide +kernel
theorem dX0_goWhoseTimeIsOver_37 : decode cX0_goWhoseTimeIsOver 37 = .ok (.aload_n 0, 1) := by decide +kernel
theorem dX0_goWhoseTimeIsOver_38 : decode cX0_goWhoseTimeIsOver 38 = .ok (.getfield 9, 3) := by decide +kernel
theorem dX0_goWhoseTimeIsOver_41 : decode cX0_goWhoseTimeIsOver 41 = .ok (.iload_n 3, 1) := by decide +kernel
theorem dX0_goWhoseTimeIsOver_42 : decode cX0_goWhoseTimeIsOver 42 = .ok (.iconst 0, 1) := by decide +kernel
theorem dX0_goWhoseTimeIsOver_43 : decode cX0_goWhoseTimeIsOver 43 = .ok (.iastore, 1) := by decide +kernel
theorem dX0_goWhoseTimeIsOver_44 : decode cX0_goWhoseTimeIsOver 44 = .ok (.aload_n 0, 1) := by decide +kernel
theorem dX0_goWhoseTimeIsOver_45 : decode cX0_goWhoseTimeIsOver 45 = .ok (.iload_n 3, 1) := by decide +kernel
theorem dX0_goWhoseTimeIsOver_46 : decode cX0_goWhoseTimeIsOver 46 = .ok (.invokevirtual 121, 3) := by decide +kernel
theorem dX0_goWhoseTimeIsOver_49 : decode cX0_goWhoseTimeIsOver 49 = .ok (.iinc 2 1, 3) := by decide +kernel
theorem dX0_goWhoseTimeIsOver_52 : decode cX0_goWhoseTimeIsOver 52 = .ok (.goto (-50), 3) := by decide +kernel
theorem dX0_goWhoseTimeIsOver_55 : decode cX0_goWhoseTimeIsOver 55 = .ok (.return_, 1) := by decide +kernel
theorem dX0_getUp_0 : decode cX0_getUp 0 = .ok (.iconst 0, 1) := by decide +kernel
theorem dX0_getUp_1 : decode cX0_getUp 1 = .ok (.istore_n 2, 1) := by decide +kernel
theorem dX0_getUp_2 : decode cX0_getUp 2 = .ok (.iload_n 2, 1) := by decide +kernel
theorem dX0_getUp_3 : decode cX0_getUp 3 = .ok (.aload_n 0, 1) := by decide +kernel
theorem dX0_getUp_4 : decode cX0_getUp 4 = .ok (.getfield 33, 3) := by decide +kernel
theorem dX0_getUp_7 : decode cX0_getUp 7 = .ok (.getfield 97, 3) := by decide +kernel
theorem dX0_getUp_10 : decode cX0_getUp 10 = .ok (.if_icmp .ge 26, 3) := by decide +kernel
theorem dX0_getUp_13 : decode cX0_getUp 13 = .ok (.aload_n 0, 1) := by decide +kernel
theorem dX0_getUp_14 : decode cX0_getUp 14 = .ok (.getfield 30, 3) := by decide +kernel
theorem dX0_getUp_17 : decode cX0_getUp 17 = .ok (.iload_n 2, 1) := by decide +kernel
theorem dX0_getUp_18 : decode cX0_getUp 18 = .ok (.iaload, 1) := by decide +kernel
theorem dX0_getUp_19 : decode cX0_getUp 19 = .ok (.iload_n 1, 1) := by decide +kernel
theorem dX0_getUp_20 : decode cX0_getUp 20 = .ok (.if_icmp .ne 10, 3) := by decide +kernel
theorem dX0_getUp_23 : decode cX0_getUp 23 = .ok (.aload_n 0, 1) := by decide +kernel
theorem dX0_getUp_24 : decode cX0_getUp 24 = .ok (.getfield 30, 3) := by decide +kernel
theorem dX0_getUp_27 : decode cX0_getUp 27 = .ok (.iload_n 2, 1) := by decide +kernel
theorem dX0_getUp_28 : decode cX0_getUp 28 = .ok (.iconst (-1), 1) := by decide +kernel
theorem dX0_getUp_29 : decode cX0_getUp 29 = .ok (.iastore, 1) := by decide +kernel
theorem dX0_getUp_30 : decode cX0_getUp 30 = .ok (.iinc 2 1, 3) := by decide +kernel
theorem dX0_getUp_33 : decode cX0_getUp 33 = .ok (.goto (-31), 3) := by decide +kernel
theorem dX0_getUp_36 : decode cX0_getUp 36 = .ok (.return_, 1) := by decide +kernel
theorem dX0_driveIn_0 : decode cX0_driveIn 0 = .ok (.iconst 0, 1) := by decide +kernel
theorem dX0_driveIn_1 : decode cX0_driveIn 1 = .ok (.istore_n 2, 1) := by decide +kernel
theorem dX0_driveIn_2 : decode cX0_driveIn 2 = .ok (.iconst 0, 1) := by decide +kernel
theorem dX0_driveIn_3 : decode cX0_driveIn 3 = .ok (.istore_n 3, 1) := by decide +kernel
theorem dX0_driveIn_4 : decode cX0_driveIn 4 = .ok (.iload_n 3, 1) := by decide +kernel
theorem dX0_driveIn_5 : decode cX0_driveIn 5 = .ok (.aload_n 0, 1) := by decide +kernel
theorem dX0_driveIn_6 : decode cX0_driveIn 6 = .ok (.getfield 33, 3) := by decide +kernel
theorem dX0_driveIn_9 : decode cX0_driveIn 9 = .ok (.getfield 97, 3) := by decide +kernel
theorem dX0_driveIn_12 : decode cX0_driveIn 12 = .ok (.if_icmp .ge 51, 3) := by decide +kernel
theorem dX0_driveIn_15 : decode cX0_driveIn 15 = .ok (.aload_n 0, 1) := by decide +kernel
theorem dX0_driveIn_16 : decode cX0_driveIn 16 = .ok (.getfield 33, 3) := by decide +kernel
theorem dX0_driveIn_19 : decode cX0_driveIn 19 = .ok (.getfield 124, 3) := by decide +kernel
theorem dX0_driveIn_22 : decode cX0_driveIn 22 = .ok (.iload_n 3, 1) := by decide +kernel
theorem dX0_driveIn_23 : decode cX0_driveIn 23 = .ok (.iaload, 1) := by decide +kernel
theorem dX0_driveIn_24 : decode cX0_driveIn 24 = .ok (.ifCond .ne 33, 3) := by decide +kernel
theorem dX0_driveIn_27 : decode cX0_driveIn 27 = .ok (.aload_n 0, 1) := by decide +kernel
theorem dX0_driveIn_28 : decode cX0_driveIn 28 = .ok (.getfield 30, 3) := by decide +kernel
theorem dX0_driveIn_31 : decode cX0_driveIn 31 = .ok (.iload_n 3, 1) := by decide +kernel
theorem dX0_driveIn_32 : decode cX0_driveIn 32 = .ok (.iaload, 1) := by decide +kernel
theorem dX0_driveIn_33 : decode cX0_driveIn 33 = .ok (.ifCond .lt 24, 3) := by decide +kernel
theorem dX0_driveIn_36 : decode cX0_driveIn 36 = .ok (.iload_n 2, 1) := by decide +kernel
theorem dX0_driveIn_37 : decode cX0_driveIn 37 = .ok (.iconst 1, 1) := by decide +kernel
theorem dX0_driveIn_38 : decode cX0_driveIn 38 = .ok (.aload_n 0, 1) := by decide +kernel
theorem dX0_driveIn_39 : decode cX0_driveIn 39 = .ok (.getfield 30, 3) := by decide +kernel
theorem dX0_driveIn_42 : decode cX0_driveIn 42 = .ok (.iload_n 3, 1) := by decide +kernel
theorem dX0_driveIn_43 : decode cX0_driveIn 43 = .ok (.iaload, 1) := by decide +kernel
theorem dX0_driveIn_44 : decode cX0_driveIn 44 = .ok (.ishl, 1) := by decide +kernel
theorem dX0_driveIn_45 : decode cX0_driveIn 45 = .ok (.ior, 1) := by decide +kernel
theorem dX0_driveIn_46 : decode cX0_driveIn 46 = .ok (.istore_n 2, 1) := by decide +kernel
theorem dX0_driveIn_47 : decode cX0_driveIn 47 = .ok (.aload_n 0, 1) := by decide +kernel
theorem dX0_driveIn_48 : decode cX0_driveIn 48 = .ok (.aload_n 0, 1) := by decide +kernel
theorem dX0_driveIn_49 : decode cX0_driveIn 49 = .ok (.getfield 30, 3) := by decide +kernel
theorem dX0_driveIn_52 : decode cX0_driveIn 52 = .ok (.iload_n 3, 1) := by decide +kernel
theorem dX0_driveIn_53 : decode cX0_driveIn 53 = .ok (.iaload, 1) := by decide +kernel
theorem dX0_driveIn_54 : decode cX0_driveIn 54 = .ok (.invokevirtual 121, 3) := by decide +kernel
theorem dX0_driveIn_57 : decode cX0_driveIn 57 = .ok (.iinc 3 1, 3) := by decide +kernel
theorem dX0_driveIn_60 : decode cX0_driveIn 60 = .ok (.goto (-56), 3) := by decide +kernel
theorem dX0_driveIn_63 : decode cX0_driveIn 63 = .ok (.iconst 0, 1) := by decide +kernel
theorem dX0_driveIn_64 : decode cX0_driveIn 64 = .ok (.istore_n 3, 1) := by decide +kernel
theorem dX0_driveIn_65 : decode cX0_driveIn 65 = .ok (.iload_n 3, 1) := by decide +kernel
theorem dX0_driveIn_66 : decode cX0_driveIn 66 = .ok (.aload_n 0, 1) := by decide +kernel
theorem dX0_driveIn_67 : decode cX0_driveIn 67 = .ok (.getfield 33, 3) := by decide +kernel
theorem dX0_driveIn_70 : decode cX0_driveIn 70 = .ok (.getfield 97, 3) := by decide +kernel
theorem dX0_driveIn_73 : decode cX0_driveIn 73 = .ok (.if_icmp .ge 29, 3) := by decide +kernel
theorem dX0_driveIn_76 : decode cX0_driveIn 76 = .ok (.aload_n 0, 1) := by decide +kernel
theorem dX0_driveIn_77 : decode cX0_driveIn 77 = .ok (.getfield 33, 3) := by decide +kernel
theorem dX0_driveIn_80 : decode cX0_driveIn 80 = .ok (.getfield 124, 3) := by decide +kernel
theorem dX0_driveIn_83 : decode cX0_driveIn 83 = .ok (.iload_n 3, 1) := by decide +kernel
theorem dX0_driveIn_84 : decode cX0_driveIn 84 = .ok (.iaload, 1) := by decide +kernel
theorem dX0_driveIn_85 : decode cX0_driveIn 85 = .ok (.ifCond .ne 11, 3) := by decide +kernel
theorem dX0_driveIn_88 : decode cX0_driveIn 88 = .ok (.aload_n 0, 1) := by decide +kernel
theorem dX0_driveIn_89 : decode cX0_driveIn 89 = .ok (.getfield 30, 3) := by decide +kernel
theorem dX0_driveIn_92 : decode cX0_driveIn 92 = .ok (.iload_n 3, 1) := by decide +kernel
theorem dX0_driveIn_93 : decode cX0_driveIn 93 = .ok (.bipush (-2), 2) := by decide +kernel
theorem dX0_driveIn_95 : decode cX0_driveIn 95 = .ok (.iastore, 1) := by decide +kernel
theorem dX0_driveIn_96 : decode cX0_driveIn 96 = .ok (.iinc 3 1, 3) := by decide +kernel
theorem dX0_driveIn_99 : decode cX0_driveIn 99 = .ok (.goto (-34), 3) := by decide +kernel
theorem dX0_driveIn_102 : decode cX0_driveIn 102 = .ok (.iconst 0, 1) := by decide +kernel
theorem dX0_driveIn_103 : decode cX0_driveIn 103 = .ok (.istore_n 3, 1) := by decide +kernel
theorem dX0_driveIn_104 : decode cX0_driveIn 104 = .ok (.iload_n 3, 1) := by decide +kernel
theorem dX0_driveIn_105 : decode cX0_driveIn 105 = .ok (.bipush 8, 2) := by decide +kernel
theorem dX0_driveIn_107 : decode cX0_driveIn 107 = .ok (.if_icmp .ge 42, 3) := by decide +kernel
theorem dX0_driveIn_110 : decode cX0_driveIn 110 = .ok (.iload_n 2, 1) := by decide +kernel
theorem dX0_driveIn_111 : decode cX0_driveIn 111 = .ok (.iload_n 3, 1) := by decide +kernel
theorem dX0_driveIn_112 : decode cX0_driveIn 112 = .ok (.ishr, 1) := by decide +kernel
theorem dX0_driveIn_113 : decode cX0_driveIn 113 = .ok (.iconst 1, 1) := by decide +kernel
theorem dX0_driveIn_114 : decode cX0_driveIn 114 = .ok (.iand, 1) := by decide +kernel
theorem dX0_driveIn_115 : decode cX0_driveIn 115 = .ok (.iconst 1, 1) := by decide +kernel
theorem dX0_driveIn_116 : decode cX0_driveIn 116 = .ok (.if_icmp .ne 27, 3) := by decide +kernel
theorem dX0_driveIn_119 : decode cX0_driveIn 119 = .ok (.aload_n 0, 1) := by decide +kernel
theorem dX0_driveIn_120 : decode cX0_driveIn 120 = .ok (.iload_n 3, 1) := by decide +kernel
theorem dX0_driveIn_121 : decode cX0_driveIn 121 = .ok (.invokevirtual 127, 3) := by decide +kernel
theorem dX0_driveIn_124 : decode cX0_driveIn 124 = .ok (.bipush (-9), 2) := by decide +kernel
theorem dX0_driveIn_126 : decode cX0_driveIn 126 = .ok (.if_icmp .ne 17, 3) := by decide +kernel
theorem dX0_driveIn_129 : decode cX0_driveIn 129 = .ok (.aload_n 0, 1) := by decide +kernel
theorem dX0_driveIn_130 : decode cX0_driveIn 130 = .ok (.getfield 9, 3) := by decide +kernel
theorem dX0_driveIn_133 : decode cX0_driveIn 133 = .ok (.iload_n 3, 1) := by decide +kernel
theorem dX0_driveIn_134 : decode cX0_driveIn 134 = .ok (.iconst 0, 1) := by decide +kernel
theorem dX0_driveIn_135 : decode cX0_driveIn 135 = .ok (.iastore, 1) := by decide +kernel
theorem dX0_driveIn_136 : decode cX0_driveIn 136 = .ok (.aload_n 0, 1) := by decide +kernel
theorem dX0_driveIn_137 : decode cX0_driveIn 137 = .ok (.getfield 21, 3) := by decide +kernel
theorem dX0_driveIn_140 : decode cX0_driveIn 140 = .ok (.iload_n 3, 1) := by decide +kernel
theorem dX0_driveIn_141 : decode cX0_driveIn 141 = .ok (.iload_n 1, 1) := by decide +kernel
theorem dX0_driveIn_142 : decode cX0_driveIn 142 = .ok (.iastore, 1) := by decide +kernel
theorem dX0_driveIn_143 : decode cX0_driveIn 143 = .ok (.iinc 3 1, 3) := by decide +kernel
theorem dX0_driveIn_146 : decode cX0_driveIn 146 = .ok (.goto (-42), 3) := by decide +kernel
theorem dX0_driveIn_149 : decode cX0_driveIn 149 = .ok (.return_, 1) := by decide +kernel
theorem dX0_callWaiting_0 : decode cX0_callWaiting 0 = .ok (.iconst 0, 1) := by decide +kernel
theorem dX0_callWaiting_1 : decode cX0_callWaiting 1 = .ok (.istore_n 2, 1) := by decide +kernel
theorem dX0_callWaiting_2 : decode cX0_callWaiting 2 = .ok (.iload_n 2, 1) := by decide +kernel
theorem dX0_callWaiting_3 : decode cX0_callWaiting 3 = .ok (.aload_n 0, 1) := by decide +kernel
theorem dX0_callWaiting_4 : decode cX0_callWaiting 4 = .ok (.getfield 86, 3) := by decide +kernel
theorem dX0_callWaiting_7 : decode cX0_callWaiting 7 = .ok (.if_icmp .ge 80, 3) := by decide +kernel
theorem dX0_callWaiting_10 : decode cX0_callWaiting 10 = .ok (.aload_n 0, 1) := by decide +kernel
theorem dX0_callWaiting_11 : decode cX0_callWaiting 11 = .ok (.getfield 27, 3) := by decide +kernel
theorem dX0_callWaiting_14 : decode cX0_callWaiting 14 = .ok (.iload_n 2, 1) := by decide +kernel
theorem dX0_callWaiting_15 : decode cX0_callWaiting 15 = .ok (.iaload, 1) := by decide +kernel
theorem dX0_callWaiting_16 : decode cX0_callWaiting 16 = .ok (.istore_n 3, 1) := by decide +kernel
theorem dX0_callWaiting_17 : decode cX0_callWaiting 17 = .ok (.aload_n 0, 1) := by decide +kernel
theorem dX0_callWaiting_18 : decode cX0_callWaiting 18 = .ok (.getfield 9, 3) := by decide +kernel
theorem dX0_callWaiting_21 : decode cX0_callWaiting 21 = .ok (.iload_n 3, 1) := by decide +kernel
theorem dX0_callWaiting_22 : decode cX0_callWaiting 22 = .ok (.iaload, 1) := by decide +kernel
theorem dX0_callWaiting_23 : decode cX0_callWaiting 23 = .ok (.iconst 4, 1) := by decide +kernel
theorem dX0_callWaiting_24 : decode cX0_callWaiting 24 = .ok (.if_icmp .ne 57, 3) := by decide +kernel
theorem dX0_callWaiting_27 : decode cX0_callWaiting 27 = .ok (.aload_n 0, 1) := by decide +kernel
theorem dX0_callWaiting_28 : decode cX0_callWaiting 28 = .ok (.iload_n 3, 1) := by decide +kernel
theorem dX0_callWaiting_29 : decode cX0_callWaiting 29 = .ok (.iload_n 1, 1) := by decide +kernel
theorem dX0_callWaiting_30 : decode cX0_callWaiting 30 = .ok (.invokevirtual 130, 3) := by decide +kernel
theorem dX0_callWaiting_33 : decode cX0_callWaiting 33 = .ok (.ifCond .ne 48, 3) := by decide +kernel
theorem dX0_callWaiting_36 : decode cX0_callWaiting 36 = .ok (.iload_n 1, 1) := by decide +kernel
theorem dX0_callWaiting_37 : decode cX0_callWaiting 37 = .ok (.aload_n 0, 1) := by decide +kernel
theorem dX0_callWaiting_38 : decode cX0_callWaiting 38 = .ok (.getfield 47, 3) := by decide +kernel
theorem dX0_callWaiting_41 : decode cX0_callWaiting 41 = .ok (.iload_n 3, 1) := by decide +kernel
theorem dX0_callWaiting_42 : decode cX0_callWaiting 42 = .ok (.aaload, 1) := by decide +kernel
theorem dX0_callWaiting_43 : decode cX0_callWaiting 43 = .ok (.getfield 112, 3) := by decide +kernel
theorem dX0_callWaiting_46 : decode cX0_callWaiting 46 = .ok (.isub, 1) := by decide +kernel
theorem dX0_callWaiting_47 : decode cX0_callWaiting 47 = .ok (.aload_n 0, 1) := by decide +kernel
theorem dX0_callWaiting_48 : decode cX0_callWaiting 48 = .ok (.getfield 33, 3) := by decide +kernel
theorem dX0_callWaiting_51 : decode cX0_callWaiting 51 = .ok (.getfield 118, 3) := by decide +kernel
theorem dX0_callWaiting_54 : decode cX0_callWaiting 54 = .ok (.if_icmp .lt 27, 3) := by decide +kernel
theorem dX0_callWaiting_57 : decode cX0_callWaiting 57 = .ok (.aload_n 0, 1) := by decide +kernel
theorem dX0_callWaiting_58 : decode cX0_callWaiting 58 = .ok (.getfield 9, 3) := by decide +kernel
theorem dX0_callWaiting_61 : decode cX0_callWaiting 61 = .ok (.iload_n 3, 1) := by decide +kernel
theorem dX0_callWaiting_62 : decode cX0_callWaiting 62 = .ok (.iconst 1, 1) := by decide +kernel
theorem dX0_callWaiting_63 : decode cX0_callWaiting 63 = .ok (.iastore, 1) := by decide +kernel
theorem dX0_callWaiting_64 : decode cX0_callWaiting 64 = .ok (.aload_n 0, 1) := by decide +kernel
theorem dX0_callWaiting_65 : decode cX0_callWaiting 65 = .ok (.getfield 24, 3) := by decide +kernel
theorem dX0_callWaiting_68 : decode cX0_callWaiting 68 = .ok (.iload_n 3, 1) := by decide +kernel
theorem dX0_callWaiting_69 : decode cX0_callWaiting 69 = .ok (.iload_n 1, 1) := by decide +kernel
theorem dX0_callWaiting_70 : decode cX0_callWaiting 70 = .ok (.aload_n 0, 1) := by decide +kernel
theorem dX0_callWaiting_71 : decode cX0_callWaiting 71 = .ok (.getfield 47, 3) := by decide +kernel
theorem dX0_callWaiting_74 : decode cX0_callWaiting 74 = .ok (.iload_n 3, 1) := by decide +kernel
theorem dX0_callWaiting_75 : decode cX0_callWaiting 75 = .ok (.aaload, 1) := by decide +kernel
theorem dX0_callWaiting_76 : decode cX0_callWaiting 76 = .ok (.getfield 112, 3) := by decide +kernel
theorem dX0_callWaiting_79 : decode cX0_callWaiting 79 = .ok (.isub, 1) := by decide +kernel
theorem dX0_callWaiting_80 : decode cX0_callWaiting 80 = .ok (.iastore, 1) := by decide +kernel
theorem dX0_callWaiting_81 : decode cX0_callWaiting 81 = .ok (.iinc 2 1, 3) := by decide +kernel
theorem dX0_callWaiting_84 : decode cX0_callWaiting 84 = .ok (.goto (-82), 3) := by decide +kernel
theorem dX0_callWaiting_87 : decode cX0_callWaiting 87 = .ok (.return_, 1) := by decide +kernel
theorem dX0_letCome_0 : decode cX0_letCome 0 = .ok (.iconst 0, 1) := by decide +kernel
theorem dX0_letCome_1 : decode cX0_letCome 1 = .ok (.istore_n 2, 1) := by decide +kernel
theorem dX0_letCome_2 : decode cX0_letCome 2 = .ok (.iload_n 2, 1) := by decide +kernel
theorem dX0_letCome_3 : decode cX0_letCome 3 = .ok (.aload_n 0, 1) := by decide +kernel
theorem dX0_letCome_4 : decode cX0_letCome 4 = .ok (.getfield 86, 3) := by decide +kernel
theorem dX0_letCome_7 : decode cX0_letCome 7 = .ok (.if_icmp .ge 98, 3) := by decide +kernel
theorem dX0_letCome_10 : decode cX0_letCome 10 = .ok (.aload_n 0, 1) := by decide +kernel
theorem dX0_letCome_11 : decode cX0_letCome 11 = .ok (.getfield 27, 3) := by decide +kernel
theorem dX0_letCome_14 : decode cX0_letCome 14 = .ok (.iload_n 2, 1) := by decide +kernel
theorem dX0_letCome_15 : decode cX0_letCome 15 = .ok (.iaload, 1) := by decide +kernel
theorem dX0_letCome_16 : decode cX0_letCome 16 = .ok (.istore_n 3, 1) := by decide +kernel
theorem dX0_letCome_17 : decode cX0_letCome 17 = .ok (.aload_n 0, 1) := by decide +kernel
theorem dX0_letCome_18 : decode cX0_letCome 18 = .ok (.getfield 9, 3) := by decide +kernel
theorem dX0_letCome_21 : decode cX0_letCome 21 = .ok (.iload_n 3, 1) := by decide +kernel
theorem dX0_letCome_22 : decode cX0_letCome 22 = .ok (.iaload, 1) := by decide +kernel
theorem dX0_letCome_23 : decode cX0_letCome 23 = .ok (.iconst 3, 1) := by decide +kernel
theorem dX0_letCome_24 : decode cX0_letCome 24 = .ok (.if_icmp .ne 75, 3) := by decide +kernel
theorem dX0_letCome_27 : decode cX0_letCome 27 = .ok (.aload_n 0, 1) := by decide +kernel
theorem dX0_letCome_28 : decode cX0_letCome 28 = .ok (.getfield 47, 3) := by decide +kernel
theorem dX0_letCome_31 : decode cX0_letCome 31 = .ok (.iload_n 3, 1) := by decide +kernel
theorem dX0_letCome_32 : decode cX0_letCome 32 = .ok (.aaload, 1) := by decide +kernel
theorem dX0_letCome_33 : decode cX0_letCome 33 = .ok (.getfield 112, 3) := by decide +kernel
theorem dX0_letCome_36 : decode cX0_letCome 36 = .ok (.iload_n 1, 1) := by decide +kernel
theorem dX0_letCome_37 : decode cX0_letCome 37 = .ok (.if_icmp .eq 6, 3) := by decide +kernel
theorem dX0_letCome_40 : decode cX0_letCome 40 = .ok (.goto 59, 3) := by decide +kernel
theorem dX0_letCome_43 : decode cX0_letCome 43 = .ok (.aload_n 0, 1) := by decide +kernel
theorem dX0_letCome_44 : decode cX0_letCome 44 = .ok (.invokevirtual 134, 3) := by decide +kernel
theorem dX0_letCome_47 : decode cX0_letCome 47 = .ok (.aload_n 0, 1) := by decide +kernel
theorem dX0_letCome_48 : decode cX0_letCome 48 = .ok (.getfield 47, 3) := by decide +kernel
theorem dX0_letCome_51 : decode cX0_letCome 51 = .ok (.iload_n 3, 1) := by decide +kernel
theorem dX0_letCome_52 : decode cX0_letCome 52 = .ok (.aaload, 1) := by decide +kernel
theorem dX0_letCome_53 : decode cX0_letCome 53 = .ok (.getfield 137, 3) := by decide +kernel
theorem dX0_letCome_56 : decode cX0_letCome 56 = .ok (.if_icmp .ge 13, 3) := by decide +kernel
theorem dX0_letCome_59 : decode cX0_letCome 59 = .ok (.aload_n 0, 1) := by decide +kernel
theorem dX0_letCome_60 : decode cX0_letCome 60 = .ok (.getfield 9, 3) := by decide +kernel
theorem dX0_letCome_63 : decode cX0_letCome 63 = .ok (.iload_n 3, 1) := by decide +kernel
theorem dX0_letCome_64 : decode cX0_letCome 64 = .ok (.iconst 2, 1) := by decide +kernel
theorem dX0_letCome_65 : decode cX0_letCome 65 = .ok (.iastore, 1) := by decide +kernel
theorem dX0_letCome_66 : decode cX0_letCome 66 = .ok (.goto 33, 3) := by decide +kernel
theorem dX0_letCome_69 : decode cX0_letCome 69 = .ok (.aload_n 0, 1) := by decide +kernel
theorem dX0_letCome_70 : decode cX0_letCome 70 = .ok (.iload_n 3, 1) := by decide +kernel
theorem dX0_letCome_71 : decode cX0_letCome 71 = .ok (.iload_n 1, 1) := by decide +kernel
theorem dX0_letCome_72 : decode cX0_letCome 72 = .ok (.invokevirtual 130, 3) := by decide +kernel
theorem dX0_letCome_75 : decode cX0_letCome 75 = .ok (.ifCond .ne 24, 3) := by decide +kernel
theorem dX0_letCome_78 : decode cX0_letCome 78 = .ok (.aload_n 0, 1) := by decide +kernel
theorem dX0_letCome_79 : decode cX0_letCome 79 = .ok (.getfield 9, 3) := by decide +kernel
theorem dX0_letCome_82 : decode cX0_letCome 82 = .ok (.iload_n 3, 1) := by decide +kernel
theorem dX0_letCome_83 : decode cX0_letCome 83 = .ok (.aload_n 0, 1) := by decide +kernel
theorem dX0_letCome_84 : decode cX0_letCome 84 = .ok (.getfield 33, 3) := by decide +kernel
theorem dX0_letCome_87 : decode cX0_letCome 87 = .ok (.getfield 118, 3) := by decide +kernel
theorem dX0_letCome_90 : decode cX0_letCome 90 = .ok (.ifCond .le 7, 3) := by decide +kernel
theorem dX0_letCome_93 : decode cX0_letCome 93 = .ok (.iconst 4, 1) := by decide +kernel
theorem dX0_letCome_94 : decode cX0_letCome 94 = .ok (.goto 4, 3) := by decide +kernel
theorem dX0_letCome_97 : decode cX0_letCome 97 = .ok (.iconst 1, 1) := by decide +kernel
theorem dX0_letCome_98 : decode cX0_letCome 98 = .ok (.iastore, 1) := by decide +kernel
theorem dX0_letCome_99 : decode cX0_letCome 99 = .ok (.iinc 2 1, 3) := by decide +kernel
theorem dX0_letCome_102 : decode cX0_letCome 102 = .ok (.goto (-100), 3) := by decide +kernel
theorem dX0_letCome_105 : decode cX0_letCome 105 = .ok (.return_, 1) := by decide +kernel
theorem dX0_sitDown_0 : decode cX0_sitDown 0 = .ok (.aload_n 0, 1) := by decide +kernel
theorem dX0_sitDown_1 : decode cX0_sitDown 1 = .ok (.iload_n 1, 1) := by decide +kernel
theorem dX0_sitDown_2 : decode cX0_sitDown 2 = .ok (.invokevirtual 127, 3) := by decide +kernel
theorem dX0_sitDown_5 : decode cX0_sitDown 5 = .ok (.istore_n 3, 1) := by decide +kernel
theorem dX0_sitDown_6 : decode cX0_sitDown 6 = .ok (.iload_n 3, 1) := by decide +kernel
theorem dX0_sitDown_7 : decode cX0_sitDown 7 = .ok (.bipush (-9), 2) := by decide +kernel
theorem dX0_sitDown_9 : decode cX0_sitDown 9 = .ok (.if_icmp .ne 5, 3) := by decide +kernel
theorem dX0_sitDown_12 : decode cX0_sitDown 12 = .ok (.iconst 0, 1) := by decide +kernel
theorem dX0_sitDown_13 : decode cX0_sitDown 13 = .ok (.ireturn, 1) := by decide +kernel
theorem dX0_sitDown_14 : decode cX0_sitDown 14 = .ok (.aload_n 0, 1) := by decide +kernel
theorem dX0_sitDown_15 : decode cX0_sitDown 15 = .ok (.getfield 9, 3) := by decide +kernel
theorem dX0_sitDown_18 : decode cX0_sitDown 18 = .ok (.iload_n 1, 1) := by decide +kernel
theorem dX0_sitDown_19 : decode cX0_sitDown 19 = .ok (.iconst 5, 1) := by decide +kernel
theorem dX0_sitDown_20 : decode cX0_sitDown 20 = .ok (.iastore, 1) := by decide +kernel
theorem dX0_sitDown_21 : decode cX0_sitDown 21 = .ok (.aload_n 0, 1) := by decide +kernel
theorem dX0_sitDown_22 : decode cX0_sitDown 22 = .ok (.getfield 15, 3) := by decide +kernel
theorem dX0_sitDown_25 : decode cX0_sitDown 25 = .ok (.iload_n 1, 1) := by decide +kernel
theorem dX0_sitDown_26 : decode cX0_sitDown 26 = .ok (.iload_n 3, 1) := by decide +kernel
theorem dX0_sitDown_27 : decode cX0_sitDown 27 = .ok (.iastore, 1) := by decide +kernel
theorem dX0_sitDown_28 : decode cX0_sitDown 28 = .ok (.aload_n 0, 1) := by decide +kernel
theorem dX0_sitDown_29 : decode cX0_sitDown 29 = .ok (.getfield 18, 3) := by decide +kernel
theorem dX0_sitDown_32 : decode cX0_sitDown 32 = .ok (.iload_n 1, 1) := by decide +kernel
theorem dX0_sitDown_33 : decode cX0_sitDown 33 = .ok (.iload_n 2, 1) := by decide +kernel
theorem dX0_sitDown_34 : decode cX0_sitDown 34 = .ok (.iastore, 1) := by decide +kernel
theorem dX0_sitDown_35 : decode cX0_sitDown 35 = .ok (.aload_n 0, 1) := by decide +kernel
theorem dX0_sitDown_36 : decode cX0_sitDown 36 = .ok (.getfield 21, 3) := by decide +kernel
theorem dX0_sitDown_39 : decode cX0_sitDown 39 = .ok (.iload_n 1, 1) := by decide +kernel
theorem dX0_sitDown_40 : decode cX0_sitDown 40 = .ok (.iload_n 2, 1) := by decide +kernel
theorem dX0_sitDown_41 : decode cX0_sitDown 41 = .ok (.aload_n 0, 1) := by decide +kernel
theorem dX0_sitDown_42 : decode cX0_sitDown 42 = .ok (.getfield 47, 3) := by decide +kernel
theorem dX0_sitDown_45 : decode cX0_sitDown 45 = .ok (.iload_n 1, 1) := by decide +kernel
theorem dX0_sitDown_46 : decode cX0_sitDown 46 = .ok (.aaload, 1) := by decide +kernel
theorem dX0_sitDown_47 : decode cX0_sitDown 47 = .ok (.aload_n 0, 1) := by decide +kernel
theorem dX0_sitDown_48 : decode cX0_sitDown 48 = .ok (.iload_n 1, 1) := by decide +kernel
theorem dX0_sitDown_49 : decode cX0_sitDown 49 = .ok (.invokevirtual 140, 3) := by decide +kernel
theorem dX0_sitDown_52 : decode cX0_sitDown 52 = .ok (.ifCond .le 7, 3) := by decide +kernel
theorem dX0_sitDown_55 : decode cX0_sitDown 55 = .ok (.iconst 1, 1) := by decide +kernel
theorem dX0_sitDown_56 : decode cX0_sitDown 56 = .ok (.goto 4, 3) := by decide +kernel
theorem dX0_sitDown_59 : decode cX0_sitDown 59 = .ok (.iconst 0, 1) := by decide +kernel
theorem dX0_sitDown_60 : decode cX0_sitDown 60 = .ok (.invokevirtual 143, 3) := by decide +kernel
theorem dX0_sitDown_63 : decode cX0_sitDown 63 = .ok (.iadd, 1) := by decide +kernel
theorem dX0_sitDown_64 : decode cX0_sitDown 64 = .ok (.iastore, 1) := by decide +kernel
theorem dX0_sitDown_65 : decode cX0_sitDown 65 = .ok (.aload_n 0, 1) := by decide +kernel
theorem dX0_sitDown_66 : decode cX0_sitDown 66 = .ok (.getfield 24, 3) := by decide +kernel
theorem dX0_sitDown_69 : decode cX0_sitDown 69 = .ok (.iload_n 1, 1) := by decide +kernel
theorem dX0_sitDown_70 : decode cX0_sitDown 70 = .ok (.iload_n 2, 1) := by decide +kernel
theorem dX0_sitDown_71 : decode cX0_sitDown 71 = .ok (.aload_n 0, 1) := by decide +kernel
theorem dX0_sitDown_72 : decode cX0_sitDown 72 = .ok (.getfield 47, 3) := by decide +kernel
theorem dX0_sitDown_75 : decode cX0_sitDown 75 = .ok (.iload_n 1, 1) := by decide +kernel
theorem dX0_sitDown_76 : decode cX0_sitDown 76 = .ok (.aaload, 1) := by decide +kernel
theorem dX0_sitDown_77 : decode cX0_sitDown 77 = .ok (.getfield 112, 3) := by decide +kernel
theorem dX0_sitDown_80 : decode cX0_sitDown 80 = .ok (.isub, 1) := by decide +kernel
theorem dX0_sitDown_81 : decode cX0_sitDown 81 = .ok (.iastore, 1) := by decide +kernel
theorem dX0_sitDown_82 : decode cX0_sitDown 82 = .ok (.iconst 1, 1) := by decide +kernel
theorem dX0_sitDown_83 : decode cX0_sitDown 83 = .ok (.ireturn, 1) := by decide +kernel
theorem dX0_findPlace_0 : decode cX0_findPlace 0 = .ok (.aload_n 0, 1) := by decide +kernel
theorem dX0_findPlace_1 : decode cX0_findPlace 1 = .ok (.getfield 47, 3) := by decide +kernel
theorem dX0_findPlace_4 : decode cX0_findPlace 4 = .ok (.iload_n 1, 1) := by decide +kernel
theorem dX0_findPlace_5 : decode cX0_findPlace 5 = .ok (.aaload, 1) := by decide +kernel
theorem dX0_findPlace_6 : decode cX0_findPlace 6 = .ok (.astore_n 2, 1) := by decide +kernel
theorem dX0_findPlace_7 : decode cX0_findPlace 7 = .ok (.aload_n 0, 1) := by decide +kernel
theorem dX0_findPlace_8 : decode cX0_findPlace 8 = .ok (.getfield 33, 3) := by decide +kernel
theorem dX0_findPlace_11 : decode cX0_findPlace 11 = .ok (.getfield 147, 3) := by decide +kernel
theorem dX0_findPlace_14 : decode cX0_findPlace 14 = .ok (.iconst 2, 1) := by decide +kernel
theorem dX0_findPlace_15 : decode cX0_findPlace 15 = .ok (.if_icmp .ne 18, 3) := by decide +kernel
theorem dX0_findPlace_18 : decode cX0_findPlace 18 = .ok (.aload_n 0, 1) := by decide +kernel
theorem dX0_findPlace_19 : decode cX0_findPlace 19 = .ok (.aload_n 2, 1) := by decide +kernel
theorem dX0_findPlace_20 : decode cX0_findPlace 20 = .ok (.getfield 150, 3) := by decide +kernel
theorem dX0_findPlace_23 : decode cX0_findPlace 23 = .ok (.aload_n 2, 1) := by decide +kernel
theorem dX0_findPlace_24 : decode cX0_findPlace 24 = .ok (.getfield 153, 3) := by decide +kernel
theorem dX0_findPlace_27 : decode cX0_findPlace 27 = .ok (.invokevirtual 156, 3) := by decide +kernel
theorem dX0_findPlace_30 : decode cX0_findPlace 30 = .ok (.goto 5, 3) := by decide +kernel
theorem dX0_findPlace_33 : decode cX0_findPlace 33 = .ok (.bipush (-9), 2) := by decide +kernel
theorem dX0_findPlace_35 : decode cX0_findPlace 35 = .ok (.istore_n 3, 1) := by decide +kernel
theorem dX0_findPlace_36 : decode cX0_findPlace 36 = .ok (.iload_n 3, 1) := by decide +kernel
theorem dX0_findPlace_37 : decode cX0_findPlace 37 = .ok (.bipush (-9), 2) := by decide +kernel
theorem dX0_findPlace_39 : decode cX0_findPlace 39 = .ok (.if_icmp .ne 13, 3) := by decide +kernel
theorem dX0_findPlace_42 : decode cX0_findPlace 42 = .ok (.aload_n 0, 1) := by decide +kernel
theorem dX0_findPlace_43 : decode cX0_findPlace 43 = .ok (.aload_n 2, 1) := by decide +kernel
theorem dX0_findPlace_44 : decode cX0_findPlace 44 = .ok (.getfield 150, 3) := by decide +kernel
theorem dX0_findPlace_47 : decode cX0_findPlace 47 = .ok (.iconst (-1), 1) := by decide +kernel
theorem dX0_findPlace_48 : decode cX0_findPlace 48 = .ok (.invokevirtual 156, 3) := by decide +kernel
theorem dX0_findPlace_51 : decode cX0_findPlace 51 = .ok (.istore_n 3, 1) := by decide +kernel
theorem dX0_findPlace_52 : decode cX0_findPlace 52 = .ok (.iload_n 3, 1) := by decide +kernel
theorem dX0_findPlace_53 : decode cX0_findPlace 53 = .ok (.bipush (-9), 2) := by decide +kernel
theorem dX0_findPlace_55 : decode cX0_findPlace 55 = .ok (.if_icmp .eq 12, 3) := by decide +kernel
theorem dX0_findPlace_58 : decode cX0_findPlace 58 = .ok (.aload_n 0, 1) := by decide +kernel
theorem dX0_findPlace_59 : decode cX0_findPlace 59 = .ok (.getfield 30, 3) := by decide +kernel
theorem dX0_findPlace_62 : decode cX0_findPlace 62 = .ok (.iload_n 3, 1) := by decide +kernel
theorem dX0_findPlace_63 : decode cX0_findPlace 63 = .ok (.iload_n 1, 1) := by decide +kernel
theorem dX0_findPlace_64 : decode cX0_findPlace 64 = .ok (.iastore, 1) := by decide +kernel
theorem dX0_findPlace_65 : decode cX0_findPlace 65 = .ok (.iload_n 3, 1) := by decide +kernel
theorem dX0_findPlace_66 : decode cX0_findPlace 66 = .ok (.ireturn, 1) := by decide +kernel
theorem dX0_findPlace_67 : decode cX0_findPlace 67 = .ok (.aload_n 0, 1) := by decide +kernel
theorem dX0_findPlace_68 : decode cX0_findPlace 68 = .ok (.getfield 33, 3) := by decide +kernel
theorem dX0_findPlace_71 : decode cX0_findPlace 71 = .ok (.getfield 159, 3) := by decide +kernel
theorem dX0_findPlace_74 : decode cX0_findPlace 74 = .ok (.ifCond .eq 14, 3) := by decide +kernel
theorem dX0_findPlace_77 : decode cX0_findPlace 77 = .ok (.aload_n 0, 1) := by decide +kernel
theorem dX0_findPlace_78 : decode cX0_findPlace 78 = .ok (.aload_n 2, 1) := by decide +kernel
theorem dX0_findPlace_79 : decode cX0_findPlace 79 = .ok (.getfield 150, 3) := by decide +kernel
theorem dX0_findPlace_82 : decode cX0_findPlace 82 = .ok (.invokevirtual 163, 3) := by decide +kernel
theorem dX0_findPlace_85 : decode cX0_findPlace 85 = .ok (.goto 5, 3) := by decide +kernel
theorem dX0_findPlace_88 : decode cX0_findPlace 88 = .ok (.bipush (-9), 2) := by decide +kernel
theorem dX0_findPlace_90 : decode cX0_findPlace 90 = .ok (.istore_n 3, 1) := by decide +kernel
theorem dX0_findPlace_91 : decode cX0_findPlace 91 = .ok (.iload_n 3, 1) := by decide +kernel
theorem dX0_findPlace_92 : decode cX0_findPlace 92 = .ok (.bipush (-9), 2) := by decide +kernel
theorem dX0_findPlace_94 : decode cX0_findPlace 94 = .ok (.if_icmp .eq 19, 3) := by decide +kernel
theorem dX0_findPlace_97 : decode cX0_findPlace 97 = .ok (.aload_n 0, 1) := by decide +kernel
theorem dX0_findPlace_98 : decode cX0_findPlace 98 = .ok (.getfield 30, 3) := by decide +kernel
theorem dX0_findPlace_101 : decode cX0_findPlace 101 = .ok (.iload_n 3, 1) := by decide +kernel
theorem dX0_findPlace_102 : decode cX0_findPlace 102 = .ok (.iload_n 1, 1) := by decide +kernel
theorem dX0_findPlace_103 : decode cX0_findPlace 103 = .ok (.iastore, 1) := by decide +kernel
theorem dX0_findPlace_104 : decode cX0_findPlace 104 = .ok (.aload_n 0, 1) := by decide +kernel
theorem dX0_findPlace_105 : decode cX0_findPlace 105 = .ok (.getfield 30, 3) := by decide +kernel
theorem dX0_findPlace_108 : decode cX0_findPlace 108 = .ok (.iload_n 3, 1) := by decide +kernel
theorem dX0_findPlace_109 : decode cX0_findPlace 109 = .ok (.iconst 1, 1) := by decide +kernel
theorem dX0_findPlace_110 : decode cX0_findPlace 110 = .ok (.iadd, 1) := by decide +kernel
theorem dX0_findPlace_111 : decode cX0_findPlace 111 = .ok (.iload_n 1, 1) := by decide +kernel
theorem dX0_findPlace_112 : decode cX0_findPlace 112 = .ok (.iastore, 1) := by decide +kernel
theorem dX0_findPlace_113 : decode cX0_findPlace 113 = .ok (.iload_n 3, 1) := by decide +kernel
theorem dX0_findPlace_114 : decode cX0_findPlace 114 = .ok (.ireturn, 1) := by decide +kernel
theorem dX0_oneTable_0 : decode cX0_oneTable 0 = .ok (.bipush (-9), 2) := by decide +kernel
theorem dX0_oneTable_2 : decode cX0_oneTable 2 = .ok (.istore_n 3, 1) := by decide +kernel
theorem dX0_oneTable_3 : decode cX0_oneTable 3 = .ok (.iconst 0, 1) := by decide +kernel
theorem dX0_oneTable_4 : decode cX0_oneTable 4 = .ok (.istore 4, 2) := by decide +kernel
theorem dX0_oneTable_6 : decode cX0_oneTable 6 = .ok (.iload 4, 2) := by decide +kernel
theorem dX0_oneTable_8 : decode cX0_oneTable 8 = .ok (.aload_n 0, 1) := by decide +kernel
theorem dX0_oneTable_9 : decode cX0_oneTable 9 = .ok (.getfield 33, 3) := by decide +kernel
theorem dX0_oneTable_12 : decode cX0_oneTable 12 = .ok (.getfield 97, 3) := by decide +kernel
theorem dX0_oneTable_15 : decode cX0_oneTable 15 = .ok (.if_icmp .ge 130, 3) := by decide +kernel
theorem dX0_oneTable_18 : decode cX0_oneTable 18 = .ok (.aload_n 0, 1) := by decide +kernel
theorem dX0_oneTable_19 : decode cX0_oneTable 19 = .ok (.getfield 30, 3) := by decide +kernel
theorem dX0_oneTable_22 : decode cX0_oneTable 22 = .ok (.iload 4, 2) := by decide +kernel
theorem dX0_oneTable_24 : decode cX0_oneTable 24 = .ok (.iaload, 1) := by decide +kernel
theorem dX0_oneTable_25 : decode cX0_oneTable 25 = .ok (.iconst (-1), 1) := by decide +kernel
theorem dX0_oneTable_26 : decode cX0_oneTable 26 = .ok (.if_icmp .ne 21, 3) := by decide +kernel
theorem dX0_oneTable_29 : decode cX0_oneTable 29 = .ok (.aload_n 0, 1) := by decide +kernel
theorem dX0_oneTable_30 : decode cX0_oneTable 30 = .ok (.getfield 33, 3) := by decide +kernel
theorem dX0_oneTable_33 : decode cX0_oneTable 33 = .ok (.getfield 166, 3) := by decide +kernel
theorem dX0_oneTable_36 : decode cX0_oneTable 36 = .ok (.iload 4, 2) := by decide +kernel
theorem dX0_oneTable_38 : decode cX0_oneTable 38 = .ok (.iaload, 1) := by decide +kernel
theorem dX0_oneTable_39 : decode cX0_oneTable 39 = .ok (.iload_n 1, 1) := by decide +kernel
theorem dX0_oneTable_40 : decode cX0_oneTable 40 = .ok (.if_icmp .lt 7, 3) := by decide +kernel
theorem dX0_oneTable_43 : decode cX0_oneTable 43 = .ok (.iconst 1, 1) := by decide +kernel
theorem dX0_oneTable_44 : decode cX0_oneTable 44 = .ok (.goto 4, 3) := by decide +kernel
theorem dX0_oneTable_47 : decode cX0_oneTable 47 = .ok (.iconst 0, 1) := by decide +kernel
theorem dX0_oneTable_48 : decode cX0_oneTable 48 = .ok (.istore 5, 2) := by decide +kernel
theorem dX0_oneTable_50 : decode cX0_oneTable 50 = .ok (.iload_n 2, 1) := by decide +kernel
theorem dX0_oneTable_51 : decode cX0_oneTable 51 = .ok (.iconst (-1), 1) := by decide +kernel
theorem dX0_oneTable_52 : decode cX0_oneTable 52 = .ok (.if_icmp .eq 17, 3) := by decide +kernel
theorem dX0_oneTable_55 : decode cX0_oneTable 55 = .ok (.aload_n 0, 1) := by decide +kernel
theorem dX0_oneTable_56 : decode cX0_oneTable 56 = .ok (.getfield 33, 3) := by decide +kernel
theorem dX0_oneTable_59 : decode cX0_oneTable 59 = .ok (.getfield 124, 3) := by decide +kernel
theorem dX0_oneTable_62 : decode cX0_oneTable 62 = .ok (.iload 4, 2) := by decide +kernel
theorem dX0_oneTable_64 : decode cX0_oneTable 64 = .ok (.iaload, 1) := by decide +kernel
theorem dX0_oneTable_65 : decode cX0_oneTable 65 = .ok (.iload_n 2, 1) := by decide +kernel
theorem dX0_oneTable_66 : decode cX0_oneTable 66 = .ok (.if_icmp .ne 7, 3) := by decide +kernel
theorem dX0_oneTable_69 : decode cX0_oneTable 69 = .ok (.iconst 1, 1) := by decide +kernel
theorem dX0_oneTable_70 : decode cX0_oneTable 70 = .ok (.goto 4, 3) := by decide +kernel
theorem dX0_oneTable_73 : decode cX0_oneTable 73 = .ok (.iconst 0, 1) := by decide +kernel
theorem dX0_oneTable_74 : decode cX0_oneTable 74 = .ok (.istore 6, 2) := by decide +kernel
theorem dX0_oneTable_76 : decode cX0_oneTable 76 = .ok (.iload_n 3, 1) := by decide +kernel
theorem dX0_oneTable_77 : decode cX0_oneTable 77 = .ok (.bipush (-9), 2) := by decide +kernel
theorem dX0_oneTable_79 : decode cX0_oneTable 79 = .ok (.if_icmp .eq 35, 3) := by decide +kernel
theorem dX0_oneTable_82 : decode cX0_oneTable 82 = .ok (.aload_n 0, 1) := by decide +kernel
theorem dX0_oneTable_83 : decode cX0_oneTable 83 = .ok (.getfield 33, 3) := by decide +kernel
theorem dX0_oneTable_86 : decode cX0_oneTable 86 = .ok (.getfield 147, 3) := by decide +kernel
theorem dX0_oneTable_89 : decode cX0_oneTable 89 = .ok (.ifCond .eq 29, 3) := by decide +kernel
theorem dX0_oneTable_92 : decode cX0_oneTable 92 = .ok (.aload_n 0, 1) := by decide +kernel
theorem dX0_oneTable_93 : decode cX0_oneTable 93 = .ok (.getfield 33, 3) := by decide +kernel
theorem dX0_oneTable_96 : decode cX0_oneTable 96 = .ok (.getfield 166, 3) := by decide +kernel
theorem dX0_oneTable_99 : decode cX0_oneTable 99 = .ok (.iload 4, 2) := by decide +kernel
theorem dX0_oneTable_101 : decode cX0_oneTable 101 = .ok (.iaload, 1) := by decide +kernel
theorem dX0_oneTable_102 : decode cX0_oneTable 102 = .ok (.aload_n 0, 1) := by decide +kernel
theorem dX0_oneTable_103 : decode cX0_oneTable 103 = .ok (.getfield 33, 3) := by decide +kernel
theorem dX0_oneTable_106 : decode cX0_oneTable 106 = .ok (.getfield 166, 3) := by decide +kernel
theorem dX0_oneTable_109 : decode cX0_oneTable 109 = .ok (.iload_n 3, 1) := by decide +kernel
theorem dX0_oneTable_110 : decode cX0_oneTable 110 = .ok (.iaload, 1) := by decide +kernel
theorem dX0_oneTable_111 : decode cX0_oneTable 111 = .ok (.if_icmp .ge 7, 3) := by decide +kernel
theorem dX0_oneTable_114 : decode cX0_oneTable 114 = .ok (.iconst 1, 1) := by decide +kernel
theorem dX0_oneTable_115 : decode cX0_oneTable 115 = .ok (.goto 4, 3) := by decide +kernel
theorem dX0_oneTable_118 : decode cX0_oneTable 118 = .ok (.iconst 0, 1) := by decide +kernel
theorem dX0_oneTable_119 : decode cX0_oneTable 119 = .ok (.istore 7, 2) := by decide +kernel
theorem dX0_oneTable_121 : decode cX0_oneTable 121 = .ok (.iload 5, 2) := by decide +kernel
theorem dX0_oneTable_123 : decode cX0_oneTable 123 = .ok (.ifCond .eq 16, 3) := by decide +kernel
theorem dX0_oneTable_126 : decode cX0_oneTable 126 = .ok (.iload 6, 2) := by decide +kernel
theorem dX0_oneTable_128 : decode cX0_oneTable 128 = .ok (.ifCond .eq 11, 3) := by decide +kernel
theorem dX0_oneTable_131 : decode cX0_oneTable 131 = .ok (.iload 7, 2) := by decide +kernel
theorem dX0_oneTable_133 : decode cX0_oneTable 133 = .ok (.ifCond .eq 6, 3) := by decide +kernel
theorem dX0_oneTable_136 : decode cX0_oneTable 136 = .ok (.iload 4, 2) := by decide +kernel
theorem dX0_oneTable_138 : decode cX0_oneTable 138 = .ok (.istore_n 3, 1) := by decide +kernel
theorem dX0_oneTable_139 : decode cX0_oneTable 139 = .ok (.iinc 4 1, 3) := by decide +kernel
theorem dX0_oneTable_142 : decode cX0_oneTable 142 = .ok (.goto (-136), 3) := by decide +kernel
theorem dX0_oneTable_145 : decode cX0_oneTable 145 = .ok (.iload_n 3, 1) := by decide +kernel
theorem dX0_oneTable_146 : decode cX0_oneTable 146 = .ok (.ireturn, 1) := by decide +kernel
theorem dX0_twoTables_0 : decode cX0_twoTables 0 = .ok (.iconst 0, 1) := by decide +kernel
theorem dX0_twoTables_1 : decode cX0_twoTables 1 = .ok (.istore_n 2, 1) := by decide +kernel
theorem dX0_twoTables_2 : decode cX0_twoTables 2 = .ok (.iload_n 2, 1) := by decide +kernel
theorem dX0_twoTables_3 : decode cX0_twoTables 3 = .ok (.iconst 1, 1) := by decide +kernel
theorem dX0_twoTables_4 : decode cX0_twoTables 4 = .ok (.iadd, 1) := by decide +kernel
theorem dX0_twoTables_5 : decode cX0_twoTables 5 = .ok (.aload_n 0, 1) := by decide +kernel
theorem dX0_twoTables_6 : decode cX0_twoTables 6 = .ok (.getfield 33, 3) := by decide +kernel
theorem dX0_twoTables_9 : decode cX0_twoTables 9 = .ok (.getfield 97, 3) := by decide +kernel
theorem dX0_twoTables_12 : decode cX0_twoTables 12 = .ok (.if_icmp .ge 68, 3) := by decide +kernel
theorem dX0_twoTables_15 : decode cX0_twoTables 15 = .ok (.aload_n 0, 1) := by decide +kernel
theorem dX0_twoTables_16 : decode cX0_twoTables 16 = .ok (.getfield 30, 3) := by decide +kernel
theorem dX0_twoTables_19 : decode cX0_twoTables 19 = .ok (.iload_n 2, 1) := by decide +kernel
theorem dX0_twoTables_20 : decode cX0_twoTables 20 = .ok (.iaload, 1) := by decide +kernel
theorem dX0_twoTables_21 : decode cX0_twoTables 21 = .ok (.iconst (-1), 1) := by decide +kernel
theorem dX0_twoTables_22 : decode cX0_twoTables 22 = .ok (.if_icmp .ne 19, 3) := by decide +kernel
theorem dX0_twoTables_25 : decode cX0_twoTables 25 = .ok (.aload_n 0, 1) := by decide +kernel
theorem dX0_twoTables_26 : decode cX0_twoTables 26 = .ok (.getfield 30, 3) := by decide +kernel
theorem dX0_twoTables_29 : decode cX0_twoTables 29 = .ok (.iload_n 2, 1) := by decide +kernel
theorem dX0_twoTables_30 : decode cX0_twoTables 30 = .ok (.iconst 1, 1) := by decide +kernel
theorem dX0_twoTables_31 : decode cX0_twoTables 31 = .ok (.iadd, 1) := by decide +kernel
theorem dX0_twoTables_32 : decode cX0_twoTables 32 = .ok (.iaload, 1) := by decide +kernel
theorem dX0_twoTables_33 : decode cX0_twoTables 33 = .ok (.iconst (-1), 1) := by decide +kernel
theorem dX0_twoTables_34 : decode cX0_twoTables 34 = .ok (.if_icmp .ne 7, 3) := by decide +kernel
theorem dX0_twoTables_37 : decode cX0_twoTables 37 = .ok (.iconst 1, 1) := by decide +kernel
theorem dX0_twoTables_38 : decode cX0_twoTables 38 = .ok (.goto 4, 3) := by decide +kernel
theorem dX0_twoTables_41 : decode cX0_twoTables 41 = .ok (.iconst 0, 1) := by decide +kernel
theorem dX0_twoTables_42 : decode cX0_twoTables 42 = .ok (.istore_n 3, 1) := by decide +kernel
theorem dX0_twoTables_43 : decode cX0_twoTables 43 = .ok (.iload_n 3, 1) := by decide +kernel
theorem dX0_twoTables_44 : decode cX0_twoTables 44 = .ok (.ifCond .eq 30, 3) := by decide +kernel
theorem dX0_twoTables_47 : decode cX0_twoTables 47 = .ok (.aload_n 0, 1) := by decide +kernel
theorem dX0_twoTables_48 : decode cX0_twoTables 48 = .ok (.getfield 33, 3) := by decide +kernel
theorem dX0_twoTables_51 : decode cX0_twoTables 51 = .ok (.getfield 166, 3) := by decide +kernel
theorem dX0_twoTables_54 : decode cX0_twoTables 54 = .ok (.iload_n 2, 1) := by decide +kernel
theorem dX0_twoTables_55 : decode cX0_twoTables 55 = .ok (.iaload, 1) := by decide +kernel
theorem dX0_twoTables_56 : decode cX0_twoTables 56 = .ok (.aload_n 0, 1) := by decide +kernel
theorem dX0_twoTables_57 : decode cX0_twoTables 57 = .ok (.getfield 33, 3) := by decide +kernel
theorem dX0_twoTables_60 : decode cX0_twoTables 60 = .ok (.getfield 166, 3) := by decide +kernel
theorem dX0_twoTables_63 : decode cX0_twoTables 63 = .ok (.iload_n 2, 1) := by decide +kernel
theorem dX0_twoTables_64 : decode cX0_twoTables 64 = .ok (.iconst 1, 1) := by decide +kernel
theorem dX0_twoTables_65 : decode cX0_twoTables 65 = .ok (.iadd, 1) := by decide +kernel
theorem dX0_twoTables_66 : decode cX0_twoTables 66 = .ok (.iaload, 1) := by decide +kernel
theorem dX0_twoTables_67 : decode cX0_twoTables 67 = .ok (.iadd, 1) := by decide +kernel
theorem dX0_twoTables_68 : decode cX0_twoTables 68 = .ok (.iload_n 1, 1) := by decide +kernel
theorem dX0_twoTables_69 : decode cX0_twoTables 69 = .ok (.if_icmp .lt 5, 3) := by decide +kernel
theorem dX0_twoTables_72 : decode cX0_twoTables 72 = .ok (.iload_n 2, 1) := by decide +kernel
theorem dX0_twoTables_73 : decode cX0_twoTables 73 = .ok (.ireturn, 1) := by decide +kernel
theorem dX0_twoTables_74 : decode cX0_twoTables 74 = .ok (.iinc 2 1, 3) := by decide +kernel
theorem dX0_twoTables_77 : decode cX0_twoTables 77 = .ok (.goto (-75), 3) := by decide +kernel
theorem dX0_twoTables_80 : decode cX0_twoTables 80 = .ok (.bipush (-9), 2) := by decide +kernel
theorem dX0_twoTables_82 : decode cX0_twoTables 82 = .ok (.ireturn, 1) := by decide +kernel
theorem dX1_init_0 : decode cX1_init 0 = .ok (.aload_n 0, 1) := by decide +kernel
theorem dX1_init_1 : decode cX1_init 1 = .ok (.invokespecial 3, 3) := by decide +kernel
theorem dX1_init_4 : decode cX1_init 4 = .ok (.aload_n 0, 1) := by decide +kernel
theorem dX1_init_5 : decode cX1_init 5 = .ok (.bipush 8, 2) := by decide +kernel
theorem dX1_init_7 : decode cX1_init 7 = .ok (.anewarray 9, 3) := by decide +kernel
theorem dX1_init_10 : decode cX1_init 10 = .ok (.putfield 11, 3) := by decide +kernel
theorem dX1_init_13 : decode cX1_init 13 = .ok (.return_, 1) := by decide +kernel
theorem dX1_numbered_0 : decode cX1_numbered 0 = .ok (.iload_n 1, 1) := by decide +kernel
theorem dX1_numbered_1 : decode cX1_numbered 1 = .ok (.ifCond .lt 11, 3) := by decide +kernel
theorem dX1_numbered_4 : decode cX1_numbered 4 = .ok (.iload_n 1, 1) := by decide +kernel
theorem dX1_numbered_5 : decode cX1_numbered 5 = .ok (.aload_n 0, 1) := by decide +kernel
theorem dX1_numbered_6 : decode cX1_numbered 6 = .ok (.getfield 17, 3) := by decide +kernel
theorem dX1_numbered_9 : decode cX1_numbered 9 = .ok (.if_icmp .lt 7, 3) := by decide +kernel
theorem dX1_numbered_12 : decode cX1_numbered 12 = .ok (.aconst_null, 1) := by decide +kernel
theorem dX1_numbered_13 : decode cX1_numbered 13 = .ok (.goto 9, 3) := by decide +kernel
theorem dX1_numbered_16 : decode cX1_numbered 16 = .ok (.aload_n 0, 1) := by decide +kernel
theorem dX1_numbered_17 : decode cX1_numbered 17 = .ok (.getfield 11, 3) := by decide +kernel
theorem dX1_numbered_20 : decode cX1_numbered 20 = .ok (.iload_n 1, 1) := by decide +kernel
theorem dX1_numbered_21 : decode cX1_numbered 21 = .ok (.aaload, 1) := by decide +kernel
theorem dX1_numbered_22 : decode cX1_numbered 22 = .ok (.areturn, 1) := by decide +kernel
theorem dX2_init_0 : decode cX2_init 0 = .ok (.aload_n 0, 1) := by decide +kernel
theorem dX2_init_1 : decode cX2_init 1 = .ok (.invokespecial 1, 3) := by decide +kernel
theorem dX2_init_4 : decode cX2_init 4 = .ok (.aload_n 0, 1) := by decide +kernel
theorem dX2_init_5 : decode cX2_init 5 = .ok (.iload_n 1, 1) := by decide +kernel
theorem dX2_init_6 : decode cX2_init 6 = .ok (.putfield 7, 3) := by decide +kernel
theorem dX2_init_9 : decode cX2_init 9 = .ok (.aload_n 0, 1) := by decide +kernel
theorem dX2_init_10 : decode cX2_init 10 = .ok (.iload_n 2, 1) := by decide +kernel
theorem dX2_init_11 : decode cX2_init 11 = .ok (.putfield 13, 3) := by decide +kernel
theorem dX2_init_14 : decode cX2_init 14 = .ok (.aload_n 0, 1) := by decide +kernel
theorem dX2_init_15 : decode cX2_init 15 = .ok (.iload_n 3, 1) := by decide +kernel
theorem dX2_init_16 : decode cX2_init 16 = .ok (.putfield 16, 3) := by decide +kernel
theorem dX2_init_19 : decode cX2_init 19 = .ok (.aload_n 0, 1) := by decide +kernel
theorem dX2_init_20 : decode cX2_init 20 = .ok (.iload 4, 2) := by decide +kernel
theorem dX2_init_22 : decode cX2_init 22 = .ok (.putfield 19, 3) := by decide +kernel
theorem dX2_init_25 : decode cX2_init 25 = .ok (.aload_n 0, 1) := by decide +kernel
theorem dX2_init_26 : decode cX2_init 26 = .ok (.iload 5, 2) := by decide +kernel
theorem dX2_init_28 : decode cX2_init 28 = .ok (.putfield 22, 3) := by decide +kernel
theorem dX2_init_31 : decode cX2_init 31 = .ok (.aload_n 0, 1) := by decide +kernel
theorem dX2_init_32 : decode cX2_init 32 = .ok (.iload 6, 2) := by decide +kernel
theorem dX2_init_34 : decode cX2_init 34 = .ok (.putfield 25, 3) := by decide +kernel
theorem dX2_init_37 : decode cX2_init 37 = .ok (.return_, 1) := by decide +kernel
theorem dX2_kindNumber_0 : decode cX2_kindNumber 0 = .ok (.iconst 0, 1) := by decide +kernel
theorem dX2_kindNumber_1 : decode cX2_kindNumber 1 = .ok (.ireturn, 1) := by decide +kernel
theorem dX2_staysFor_0 : decode cX2_staysFor 0 = .ok (.aload_n 0, 1) := by decide +kernel
theorem dX2_staysFor_1 : decode cX2_staysFor 1 = .ok (.getfield 19, 3) := by decide +kernel
theorem dX2_staysFor_4 : decode cX2_staysFor 4 = .ok (.ireturn, 1) := by decide +kernel
theorem dX2_coinFor_0 : decode cX2_coinFor 0 = .ok (.aload_n 0, 1) := by decide +kernel
theorem dX2_coinFor_1 : decode cX2_coinFor 1 = .ok (.getfield 13, 3) := by decide +kernel
theorem dX2_coinFor_4 : decode cX2_coinFor 4 = .ok (.iconst 5, 1) := by decide +kernel
theorem dX2_coinFor_5 : decode cX2_coinFor 5 = .ok (.iload_n 1, 1) := by decide +kernel
theorem dX2_coinFor_6 : decode cX2_coinFor 6 = .ok (.bipush 10, 2) := by decide +kernel
theorem dX2_coinFor_8 : decode cX2_coinFor 8 = .ok (.idiv, 1) := by decide +kernel
theorem dX2_coinFor_9 : decode cX2_coinFor 9 = .ok (.iadd, 1) := by decide +kernel
theorem dX2_coinFor_10 : decode cX2_coinFor 10 = .ok (.imul, 1) := by decide +kernel
theorem dX2_coinFor_11 : decode cX2_coinFor 11 = .ok (.ireturn, 1) := by decide +kernel
theorem dX2_guestBody_0 : decode cX2_guestBody 0 = .ok (.aload_n 1, 1) := by decide +kernel
theorem dX2_guestBody_1 : decode cX2_guestBody 1 = .ok (.iconst 1, 1) := by decide +kernel
theorem dX2_guestBody_2 : decode cX2_guestBody 2 = .ok (.invokevirtual 28, 3) := by decide +kernel
theorem dX2_guestBody_5 : decode cX2_guestBody 5 = .ok (.aload_n 0, 1) := by decide +kernel
theorem dX2_guestBody_6 : decode cX2_guestBody 6 = .ok (.getfield 13, 3) := by decide +kernel
theorem dX2_guestBody_9 : decode cX2_guestBody 9 = .ok (.ireturn, 1) := by decide +kernel
theorem dX2_telling_0 : decode cX2_telling 0 = .ok (.aload_n 0, 1) := by decide +kernel
theorem dX2_telling_1 : decode cX2_telling 1 = .ok (.aload_n 1, 1) := by decide +kernel
theorem dX2_telling_2 : decode cX2_telling 2 = .ok (.invokevirtual 34, 3) := by decide +kernel
theorem dX2_telling_5 : decode cX2_telling 5 = .ok (.ireturn, 1) := by decide +kernel
theorem dX2_served_0 : decode cX2_served 0 = .ok (.aload_n 1, 1) := by decide +kernel
theorem dX2_served_1 : decode cX2_served 1 = .ok (.iconst 4, 1) := by decide +kernel
theorem dX2_served_2 : decode cX2_served 2 = .ok (.invokevirtual 28, 3) := by decide +kernel
theorem dX2_served_5 : decode cX2_served 5 = .ok (.aload_n 0, 1) := by decide +kernel
theorem dX2_served_6 : decode cX2_served 6 = .ok (.getfield 7, 3) := by decide +kernel
theorem dX2_served_9 : decode cX2_served 9 = .ok (.ireturn, 1) := by decide +kernel
theorem dX3_init_0 : decode cX3_init 0 = .ok (.aload_n 0, 1) := by decide +kernel
theorem dX3_init_1 : decode cX3_init 1 = .ok (.invokespecial 3, 3) := by decide +kernel
theorem dX3_init_4 : decode cX3_init 4 = .ok (.aload_n 0, 1) := by decide +kernel
theorem dX3_init_5 : decode cX3_init 5 = .ok (.bipush 6, 2) := by decide +kernel
theorem dX3_init_7 : decode cX3_init 7 = .ok (.newarray .int, 2) := by decide +kernel
theorem dX3_init_9 : decode cX3_init 9 = .ok (.putfield 9, 3) := by decide +kernel
theorem dX3_init_12 : decode cX3_init 12 = .ok (.aload_n 0, 1) := by decide +kernel
theorem dX3_init_13 : decode cX3_init 13 = .ok (.bipush 6, 2) := by decide +kernel
theorem dX3_init_15 : decode cX3_init 15 = .ok (.newarray .int, 2) := by decide +kernel
theorem dX3_init_17 : decode cX3_init 17 = .ok (.putfield 15, 3) := by decide +kernel
theorem dX3_init_20 : decode cX3_init 20 = .ok (.aload_n 0, 1) := by decide +kernel
theorem dX3_init_21 : decode cX3_init 21 = .ok (.bipush (-9), 2) := by decide +kernel
theorem dX3_init_23 : decode cX3_init 23 = .ok (.putfield 18, 3) := by decide +kernel
theorem dX3_init_26 : decode cX3_init 26 = .ok (.return_, 1) := by decide +kernel
theorem dX3_takeText_0 : decode cX3_takeText 0 = .ok (.aload_n 0, 1) := by decide +kernel
theorem dX3_takeText_1 : decode cX3_takeText 1 = .ok (.iload_n 3, 1) := by decide +kernel
theorem dX3_takeText_2 : decode cX3_takeText 2 = .ok (.iconst 1, 1) := by decide +kernel
theorem dX3_takeText_3 : decode cX3_takeText 3 = .ok (.iadd, 1) := by decide +kernel
theorem dX3_takeText_4 : decode cX3_takeText 4 = .ok (.iconst 3, 1) := by decide +kernel
theorem dX3_takeText_5 : decode cX3_takeText 5 = .ok (.idiv, 1) := by decide +kernel
theorem dX3_takeText_6 : decode cX3_takeText 6 = .ok (.bipush 6, 2) := by decide +kernel
theorem dX3_takeText_8 : decode cX3_takeText 8 = .ok (.invokestatic 22, 3) := by decide +kernel
theorem dX3_takeText_11 : decode cX3_takeText 11 = .ok (.putfield 28, 3) := by decide +kernel
theorem dX3_takeText_14 : decode cX3_takeText 14 = .ok (.iconst 0, 1) := by decide +kernel
theorem dX3_takeText_15 : decode cX3_takeText 15 = .ok (.istore 4, 2) := by decide +kernel
theorem dX3_takeText_17 : decode cX3_takeText 17 = .ok (.iload 4, 2) := by decide +kernel
theorem dX3_takeText_19 : decode cX3_takeText 19 = .ok (.aload_n 0, 1) := by decide +kernel
theorem dX3_takeText_20 : decode cX3_takeText 20 = .ok (.getfield 28, 3) := by decide +kernel
theorem dX3_takeText_23 : decode cX3_takeText 23 = .ok (.if_icmp .ge 53, 3) := by decide +kernel
theorem dX3_takeText_26 : decode cX3_takeText 26 = .ok (.aload_n 0, 1) := by decide +kernel
theorem dX3_takeText_27 : decode cX3_takeText 27 = .ok (.getfield 9, 3) := by decide +kernel
theorem dX3_takeText_30 : decode cX3_takeText 30 = .ok (.iload 4, 2) := by decide +kernel
theorem dX3_takeText_32 : decode cX3_takeText 32 = .ok (.aload_n 1, 1) := by decide +kernel
theorem dX3_takeText_33 : decode cX3_takeText 33 = .ok (.getfield 31, 3) := by decide +kernel
theorem dX3_takeText_36 : decode cX3_takeText 36 = .ok (.iload_n 2, 1) := by decide +kernel
theorem dX3_takeText_37 : decode cX3_takeText 37 = .ok (.iconst 3, 1) := by decide +kernel
theorem dX3_takeText_38 : decode cX3_takeText 38 = .ok (.iload 4, 2) := by decide +kernel
theorem dX3_takeText_40 : decode cX3_takeText 40 = .ok (.imul, 1) := by decide +kernel
theorem dX3_takeText_41 : decode cX3_takeText 41 = .ok (.iadd, 1) := by decide +kernel
theorem dX3_takeText_42 : decode cX3_takeText 42 = .ok (.iaload, 1) := by decide +kernel
theorem dX3_takeText_43 : decode cX3_takeText 43 = .ok (.invokestatic 36, 3) := by decide +kernel
theorem dX3_takeText_46 : decode cX3_takeText 46 = .ok (.iastore, 1) := by decide +kernel
theorem dX3_takeText_47 : decode cX3_takeText 47 = .ok (.aload_n 0, 1) := by decide +kernel
theorem dX3_takeText_48 : decode cX3_takeText 48 = .ok (.getfield 15, 3) := by decide +kernel
theorem dX3_takeText_51 : decode cX3_takeText 51 = .ok (.iload 4, 2) := by decide +kernel
theorem dX3_takeText_53 : decode cX3_takeText 53 = .ok (.aload_n 1, 1) := by decide +kernel
theorem dX3_takeText_54 : decode cX3_takeText 54 = .ok (.getfield 31, 3) := by decide +kernel
theorem dX3_takeText_57 : decode cX3_takeText 57 = .ok (.iload_n 2, 1) := by decide +kernel
theorem dX3_takeText_58 : decode cX3_takeText 58 = .ok (.iconst 3, 1) := by decide +kernel
theorem dX3_takeText_59 : decode cX3_takeText 59 = .ok (.iload 4, 2) := by decide +kernel
theorem dX3_takeText_61 : decode cX3_takeText 61 = .ok (.imul, 1) := by decide +kernel
theorem dX3_takeText_62 : decode cX3_takeText 62 = .ok (.iadd, 1) := by decide +kernel
theorem dX3_takeText_63 : decode cX3_takeText 63 = .ok (.iconst 1, 1) := by decide +kernel
theorem dX3_takeText_64 : decode cX3_takeText 64 = .ok (.iadd, 1) := by decide +kernel
theorem dX3_takeText_65 : decode cX3_takeText 65 = .ok (.iaload, 1) := by decide +kernel
theorem dX3_takeText_66 : decode cX3_takeText 66 = .ok (.bipush 48, 2) := by decide +kernel
theorem dX3_takeText_68 : decode cX3_takeText 68 = .ok (.isub, 1) := by decide +kernel
theorem dX3_takeText_69 : decode cX3_takeText 69 = .ok (.iastore, 1) := by decide +kernel
theorem dX3_takeText_70 : decode cX3_takeText 70 = .ok (.iinc 4 1, 3) := by decide +kernel
theorem dX3_takeText_73 : decode cX3_takeText 73 = .ok (.goto (-56), 3) := by decide +kernel
theorem dX3_takeText_76 : decode cX3_takeText 76 = .ok (.aload_n 0, 1) := by decide +kernel
theorem dX3_takeText_77 : decode cX3_takeText 77 = .ok (.iconst 0, 1) := by decide +kernel
theorem dX3_takeText_78 : decode cX3_takeText 78 = .ok (.putfield 40, 3) := by decide +kernel
theorem dX3_takeText_81 : decode cX3_takeText 81 = .ok (.aload_n 0, 1) := by decide +kernel
theorem dX3_takeText_82 : decode cX3_takeText 82 = .ok (.iconst 0, 1) := by decide +kernel
theorem dX3_takeText_83 : decode cX3_takeText 83 = .ok (.putfield 43, 3) := by decide +kernel
theorem dX3_takeText_86 : decode cX3_takeText 86 = .ok (.aload_n 0, 1) := by decide +kernel
theorem dX3_takeText_87 : decode cX3_takeText 87 = .ok (.iconst 0, 1) := by decide +kernel
theorem dX3_takeText_88 : decode cX3_takeText 88 = .ok (.putfield 46, 3) := by decide +kernel
theorem dX3_takeText_91 : decode cX3_takeText 91 = .ok (.aload_n 0, 1) := by decide +kernel
theorem dX3_takeText_92 : decode cX3_takeText 92 = .ok (.bipush (-9), 2) := by decide +kernel
theorem dX3_takeText_94 : decode cX3_takeText 94 = .ok (.putfield 18, 3) := by decide +kernel
theorem dX3_takeText_97 : decode cX3_takeText 97 = .ok (.return_, 1) := by decide +kernel
theorem dX3_copyOf_0 : decode cX3_copyOf 0 = .ok (.aload_n 0, 1) := by decide +kernel
theorem dX3_copyOf_1 : decode cX3_copyOf 1 = .ok (.aload_n 1, 1) := by decide +kernel
theorem dX3_copyOf_2 : decode cX3_copyOf 2 = .ok (.getfield 28, 3) := by decide +kernel
theorem dX3_copyOf_5 : decode cX3_copyOf 5 = .ok (.putfield 28, 3) := by decide +kernel
theorem dX3_copyOf_8 : decode cX3_copyOf 8 = .ok (.iconst 0, 1) := by decide +kernel
theorem dX3_copyOf_9 : decode cX3_copyOf 9 = .ok (.istore_n 2, 1) := by decide +kernel
theorem dX3_copyOf_10 : decode cX3_copyOf 10 = .ok (.iload_n 2, 1) := by decide +kernel
theorem dX3_copyOf_11 : decode cX3_copyOf 11 = .ok (.bipush 6, 2) := by decide +kernel
theorem dX3_copyOf_13 : decode cX3_copyOf 13 = .ok (.if_icmp .ge 33, 3) := by decide +kernel
theorem dX3_copyOf_16 : decode cX3_copyOf 16 = .ok (.aload_n 0, 1) := by decide +kernel
theorem dX3_copyOf_17 : decode cX3_copyOf 17 = .ok (.getfield 9, 3) := by decide +kernel
theorem dX3_copyOf_20 : decode cX3_copyOf 20 = .ok (.iload_n 2, 1) := by decide +kernel
theorem dX3_copyOf_21 : decode cX3_copyOf 21 = .ok (.aload_n 1, 1) := by decide +kernel
theorem dX3_copyOf_22 : decode cX3_copyOf 22 = .ok (.getfield 9, 3) := by decide +kernel
theorem dX3_copyOf_25 : decode cX3_copyOf 25 = .ok (.iload_n 2, 1) := by decide +kernel
theorem dX3_copyOf_26 : decode cX3_copyOf 26 = .ok (.iaload, 1) := by decide +kernel
theorem dX3_copyOf_27 : decode cX3_copyOf 27 = .ok (.iastore, 1) := by decide +kernel
theorem dX3_copyOf_28 : decode cX3_copyOf 28 = .ok (.aload_n 0, 1) := by decide +kernel
theorem dX3_copyOf_29 : decode cX3_copyOf 29 = .ok (.getfield 15, 3) := by decide +kernel
theorem dX3_copyOf_32 : decode cX3_copyOf 32 = .ok (.iload_n 2, 1) := by decide +kernel
theorem dX3_copyOf_33 : decode cX3_copyOf 33 = .ok (.aload_n 1, 1) := by decide +kernel
theorem dX3_copyOf_34 : decode cX3_copyOf 34 = .ok (.getfield 15, 3) := by decide +kernel
theorem dX3_copyOf_37 : decode cX3_copyOf 37 = .ok (.iload_n 2, 1) := by decide +kernel
theorem dX3_copyOf_38 : decode cX3_copyOf 38 = .ok (.iaload, 1) := by decide +kernel
theorem dX3_copyOf_39 : decode cX3_copyOf 39 = .ok (.iastore, 1) := by decide +kernel
theorem dX3_copyOf_40 : decode cX3_copyOf 40 = .ok (.iinc 2 1, 3) := by decide +kernel
theorem dX3_copyOf_43 : decode cX3_copyOf 43 = .ok (.goto (-33), 3) := by decide +kernel
theorem dX3_copyOf_46 : decode cX3_copyOf 46 = .ok (.aload_n 0, 1) := by decide +kernel
theorem dX3_copyOf_47 : decode cX3_copyOf 47 = .ok (.aload_n 1, 1) := by decide +kernel
theorem dX3_copyOf_48 : decode cX3_copyOf 48 = .ok (.getfield 40, 3) := by decide +kernel
theorem dX3_copyOf_51 : decode cX3_copyOf 51 = .ok (.putfield 40, 3) := by decide +kernel
theorem dX3_copyOf_54 : decode cX3_copyOf 54 = .ok (.aload_n 0, 1) := by decide +kernel
theorem dX3_copyOf_55 : decode cX3_copyOf 55 = .ok (.aload_n 1, 1) := by decide +kernel
theorem dX3_copyOf_56 : decode cX3_copyOf 56 = .ok (.getfield 43, 3) := by decide +kernel
theorem dX3_copyOf_59 : decode cX3_copyOf 59 = .ok (.putfield 43, 3) := by decide +kernel
theorem dX3_copyOf_62 : decode cX3_copyOf 62 = .ok (.aload_n 0, 1) := by decide +kernel
theorem dX3_copyOf_63 : decode cX3_copyOf 63 = .ok (.aload_n 1, 1) := by decide +kernel
theorem dX3_copyOf_64 : decode cX3_copyOf 64 = .ok (.getfield 46, 3) := by decide +kernel
theorem dX3_copyOf_67 : decode cX3_copyOf 67 = .ok (.putfield 46, 3) := by decide +kernel
theorem dX3_copyOf_70 : decode cX3_copyOf 70 = .ok (.aload_n 0, 1) := by decide +kernel
theorem dX3_copyOf_71 : decode cX3_copyOf 71 = .ok (.aload_n 1, 1) := by decide +kernel
theorem dX3_copyOf_72 : decode cX3_copyOf 72 = .ok (.getfield 18, 3) := by decide +kernel
theorem dX3_copyOf_75 : decode cX3_copyOf 75 = .ok (.putfield 18, 3) := by decide +kernel
theorem dX3_copyOf_78 : decode cX3_copyOf 78 = .ok (.return_, 1) := by decide +kernel
theorem dX3_mixTables_0 : decode cX3_mixTables 0 = .ok (.aload_n 0, 1) := by decide +kernel
theorem dX3_mixTables_1 : decode cX3_mixTables 1 = .ok (.iload_n 1, 1) := by decide +kernel
theorem dX3_mixTables_2 : decode cX3_mixTables 2 = .ok (.iload_n 2, 1) := by decide +kernel
theorem dX3_mixTables_3 : decode cX3_mixTables 3 = .ok (.iadd, 1) := by decide +kernel
theorem dX3_mixTables_4 : decode cX3_mixTables 4 = .ok (.iload_n 3, 1) := by decide +kernel
theorem dX3_mixTables_5 : decode cX3_mixTables 5 = .ok (.iadd, 1) := by decide +kernel
theorem dX3_mixTables_6 : decode cX3_mixTables 6 = .ok (.bipush 6, 2) := by decide +kernel
theorem dX3_mixTables_8 : decode cX3_mixTables 8 = .ok (.invokestatic 22, 3) := by decide +kernel
theorem dX3_mixTables_11 : decode cX3_mixTables 11 = .ok (.putfield 28, 3) := by decide +kernel
theorem dX3_mixTables_14 : decode cX3_mixTables 14 = .ok (.iconst 0, 1) := by decide +kernel
theorem dX3_mixTables_15 : decode cX3_mixTables 15 = .ok (.istore 4, 2) := by decide +kernel
theorem dX3_mixTables_17 : decode cX3_mixTables 17 = .ok (.iload 4, 2) := by decide +kernel
theorem dX3_mixTables_19 : decode cX3_mixTables 19 = .ok (.aload_n 0, 1) := by decide +kernel
theorem dX3_mixTables_20 : decode cX3_mixTables 20 = .ok (.getfield 28, 3) := by decide +kernel
theorem dX3_mixTables_23 : decode cX3_mixTables 23 = .ok (.if_icmp .ge 48, 3) := by decide +kernel
theorem dX3_mixTables_26 : decode cX3_mixTables 26 = .ok (.aload_n 0, 1) := by decide +kernel
theorem dX3_mixTables_27 : decode cX3_mixTables 27 = .ok (.getfield 9, 3) := by decide +kernel
theorem dX3_mixTables_30 : decode cX3_mixTables 30 = .ok (.iload 4, 2) := by decide +kernel
theorem dX3_mixTables_32 : decode cX3_mixTables 32 = .ok (.iconst 2, 1) := by decide +kernel
theorem dX3_mixTables_33 : decode cX3_mixTables 33 = .ok (.iastore, 1) := by decide +kernel
theorem dX3_mixTables_34 : decode cX3_mixTables 34 = .ok (.aload_n 0, 1) := by decide +kernel
theorem dX3_mixTables_35 : decode cX3_mixTables 35 = .ok (.getfield 15, 3) := by decide +kernel
theorem dX3_mixTables_38 : decode cX3_mixTables 38 = .ok (.iload 4, 2) := by decide +kernel
theorem dX3_mixTables_40 : decode cX3_mixTables 40 = .ok (.iload 4, 2) := by decide +kernel
theorem dX3_mixTables_42 : decode cX3_mixTables 42 = .ok (.iload_n 1, 1) := by decide +kernel
theorem dX3_mixTables_43 : decode cX3_mixTables 43 = .ok (.if_icmp .ge 7, 3) := by decide +kernel
theorem dX3_mixTables_46 : decode cX3_mixTables 46 = .ok (.iconst 2, 1) := by decide +kernel
theorem dX3_mixTables_47 : decode cX3_mixTables 47 = .ok (.goto 17, 3) := by decide +kernel
theorem dX3_mixTables_50 : decode cX3_mixTables 50 = .ok (.iload 4, 2) := by decide +kernel
theorem dX3_mixTables_52 : decode cX3_mixTables 52 = .ok (.iload_n 1, 1) := by decide +kernel
theorem dX3_mixTables_53 : decode cX3_mixTables 53 = .ok (.iload_n 2, 1) := by decide +kernel
theorem dX3_mixTables_54 : decode cX3_mixTables 54 = .ok (.iadd, 1) := by decide +kernel
theorem dX3_mixTables_55 : decode cX3_mixTables 55 = .ok (.if_icmp .ge 7, 3) := by decide +kernel
theorem dX3_mixTables_58 : decode cX3_mixTables 58 = .ok (.iconst 4, 1) := by decide +kernel
theorem dX3_mixTables_59 : decode cX3_mixTables 59 = .ok (.goto 5, 3) := by decide +kernel
theorem dX3_mixTables_62 : decode cX3_mixTables 62 = .ok (.bipush 6, 2) := by decide +kernel
theorem dX3_mixTables_64 : decode cX3_mixTables 64 = .ok (.iastore, 1) := by decide +kernel
theorem dX3_mixTables_65 : decode cX3_mixTables 65 = .ok (.iinc 4 1, 3) := by decide +kernel
theorem dX3_mixTables_68 : decode cX3_mixTables 68 = .ok (.goto (-51), 3) := by decide +kernel
theorem dX3_mixTables_71 : decode cX3_mixTables 71 = .ok (.return_, 1) := by decide +kernel
theorem dX3_seatsInAll_0 : decode cX3_seatsInAll 0 = .ok (.iconst 0, 1) := by decide +kernel
theorem dX3_seatsInAll_1 : decode cX3_seatsInAll 1 = .ok (.istore_n 1, 1) := by decide +kernel
theorem dX3_seatsInAll_2 : decode cX3_seatsInAll 2 = .ok (.iconst 0, 1) := by decide +kernel
theorem dX3_seatsInAll_3 : decode cX3_seatsInAll 3 = .ok (.istore_n 2, 1) := by decide +kernel
theorem dX3_seatsInAll_4 : decode cX3_seatsInAll 4 = .ok (.iload_n 2, 1) := by decide +kernel
theorem dX3_seatsInAll_5 : decode cX3_seatsInAll 5 = .ok (.aload_n 0, 1) := by decide +kernel
theorem dX3_seatsInAll_6 : decode cX3_seatsInAll 6 = .ok (.getfield 28, 3) := by decide +kernel
theorem dX3_seatsInAll_9 : decode cX3_seatsInAll 9 = .ok (.if_icmp .ge 18, 3) := by decide +kernel
theorem dX3_seatsInAll_12 : decode cX3_seatsInAll 12 = .ok (.iload_n 1, 1) := by decide +kernel
theorem dX3_seatsInAll_13 : decode cX3_seatsInAll 13 = .ok (.aload_n 0, 1) := by decide +kernel
theorem dX3_seatsInAll_14 : decode cX3_seatsInAll 14 = .ok (.getfield 15, 3) := by decide +kernel
theorem dX3_seatsInAll_17 : decode cX3_seatsInAll 17 = .ok (.iload_n 2, 1) := by decide +kernel
theorem dX3_seatsInAll_18 : decode cX3_seatsInAll 18 = .ok (.iaload, 1) := by decide +kernel
theorem dX3_seatsInAll_19 : decode cX3_seatsInAll 19 = .ok (.iadd, 1) := by decide +kernel
theorem dX3_seatsInAll_20 : decode cX3_seatsInAll 20 = .ok (.istore_n 1, 1) := by decide +kernel
theorem dX3_seatsInAll_21 : decode cX3_seatsInAll 21 = .ok (.iinc 2 1, 3) := by decide +kernel
theorem dX3_seatsInAll_24 : decode cX3_seatsInAll 24 = .ok (.goto (-20), 3) := by decide +kernel
theorem dX3_seatsInAll_27 : decode cX3_seatsInAll 27 = .ok (.iload_n 1, 1) := by decide +kernel
theorem dX3_seatsInAll_28 : decode cX3_seatsInAll 28 = .ok (.ireturn, 1) := by decide +kernel
theorem dX4_init_0 : decode cX4_init 0 = .ok (.aload_n 0, 1) := by decide +kernel
theorem dX4_init_1 : decode cX4_init 1 = .ok (.iload_n 1, 1) := by decide +kernel
theorem dX4_init_2 : decode cX4_init 2 = .ok (.iload_n 2, 1) := by decide +kernel
theorem dX4_init_3 : decode cX4_init 3 = .ok (.iload_n 3, 1) := by decide +kernel
theorem dX4_init_4 : decode cX4_init 4 = .ok (.iload 4, 2) := by decide +kernel
theorem dX4_init_6 : decode cX4_init 6 = .ok (.iload 5, 2) := by decide +kernel
theorem dX4_init_8 : decode cX4_init 8 = .ok (.iload 6, 2) := by decide +kernel
theorem dX4_init_10 : decode cX4_init 10 = .ok (.invokespecial 1, 3) := by decide +kernel
theorem dX4_init_13 : decode cX4_init 13 = .ok (.return_, 1) := by decide +kernel
theorem dX4_kindNumber_0 : decode cX4_kindNumber 0 = .ok (.iconst 2, 1) := by decide +kernel
theorem dX4_kindNumber_1 : decode cX4_kindNumber 1 = .ok (.ireturn, 1) := by decide +kernel
theorem dX4_staysFor_0 : decode cX4_staysFor 0 = .ok (.aload_n 0, 1) := by decide +kernel
theorem dX4_staysFor_1 : decode cX4_staysFor 1 = .ok (.iload_n 1, 1) := by decide +kernel
theorem dX4_staysFor_2 : decode cX4_staysFor 2 = .ok (.invokespecial 7, 3) := by decide +kernel
theorem dX4_staysFor_5 : decode cX4_staysFor 5 = .ok (.istore_n 2, 1) := by decide +kernel
theorem dX4_staysFor_6 : decode cX4_staysFor 6 = .ok (.iload_n 1, 1) := by decide +kernel
theorem dX4_staysFor_7 : decode cX4_staysFor 7 = .ok (.ifCond .eq 12, 3) := by decide +kernel
theorem dX4_staysFor_10 : decode cX4_staysFor 10 = .ok (.iload_n 2, 1) := by decide +kernel
theorem dX4_staysFor_11 : decode cX4_staysFor 11 = .ok (.iload_n 2, 1) := by decide +kernel
theorem dX4_staysFor_12 : decode cX4_staysFor 12 = .ok (.bipush 9, 2) := by decide +kernel
theorem dX4_staysFor_14 : decode cX4_staysFor 14 = .ok (.idiv, 1) := by decide +kernel
theorem dX4_staysFor_15 : decode cX4_staysFor 15 = .ok (.iadd, 1) := by decide +kernel
theorem dX4_staysFor_16 : decode cX4_staysFor 16 = .ok (.goto 4, 3) := by decide +kernel
theorem dX4_staysFor_19 : decode cX4_staysFor 19 = .ok (.iload_n 2, 1) := by decide +kernel
theorem dX4_staysFor_20 : decode cX4_staysFor 20 = .ok (.ireturn, 1) := by decide +kernel
theorem dX4_telling_0 : decode cX4_telling 0 = .ok (.aload_n 1, 1) := by decide +kernel
theorem dX4_telling_1 : decode cX4_telling 1 = .ok (.iconst 3, 1) := by decide +kernel
theorem dX4_telling_2 : decode cX4_telling 2 = .ok (.invokevirtual 11, 3) := by decide +kernel
theorem dX4_telling_5 : decode cX4_telling 5 = .ok (.aload_n 0, 1) := by decide +kernel
theorem dX4_telling_6 : decode cX4_telling 6 = .ok (.aload_n 1, 1) := by decide +kernel
theorem dX4_telling_7 : decode cX4_telling 7 = .ok (.invokespecial 17, 3) := by decide +kernel
theorem dX4_telling_10 : decode cX4_telling 10 = .ok (.istore_n 2, 1) := by decide +kernel
theorem dX4_telling_11 : decode cX4_telling 11 = .ok (.iload_n 2, 1) := by decide +kernel
theorem dX4_telling_12 : decode cX4_telling 12 = .ok (.aload_n 0, 1) := by decide +kernel
theorem dX4_telling_13 : decode cX4_telling 13 = .ok (.aload_n 1, 1) := by decide +kernel
theorem dX4_telling_14 : decode cX4_telling 14 = .ok (.invokevirtual 21, 3) := by decide +kernel
theorem dX4_telling_17 : decode cX4_telling 17 = .ok (.iadd, 1) := by decide +kernel
theorem dX4_telling_18 : decode cX4_telling 18 = .ok (.ireturn, 1) := by decide +kernel
theorem dX4_served_0 : decode cX4_served 0 = .ok (.aload_n 1, 1) := by decide +kernel
theorem dX4_served_1 : decode cX4_served 1 = .ok (.iconst 5, 1) := by decide +kernel
theorem dX4_served_2 : decode cX4_served 2 = .ok (.invokevirtual 11, 3) := by decide +kernel
theorem dX4_served_5 : decode cX4_served 5 = .ok (.bipush 50, 2) := by decide +kernel
theorem dX4_served_7 : decode cX4_served 7 = .ok (.ireturn, 1) := by decide +kernel
theorem dX5_init_0 : decode cX5_init 0 = .ok (.aload_n 0, 1) := by decide +kernel
theorem dX5_init_1 : decode cX5_init 1 = .ok (.invokespecial 3, 3) := by decide +kernel
theorem dX5_init_4 : decode cX5_init 4 = .ok (.aload_n 0, 1) := by decide +kernel
theorem dX5_init_5 : decode cX5_init 5 = .ok (.bipush 6, 2) := by decide +kernel
theorem dX5_init_7 : decode cX5_init 7 = .ok (.newarray .int, 2) := by decide +kernel
theorem dX5_init_9 : decode cX5_init 9 = .ok (.putfield 9, 3) := by decide +kernel
theorem dX5_init_12 : decode cX5_init 12 = .ok (.aload_n 0, 1) := by decide +kernel
theorem dX5_init_13 : decode cX5_init 13 = .ok (.bipush 6, 2) := by decide +kernel
theorem dX5_init_15 : decode cX5_init 15 = .ok (.newarray .int, 2) := by decide +kernel
theorem dX5_init_17 : decode cX5_init 17 = .ok (.putfield 15, 3) := by decide +kernel
theorem dX5_init_20 : decode cX5_init 20 = .ok (.aload_n 0, 1) := by decide +kernel
theorem dX5_init_21 : decode cX5_init 21 = .ok (.bipush 6, 2) := by decide +kernel
theorem dX5_init_23 : decode cX5_init 23 = .ok (.newarray .int, 2) := by decide +kernel
theorem dX5_init_25 : decode cX5_init 25 = .ok (.putfield 18, 3) := by decide +kernel
theorem dX5_init_28 : decode cX5_init 28 = .ok (.aload_n 0, 1) := by decide +kernel
theorem dX5_init_29 : decode cX5_init 29 = .ok (.bipush 6, 2) := by decide +kernel
theorem dX5_init_31 : decode cX5_init 31 = .ok (.newarray .int, 2) := by decide +kernel
theorem dX5_init_33 : decode cX5_init 33 = .ok (.putfield 21, 3) := by decide +kernel
theorem dX5_init_36 : decode cX5_init 36 = .ok (.aload_n 0, 1) := by decide +kernel
theorem dX5_init_37 : decode cX5_init 37 = .ok (.bipush 6, 2) := by decide +kernel
theorem dX5_init_39 : decode cX5_init 39 = .ok (.newarray .int, 2) := by decide +kernel
theorem dX5_init_41 : decode cX5_init 41 = .ok (.putfield 24, 3) := by decide +kernel
theorem dX5_init_44 : decode cX5_init 44 = .ok (.aload_n 0, 1) := by decide +kernel
theorem dX5_init_45 : decode cX5_init 45 = .ok (.bipush 7, 2) := by decide +kernel
theorem dX5_init_47 : decode cX5_init 47 = .ok (.newarray .int, 2) := by decide +kernel
theorem dX5_init_49 : decode cX5_init 49 = .ok (.putfield 27, 3) := by decide +kernel
theorem dX5_init_52 : decode cX5_init 52 = .ok (.aload_n 0, 1) := by decide +kernel
theorem dX5_init_53 : decode cX5_init 53 = .ok (.bipush 6, 2) := by decide +kernel
theorem dX5_init_55 : decode cX5_init 55 = .ok (.newarray .int, 2) := by decide +kernel
theorem dX5_init_57 : decode cX5_init 57 = .ok (.putfield 30, 3) := by decide +kernel
theorem dX5_init_60 : decode cX5_init 60 = .ok (.aload_n 0, 1) := by decide +kernel
theorem dX5_init_61 : decode cX5_init 61 = .ok (.aload_n 1, 1) := by decide +kernel
theorem dX5_init_62 : decode cX5_init 62 = .ok (.putfield 33, 3) := by decide +kernel
theorem dX5_init_65 : decode cX5_init 65 = .ok (.aload_n 0, 1) := by decide +kernel
theorem dX5_init_66 : decode cX5_init 66 = .ok (.aload_n 2, 1) := by decide +kernel
theorem dX5_init_67 : decode cX5_init 67 = .ok (.putfield 37, 3) := by decide +kernel
theorem dX5_init_70 : decode cX5_init 70 = .ok (.return_, 1) := by decide +kernel
theorem dX5_find_0 : decode cX5_find 0 = .ok (.aload_n 0, 1) := by decide +kernel
theorem dX5_find_1 : decode cX5_find 1 = .ok (.aload_n 0, 1) := by decide +kernel
theorem dX5_find_2 : decode cX5_find 2 = .ok (.getfield 37, 3) := by decide +kernel
theorem dX5_find_5 : decode cX5_find 5 = .ok (.getfield 41, 3) := by decide +kernel
theorem dX5_find_8 : decode cX5_find 8 = .ok (.bipush 6, 2) := by decide +kernel
theorem dX5_find_10 : decode cX5_find 10 = .ok (.invokestatic 47, 3) := by decide +kernel
theorem dX5_find_13 : decode cX5_find 13 = .ok (.putfield 53, 3) := by decide +kernel
theorem dX5_find_16 : decode cX5_find 16 = .ok (.iconst 0, 1) := by decide +kernel
theorem dX5_find_17 : decode cX5_find 17 = .ok (.istore_n 1, 1) := by decide +kernel
theorem dX5_find_18 : decode cX5_find 18 = .ok (.iload_n 1, 1) := by decide +kernel
theorem dX5_find_19 : decode cX5_find 19 = .ok (.aload_n 0, 1) := by decide +kernel
theorem dX5_find_20 : decode cX5_find 20 = .ok (.getfield 53, 3) := by decide +kernel
theorem dX5_find_23 : decode cX5_find 23 = .ok (.if_icmp .ge 55, 3) := by decide +kernel
theorem dX5_find_26 : decode cX5_find 26 = .ok (.aload_n 0, 1) := by decide +kernel
theorem dX5_find_27 : decode cX5_find 27 = .ok (.getfield 37, 3) := by decide +kernel
theorem dX5_find_30 : decode cX5_find 30 = .ok (.getfield 56, 3) := by decide +kernel
theorem dX5_find_33 : decode cX5_find 33 = .ok (.iload_n 1, 1) := by decide +kernel
theorem dX5_find_34 : decode cX5_find 34 = .ok (.aaload, 1) := by decide +kernel
theorem dX5_find_35 : decode cX5_find 35 = .ok (.astore_n 2, 1) := by decide +kernel
theorem dX5_find_36 : decode cX5_find 36 = .ok (.aload_n 0, 1) := by decide +kernel
theorem dX5_find_37 : decode cX5_find 37 = .ok (.getfield 18, 3) := by decide +kernel
theorem dX5_find_40 : decode cX5_find 40 = .ok (.iload_n 1, 1) := by decide +kernel
theorem dX5_find_41 : decode cX5_find 41 = .ok (.aload_n 2, 1) := by decide +kernel
theorem dX5_find_42 : decode cX5_find 42 = .ok (.getfield 60, 3) := by decide +kernel
theorem dX5_find_45 : decode cX5_find 45 = .ok (.iastore, 1) := by decide +kernel
theorem dX5_find_46 : decode cX5_find 46 = .ok (.aload_n 0, 1) := by decide +kernel
theorem dX5_find_47 : decode cX5_find 47 = .ok (.getfield 21, 3) := by decide +kernel
theorem dX5_find_50 : decode cX5_find 50 = .ok (.iload_n 1, 1) := by decide +kernel
theorem dX5_find_51 : decode cX5_find 51 = .ok (.aload_n 2, 1) := by decide +kernel
theorem dX5_find_52 : decode cX5_find 52 = .ok (.aload_n 2, 1) := by decide +kernel
theorem dX5_find_53 : decode cX5_find 53 = .ok (.iconst 0, 1) := by decide +kernel
theorem dX5_find_54 : decode cX5_find 54 = .ok (.invokevirtual 64, 3) := by decide +kernel
theorem dX5_find_57 : decode cX5_find 57 = .ok (.invokevirtual 68, 3) := by decide +kernel
theorem dX5_find_60 : decode cX5_find 60 = .ok (.iastore, 1) := by decide +kernel
theorem dX5_find_61 : decode cX5_find 61 = .ok (.aload_n 0, 1) := by decide +kernel
theorem dX5_find_62 : decode cX5_find 62 = .ok (.getfield 24, 3) := by decide +kernel
theorem dX5_find_65 : decode cX5_find 65 = .ok (.iload_n 1, 1) := by decide +kernel
theorem dX5_find_66 : decode cX5_find 66 = .ok (.aload_n 0, 1) := by decide +kernel
theorem dX5_find_67 : decode cX5_find 67 = .ok (.iload_n 1, 1) := by decide +kernel
theorem dX5_find_68 : decode cX5_find 68 = .ok (.invokevirtual 72, 3) := by decide +kernel
theorem dX5_find_71 : decode cX5_find 71 = .ok (.iastore, 1) := by decide +kernel
theorem dX5_find_72 : decode cX5_find 72 = .ok (.iinc 1 1, 3) := by decide +kernel
theorem dX5_find_75 : decode cX5_find 75 = .ok (.goto (-57), 3) := by decide +kernel
theorem dX5_find_78 : decode cX5_find 78 = .ok (.aload_n 0, 1) := by decide +kernel
theorem dX5_find_79 : decode cX5_find 79 = .ok (.getfield 27, 3) := by decide +kernel
theorem dX5_find_82 : decode cX5_find 82 = .ok (.aload_n 0, 1) := by decide +kernel
theorem dX5_find_83 : decode cX5_find 83 = .ok (.getfield 53, 3) := by decide +kernel
theorem dX5_find_86 : decode cX5_find 86 = .ok (.iconst 0, 1) := by decide +kernel
theorem dX5_find_87 : decode cX5_find 87 = .ok (.iastore, 1) := by decide +kernel
theorem dX5_find_88 : decode cX5_find 88 = .ok (.aload_n 0, 1) := by decide +kernel
theorem dX5_find_89 : decode cX5_find 89 = .ok (.getfield 53, 3) := by decide +kernel
theorem dX5_find_92 : decode cX5_find 92 = .ok (.iconst 1, 1) := by decide +kernel
theorem dX5_find_93 : decode cX5_find 93 = .ok (.isub, 1) := by decide +kernel
theorem dX5_find_94 : decode cX5_find 94 = .ok (.istore_n 1, 1) := by decide +kernel
theorem dX5_find_95 : decode cX5_find 95 = .ok (.iload_n 1, 1) := by decide +kernel
theorem dX5_find_96 : decode cX5_find 96 = .ok (.ifCond .lt 42, 3) := by decide +kernel
theorem dX5_find_99 : decode cX5_find 99 = .ok (.aload_n 0, 1) := by decide +kernel
theorem dX5_find_100 : decode cX5_find 100 = .ok (.getfield 27, 3) := by decide +kernel
theorem dX5_find_103 : decode cX5_find 103 = .ok (.iload_n 1, 1) := by decide +kernel
theorem dX5_find_104 : decode cX5_find 104 = .ok (.aload_n 0, 1) := by decide +kernel
theorem dX5_find_105 : decode cX5_find 105 = .ok (.getfield 27, 3) := by decide +kernel
theorem dX5_find_108 : decode cX5_find 108 = .ok (.iload_n 1, 1) := by decide +kernel
theorem dX5_find_109 : decode cX5_find 109 = .ok (.iconst 1, 1) := by decide +kernel
theorem dX5_find_110 : decode cX5_find 110 = .ok (.iadd, 1) := by decide +kernel
theorem dX5_find_111 : decode cX5_find 111 = .ok (.iaload, 1) := by decide +kernel
theorem dX5_find_112 : decode cX5_find 112 = .ok (.aload_n 0, 1) := by decide +kernel
theorem dX5_find_113 : decode cX5_find 113 = .ok (.iload_n 1, 1) := by decide +kernel
theorem dX5_find_114 : decode cX5_find 114 = .ok (.invokevirtual 75, 3) := by decide +kernel
theorem dX5_find_117 : decode cX5_find 117 = .ok (.ifCond .eq 12, 3) := by decide +kernel
theorem dX5_find_120 : decode cX5_find 120 = .ok (.aload_n 0, 1) := by decide +kernel
theorem dX5_find_121 : decode cX5_find 121 = .ok (.getfield 21, 3) := by decide +kernel
theorem dX5_find_124 : decode cX5_find 124 = .ok (.iload_n 1, 1) := by decide +kernel
theorem dX5_find_125 : decode cX5_find 125 = .ok (.iaload, 1) := by decide +kernel
theorem dX5_find_126 : decode cX5_find 126 = .ok (.goto 4, 3) := by decide +kernel
theorem dX5_find_129 : decode cX5_find 129 = .ok (.iconst 0, 1) := by decide +kernel
theorem dX5_find_130 : decode cX5_find 130 = .ok (.iadd, 1) := by decide +kernel
theorem dX5_find_131 : decode cX5_find 131 = .ok (.iastore, 1) := by decide +kernel
theorem dX5_find_132 : decode cX5_find 132 = .ok (.iinc 1 (-1), 3) := by decide +kernel
theorem dX5_find_135 : decode cX5_find 135 = .ok (.goto (-40), 3) := by decide +kernel
theorem dX5_find_138 : decode cX5_find 138 = .ok (.aload_n 0, 1) := by decide +kernel
theorem dX5_find_139 : decode cX5_find 139 = .ok (.getfield 30, 3) := by decide +kernel
theorem dX5_find_142 : decode cX5_find 142 = .ok (.iconst 0, 1) := by decide +kernel
theorem dX5_find_143 : decode cX5_find 143 = .ok (.invokestatic 79, 3) := by decide +kernel
theorem dX5_find_146 : decode cX5_find 146 = .ok (.aload_n 0, 1) := by decide +kernel
theorem dX5_find_147 : decode cX5_find 147 = .ok (.iconst (-1), 1) := by decide +kernel
theorem dX5_find_148 : decode cX5_find 148 = .ok (.putfield 85, 3) := by decide +kernel
theorem dX5_find_151 : decode cX5_find 151 = .ok (.aload_n 0, 1) := by decide +kernel
theorem dX5_find_152 : decode cX5_find 152 = .ok (.iconst 0, 1) := by decide +kernel
theorem dX5_find_153 : decode cX5_find 153 = .ok (.iconst 0, 1) := by decide +kernel
theorem dX5_find_154 : decode cX5_find 154 = .ok (.invokevirtual 88, 3) := by decide +kernel
theorem dX5_find_157 : decode cX5_find 157 = .ok (.return_, 1) := by decide +kernel
theorem dX5_clashesOf_0 : decode cX5_clashesOf 0 = .ok (.aload_n 0, 1) := by decide +kernel
theorem dX5_clashesOf_1 : decode cX5_clashesOf 1 = .ok (.getfield 37, 3) := by decide +kernel
theorem dX5_clashesOf_4 : decode cX5_clashesOf 4 = .ok (.getfield 56, 3) := by decide +kernel
theorem dX5_clashesOf_7 : decode cX5_clashesOf 7 = .ok (.iload_n 1, 1) := by decide +kernel
theorem dX5_clashesOf_8 : decode cX5_clashesOf 8 = .ok (.aaload, 1) := by decide +kernel
theorem dX5_clashesOf_9 : decode cX5_clashesOf 9 = .ok (.astore_n 2, 1) := by decide +kernel
theorem dX5_clashesOf_10 : decode cX5_clashesOf 10 = .ok (.iconst 0, 1) := by decide +kernel
theorem dX5_clashesOf_11 : decode cX5_clashesOf 11 = .ok (.istore_n 3, 1) := by decide +kernel
theorem dX5_clashesOf_12 : decode cX5_clashesOf 12 = .ok (.iconst 0, 1) := by decide +kernel
theorem dX5_clashesOf_13 : decode cX5_clashesOf 13 = .ok (.istore 4, 2) := by decide +kernel
theorem dX5_clashesOf_15 : decode cX5_clashesOf 15 = .ok (.iload 4, 2) := by decide +kernel
theorem dX5_clashesOf_17 : decode cX5_clashesOf 17 = .ok (.aload_n 0, 1) := by decide +kernel
theorem dX5_clashesOf_18 : decode cX5_clashesOf 18 = .ok (.getfield 53, 3) := by decide +kernel
theorem dX5_clashesOf_21 : decode cX5_clashesOf 21 = .ok (.if_icmp .ge 89, 3) := by decide +kernel
theorem dX5_clashesOf_24 : decode cX5_clashesOf 24 = .ok (.aload_n 0, 1) := by decide +kernel
theorem dX5_clashesOf_25 : decode cX5_clashesOf 25 = .ok (.getfield 37, 3) := by decide +kernel
theorem dX5_clashesOf_28 : decode cX5_clashesOf 28 = .ok (.getfield 56, 3) := by decide +kernel
theorem dX5_clashesOf_31 : decode cX5_clashesOf 31 = .ok (.iload 4, 2) := by decide +kernel
theorem dX5_clashesOf_33 : decode cX5_clashesOf 33 = .ok (.aaload, 1) := by decide +kernel
theorem dX5_clashesOf_34 : decode cX5_clashesOf 34 = .ok (.astore 5, 2) := by decide +kernel
theorem dX5_clashesOf_36 : decode cX5_clashesOf 36 = .ok (.aload 5, 2) := by decide +kernel
theorem dX5_clashesOf_38 : decode cX5_clashesOf 38 = .ok (.getfield 92, 3) := by decide +kernel
theorem dX5_clashesOf_41 : decode cX5_clashesOf 41 = .ok (.aload 5, 2) := by decide +kernel
theorem dX5_clashesOf_43 : decode cX5_clashesOf 43 = .ok (.iconst 0, 1) := by decide +kernel
theorem dX5_clashesOf_44 : decode cX5_clashesOf 44 = .ok (.invokevirtual 64, 3) := by decide +kernel
theorem dX5_clashesOf_47 : decode cX5_clashesOf 47 = .ok (.iadd, 1) := by decide +kernel
theorem dX5_clashesOf_48 : decode cX5_clashesOf 48 = .ok (.aload_n 2, 1) := by decide +kernel
theorem dX5_clashesOf_49 : decode cX5_clashesOf 49 = .ok (.getfield 92, 3) := by decide +kernel
theorem dX5_clashesOf_52 : decode cX5_clashesOf 52 = .ok (.if_icmp .gt 7, 3) := by decide +kernel
theorem dX5_clashesOf_55 : decode cX5_clashesOf 55 = .ok (.iconst 1, 1) := by decide +kernel
theorem dX5_clashesOf_56 : decode cX5_clashesOf 56 = .ok (.goto 4, 3) := by decide +kernel
theorem dX5_clashesOf_59 : decode cX5_clashesOf 59 = .ok (.iconst 0, 1) := by decide +kernel
theorem dX5_clashesOf_60 : decode cX5_clashesOf 60 = .ok (.istore 6, 2) := by decide +kernel
theorem dX5_clashesOf_62 : decode cX5_clashesOf 62 = .ok (.aload_n 2, 1) := by decide +kernel
theorem dX5_clashesOf_63 : decode cX5_clashesOf 63 = .ok (.getfield 92, 3) := by decide +kernel
theorem dX5_clashesOf_66 : decode cX5_clashesOf 66 = .ok (.aload_n 2, 1) := by decide +kernel
theorem dX5_clashesOf_67 : decode cX5_clashesOf 67 = .ok (.iconst 0, 1) := by decide +kernel
theorem dX5_clashesOf_68 : decode cX5_clashesOf 68 = .ok (.invokevirtual 64, 3) := by decide +kernel
theorem dX5_clashesOf_71 : decode cX5_clashesOf 71 = .ok (.iadd, 1) := by decide +kernel
theorem dX5_clashesOf_72 : decode cX5_clashesOf 72 = .ok (.aload 5, 2) := by decide +kernel
theorem dX5_clashesOf_74 : decode cX5_clashesOf 74 = .ok (.getfield 92, 3) := by decide +kernel
theorem dX5_clashesOf_77 : decode cX5_clashesOf 77 = .ok (.if_icmp .gt 7, 3) := by decide +kernel
theorem dX5_clashesOf_80 : decode cX5_clashesOf 80 = .ok (.iconst 1, 1) := by decide +kernel
theorem dX5_clashesOf_81 : decode cX5_clashesOf 81 = .ok (.goto 4, 3) := by decide +kernel
theorem dX5_clashesOf_84 : decode cX5_clashesOf 84 = .ok (.iconst 0, 1) := by decide +kernel
theorem dX5_clashesOf_85 : decode cX5_clashesOf 85 = .ok (.istore 7, 2) := by decide +kernel
theorem dX5_clashesOf_87 : decode cX5_clashesOf 87 = .ok (.iload 6, 2) := by decide +kernel
theorem dX5_clashesOf_89 : decode cX5_clashesOf 89 = .ok (.ifCond .ne 15, 3) := by decide +kernel
theorem dX5_clashesOf_92 : decode cX5_clashesOf 92 = .ok (.iload 7, 2) := by decide +kernel
theorem dX5_clashesOf_94 : decode cX5_clashesOf 94 = .ok (.ifCond .ne 10, 3) := by decide +kernel
theorem dX5_clashesOf_97 : decode cX5_clashesOf 97 = .ok (.iload_n 3, 1) := by decide +kernel
theorem dX5_clashesOf_98 : decode cX5_clashesOf 98 = .ok (.iconst 1, 1) := by decide +kernel
theorem dX5_clashesOf_99 : decode cX5_clashesOf 99 = .ok (.iload 4, 2) := by decide +kernel
theorem dX5_clashesOf_101 : decode cX5_clashesOf 101 = .ok (.ishl, 1) := by decide +kernel
theorem dX5_clashesOf_102 : decode cX5_clashesOf 102 = .ok (.ior, 1) := by decide +kernel
theorem dX5_clashesOf_103 : decode cX5_clashesOf 103 = .ok (.istore_n 3, 1) := by decide +kernel
theorem dX5_clashesOf_104 : decode cX5_clashesOf 104 = .ok (.iinc 4 1, 3) := by decide +kernel
theorem dX5_clashesOf_107 : decode cX5_clashesOf 107 = .ok (.goto (-92), 3) := by decide +kernel
theorem dX5_clashesOf_110 : decode cX5_clashesOf 110 = .ok (.iload_n 3, 1) := by decide +kernel
theorem dX5_clashesOf_111 : decode cX5_clashesOf 111 = .ok (.ireturn, 1) := by decide +kernel
theorem dX5_fitsSomewhere_0 : decode cX5_fitsSomewhere 0 = .ok (.iconst 0, 1) := by decide +kernel
theorem dX5_fitsSomewhere_1 : decode cX5_fitsSomewhere 1 = .ok (.istore_n 2, 1) := by decide +kernel
theorem dX5_fitsSomewhere_2 : decode cX5_fitsSomewhere 2 = .ok (.iload_n 2, 1) := by decide +kernel
theorem dX5_fitsSomewhere_3 : decode cX5_fitsSomewhere 3 = .ok (.aload_n 0, 1) := by decide +kernel
theorem dX5_fitsSomewhere_4 : decode cX5_fitsSomewhere 4 = .ok (.getfield 33, 3) := by decide +kernel
theorem dX5_fitsSomewhere_7 : decode cX5_fitsSomewhere 7 = .ok (.getfield 95, 3) := by decide +kernel
theorem dX5_fitsSomewhere_10 : decode cX5_fitsSomewhere 10 = .ok (.if_icmp .ge 29, 3) := by decide +kernel
theorem dX5_fitsSomewhere_13 : decode cX5_fitsSomewhere 13 = .ok (.aload_n 0, 1) := by decide +kernel
theorem dX5_fitsSomewhere_14 : decode cX5_fitsSomewhere 14 = .ok (.getfield 33, 3) := by decide +kernel
theorem dX5_fitsSomewhere_17 : decode cX5_fitsSomewhere 17 = .ok (.getfield 100, 3) := by decide +kernel
theorem dX5_fitsSomewhere_20 : decode cX5_fitsSomewhere 20 = .ok (.iload_n 2, 1) := by decide +kernel
theorem dX5_fitsSomewhere_21 : decode cX5_fitsSomewhere 21 = .ok (.iaload, 1) := by decide +kernel
theorem dX5_fitsSomewhere_22 : decode cX5_fitsSomewhere 22 = .ok (.aload_n 0, 1) := by decide +kernel
theorem dX5_fitsSomewhere_23 : decode cX5_fitsSomewhere 23 = .ok (.getfield 18, 3) := by decide +kernel
theorem dX5_fitsSomewhere_26 : decode cX5_fitsSomewhere 26 = .ok (.iload_n 1, 1) := by decide +kernel
theorem dX5_fitsSomewhere_27 : decode cX5_fitsSomewhere 27 = .ok (.iaload, 1) := by decide +kernel
theorem dX5_fitsSomewhere_28 : decode cX5_fitsSomewhere 28 = .ok (.if_icmp .lt 5, 3) := by decide +kernel
theorem dX5_fitsSomewhere_31 : decode cX5_fitsSomewhere 31 = .ok (.iconst 1, 1) := by decide +kernel
theorem dX5_fitsSomewhere_32 : decode cX5_fitsSomewhere 32 = .ok (.ireturn, 1) := by decide +kernel
theorem dX5_fitsSomewhere_33 : decode cX5_fitsSomewhere 33 = .ok (.iinc 2 1, 3) := by decide +kernel
theorem dX5_fitsSomewhere_36 : decode cX5_fitsSomewhere 36 = .ok (.goto (-34), 3) := by decide +kernel
theorem dX5_fitsSomewhere_39 : decode cX5_fitsSomewhere 39 = .ok (.iconst 0, 1) := by decide +kernel
theorem dX5_fitsSomewhere_40 : decode cX5_fitsSomewhere 40 = .ok (.ireturn, 1) := by decide +kernel
theorem dX5_place_0 : decode cX5_place 0 = .ok (.iload_n 1, 1) := by decide +kernel
theorem dX5_place_1 : decode cX5_place 1 = .ok (.aload_n 0, 1) := by decide +kernel
theorem dX5_place_2 : decode cX5_place 2 = .ok (.getfield 53, 3) := by decide +kernel
theorem dX5_place_5 : decode cX5_place 5 = .ok (.if_icmp .gt 18, 3) := by decide +kernel
theorem dX5_place_8 : decode cX5_place 8 = .ok (.iload_n 2, 1) := by decide +kernel
theorem dX5_place_9 : decode cX5_place 9 = .ok (.aload_n 0, 1) := by decide +kernel
theorem dX5_place_10 : decode cX5_place 10 = .ok (.getfield 27, 3) := by decide +kernel
theorem dX5_place_13 : decode cX5_place 13 = .ok (.iload_n 1, 1) := by decide +kernel
theorem dX5_place_14 : decode cX5_place 14 = .ok (.iaload, 1) := by decide +kernel
theorem dX5_place_15 : decode cX5_place 15 = .ok (.iadd, 1) := by decide +kernel
theorem dX5_place_16 : decode cX5_place 16 = .ok (.aload_n 0, 1) := by decide +kernel
theorem dX5_place_17 : decode cX5_place 17 = .ok (.getfield 85, 3) := by decide +kernel
theorem dX5_place_20 : decode cX5_place 20 = .ok (.if_icmp .gt 4, 3) := by decide +kernel
theorem dX5_place_23 : decode cX5_place 23 = .ok (.return_, 1) := by decide +kernel
theorem dX5_place_24 : decode cX5_place 24 = .ok (.iload_n 1, 1) := by decide +kernel
theorem dX5_place_25 : decode cX5_place 25 = .ok (.aload_n 0, 1) := by decide +kernel
theorem dX5_place_26 : decode cX5_place 26 = .ok (.getfield 53, 3) := by decide +kernel
theorem dX5_place_29 : decode cX5_place 29 = .ok (.if_icmp .ne 37, 3) := by decide +kernel
theorem dX5_place_32 : decode cX5_place 32 = .ok (.aload_n 0, 1) := by decide +kernel
theorem dX5_place_33 : decode cX5_place 33 = .ok (.iload_n 2, 1) := by decide +kernel
theorem dX5_place_34 : decode cX5_place 34 = .ok (.putfield 85, 3) := by decide +kernel
theorem dX5_place_37 : decode cX5_place 37 = .ok (.iconst 0, 1) := by decide +kernel
theorem dX5_place_38 : decode cX5_place 38 = .ok (.istore_n 3, 1) := by decide +kernel
theorem dX5_place_39 : decode cX5_place 39 = .ok (.iload_n 3, 1) := by decide +kernel
theorem dX5_place_40 : decode cX5_place 40 = .ok (.aload_n 0, 1) := by decide +kernel
theorem dX5_place_41 : decode cX5_place 41 = .ok (.getfield 53, 3) := by decide +kernel
theorem dX5_place_44 : decode cX5_place 44 = .ok (.if_icmp .ge 21, 3) := by decide +kernel
theorem dX5_place_47 : decode cX5_place 47 = .ok (.aload_n 0, 1) := by decide +kernel
theorem dX5_place_48 : decode cX5_place 48 = .ok (.getfield 9, 3) := by decide +kernel
theorem dX5_place_51 : decode cX5_place 51 = .ok (.iload_n 3, 1) := by decide +kernel
theorem dX5_place_52 : decode cX5_place 52 = .ok (.aload_n 0, 1) := by decide +kernel
theorem dX5_place_53 : decode cX5_place 53 = .ok (.getfield 15, 3) := by decide +kernel
theorem dX5_place_56 : decode cX5_place 56 = .ok (.iload_n 3, 1) := by decide +kernel
theorem dX5_place_57 : decode cX5_place 57 = .ok (.iaload, 1) := by decide +kernel
theorem dX5_place_58 : decode cX5_place 58 = .ok (.iastore, 1) := by decide +kernel
theorem dX5_place_59 : decode cX5_place 59 = .ok (.iinc 3 1, 3) := by decide +kernel
theorem dX5_place_62 : decode cX5_place 62 = .ok (.goto (-23), 3) := by decide +kernel
theorem dX5_place_65 : decode cX5_place 65 = .ok (.return_, 1) := by decide +kernel
theorem dX5_place_66 : decode cX5_place 66 = .ok (.iconst 0, 1) := by decide +kernel
theorem dX5_place_67 : decode cX5_place 67 = .ok (.istore_n 3, 1) := by decide +kernel
theorem dX5_place_68 : decode cX5_place 68 = .ok (.iload_n 3, 1) := by decide +kernel
theorem dX5_place_69 : decode cX5_place 69 = .ok (.aload_n 0, 1) := by decide +kernel
theorem dX5_place_70 : decode cX5_place 70 = .ok (.getfield 33, 3) := by decide +kernel
theorem dX5_place_73 : decode cX5_place 73 = .ok (.getfield 95, 3) := by decide +kernel
theorem dX5_place_76 : decode cX5_place 76 = .ok (.if_icmp .ge 91, 3) := by decide +kernel
theorem dX5_place_79 : decode cX5_place 79 = .ok (.aload_n 0, 1) := by decide +kernel
theorem dX5_place_80 : decode cX5_place 80 = .ok (.getfield 33, 3) := by decide +kernel
theorem dX5_place_83 : decode cX5_place 83 = .ok (.getfield 100, 3) := by decide +kernel
theorem dX5_place_86 : decode cX5_place 86 = .ok (.iload_n 3, 1) := by decide +kernel
theorem dX5_place_87 : decode cX5_place 87 = .ok (.iaload, 1) := by decide +kernel
theorem dX5_place_88 : decode cX5_place 88 = .ok (.aload_n 0, 1) := by decide +kernel
theorem dX5_place_89 : decode cX5_place 89 = .ok (.getfield 18, 3) := by decide +kernel
theorem dX5_place_92 : decode cX5_place 92 = .ok (.iload_n 1, 1) := by decide +kernel
theorem dX5_place_93 : decode cX5_place 93 = .ok (.iaload, 1) := by decide +kernel
theorem dX5_place_94 : decode cX5_place 94 = .ok (.if_icmp .lt 67, 3) := by decide +kernel
theorem dX5_place_97 : decode cX5_place 97 = .ok (.aload_n 0, 1) := by decide +kernel
theorem dX5_place_98 : decode cX5_place 98 = .ok (.getfield 30, 3) := by decide +kernel
theorem dX5_place_101 : decode cX5_place 101 = .ok (.iload_n 3, 1) := by decide +kernel
theorem dX5_place_102 : decode cX5_place 102 = .ok (.iaload, 1) := by decide +kernel
theorem dX5_place_103 : decode cX5_place 103 = .ok (.aload_n 0, 1) := by decide +kernel
theorem dX5_place_104 : decode cX5_place 104 = .ok (.getfield 24, 3) := by decide +kernel
theorem dX5_place_107 : decode cX5_place 107 = .ok (.iload_n 1, 1) := by decide +kernel
theorem dX5_place_108 : decode cX5_place 108 = .ok (.iaload, 1) := by decide +kernel
theorem dX5_place_109 : decode cX5_place 109 = .ok (.iand, 1) := by decide +kernel
theorem dX5_place_110 : decode cX5_place 110 = .ok (.ifCond .ne 51, 3) := by decide +kernel
theorem dX5_place_113 : decode cX5_place 113 = .ok (.aload_n 0, 1) := by decide +kernel
theorem dX5_place_114 : decode cX5_place 114 = .ok (.getfield 30, 3) := by decide +kernel
theorem dX5_place_117 : decode cX5_place 117 = .ok (.iload_n 3, 1) := by decide +kernel
theorem dX5_place_118 : decode cX5_place 118 = .ok (.dup2, 1) := by decide +kernel
theorem dX5_place_119 : decode cX5_place 119 = .ok (.iaload, 1) := by decide +kernel
theorem dX5_place_120 : decode cX5_place 120 = .ok (.iconst 1, 1) := by decide +kernel
theorem dX5_place_121 : decode cX5_place 121 = .ok (.iload_n 1, 1) := by decide +kernel
theorem dX5_place_122 : decode cX5_place 122 = .ok (.ishl, 1) := by decide +kernel
theorem dX5_place_123 : decode cX5_place 123 = .ok (.ior, 1) := by decide +kernel
theorem dX5_place_124 : decode cX5_place 124 = .ok (.iastore, 1) := by decide +kernel
theorem dX5_place_125 : decode cX5_place 125 = .ok (.aload_n 0, 1) := by decide +kernel
theorem dX5_place_126 : decode cX5_place 126 = .ok (.getfield 15, 3) := by decide +kernel
theorem dX5_place_129 : decode cX5_place 129 = .ok (.iload_n 1, 1) := by decide +kernel
theorem dX5_place_130 : decode cX5_place 130 = .ok (.iload_n 3, 1) := by decide +kernel
theorem dX5_place_131 : decode cX5_place 131 = .ok (.iastore, 1) := by decide +kernel
theorem dX5_place_132 : decode cX5_place 132 = .ok (.aload_n 0, 1) := by decide +kernel
theorem dX5_place_133 : decode cX5_place 133 = .ok (.iload_n 1, 1) := by decide +kernel
theorem dX5_place_134 : decode cX5_place 134 = .ok (.iconst 1, 1) := by decide +kernel
theorem dX5_place_135 : decode cX5_place 135 = .ok (.iadd, 1) := by decide +kernel
theorem dX5_place_136 : decode cX5_place 136 = .ok (.iload_n 2, 1) := by decide +kernel
theorem dX5_place_137 : decode cX5_place 137 = .ok (.aload_n 0, 1) := by decide +kernel
theorem dX5_place_138 : decode cX5_place 138 = .ok (.getfield 21, 3) := by decide +kernel
theorem dX5_place_141 : decode cX5_place 141 = .ok (.iload_n 1, 1) := by decide +kernel
theorem dX5_place_142 : decode cX5_place 142 = .ok (.iaload, 1) := by decide +kernel
theorem dX5_place_143 : decode cX5_place 143 = .ok (.iadd, 1) := by decide +kernel
theorem dX5_place_144 : decode cX5_place 144 = .ok (.invokevirtual 88, 3) := by decide +kernel
theorem dX5_place_147 : decode cX5_place 147 = .ok (.aload_n 0, 1) := by decide +kernel
theorem dX5_place_148 : decode cX5_place 148 = .ok (.getfield 30, 3) := by decide +kernel
theorem dX5_place_151 : decode cX5_place 151 = .ok (.iload_n 3, 1) := by decide +kernel
theorem dX5_place_152 : decode cX5_place 152 = .ok (.dup2, 1) := by decide +kernel
theorem dX5_place_153 : decode cX5_place 153 = .ok (.iaload, 1) := by decide +kernel
theorem dX5_place_154 : decode cX5_place 154 = .ok (.iconst 1, 1) := by decide +kernel
theorem dX5_place_155 : decode cX5_place 155 = .ok (.iload_n 1, 1) := by decide +kernel
theorem dX5_place_156 : decode cX5_place 156 = .ok (.ishl, 1) := by decide +kernel
theorem dX5_place_157 : decode cX5_place 157 = .ok (.iconst (-1), 1) := by decide +kernel
theorem dX5_place_158 : decode cX5_place 158 = .ok (.ixor, 1) := by decide +kernel
theorem dX5_place_159 : decode cX5_place 159 = .ok (.iand, 1) := by decide +kernel
theorem dX5_place_160 : decode cX5_place 160 = .ok (.iastore, 1) := by decide +kernel
theorem dX5_place_161 : decode cX5_place 161 = .ok (.iinc 3 1, 3) := by decide +kernel
theorem dX5_place_164 : decode cX5_place 164 = .ok (.goto (-96), 3) := by decide +kernel
theorem dX5_place_167 : decode cX5_place 167 = .ok (.aload_n 0, 1) := by decide +kernel
theorem dX5_place_168 : decode cX5_place 168 = .ok (.getfield 15, 3) := by decide +kernel
theorem dX5_place_171 : decode cX5_place 171 = .ok (.iload_n 1, 1) := by decide +kernel
theorem dX5_place_172 : decode cX5_place 172 = .ok (.bipush (-9), 2) := by decide +kernel
theorem dX5_place_174 : decode cX5_place 174 = .ok (.iastore, 1) := by decide +kernel
theorem dX5_place_175 : decode cX5_place 175 = .ok (.aload_n 0, 1) := by decide +kernel
theorem dX5_place_176 : decode cX5_place 176 = .ok (.iload_n 1, 1) := by decide +kernel
theorem dX5_place_177 : decode cX5_place 177 = .ok (.iconst 1, 1) := by decide +kernel
theorem dX5_place_178 : decode cX5_place 178 = .ok (.iadd, 1) := by decide +kernel
theorem dX5_place_179 : decode cX5_place 179 = .ok (.iload_n 2, 1) := by decide +kernel
theorem dX5_place_180 : decode cX5_place 180 = .ok (.invokevirtual 88, 3) := by decide +kernel
theorem dX5_place_183 : decode cX5_place 183 = .ok (.return_, 1) := by decide +kernel
theorem dX6_init_0 : decode cX6_init 0 = .ok (.aload_n 0, 1) := by decide +kernel
theorem dX6_init_1 : decode cX6_init 1 = .ok (.invokespecial 3, 3) := by decide +kernel
theorem dX6_init_4 : decode cX6_init 4 = .ok (.aload_n 0, 1) := by decide +kernel
theorem dX6_init_5 : decode cX6_init 5 = .ok (.bipush 40, 2) := by decide +kernel
theorem dX6_init_7 : decode cX6_init 7 = .ok (.newarray .int, 2) := by decide +kernel
theorem dX6_init_9 : decode cX6_init 9 = .ok (.putfield 9, 3) := by decide +kernel
theorem dX6_init_12 : decode cX6_init 12 = .ok (.return_, 1) := by decide +kernel
theorem dX6_renew_0 : decode cX6_renew 0 = .ok (.aload_n 0, 1) := by decide +kernel
theorem dX6_renew_1 : decode cX6_renew 1 = .ok (.getfield 9, 3) := by decide +kernel
theorem dX6_renew_4 : decode cX6_renew 4 = .ok (.iconst 0, 1) := by decide +kernel
theorem dX6_renew_5 : decode cX6_renew 5 = .ok (.invokestatic 15, 3) := by decide +kernel
theorem dX6_renew_8 : decode cX6_renew 8 = .ok (.aload_n 0, 1) := by decide +kernel
theorem dX6_renew_9 : decode cX6_renew 9 = .ok (.iconst 1, 1) := by decide +kernel
theorem dX6_renew_10 : decode cX6_renew 10 = .ok (.putfield 21, 3) := by decide +kernel
theorem dX6_renew_13 : decode cX6_renew 13 = .ok (.aload_n 0, 1) := by decide +kernel
theorem dX6_renew_14 : decode cX6_renew 14 = .ok (.iload_n 1, 1) := by decide +kernel
theorem dX6_renew_15 : decode cX6_renew 15 = .ok (.putfield 25, 3) := by decide +kernel
theorem dX6_renew_18 : decode cX6_renew 18 = .ok (.aload_n 0, 1) := by decide +kernel
theorem dX6_renew_19 : decode cX6_renew 19 = .ok (.iload_n 2, 1) := by decide +kernel
theorem dX6_renew_20 : decode cX6_renew 20 = .ok (.putfield 29, 3) := by decide +kernel
theorem dX6_renew_23 : decode cX6_renew 23 = .ok (.return_, 1) := by decide +kernel
theorem dX6_cut_0 : decode cX6_cut 0 = .ok (.aload_n 0, 1) := by decide +kernel
theorem dX6_cut_1 : decode cX6_cut 1 = .ok (.getfield 25, 3) := by decide +kernel
theorem dX6_cut_4 : decode cX6_cut 4 = .ok (.ifCond .ne 6, 3) := by decide +kernel
theorem dX6_cut_7 : decode cX6_cut 7 = .ok (.iload_n 1, 1) := by decide +kernel
theorem dX6_cut_8 : decode cX6_cut 8 = .ok (.i2b, 1) := by decide +kernel
theorem dX6_cut_9 : decode cX6_cut 9 = .ok (.ireturn, 1) := by decide +kernel
theorem dX6_cut_10 : decode cX6_cut 10 = .ok (.aload_n 0, 1) := by decide +kernel
theorem dX6_cut_11 : decode cX6_cut 11 = .ok (.getfield 25, 3) := by decide +kernel
theorem dX6_cut_14 : decode cX6_cut 14 = .ok (.iconst 1, 1) := by decide +kernel
theorem dX6_cut_15 : decode cX6_cut 15 = .ok (.if_icmp .ne 8, 3) := by decide +kernel
theorem dX6_cut_18 : decode cX6_cut 18 = .ok (.iload_n 1, 1) := by decide +kernel
theorem dX6_cut_19 : decode cX6_cut 19 = .ok (.i2s, 1) := by decide +kernel
theorem dX6_cut_20 : decode cX6_cut 20 = .ok (.goto 4, 3) := by decide +kernel
theorem dX6_cut_23 : decode cX6_cut 23 = .ok (.iload_n 1, 1) := by decide +kernel
theorem dX6_cut_24 : decode cX6_cut 24 = .ok (.ireturn, 1) := by decide +kernel
theorem dX6_reaches_0 : decode cX6_reaches 0 = .ok (.iload_n 1, 1) := by decide +kernel
theorem dX6_reaches_1 : decode cX6_reaches 1 = .ok (.ifCond .lt 29, 3) := by decide +kernel
theorem dX6_reaches_4 : decode cX6_reaches 4 = .ok (.iload_n 1, 1) := by decide +kernel
theorem dX6_reaches_5 : decode cX6_reaches 5 = .ok (.aload_n 0, 1) := by decide +kernel
theorem dX6_reaches_6 : decode cX6_reaches 6 = .ok (.getfield 29, 3) := by decide +kernel
theorem dX6_reaches_9 : decode cX6_reaches 9 = .ok (.if_icmp .gt 21, 3) := by decide +kernel
theorem dX6_reaches_12 : decode cX6_reaches 12 = .ok (.iload_n 2, 1) := by decide +kernel
theorem dX6_reaches_13 : decode cX6_reaches 13 = .ok (.ifCond .lt 17, 3) := by decide +kernel
theorem dX6_reaches_16 : decode cX6_reaches 16 = .ok (.iload_n 2, 1) := by decide +kernel
theorem dX6_reaches_17 : decode cX6_reaches 17 = .ok (.aload_n 0, 1) := by decide +kernel
theorem dX6_reaches_18 : decode cX6_reaches 18 = .ok (.getfield 29, 3) := by decide +kernel
theorem dX6_reaches_21 : decode cX6_reaches 21 = .ok (.iload_n 1, 1) := by decide +kernel
theorem dX6_reaches_22 : decode cX6_reaches 22 = .ok (.isub, 1) := by decide +kernel
theorem dX6_reaches_23 : decode cX6_reaches 23 = .ok (.if_icmp .gt 7, 3) := by decide +kernel
theorem dX6_reaches_26 : decode cX6_reaches 26 = .ok (.iconst 1, 1) := by decide +kernel
theorem dX6_reaches_27 : decode cX6_reaches 27 = .ok (.goto 4, 3) := by decide +kernel
theorem dX6_reaches_30 : decode cX6_reaches 30 = .ok (.iconst 0, 1) := by decide +kernel
theorem dX6_reaches_31 : decode cX6_reaches 31 = .ok (.ireturn, 1) := by decide +kernel
theorem dX7_init_0 : decode cX7_init 0 = .ok (.aload_n 0, 1) := by decide +kernel
theorem dX7_init_1 : decode cX7_init 1 = .ok (.iload_n 1, 1) := by decide +kernel
theorem dX7_init_2 : decode cX7_init 2 = .ok (.iload_n 2, 1) := by decide +kernel
theorem dX7_init_3 : decode cX7_init 3 = .ok (.iload_n 3, 1) := by decide +kernel
theorem dX7_init_4 : decode cX7_init 4 = .ok (.iload 4, 2) := by decide +kernel
theorem dX7_init_6 : decode cX7_init 6 = .ok (.iload 5, 2) := by decide +kernel
theorem dX7_init_8 : decode cX7_init 8 = .ok (.iload 6, 2) := by decide +kernel
theorem dX7_init_10 : decode cX7_init 10 = .ok (.invokespecial 1, 3) := by decide +kernel
theorem dX7_init_13 : decode cX7_init 13 = .ok (.return_, 1) := by decide +kernel
theorem dX7_kindNumber_0 : decode cX7_kindNumber 0 = .ok (.iconst 1, 1) := by decide +kernel
theorem dX7_kindNumber_1 : decode cX7_kindNumber 1 = .ok (.ireturn, 1) := by decide +kernel
theorem dX7_staysFor_0 : decode cX7_staysFor 0 = .ok (.iconst 2, 1) := by decide +kernel
theorem dX7_staysFor_1 : decode cX7_staysFor 1 = .ok (.aload_n 0, 1) := by decide +kernel
theorem dX7_staysFor_2 : decode cX7_staysFor 2 = .ok (.getfield 7, 3) := by decide +kernel
theorem dX7_staysFor_5 : decode cX7_staysFor 5 = .ok (.imul, 1) := by decide +kernel
theorem dX7_staysFor_6 : decode cX7_staysFor 6 = .ok (.ireturn, 1) := by decide +kernel
theorem dX7_coinFor_0 : decode cX7_coinFor 0 = .ok (.aload_n 0, 1) := by decide +kernel
theorem dX7_coinFor_1 : decode cX7_coinFor 1 = .ok (.getfield 13, 3) := by decide +kernel
theorem dX7_coinFor_4 : decode cX7_coinFor 4 = .ok (.iconst 5, 1) := by decide +kernel
theorem dX7_coinFor_5 : decode cX7_coinFor 5 = .ok (.iload_n 1, 1) := by decide +kernel
theorem dX7_coinFor_6 : decode cX7_coinFor 6 = .ok (.bipush 20, 2) := by decide +kernel
theorem dX7_coinFor_8 : decode cX7_coinFor 8 = .ok (.idiv, 1) := by decide +kernel
theorem dX7_coinFor_9 : decode cX7_coinFor 9 = .ok (.iadd, 1) := by decide +kernel
theorem dX7_coinFor_10 : decode cX7_coinFor 10 = .ok (.imul, 1) := by decide +kernel
theorem dX7_coinFor_11 : decode cX7_coinFor 11 = .ok (.ireturn, 1) := by decide +kernel
theorem dX7_telling_0 : decode cX7_telling 0 = .ok (.aload_n 1, 1) := by decide +kernel
theorem dX7_telling_1 : decode cX7_telling 1 = .ok (.iconst 2, 1) := by decide +kernel
theorem dX7_telling_2 : decode cX7_telling 2 = .ok (.invokevirtual 16, 3) := by decide +kernel
theorem dX7_telling_5 : decode cX7_telling 5 = .ok (.aload_n 0, 1) := by decide +kernel
theorem dX7_telling_6 : decode cX7_telling 6 = .ok (.aload_n 1, 1) := by decide +kernel
theorem dX7_telling_7 : decode cX7_telling 7 = .ok (.invokespecial 22, 3) := by decide +kernel
theorem dX7_telling_10 : decode cX7_telling 10 = .ok (.bipush 100, 2) := by decide +kernel
theorem dX7_telling_12 : decode cX7_telling 12 = .ok (.iadd, 1) := by decide +kernel
theorem dX7_telling_13 : decode cX7_telling 13 = .ok (.ireturn, 1) := by decide +kernel
theorem dX8_init_0 : decode cX8_init 0 = .ok (.aload_n 0, 1) := by decide +kernel
theorem dX8_init_1 : decode cX8_init 1 = .ok (.invokespecial 1, 3) := by decide +kernel
theorem dX8_init_4 : decode cX8_init 4 = .ok (.return_, 1) := by decide +kernel
theorem dX8_mark_0 : decode cX8_mark 0 = .ok (.aload_n 0, 1) := by decide +kernel
theorem dX8_mark_1 : decode cX8_mark 1 = .ok (.bipush 31, 2) := by decide +kernel
theorem dX8_mark_3 : decode cX8_mark 3 = .ok (.aload_n 0, 1) := by decide +kernel
theorem dX8_mark_4 : decode cX8_mark 4 = .ok (.getfield 7, 3) := by decide +kernel
theorem dX8_mark_7 : decode cX8_mark 7 = .ok (.imul, 1) := by decide +kernel
theorem dX8_mark_8 : decode cX8_mark 8 = .ok (.iload_n 1, 1) := by decide +kernel
theorem dX8_mark_9 : decode cX8_mark 9 = .ok (.iadd, 1) := by decide +kernel
theorem dX8_mark_10 : decode cX8_mark 10 = .ok (.putfield 7, 3) := by decide +kernel
theorem dX8_mark_13 : decode cX8_mark 13 = .ok (.return_, 1) := by decide +kernel
theorem dX9_init_0 : decode cX9_init 0 = .ok (.aload_n 0, 1) := by decide +kernel
theorem dX9_init_1 : decode cX9_init 1 = .ok (.invokespecial 3, 3) := by decide +kernel
theorem dX9_init_4 : decode cX9_init 4 = .ok (.aload_n 0, 1) := by decide +kernel
theorem dX9_init_5 : decode cX9_init 5 = .ok (.new 9, 3) := by decide +kernel
theorem dX9_init_8 : decode cX9_init 8 = .ok (.dup, 1) := by decide +kernel
theorem dX9_init_9 : decode cX9_init 9 = .ok (.invokespecial 11, 3) := by decide +kernel
theorem dX9_init_12 : decode cX9_init 12 = .ok (.putfield 12, 3) := by decide +kernel
theorem dX9_init_15 : decode cX9_init 15 = .ok (.aload_n 0, 1) := by decide +kernel
theorem dX9_init_16 : decode cX9_init 16 = .ok (.new 9, 3) := by decide +kernel
theorem dX9_init_19 : decode cX9_init 19 = .ok (.dup, 1) := by decide +kernel
theorem dX9_init_20 : decode cX9_init 20 = .ok (.invokespecial 11, 3) := by decide +kernel
theorem dX9_init_23 : decode cX9_init 23 = .ok (.putfield 18, 3) := by decide +kernel
theorem dX9_init_26 : decode cX9_init 26 = .ok (.aload_n 0, 1) := by decide +kernel
theorem dX9_init_27 : decode cX9_init 27 = .ok (.new 21, 3) := by decide +kernel
theorem dX9_init_30 : decode cX9_init 30 = .ok (.dup, 1) := by decide +kernel
theorem dX9_init_31 : decode cX9_init 31 = .ok (.invokespecial 23, 3) := by decide +kernel
theorem dX9_init_34 : decode cX9_init 34 = .ok (.putfield 24, 3) := by decide +kernel
theorem dX9_init_37 : decode cX9_init 37 = .ok (.aload_n 0, 1) := by decide +kernel
theorem dX9_init_38 : decode cX9_init 38 = .ok (.iconst 4, 1) := by decide +kernel
theorem dX9_init_39 : decode cX9_init 39 = .ok (.anewarray 28, 3) := by decide +kernel
theorem dX9_init_42 : decode cX9_init 42 = .ok (.putfield 30, 3) := by decide +kernel
theorem dX9_init_45 : decode cX9_init 45 = .ok (.iconst 0, 1) := by decide +kernel
theorem dX9_init_46 : decode cX9_init 46 = .ok (.istore_n 1, 1) := by decide +kernel
theorem dX9_init_47 : decode cX9_init 47 = .ok (.iload_n 1, 1) := by decide +kernel
theorem dX9_init_48 : decode cX9_init 48 = .ok (.iconst 4, 1) := by decide +kernel
theorem dX9_init_49 : decode cX9_init 49 = .ok (.if_icmp .ge 22, 3) := by decide +kernel
theorem dX9_init_52 : decode cX9_init 52 = .ok (.aload_n 0, 1) := by decide +kernel
theorem dX9_init_53 : decode cX9_init 53 = .ok (.getfield 30, 3) := by decide +kernel
theorem dX9_init_56 : decode cX9_init 56 = .ok (.iload_n 1, 1) := by decide +kernel
theorem dX9_init_57 : decode cX9_init 57 = .ok (.new 28, 3) := by decide +kernel
theorem dX9_init_60 : decode cX9_init 60 = .ok (.dup, 1) := by decide +kernel
theorem dX9_init_61 : decode cX9_init 61 = .ok (.invokespecial 34, 3) := by decide +kernel
theorem dX9_init_64 : decode cX9_init 64 = .ok (.aastore, 1) := by decide +kernel
theorem dX9_init_65 : decode cX9_init 65 = .ok (.iinc 1 1, 3) := by decide +kernel
theorem dX9_init_68 : decode cX9_init 68 = .ok (.goto (-21), 3) := by decide +kernel
theorem dX9_init_71 : decode cX9_init 71 = .ok (.aload_n 0, 1) := by decide +kernel
theorem dX9_init_72 : decode cX9_init 72 = .ok (.new 35, 3) := by decide +kernel
theorem dX9_init_75 : decode cX9_init 75 = .ok (.dup, 1) := by decide +kernel
theorem dX9_init_76 : decode cX9_init 76 = .ok (.invokespecial 37, 3) := by decide +kernel
theorem dX9_init_79 : decode cX9_init 79 = .ok (.putfield 38, 3) := by decide +kernel
theorem dX9_init_82 : decode cX9_init 82 = .ok (.aload_n 0, 1) := by decide +kernel
theorem dX9_init_83 : decode cX9_init 83 = .ok (.new 42, 3) := by decide +kernel
theorem dX9_init_86 : decode cX9_init 86 = .ok (.dup, 1) := by decide +kernel
theorem dX9_init_87 : decode cX9_init 87 = .ok (.aload_n 0, 1) := by decide +kernel
theorem dX9_init_88 : decode cX9_init 88 = .ok (.getfield 12, 3) := by decide +kernel
theorem dX9_init_91 : decode cX9_init 91 = .ok (.aload_n 0, 1) := by decide +kernel
theorem dX9_init_92 : decode cX9_init 92 = .ok (.getfield 24, 3) := by decide +kernel
theorem dX9_init_95 : decode cX9_init 95 = .ok (.invokespecial 44, 3) := by decide +kernel
theorem dX9_init_98 : decode cX9_init 98 = .ok (.putfield 47, 3) := by decide +kernel
theorem dX9_init_101 : decode cX9_init 101 = .ok (.aload_n 0, 1) := by decide +kernel
theorem dX9_init_102 : decode cX9_init 102 = .ok (.new 42, 3) := by decide +kernel
theorem dX9_init_105 : decode cX9_init 105 = .ok (.dup, 1) := by decide +kernel
theorem dX9_init_106 : decode cX9_init 106 = .ok (.aload_n 0, 1) := by decide +kernel
theorem dX9_init_107 : decode cX9_init 107 = .ok (.getfield 12, 3) := by decide +kernel
theorem dX9_init_110 : decode cX9_init 110 = .ok (.aload_n 0, 1) := by decide +kernel
theorem dX9_init_111 : decode cX9_init 111 = .ok (.getfield 24, 3) := by decide +kernel
theorem dX9_init_114 : decode cX9_init 114 = .ok (.invokespecial 44, 3) := by decide +kernel
theorem dX9_init_117 : decode cX9_init 117 = .ok (.putfield 51, 3) := by decide +kernel
theorem dX9_init_120 : decode cX9_init 120 = .ok (.aload_n 0, 1) := by decide +kernel
theorem dX9_init_121 : decode cX9_init 121 = .ok (.new 54, 3) := by decide +kernel
theorem dX9_init_124 : decode cX9_init 124 = .ok (.dup, 1) := by decide +kernel
theorem dX9_init_125 : decode cX9_init 125 = .ok (.aload_n 0, 1) := by decide +kernel
theorem dX9_init_126 : decode cX9_init 126 = .ok (.getfield 12, 3) := by decide +kernel
theorem dX9_init_129 : decode cX9_init 129 = .ok (.aload_n 0, 1) := by decide +kernel
theorem dX9_init_130 : decode cX9_init 130 = .ok (.getfield 24, 3) := by decide +kernel
theorem dX9_init_133 : decode cX9_init 133 = .ok (.invokespecial 56, 3) := by decide +kernel
theorem dX9_init_136 : decode cX9_init 136 = .ok (.putfield 57, 3) := by decide +kernel
theorem dX9_init_139 : decode cX9_init 139 = .ok (.aload_n 0, 1) := by decide +kernel
theorem dX9_init_140 : decode cX9_init 140 = .ok (.bipush 31, 2) := by decide +kernel
theorem dX9_init_142 : decode cX9_init 142 = .ok (.newarray .int, 2) := by decide +kernel
theorem dX9_init_144 : decode cX9_init 144 = .ok (.putfield 61, 3) := by decide +kernel
theorem dX9_init_147 : decode cX9_init 147 = .ok (.aload_n 0, 1) := by decide +kernel
theorem dX9_init_148 : decode cX9_init 148 = .ok (.iconst 4, 1) := by decide +kernel
theorem dX9_init_149 : decode cX9_init 149 = .ok (.newarray .int, 2) := by decide +kernel
theorem dX9_init_151 : decode cX9_init 151 = .ok (.putfield 65, 3) := by decide +kernel
theorem dX9_init_154 : decode cX9_init 154 = .ok (.return_, 1) := by decide +kernel
theorem dX9_cafe_0 : decode cX9_cafe 0 = .ok (.aload_n 0, 1) := by decide +kernel
theorem dX9_cafe_1 : decode cX9_cafe 1 = .ok (.iconst 0, 1) := by decide +kernel
theorem dX9_cafe_2 : decode cX9_cafe 2 = .ok (.putfield 68, 3) := by decide +kernel
theorem dX9_cafe_5 : decode cX9_cafe 5 = .ok (.iload_n 1, 1) := by decide +kernel
theorem dX9_cafe_6 : decode cX9_cafe 6 = .ok (.invokestatic 72, 3) := by decide +kernel
theorem dX9_cafe_9 : decode cX9_cafe 9 = .ok (.ifCond .eq 5, 3) := by decide +kernel
theorem dX9_cafe_12 : decode cX9_cafe 12 = .ok (.iconst (-1), 1) := by decide +kernel
theorem dX9_cafe_13 : decode cX9_cafe 13 = .ok (.ireturn, 1) := by decide +kernel
theorem dX9_cafe_14 : decode cX9_cafe 14 = .ok (.iload_n 2, 1) := by decide +kernel
theorem dX9_cafe_15 : decode cX9_cafe 15 = .ok (.invokestatic 76, 3) := by decide +kernel
theorem dX9_cafe_18 : decode cX9_cafe 18 = .ok (.ifCond .eq 6, 3) := by decide +kernel
theorem dX9_cafe_21 : decode cX9_cafe 21 = .ok (.bipush (-2), 2) := by decide +kernel
theorem dX9_cafe_23 : decode cX9_cafe 23 = .ok (.ireturn, 1) := by decide +kernel
theorem dX9_cafe_24 : decode cX9_cafe 24 = .ok (.aload_n 0, 1) := by decide +kernel
theorem dX9_cafe_25 : decode cX9_cafe 25 = .ok (.getfield 30, 3) := by decide +kernel
theorem dX9_cafe_28 : decode cX9_cafe 28 = .ok (.iload_n 1, 1) := by decide +kernel
theorem dX9_cafe_29 : decode cX9_cafe 29 = .ok (.aaload, 1) := by decide +kernel
theorem dX9_cafe_30 : decode cX9_cafe 30 = .ok (.astore 5, 2) := by decide +kernel
theorem dX9_cafe_32 : decode cX9_cafe 32 = .ok (.aload 5, 2) := by decide +kernel
theorem dX9_cafe_34 : decode cX9_cafe 34 = .ok (.getfield 79, 3) := by decide +kernel
theorem dX9_cafe_37 : decode cX9_cafe 37 = .ok (.ifCond .eq 18, 3) := by decide +kernel
theorem dX9_cafe_40 : decode cX9_cafe 40 = .ok (.aload 5, 2) := by decide +kernel
theorem dX9_cafe_42 : decode cX9_cafe 42 = .ok (.getfield 83, 3) := by decide +kernel
theorem dX9_cafe_45 : decode cX9_cafe 45 = .ok (.iload_n 2, 1) := by decide +kernel
theorem dX9_cafe_46 : decode cX9_cafe 46 = .ok (.if_icmp .eq 9, 3) := by decide +kernel
theorem dX9_cafe_49 : decode cX9_cafe 49 = .ok (.aload_n 0, 1) := by decide +kernel
theorem dX9_cafe_50 : decode cX9_cafe 50 = .ok (.iconst 2, 1) := by decide +kernel
theorem dX9_cafe_51 : decode cX9_cafe 51 = .ok (.invokevirtual 86, 3) := by decide +kernel
theorem dX9_cafe_54 : decode cX9_cafe 54 = .ok (.ireturn, 1) := by decide +kernel
theorem dX9_cafe_55 : decode cX9_cafe 55 = .ok (.aload 5, 2) := by decide +kernel
theorem dX9_cafe_57 : decode cX9_cafe 57 = .ok (.getfield 79, 3) := by decide +kernel
theorem dX9_cafe_60 : decode cX9_cafe 60 = .ok (.ifCond .ne 9, 3) := by decide +kernel
theorem dX9_cafe_63 : decode cX9_cafe 63 = .ok (.aload_n 0, 1) := by decide +kernel
theorem dX9_cafe_64 : decode cX9_cafe 64 = .ok (.iconst 1, 1) := by decide +kernel
theorem dX9_cafe_65 : decode cX9_cafe 65 = .ok (.invokevirtual 86, 3) := by decide +kernel
theorem dX9_cafe_68 : decode cX9_cafe 68 = .ok (.ireturn, 1) := by decide +kernel
theorem dX9_cafe_69 : decode cX9_cafe 69 = .ok (.iload 4, 2) := by decide +kernel
theorem dX9_cafe_71 : decode cX9_cafe 71 = .ok (.ifCond .ge 9, 3) := by decide +kernel
theorem dX9_cafe_74 : decode cX9_cafe 74 = .ok (.aload_n 0, 1) := by decide +kernel
theorem dX9_cafe_75 : decode cX9_cafe 75 = .ok (.iconst 4, 1) := by decide +kernel
theorem dX9_cafe_76 : decode cX9_cafe 76 = .ok (.invokevirtual 86, 3) := by decide +kernel
theorem dX9_cafe_79 : decode cX9_cafe 79 = .ok (.ireturn, 1) := by decide +kernel
theorem dX9_cafe_80 : decode cX9_cafe 80 = .ok (.aload 5, 2) := by decide +kernel
theorem dX9_cafe_82 : decode cX9_cafe 82 = .ok (.iload_n 3, 1) := by decide +kernel
theorem dX9_cafe_83 : decode cX9_cafe 83 = .ok (.iload 4, 2) := by decide +kernel
theorem dX9_cafe_85 : decode cX9_cafe 85 = .ok (.invokevirtual 90, 3) := by decide +kernel
theorem dX9_cafe_88 : decode cX9_cafe 88 = .ok (.ifCond .ne 9, 3) := by decide +kernel
theorem dX9_cafe_91 : decode cX9_cafe 91 = .ok (.aload_n 0, 1) := by decide +kernel
theorem dX9_cafe_92 : decode cX9_cafe 92 = .ok (.iconst 3, 1) := by decide +kernel
theorem dX9_cafe_93 : decode cX9_cafe 93 = .ok (.invokevirtual 86, 3) := by decide +kernel
theorem dX9_cafe_96 : decode cX9_cafe 96 = .ok (.ireturn, 1) := by decide +kernel
theorem dX9_cafe_97 : decode cX9_cafe 97 = .ok (.aload 5, 2) := by decide +kernel
theorem dX9_cafe_99 : decode cX9_cafe 99 = .ok (.iload_n 3, 1) := by decide +kernel
theorem dX9_cafe_100 : decode cX9_cafe 100 = .ok (.iload 4, 2) := by decide +kernel
theorem dX9_cafe_102 : decode cX9_cafe 102 = .ok (.invokestatic 94, 3) := by decide +kernel
theorem dX9_cafe_105 : decode cX9_cafe 105 = .ok (.istore 6, 2) := by decide +kernel
theorem dX9_cafe_107 : decode cX9_cafe 107 = .ok (.iload 6, 2) := by decide +kernel
theorem dX9_cafe_109 : decode cX9_cafe 109 = .ok (.bipush (-9), 2) := by decide +kernel
theorem dX9_cafe_111 : decode cX9_cafe 111 = .ok (.if_icmp .eq 9, 3) := by decide +kernel
theorem dX9_cafe_114 : decode cX9_cafe 114 = .ok (.bipush (-100), 2) := by decide +kernel
theorem dX9_cafe_116 : decode cX9_cafe 116 = .ok (.iload 6, 2) := by decide +kernel
theorem dX9_cafe_118 : decode cX9_cafe 118 = .ok (.isub, 1) := by decide +kernel
theorem dX9_cafe_119 : decode cX9_cafe 119 = .ok (.ireturn, 1) := by decide +kernel
theorem dX9_cafe_120 : decode cX9_cafe 120 = .ok (.aload_n 0, 1) := by decide +kernel
theorem dX9_cafe_121 : decode cX9_cafe 121 = .ok (.getfield 12, 3) := by decide +kernel
theorem dX9_cafe_124 : decode cX9_cafe 124 = .ok (.aload 5, 2) := by decide +kernel
theorem dX9_cafe_126 : decode cX9_cafe 126 = .ok (.iload_n 3, 1) := by decide +kernel
theorem dX9_cafe_127 : decode cX9_cafe 127 = .ok (.iload 4, 2) := by decide +kernel
theorem dX9_cafe_129 : decode cX9_cafe 129 = .ok (.invokevirtual 98, 3) := by decide +kernel
theorem dX9_cafe_132 : decode cX9_cafe 132 = .ok (.aload_n 0, 1) := by decide +kernel
theorem dX9_cafe_133 : decode cX9_cafe 133 = .ok (.getfield 24, 3) := by decide +kernel
theorem dX9_cafe_136 : decode cX9_cafe 136 = .ok (.iconst 0, 1) := by decide +kernel
theorem dX9_cafe_137 : decode cX9_cafe 137 = .ok (.putfield 102, 3) := by decide +kernel
theorem dX9_cafe_140 : decode cX9_cafe 140 = .ok (.aload_n 0, 1) := by decide +kernel
theorem dX9_cafe_141 : decode cX9_cafe 141 = .ok (.invokevirtual 105, 3) := by decide +kernel
theorem dX9_cafe_144 : decode cX9_cafe 144 = .ok (.aload_n 0, 1) := by decide +kernel
theorem dX9_cafe_145 : decode cX9_cafe 145 = .ok (.getfield 12, 3) := by decide +kernel
theorem dX9_cafe_148 : decode cX9_cafe 148 = .ok (.getfield 108, 3) := by decide +kernel
theorem dX9_cafe_151 : decode cX9_cafe 151 = .ok (.ireturn, 1) := by decide +kernel
theorem dX9_ofTable_0 : decode cX9_ofTable 0 = .ok (.iload_n 1, 1) := by decide +kernel
theorem dX9_ofTable_1 : decode cX9_ofTable 1 = .ok (.ifCond .lt 14, 3) := by decide +kernel
theorem dX9_ofTable_4 : decode cX9_ofTable 4 = .ok (.iload_n 1, 1) := by decide +kernel
theorem dX9_ofTable_5 : decode cX9_ofTable 5 = .ok (.aload_n 0, 1) := by decide +kernel
theorem dX9_ofTable_6 : decode cX9_ofTable 6 = .ok (.getfield 12, 3) := by decide +kernel
theorem dX9_ofTable_9 : decode cX9_ofTable 9 = .ok (.getfield 108, 3) := by decide +kernel
theorem dX9_ofTable_12 : decode cX9_ofTable 12 = .ok (.if_icmp .lt 5, 3) := by decide +kernel
theorem dX9_ofTable_15 : decode cX9_ofTable 15 = .ok (.iconst (-1), 1) := by decide +kernel
theorem dX9_ofTable_16 : decode cX9_ofTable 16 = .ok (.ireturn, 1) := by decide +kernel
theorem dX9_ofTable_17 : decode cX9_ofTable 17 = .ok (.iload_n 2, 1) := by decide +kernel
theorem dX9_ofTable_18 : decode cX9_ofTable 18 = .ok (.ifCond .lt 8, 3) := by decide +kernel
theorem dX9_ofTable_21 : decode cX9_ofTable 21 = .ok (.iload_n 2, 1) := by decide +kernel
theorem dX9_ofTable_22 : decode cX9_ofTable 22 = .ok (.iconst 1, 1) := by decide +kernel
theorem dX9_ofTable_23 : decode cX9_ofTable 23 = .ok (.if_icmp .le 6, 3) := by decide +kernel
theorem dX9_ofTable_26 : decode cX9_ofTable 26 = .ok (.bipush (-2), 2) := by decide +kernel
theorem dX9_ofTable_28 : decode cX9_ofTable 28 = .ok (.ireturn, 1) := by decide +kernel
theorem dX9_ofTable_29 : decode cX9_ofTable 29 = .ok (.iload_n 2, 1) := by decide +kernel
theorem dX9_ofTable_30 : decode cX9_ofTable 30 = .ok (.ifCond .ne 15, 3) := by decide +kernel
theorem dX9_ofTable_33 : decode cX9_ofTable 33 = .ok (.aload_n 0, 1) := by decide +kernel
theorem dX9_ofTable_34 : decode cX9_ofTable 34 = .ok (.getfield 12, 3) := by decide +kernel
theorem dX9_ofTable_37 : decode cX9_ofTable 37 = .ok (.getfield 111, 3) := by decide +kernel
theorem dX9_ofTable_40 : decode cX9_ofTable 40 = .ok (.iload_n 1, 1) := by decide +kernel
theorem dX9_ofTable_41 : decode cX9_ofTable 41 = .ok (.iaload, 1) := by decide +kernel
theorem dX9_ofTable_42 : decode cX9_ofTable 42 = .ok (.goto 12, 3) := by decide +kernel
theorem dX9_ofTable_45 : decode cX9_ofTable 45 = .ok (.aload_n 0, 1) := by decide +kernel
theorem dX9_ofTable_46 : decode cX9_ofTable 46 = .ok (.getfield 12, 3) := by decide +kernel
theorem dX9_ofTable_49 : decode cX9_ofTable 49 = .ok (.getfield 114, 3) := by decide +kernel
theorem dX9_ofTable_52 : decode cX9_ofTable 52 = .ok (.iload_n 1, 1) := by decide +kernel
theorem dX9_ofTable_53 : decode cX9_ofTable 53 = .ok (.iaload, 1) := by decide +kernel
theorem dX9_ofTable_54 : decode cX9_ofTable 54 = .ok (.ireturn, 1) := by decide +kernel
theorem dX9_rule_0 : decode cX9_rule 0 = .ok (.iload_n 1, 1) := by decide +kernel
theorem dX9_rule_1 : decode cX9_rule 1 = .ok (.ifCond .lt 8, 3) := by decide +kernel
theorem dX9_rule_4 : decode cX9_rule 4 = .ok (.iload_n 1, 1) := by decide +kernel
theorem dX9_rule_5 : decode cX9_rule 5 = .ok (.iconst 2, 1) := by decide +kernel
theorem dX9_rule_6 : decode cX9_rule 6 = .ok (.if_icmp .le 6, 3) := by decide +kernel
theorem dX9_rule_9 : decode cX9_rule 9 = .ok (.bipush (-2), 2) := by decide +kernel
theorem dX9_rule_11 : decode cX9_rule 11 = .ok (.ireturn, 1) := by decide +kernel
theorem dX9_rule_12 : decode cX9_rule 12 = .ok (.aload_n 0, 1) := by decide +kernel
theorem dX9_rule_13 : decode cX9_rule 13 = .ok (.invokevirtual 117, 3) := by decide +kernel
theorem dX9_rule_16 : decode cX9_rule 16 = .ok (.ifCond .eq 6, 3) := by decide +kernel
theorem dX9_rule_19 : decode cX9_rule 19 = .ok (.bipush (-3), 2) := by decide +kernel
theorem dX9_rule_21 : decode cX9_rule 21 = .ok (.ireturn, 1) := by decide +kernel
theorem dX9_rule_22 : decode cX9_rule 22 = .ok (.aload_n 0, 1) := by decide +kernel
theorem dX9_rule_23 : decode cX9_rule 23 = .ok (.getfield 12, 3) := by decide +kernel
theorem dX9_rule_26 : decode cX9_rule 26 = .ok (.getfield 121, 3) := by decide +kernel
theorem dX9_rule_29 : decode cX9_rule 29 = .ok (.istore_n 2, 1) := by decide +kernel
theorem dX9_rule_30 : decode cX9_rule 30 = .ok (.aload_n 0, 1) := by decide +kernel
theorem dX9_rule_31 : decode cX9_rule 31 = .ok (.getfield 12, 3) := by decide +kernel
theorem dX9_rule_34 : decode cX9_rule 34 = .ok (.iload_n 1, 1) := by decide +kernel
theorem dX9_rule_35 : decode cX9_rule 35 = .ok (.putfield 121, 3) := by decide +kernel
theorem dX9_rule_38 : decode cX9_rule 38 = .ok (.aload_n 0, 1) := by decide +kernel
theorem dX9_rule_39 : decode cX9_rule 39 = .ok (.invokevirtual 105, 3) := by decide +kernel
theorem dX9_rule_42 : decode cX9_rule 42 = .ok (.iload_n 2, 1) := by decide +kernel
theorem dX9_rule_43 : decode cX9_rule 43 = .ok (.ireturn, 1) := by decide +kernel
theorem dX9_patience_0 : decode cX9_patience 0 = .ok (.iload_n 1, 1) := by decide +kernel
theorem dX9_patience_1 : decode cX9_patience 1 = .ok (.ifCond .lt 9, 3) := by decide +kernel
theorem dX9_patience_4 : decode cX9_patience 4 = .ok (.iload_n 1, 1) := by decide +kernel
theorem dX9_patience_5 : decode cX9_patience 5 = .ok (.bipush 30, 2) := by decide +kernel
theorem dX9_patience_7 : decode cX9_patience 7 = .ok (.if_icmp .le 6, 3) := by decide +kernel
theorem dX9_patience_10 : decode cX9_patience 10 = .ok (.bipush (-2), 2) := by decide +kernel
theorem dX9_patience_12 : decode cX9_patience 12 = .ok (.ireturn, 1) := by decide +kernel
theorem dX9_patience_13 : decode cX9_patience 13 = .ok (.aload_n 0, 1) := by decide +kernel
theorem dX9_patience_14 : decode cX9_patience 14 = .ok (.invokevirtual 117, 3) := by decide +kernel
theorem dX9_patience_17 : decode cX9_patience 17 = .ok (.ifCond .eq 6, 3) := by decide +kernel
theorem dX9_patience_20 : decode cX9_patience 20 = .ok (.bipush (-3), 2) := by decide +kernel
theorem dX9_patience_22 : decode cX9_patience 22 = .ok (.ireturn, 1) := by decide +kernel
theorem dX9_patience_23 : decode cX9_patience 23 = .ok (.aload_n 0, 1) := by decide +kernel
theorem dX9_patience_24 : decode cX9_patience 24 = .ok (.getfield 12, 3) := by decide +kernel
theorem dX9_patience_27 : decode cX9_patience 27 = .ok (.getfield 124, 3) := by decide +kernel
theorem dX9_patience_30 : decode cX9_patience 30 = .ok (.istore_n 2, 1) := by decide +kernel
theorem dX9_patience_31 : decode cX9_patience 31 = .ok (.aload_n 0, 1) := by decide +kernel
theorem dX9_patience_32 : decode cX9_patience 32 = .ok (.getfield 12, 3) := by decide +kernel
theorem dX9_patience_35 : decode cX9_patience 35 = .ok (.iload_n 1, 1) := by decide +kernel
theorem dX9_patience_36 : decode cX9_patience 36 = .ok (.putfield 124, 3) := by decide +kernel
theorem dX9_patience_39 : decode cX9_patience 39 = .ok (.aload_n 0, 1) := by decide +kernel
theorem dX9_patience_40 : decode cX9_patience 40 = .ok (.invokevirtual 105, 3) := by decide +kernel
theorem dX9_patience_43 : decode cX9_patience 43 = .ok (.iload_n 2, 1) := by decide +kernel
theorem dX9_patience_44 : decode cX9_patience 44 = .ok (.ireturn, 1) := by decide +kernel
theorem dX9_joining_0 : decode cX9_joining 0 = .ok (.aload_n 0, 1) := by decide +kernel
theorem dX9_joining_1 : decode cX9_joining 1 = .ok (.invokevirtual 117, 3) := by decide +kernel
theorem dX9_joining_4 : decode cX9_joining 4 = .ok (.ifCond .eq 6, 3) := by decide +kernel
theorem dX9_joining_7 : decode cX9_joining 7 = .ok (.bipush (-3), 2) := by decide +kernel
theorem dX9_joining_9 : decode cX9_joining 9 = .ok (.ireturn, 1) := by decide +kernel
theorem dX9_joining_10 : decode cX9_joining 10 = .ok (.aload_n 0, 1) := by decide +kernel
theorem dX9_joining_11 : decode cX9_joining 11 = .ok (.getfield 12, 3) := by decide +kernel
theorem dX9_joining_14 : decode cX9_joining 14 = .ok (.getfield 127, 3) := by decide +kernel
theorem dX9_joining_17 : decode cX9_joining 17 = .ok (.iload_n 1, 1) := by decide +kernel
theorem dX9_joining_18 : decode cX9_joining 18 = .ok (.if_icmp .ne 5, 3) := by decide +kernel
theorem dX9_joining_21 : decode cX9_joining 21 = .ok (.iconst 0, 1) := by decide +kernel
theorem dX9_joining_22 : decode cX9_joining 22 = .ok (.ireturn, 1) := by decide +kernel
theorem dX9_joining_23 : decode cX9_joining 23 = .ok (.aload_n 0, 1) := by decide +kernel
theorem dX9_joining_24 : decode cX9_joining 24 = .ok (.getfield 12, 3) := by decide +kernel
theorem dX9_joining_27 : decode cX9_joining 27 = .ok (.iload_n 1, 1) := by decide +kernel
theorem dX9_joining_28 : decode cX9_joining 28 = .ok (.putfield 127, 3) := by decide +kernel
theorem dX9_joining_31 : decode cX9_joining 31 = .ok (.aload_n 0, 1) := by decide +kernel
theorem dX9_joining_32 : decode cX9_joining 32 = .ok (.invokevirtual 105, 3) := by decide +kernel
theorem dX9_joining_35 : decode cX9_joining 35 = .ok (.iconst 1, 1) := by decide +kernel
theorem dX9_joining_36 : decode cX9_joining 36 = .ok (.ireturn, 1) := by decide +kernel
theorem dX9_rain_0 : decode cX9_rain 0 = .ok (.iload_n 1, 1) := by decide +kernel
theorem dX9_rain_1 : decode cX9_rain 1 = .ok (.bipush (-9), 2) := by decide +kernel
theorem dX9_rain_3 : decode cX9_rain 3 = .ok (.if_icmp .eq 17, 3) := by decide +kernel
theorem dX9_rain_6 : decode cX9_rain 6 = .ok (.iload_n 1, 1) := by decide +kernel
theorem dX9_rain_7 : decode cX9_rain 7 = .ok (.ifCond .lt 10, 3) := by decide +kernel
theorem dX9_rain_10 : decode cX9_rain 10 = .ok (.iload_n 1, 1) := by decide +kernel
theorem dX9_rain_11 : decode cX9_rain 11 = .ok (.sipush 400, 3) := by decide +kernel
theorem dX9_rain_14 : decode cX9_rain 14 = .ok (.if_icmp .lt 6, 3) := by decide +kernel
theorem dX9_rain_17 : decode cX9_rain 17 = .ok (.bipush (-2), 2) := by decide +kernel
theorem dX9_rain_19 : decode cX9_rain 19 = .ok (.ireturn, 1) := by decide +kernel
theorem dX9_rain_20 : decode cX9_rain 20 = .ok (.aload_n 0, 1) := by decide +kernel
theorem dX9_rain_21 : decode cX9_rain 21 = .ok (.invokevirtual 117, 3) := by decide +kernel
theorem dX9_rain_24 : decode cX9_rain 24 = .ok (.ifCond .eq 6, 3) := by decide +kernel
theorem dX9_rain_27 : decode cX9_rain 27 = .ok (.bipush (-3), 2) := by decide +kernel
theorem dX9_rain_29 : decode cX9_rain 29 = .ok (.ireturn, 1) := by decide +kernel
theorem dX9_rain_30 : decode cX9_rain 30 = .ok (.aload_n 0, 1) := by decide +kernel
theorem dX9_rain_31 : decode cX9_rain 31 = .ok (.getfield 12, 3) := by decide +kernel
theorem dX9_rain_34 : decode cX9_rain 34 = .ok (.iload_n 1, 1) := by decide +kernel
theorem dX9_rain_35 : decode cX9_rain 35 = .ok (.putfield 130, 3) := by decide +kernel
theorem dX9_rain_38 : decode cX9_rain 38 = .ok (.aload_n 0, 1) := by decide +kernel
theorem dX9_rain_39 : decode cX9_rain 39 = .ok (.invokevirtual 105, 3) := by decide +kernel
theorem dX9_rain_42 : decode cX9_rain 42 = .ok (.iconst 1, 1) := by decide +kernel
theorem dX9_rain_43 : decode cX9_rain 43 = .ok (.ireturn, 1) := by decide +kernel
theorem dX9_group_0 : decode cX9_group 0 = .ok (.iload_n 1, 1) := by decide +kernel
theorem dX9_group_1 : decode cX9_group 1 = .ok (.invokestatic 133, 3) := by decide +kernel
theorem dX9_group_4 : decode cX9_group 4 = .ok (.ifCond .ne 24, 3) := by decide +kernel
theorem dX9_group_7 : decode cX9_group 7 = .ok (.iload_n 2, 1) := by decide +kernel
theorem dX9_group_8 : decode cX9_group 8 = .ok (.iconst 1, 1) := by decide +kernel
theorem dX9_group_9 : decode cX9_group 9 = .ok (.if_icmp .lt 19, 3) := by decide +kernel
theorem dX9_group_12 : decode cX9_group 12 = .ok (.iload_n 2, 1) := by decide +kernel
theorem dX9_group_13 : decode cX9_group 13 = .ok (.bipush 6, 2) := by decide +kernel
theorem dX9_group_15 : decode cX9_group 15 = .ok (.if_icmp .gt 13, 3) := by decide +kernel
theorem dX9_group_18 : decode cX9_group 18 = .ok (.iload_n 3, 1) := by decide +kernel
theorem dX9_group_19 : decode cX9_group 19 = .ok (.ifCond .lt 9, 3) := by decide +kernel
theorem dX9_group_22 : decode cX9_group 22 = .ok (.iload_n 3, 1) := by decide +kernel
theorem dX9_group_23 : decode cX9_group 23 = .ok (.bipush 99, 2) := by decide +kernel
theorem dX9_group_25 : decode cX9_group 25 = .ok (.if_icmp .le 6, 3) := by decide +kernel
theorem dX9_group_28 : decode cX9_group 28 = .ok (.bipush (-2), 2) := by decide +kernel
theorem dX9_group_30 : decode cX9_group 30 = .ok (.ireturn, 1) := by decide +kernel
theorem dX9_group_31 : decode cX9_group 31 = .ok (.iload 4, 2) := by decide +kernel
theorem dX9_group_33 : decode cX9_group 33 = .ok (.iconst 1, 1) := by decide +kernel
theorem dX9_group_34 : decode cX9_group 34 = .ok (.if_icmp .lt 33, 3) := by decide +kernel
theorem dX9_group_37 : decode cX9_group 37 = .ok (.iload 4, 2) := by decide +kernel
theorem dX9_group_39 : decode cX9_group 39 = .ok (.bipush 60, 2) := by decide +kernel
theorem dX9_group_41 : decode cX9_group 41 = .ok (.if_icmp .gt 26, 3) := by decide +kernel
theorem dX9_group_44 : decode cX9_group 44 = .ok (.iload 5, 2) := by decide +kernel
theorem dX9_group_46 : decode cX9_group 46 = .ok (.ifCond .lt 21, 3) := by decide +kernel
theorem dX9_group_49 : decode cX9_group 49 = .ok (.iload 5, 2) := by decide +kernel
theorem dX9_group_51 : decode cX9_group 51 = .ok (.iconst 2, 1) := by decide +kernel
theorem dX9_group_52 : decode cX9_group 52 = .ok (.if_icmp .gt 15, 3) := by decide +kernel
theorem dX9_group_55 : decode cX9_group 55 = .ok (.iload 6, 2) := by decide +kernel
theorem dX9_group_57 : decode cX9_group 57 = .ok (.ifCond .lt 10, 3) := by decide +kernel
theorem dX9_group_60 : decode cX9_group 60 = .ok (.iload 6, 2) := by decide +kernel
theorem dX9_group_62 : decode cX9_group 62 = .ok (.bipush 6, 2) := by decide +kernel
theorem dX9_group_64 : decode cX9_group 64 = .ok (.if_icmp .le 6, 3) := by decide +kernel
theorem dX9_group_67 : decode cX9_group 67 = .ok (.bipush (-2), 2) := by decide +kernel
theorem dX9_group_69 : decode cX9_group 69 = .ok (.ireturn, 1) := by decide +kernel
theorem dX9_group_70 : decode cX9_group 70 = .ok (.aload_n 0, 1) := by decide +kernel
theorem dX9_group_71 : decode cX9_group 71 = .ok (.invokevirtual 117, 3) := by decide +kernel
theorem dX9_group_74 : decode cX9_group 74 = .ok (.ifCond .eq 6, 3) := by decide +kernel
theorem dX9_group_77 : decode cX9_group 77 = .ok (.bipush (-3), 2) := by decide +kernel
theorem dX9_group_79 : decode cX9_group 79 = .ok (.ireturn, 1) := by decide +kernel
theorem dX9_group_80 : decode cX9_group 80 = .ok (.aload_n 0, 1) := by decide +kernel
theorem dX9_group_81 : decode cX9_group 81 = .ok (.getfield 24, 3) := by decide +kernel
theorem dX9_group_84 : decode cX9_group 84 = .ok (.getfield 102, 3) := by decide +kernel
theorem dX9_group_87 : decode cX9_group 87 = .ok (.istore 7, 2) := by decide +kernel
theorem dX9_group_89 : decode cX9_group 89 = .ok (.iload 7, 2) := by decide +kernel
theorem dX9_group_91 : decode cX9_group 91 = .ok (.bipush 8, 2) := by decide +kernel
theorem dX9_group_93 : decode cX9_group 93 = .ok (.if_icmp .lt 6, 3) := by decide +kernel
theorem dX9_group_96 : decode cX9_group 96 = .ok (.bipush (-4), 2) := by decide +kernel
theorem dX9_group_98 : decode cX9_group 98 = .ok (.ireturn, 1) := by decide +kernel
theorem dX9_group_99 : decode cX9_group 99 = .ok (.iload_n 1, 1) := by decide +kernel
theorem dX9_group_100 : decode cX9_group 100 = .ok (.ifCond .ne 33, 3) := by decide +kernel
theorem dX9_group_103 : decode cX9_group 103 = .ok (.aload_n 0, 1) := by decide +kernel
theorem dX9_group_104 : decode cX9_group 104 = .ok (.getfield 24, 3) := by decide +kernel
theorem dX9_group_107 : decode cX9_group 107 = .ok (.getfield 136, 3) := by decide +kernel
theorem dX9_group_110 : decode cX9_group 110 = .ok (.iload 7, 2) := by decide +kernel
theorem dX9_group_112 : decode cX9_group 112 = .ok (.new 140, 3) := by decide +kernel
theorem dX9_group_115 : decode cX9_group 115 = .ok (.dup, 1) := by decide +kernel
theorem dX9_group_116 : decode cX9_group 116 = .ok (.iload 7, 2) := by decide +kernel
theorem dX9_group_118 : decode cX9_group 118 = .ok (.iload_n 2, 1) := by decide +kernel
theorem dX9_group_119 : decode cX9_group 119 = .ok (.iload_n 3, 1) := by decide +kernel
theorem dX9_group_120 : decode cX9_group 120 = .ok (.iload 4, 2) := by decide +kernel
theorem dX9_group_122 : decode cX9_group 122 = .ok (.iload 5, 2) := by decide +kernel
theorem dX9_group_124 : decode cX9_group 124 = .ok (.iload 6, 2) := by decide +kernel
theorem dX9_group_126 : decode cX9_group 126 = .ok (.invokespecial 142, 3) := by decide +kernel
theorem dX9_group_129 : decode cX9_group 129 = .ok (.aastore, 1) := by decide +kernel
theorem dX9_group_130 : decode cX9_group 130 = .ok (.goto 65, 3) := by decide +kernel
theorem dX9_group_133 : decode cX9_group 133 = .ok (.iload_n 1, 1) := by decide +kernel
theorem dX9_group_134 : decode cX9_group 134 = .ok (.iconst 1, 1) := by decide +kernel
theorem dX9_group_135 : decode cX9_group 135 = .ok (.if_icmp .ne 33, 3) := by decide +kernel
theorem dX9_group_138 : decode cX9_group 138 = .ok (.aload_n 0, 1) := by decide +kernel
theorem dX9_group_139 : decode cX9_group 139 = .ok (.getfield 24, 3) := by decide +kernel
theorem dX9_group_142 : decode cX9_group 142 = .ok (.getfield 136, 3) := by decide +kernel
theorem dX9_group_145 : decode cX9_group 145 = .ok (.iload 7, 2) := by decide +kernel
theorem dX9_group_147 : decode cX9_group 147 = .ok (.new 145, 3) := by decide +kernel
theorem dX9_group_150 : decode cX9_group 150 = .ok (.dup, 1) := by decide +kernel
theorem dX9_group_151 : decode cX9_group 151 = .ok (.iload 7, 2) := by decide +kernel
theorem dX9_group_153 : decode cX9_group 153 = .ok (.iload_n 2, 1) := by decide +kernel
theorem dX9_group_154 : decode cX9_group 154 = .ok (.iload_n 3, 1) := by decide +kernel
theorem dX9_group_155 : decode cX9_group 155 = .ok (.iload 4, 2) := by decide +kernel
theorem dX9_group_157 : decode cX9_group 157 = .ok (.iload 5, 2) := by decide +kernel
theorem dX9_group_159 : decode cX9_group 159 = .ok (.iload 6, 2) := by decide +kernel
theorem dX9_group_161 : decode cX9_group 161 = .ok (.invokespecial 147, 3) := by decide +kernel
theorem dX9_group_164 : decode cX9_group 164 = .ok (.aastore, 1) := by decide +kernel
theorem dX9_group_165 : decode cX9_group 165 = .ok (.goto 30, 3) := by decide +kernel
theorem dX9_group_168 : decode cX9_group 168 = .ok (.aload_n 0, 1) := by decide +kernel
theorem dX9_group_169 : decode cX9_group 169 = .ok (.getfield 24, 3) := by decide +kernel
theorem dX9_group_172 : decode cX9_group 172 = .ok (.getfield 136, 3) := by decide +kernel
theorem dX9_group_175 : decode cX9_group 175 = .ok (.iload 7, 2) := by decide +kernel
theorem dX9_group_177 : decode cX9_group 177 = .ok (.new 148, 3) := by decide +kernel
theorem dX9_group_180 : decode cX9_group 180 = .ok (.dup, 1) := by decide +kernel
theorem dX9_group_181 : decode cX9_group 181 = .ok (.iload 7, 2) := by decide +kernel
theorem dX9_group_183 : decode cX9_group 183 = .ok (.iload_n 2, 1) := by decide +kernel
theorem dX9_group_184 : decode cX9_group 184 = .ok (.iload_n 3, 1) := by decide +kernel
theorem dX9_group_185 : decode cX9_group 185 = .ok (.iload 4, 2) := by decide +kernel
theorem dX9_group_187 : decode cX9_group 187 = .ok (.iload 5, 2) := by decide +kernel
theorem dX9_group_189 : decode cX9_group 189 = .ok (.iload 6, 2) := by decide +kernel
theorem dX9_group_191 : decode cX9_group 191 = .ok (.invokespecial 150, 3) := by decide +kernel
theorem dX9_group_194 : decode cX9_group 194 = .ok (.aastore, 1) := by decide +kernel
theorem dX9_group_195 : decode cX9_group 195 = .ok (.aload_n 0, 1) := by decide +kernel
theorem dX9_group_196 : decode cX9_group 196 = .ok (.getfield 24, 3) := by decide +kernel
theorem dX9_group_199 : decode cX9_group 199 = .ok (.iload 7, 2) := by decide +kernel
theorem dX9_group_201 : decode cX9_group 201 = .ok (.iconst 1, 1) := by decide +kernel
theorem dX9_group_202 : decode cX9_group 202 = .ok (.iadd, 1) := by decide +kernel
theorem dX9_group_203 : decode cX9_group 203 = .ok (.putfield 102, 3) := by decide +kernel
theorem dX9_group_206 : decode cX9_group 206 = .ok (.aload_n 0, 1) := by decide +kernel
theorem dX9_group_207 : decode cX9_group 207 = .ok (.invokevirtual 105, 3) := by decide +kernel
theorem dX9_group_210 : decode cX9_group 210 = .ok (.iload 7, 2) := by decide +kernel
theorem dX9_group_212 : decode cX9_group 212 = .ok (.ireturn, 1) := by decide +kernel
theorem dX9_ofGroup_0 : decode cX9_ofGroup 0 = .ok (.aload_n 0, 1) := by decide +kernel
theorem dX9_ofGroup_1 : decode cX9_ofGroup 1 = .ok (.getfield 24, 3) := by decide +kernel
theorem dX9_ofGroup_4 : decode cX9_ofGroup 4 = .ok (.iload_n 1, 1) := by decide +kernel
theorem dX9_ofGroup_5 : decode cX9_ofGroup 5 = .ok (.invokevirtual 151, 3) := by decide +kernel
theorem dX9_ofGroup_8 : decode cX9_ofGroup 8 = .ok (.astore_n 3, 1) := by decide +kernel
theorem dX9_ofGroup_9 : decode cX9_ofGroup 9 = .ok (.aload_n 3, 1) := by decide +kernel
theorem dX9_ofGroup_10 : decode cX9_ofGroup 10 = .ok (.ifnonnull 5, 3) := by decide +kernel
theorem dX9_ofGroup_13 : decode cX9_ofGroup 13 = .ok (.iconst (-1), 1) := by decide +kernel
theorem dX9_ofGroup_14 : decode cX9_ofGroup 14 = .ok (.ireturn, 1) := by decide +kernel
theorem dX9_ofGroup_15 : decode cX9_ofGroup 15 = .ok (.iload_n 2, 1) := by decide +kernel
theorem dX9_ofGroup_16 : decode cX9_ofGroup 16 = .ok (.tableswitch 80 0 6 #[44, 49, 54, 59, 64, 69, 74], 44) := by decide +kernel
theorem dX9_ofGroup_60 : decode cX9_ofGroup 60 = .ok (.aload_n 3, 1) := by decide +kernel
theorem dX9_ofGroup_61 : decode cX9_ofGroup 61 = .ok (.invokevirtual 155, 3) := by decide +kernel
theorem dX9_ofGroup_64 : decode cX9_ofGroup 64 = .ok (.ireturn, 1) := by decide +kernel
theorem dX9_ofGroup_65 : decode cX9_ofGroup 65 = .ok (.aload_n 3, 1) := by decide +kernel
theorem dX9_ofGroup_66 : decode cX9_ofGroup 66 = .ok (.getfield 159, 3) := by decide +kernel
theorem dX9_ofGroup_69 : decode cX9_ofGroup 69 = .ok (.ireturn, 1) := by decide +kernel
theorem dX9_ofGroup_70 : decode cX9_ofGroup 70 = .ok (.aload_n 3, 1) := by decide +kernel
theorem dX9_ofGroup_71 : decode cX9_ofGroup 71 = .ok (.getfield 162, 3) := by decide +kernel
theorem dX9_ofGroup_74 : decode cX9_ofGroup 74 = .ok (.ireturn, 1) := by decide +kernel
theorem dX9_ofGroup_75 : decode cX9_ofGroup 75 = .ok (.aload_n 3, 1) := by decide +kernel
theorem dX9_ofGroup_76 : decode cX9_ofGroup 76 = .ok (.getfield 165, 3) := by decide +kernel
theorem dX9_ofGroup_79 : decode cX9_ofGroup 79 = .ok (.ireturn, 1) := by decide +kernel
theorem dX9_ofGroup_80 : decode cX9_ofGroup 80 = .ok (.aload_n 3, 1) := by decide +kernel
theorem dX9_ofGroup_81 : decode cX9_ofGroup 81 = .ok (.getfield 168, 3) := by decide +kernel
theorem dX9_ofGroup_84 : decode cX9_ofGroup 84 = .ok (.ireturn, 1) := by decide +kernel
theorem dX9_ofGroup_85 : decode cX9_ofGroup 85 = .ok (.aload_n 3, 1) := by decide +kernel
theorem dX9_ofGroup_86 : decode cX9_ofGroup 86 = .ok (.getfield 171, 3) := by decide +kernel
theorem dX9_ofGroup_89 : decode cX9_ofGroup 89 = .ok (.ireturn, 1) := by decide +kernel
theorem dX9_ofGroup_90 : decode cX9_ofGroup 90 = .ok (.aload_n 3, 1) := by decide +kernel
theorem dX9_ofGroup_91 : decode cX9_ofGroup 91 = .ok (.iconst 0, 1) := by decide +kernel
theorem dX9_ofGroup_92 : decode cX9_ofGroup 92 = .ok (.invokevirtual 174, 3) := by decide +kernel
theorem dX9_ofGroup_95 : decode cX9_ofGroup 95 = .ok (.ireturn, 1) := by decide +kernel
theorem dX9_ofGroup_96 : decode cX9_ofGroup 96 = .ok (.bipush (-2), 2) := by decide +kernel
theorem dX9_ofGroup_98 : decode cX9_ofGroup 98 = .ok (.ireturn, 1) := by decide +kernel
theorem dX9_day_0 : decode cX9_day 0 = .ok (.aload_n 0, 1) := by decide +kernel
theorem dX9_day_1 : decode cX9_day 1 = .ok (.getfield 24, 3) := by decide +kernel
theorem dX9_day_4 : decode cX9_day 4 = .ok (.iload_n 1, 1) := by decide +kernel
theorem dX9_day_5 : decode cX9_day 5 = .ok (.invokevirtual 151, 3) := by decide +kernel
theorem dX9_day_8 : decode cX9_day 8 = .ok (.astore_n 3, 1) := by decide +kernel
theorem dX9_day_9 : decode cX9_day 9 = .ok (.aload_n 3, 1) := by decide +kernel
theorem dX9_day_10 : decode cX9_day 10 = .ok (.ifnonnull 5, 3) := by decide +kernel
theorem dX9_day_13 : decode cX9_day 13 = .ok (.iconst (-1), 1) := by decide +kernel
theorem dX9_day_14 : decode cX9_day 14 = .ok (.ireturn, 1) := by decide +kernel
theorem dX9_day_15 : decode cX9_day 15 = .ok (.iload_n 2, 1) := by decide +kernel
theorem dX9_day_16 : decode cX9_day 16 = .ok (.ifCond .lt 8, 3) := by decide +kernel
theorem dX9_day_19 : decode cX9_day 19 = .ok (.iload_n 2, 1) := by decide +kernel
theorem dX9_day_20 : decode cX9_day 20 = .ok (.iconst 5, 1) := by decide +kernel
theorem dX9_day_21 : decode cX9_day 21 = .ok (.if_icmp .le 6, 3) := by decide +kernel
theorem dX9_day_24 : decode cX9_day 24 = .ok (.bipush (-2), 2) := by decide +kernel
theorem dX9_day_26 : decode cX9_day 26 = .ok (.ireturn, 1) := by decide +kernel
theorem dX9_day_27 : decode cX9_day 27 = .ok (.aload_n 0, 1) := by decide +kernel
theorem dX9_day_28 : decode cX9_day 28 = .ok (.invokevirtual 178, 3) := by decide +kernel
theorem dX9_day_31 : decode cX9_day 31 = .ok (.iload_n 2, 1) := by decide +kernel
theorem dX9_day_32 : decode cX9_day 32 = .ok (.tableswitch 85 0 4 #[36, 46, 56, 66, 76], 36) := by decide +kernel
theorem dX9_day_68 : decode cX9_day 68 = .ok (.aload_n 0, 1) := by decide +kernel
theorem dX9_day_69 : decode cX9_day 69 = .ok (.getfield 47, 3) := by decide +kernel
theorem dX9_day_72 : decode cX9_day 72 = .ok (.getfield 181, 3) := by decide +kernel
theorem dX9_day_75 : decode cX9_day 75 = .ok (.iload_n 1, 1) := by decide +kernel
theorem dX9_day_76 : decode cX9_day 76 = .ok (.iaload, 1) := by decide +kernel
theorem dX9_day_77 : decode cX9_day 77 = .ok (.ireturn, 1) := by decide +kernel
theorem dX9_day_78 : decode cX9_day 78 = .ok (.aload_n 0, 1) := by decide +kernel
theorem dX9_day_79 : decode cX9_day 79 = .ok (.getfield 47, 3) := by decide +kernel
theorem dX9_day_82 : decode cX9_day 82 = .ok (.getfield 184, 3) := by decide +kernel
theorem dX9_day_85 : decode cX9_day 85 = .ok (.iload_n 1, 1) := by decide +kernel
theorem dX9_day_86 : decode cX9_day 86 = .ok (.iaload, 1) := by decide +kernel
theorem dX9_day_87 : decode cX9_day 87 = .ok (.ireturn, 1) := by decide +kernel
theorem dX9_day_88 : decode cX9_day 88 = .ok (.aload_n 0, 1) := by decide +kernel
theorem dX9_day_89 : decode cX9_day 89 = .ok (.getfield 47, 3) := by decide +kernel
theorem dX9_day_92 : decode cX9_day 92 = .ok (.getfield 187, 3) := by decide +kernel
theorem dX9_day_95 : decode cX9_day 95 = .ok (.iload_n 1, 1) := by decide +kernel
theorem dX9_day_96 : decode cX9_day 96 = .ok (.iaload, 1) := by decide +kernel
theorem dX9_day_97 : decode cX9_day 97 = .ok (.ireturn, 1) := by decide +kernel
theorem dX9_day_98 : decode cX9_day 98 = .ok (.aload_n 0, 1) := by decide +kernel
theorem dX9_day_99 : decode cX9_day 99 = .ok (.getfield 47, 3) := by decide +kernel
theorem dX9_day_102 : decode cX9_day 102 = .ok (.getfield 190, 3) := by decide +kernel
theorem dX9_day_105 : decode cX9_day 105 = .ok (.iload_n 1, 1) := by decide +kernel
theorem dX9_day_106 : decode cX9_day 106 = .ok (.iaload, 1) := by decide +kernel
theorem dX9_day_107 : decode cX9_day 107 = .ok (.ireturn, 1) := by decide +kernel
theorem dX9_day_108 : decode cX9_day 108 = .ok (.aload_n 0, 1) := by decide +kernel
theorem dX9_day_109 : decode cX9_day 109 = .ok (.getfield 47, 3) := by decide +kernel
theorem dX9_day_112 : decode cX9_day 112 = .ok (.iload_n 1, 1) := by decide +kernel
theorem dX9_day_113 : decode cX9_day 113 = .ok (.invokevirtual 193, 3) := by decide +kernel
theorem dX9_day_116 : decode cX9_day 116 = .ok (.ireturn, 1) := by decide +kernel
theorem dX9_day_117 : decode cX9_day 117 = .ok (.aload_n 0, 1) := by decide +kernel
theorem dX9_day_118 : decode cX9_day 118 = .ok (.getfield 47, 3) := by decide +kernel
theorem dX9_day_121 : decode cX9_day 121 = .ok (.getfield 196, 3) := by decide +kernel
theorem dX9_day_124 : decode cX9_day 124 = .ok (.iload_n 1, 1) := by decide +kernel
theorem dX9_day_125 : decode cX9_day 125 = .ok (.iaload, 1) := by decide +kernel
theorem dX9_day_126 : decode cX9_day 126 = .ok (.ireturn, 1) := by decide +kernel
theorem dX9_taken_0 : decode cX9_taken 0 = .ok (.iload_n 1, 1) := by decide +kernel
theorem dX9_taken_1 : decode cX9_taken 1 = .ok (.ifCond .lt 19, 3) := by decide +kernel
theorem dX9_taken_4 : decode cX9_taken 4 = .ok (.iload_n 1, 1) := by decide +kernel
theorem dX9_taken_5 : decode cX9_taken 5 = .ok (.sipush 400, 3) := by decide +kernel
theorem dX9_taken_8 : decode cX9_taken 8 = .ok (.if_icmp .ge 12, 3) := by decide +kernel
theorem dX9_taken_11 : decode cX9_taken 11 = .ok (.iload_n 2, 1) := by decide +kernel
theorem dX9_taken_12 : decode cX9_taken 12 = .ok (.ifCond .lt 8, 3) := by decide +kernel
theorem dX9_taken_15 : decode cX9_taken 15 = .ok (.iload_n 2, 1) := by decide +kernel
theorem dX9_taken_16 : decode cX9_taken 16 = .ok (.iconst 1, 1) := by decide +kernel
theorem dX9_taken_17 : decode cX9_taken 17 = .ok (.if_icmp .le 6, 3) := by decide +kernel
theorem dX9_taken_20 : decode cX9_taken 20 = .ok (.bipush (-2), 2) := by decide +kernel
theorem dX9_taken_22 : decode cX9_taken 22 = .ok (.ireturn, 1) := by decide +kernel
theorem dX9_taken_23 : decode cX9_taken 23 = .ok (.aload_n 0, 1) := by decide +kernel
theorem dX9_taken_24 : decode cX9_taken 24 = .ok (.invokevirtual 117, 3) := by decide +kernel
theorem dX9_taken_27 : decode cX9_taken 27 = .ok (.ifCond .eq 6, 3) := by decide +kernel
theorem dX9_taken_30 : decode cX9_taken 30 = .ok (.bipush (-3), 2) := by decide +kernel
theorem dX9_taken_32 : decode cX9_taken 32 = .ok (.ireturn, 1) := by decide +kernel
theorem dX9_taken_33 : decode cX9_taken 33 = .ok (.aload_n 0, 1) := by decide +kernel
theorem dX9_taken_34 : decode cX9_taken 34 = .ok (.getfield 51, 3) := by decide +kernel
theorem dX9_taken_37 : decode cX9_taken 37 = .ok (.aload_n 0, 1) := by decide +kernel
theorem dX9_taken_38 : decode cX9_taken 38 = .ok (.getfield 12, 3) := by decide +kernel
theorem dX9_taken_41 : decode cX9_taken 41 = .ok (.iconst (-1), 1) := by decide +kernel
theorem dX9_taken_42 : decode cX9_taken 42 = .ok (.iload_n 1, 1) := by decide +kernel
theorem dX9_taken_43 : decode cX9_taken 43 = .ok (.invokevirtual 199, 3) := by decide +kernel
theorem dX9_taken_46 : decode cX9_taken 46 = .ok (.pop, 1) := by decide +kernel
theorem dX9_taken_47 : decode cX9_taken 47 = .ok (.iload_n 2, 1) := by decide +kernel
theorem dX9_taken_48 : decode cX9_taken 48 = .ok (.ifCond .ne 13, 3) := by decide +kernel
theorem dX9_taken_51 : decode cX9_taken 51 = .ok (.aload_n 0, 1) := by decide +kernel
theorem dX9_taken_52 : decode cX9_taken 52 = .ok (.getfield 51, 3) := by decide +kernel
theorem dX9_taken_55 : decode cX9_taken 55 = .ok (.invokevirtual 203, 3) := by decide +kernel
theorem dX9_taken_58 : decode cX9_taken 58 = .ok (.goto 11, 3) := by decide +kernel
theorem dX9_taken_61 : decode cX9_taken 61 = .ok (.aload_n 0, 1) := by decide +kernel
theorem dX9_taken_62 : decode cX9_taken 62 = .ok (.getfield 51, 3) := by decide +kernel
theorem dX9_taken_65 : decode cX9_taken 65 = .ok (.iconst (-1), 1) := by decide +kernel
theorem dX9_taken_66 : decode cX9_taken 66 = .ok (.invokevirtual 206, 3) := by decide +kernel
theorem dX9_taken_69 : decode cX9_taken 69 = .ok (.ireturn, 1) := by decide +kernel
theorem dX9_coin_0 : decode cX9_coin 0 = .ok (.aload_n 0, 1) := by decide +kernel
theorem dX9_coin_1 : decode cX9_coin 1 = .ok (.invokevirtual 117, 3) := by decide +kernel
theorem dX9_coin_4 : decode cX9_coin 4 = .ok (.ifCond .eq 6, 3) := by decide +kernel
theorem dX9_coin_7 : decode cX9_coin 7 = .ok (.bipush (-3), 2) := by decide +kernel
theorem dX9_coin_9 : decode cX9_coin 9 = .ok (.ireturn, 1) := by decide +kernel
theorem dX9_coin_10 : decode cX9_coin 10 = .ok (.aload_n 0, 1) := by decide +kernel
theorem dX9_coin_11 : decode cX9_coin 11 = .ok (.invokevirtual 178, 3) := by decide +kernel
theorem dX9_coin_14 : decode cX9_coin 14 = .ok (.aload_n 0, 1) := by decide +kernel
theorem dX9_coin_15 : decode cX9_coin 15 = .ok (.getfield 47, 3) := by decide +kernel
theorem dX9_coin_18 : decode cX9_coin 18 = .ok (.invokevirtual 209, 3) := by decide +kernel
theorem dX9_coin_21 : decode cX9_coin 21 = .ok (.ireturn, 1) := by decide +kernel
theorem dX9_worth_0 : decode cX9_worth 0 = .ok (.aload_n 0, 1) := by decide +kernel
theorem dX9_worth_1 : decode cX9_worth 1 = .ok (.getfield 24, 3) := by decide +kernel
theorem dX9_worth_4 : decode cX9_worth 4 = .ok (.iload_n 1, 1) := by decide +kernel
theorem dX9_worth_5 : decode cX9_worth 5 = .ok (.invokevirtual 151, 3) := by decide +kernel
theorem dX9_worth_8 : decode cX9_worth 8 = .ok (.ifnonnull 7, 3) := by decide +kernel
theorem dX9_worth_11 : decode cX9_worth 11 = .ok (.ldc2_w 212, 3) := by decide +kernel
theorem dX9_worth_14 : decode cX9_worth 14 = .ok (.lreturn, 1) := by decide +kernel
theorem dX9_worth_15 : decode cX9_worth 15 = .ok (.aload_n 0, 1) := by decide +kernel
theorem dX9_worth_16 : decode cX9_worth 16 = .ok (.invokevirtual 178, 3) := by decide +kernel
theorem dX9_worth_19 : decode cX9_worth 19 = .ok (.aload_n 0, 1) := by decide +kernel
theorem dX9_worth_20 : decode cX9_worth 20 = .ok (.getfield 51, 3) := by decide +kernel
theorem dX9_worth_23 : decode cX9_worth 23 = .ok (.aload_n 0, 1) := by decide +kernel
theorem dX9_worth_24 : decode cX9_worth 24 = .ok (.getfield 12, 3) := by decide +kernel
theorem dX9_worth_27 : decode cX9_worth 27 = .ok (.iload_n 1, 1) := by decide +kernel
theorem dX9_worth_28 : decode cX9_worth 28 = .ok (.sipush 399, 3) := by decide +kernel
theorem dX9_worth_31 : decode cX9_worth 31 = .ok (.invokevirtual 199, 3) := by decide +kernel
theorem dX9_worth_34 : decode cX9_worth 34 = .ok (.istore_n 2, 1) := by decide +kernel
theorem dX9_worth_35 : decode cX9_worth 35 = .ok (.aload_n 0, 1) := by decide +kernel
theorem dX9_worth_36 : decode cX9_worth 36 = .ok (.getfield 47, 3) := by decide +kernel
theorem dX9_worth_39 : decode cX9_worth 39 = .ok (.invokevirtual 209, 3) := by decide +kernel
theorem dX9_worth_42 : decode cX9_worth 42 = .ok (.i2l, 1) := by decide +kernel
theorem dX9_worth_43 : decode cX9_worth 43 = .ok (.iload_n 2, 1) := by decide +kernel
theorem dX9_worth_44 : decode cX9_worth 44 = .ok (.i2l, 1) := by decide +kernel
theorem dX9_worth_45 : decode cX9_worth 45 = .ok (.lsub, 1) := by decide +kernel
theorem dX9_worth_46 : decode cX9_worth 46 = .ok (.lreturn, 1) := by decide +kernel
theorem dX9_plan_0 : decode cX9_plan 0 = .ok (.iload_n 1, 1) := by decide +kernel
theorem dX9_plan_1 : decode cX9_plan 1 = .ok (.iconst (-1), 1) := by decide +kernel
theorem dX9_plan_2 : decode cX9_plan 2 = .ok (.if_icmp .lt 19, 3) := by decide +kernel
theorem dX9_plan_5 : decode cX9_plan 5 = .ok (.iload_n 1, 1) := by decide +kernel
theorem dX9_plan_6 : decode cX9_plan 6 = .ok (.aload_n 0, 1) := by decide +kernel
theorem dX9_plan_7 : decode cX9_plan 7 = .ok (.getfield 24, 3) := by decide +kernel
theorem dX9_plan_10 : decode cX9_plan 10 = .ok (.getfield 102, 3) := by decide +kernel
theorem dX9_plan_13 : decode cX9_plan 13 = .ok (.bipush 6, 2) := by decide +kernel
theorem dX9_plan_15 : decode cX9_plan 15 = .ok (.invokestatic 214, 3) := by decide +kernel
theorem dX9_plan_18 : decode cX9_plan 18 = .ok (.if_icmp .lt 5, 3) := by decide +kernel
theorem dX9_plan_21 : decode cX9_plan 21 = .ok (.iconst (-1), 1) := by decide +kernel
theorem dX9_plan_22 : decode cX9_plan 22 = .ok (.ireturn, 1) := by decide +kernel
theorem dX9_plan_23 : decode cX9_plan 23 = .ok (.aload_n 0, 1) := by decide +kernel
theorem dX9_plan_24 : decode cX9_plan 24 = .ok (.invokevirtual 117, 3) := by decide +kernel
theorem dX9_plan_27 : decode cX9_plan 27 = .ok (.ifCond .eq 6, 3) := by decide +kernel
theorem dX9_plan_30 : decode cX9_plan 30 = .ok (.bipush (-3), 2) := by decide +kernel
theorem dX9_plan_32 : decode cX9_plan 32 = .ok (.ireturn, 1) := by decide +kernel
theorem dX9_plan_33 : decode cX9_plan 33 = .ok (.aload_n 0, 1) := by decide +kernel
theorem dX9_plan_34 : decode cX9_plan 34 = .ok (.getfield 220, 3) := by decide +kernel
theorem dX9_plan_37 : decode cX9_plan 37 = .ok (.ifCond .ne 15, 3) := by decide +kernel
theorem dX9_plan_40 : decode cX9_plan 40 = .ok (.aload_n 0, 1) := by decide +kernel
theorem dX9_plan_41 : decode cX9_plan 41 = .ok (.getfield 57, 3) := by decide +kernel
theorem dX9_plan_44 : decode cX9_plan 44 = .ok (.invokevirtual 223, 3) := by decide +kernel
theorem dX9_plan_47 : decode cX9_plan 47 = .ok (.aload_n 0, 1) := by decide +kernel
theorem dX9_plan_48 : decode cX9_plan 48 = .ok (.iconst 1, 1) := by decide +kernel
theorem dX9_plan_49 : decode cX9_plan 49 = .ok (.putfield 220, 3) := by decide +kernel
theorem dX9_plan_52 : decode cX9_plan 52 = .ok (.iload_n 1, 1) := by decide +kernel
theorem dX9_plan_53 : decode cX9_plan 53 = .ok (.iconst (-1), 1) := by decide +kernel
theorem dX9_plan_54 : decode cX9_plan 54 = .ok (.if_icmp .ne 13, 3) := by decide +kernel
theorem dX9_plan_57 : decode cX9_plan 57 = .ok (.aload_n 0, 1) := by decide +kernel
theorem dX9_plan_58 : decode cX9_plan 58 = .ok (.getfield 57, 3) := by decide +kernel
theorem dX9_plan_61 : decode cX9_plan 61 = .ok (.getfield 226, 3) := by decide +kernel
theorem dX9_plan_64 : decode cX9_plan 64 = .ok (.goto 12, 3) := by decide +kernel
theorem dX9_plan_67 : decode cX9_plan 67 = .ok (.aload_n 0, 1) := by decide +kernel
theorem dX9_plan_68 : decode cX9_plan 68 = .ok (.getfield 57, 3) := by decide +kernel
theorem dX9_plan_71 : decode cX9_plan 71 = .ok (.getfield 229, 3) := by decide +kernel
theorem dX9_plan_74 : decode cX9_plan 74 = .ok (.iload_n 1, 1) := by decide +kernel
theorem dX9_plan_75 : decode cX9_plan 75 = .ok (.iaload, 1) := by decide +kernel
theorem dX9_plan_76 : decode cX9_plan 76 = .ok (.ireturn, 1) := by decide +kernel
theorem dX9_bestRule_0 : decode cX9_bestRule 0 = .ok (.iload_n 1, 1) := by decide +kernel
theorem dX9_bestRule_1 : decode cX9_bestRule 1 = .ok (.ifCond .lt 8, 3) := by decide +kernel
theorem dX9_bestRule_4 : decode cX9_bestRule 4 = .ok (.iload_n 1, 1) := by decide +kernel
theorem dX9_bestRule_5 : decode cX9_bestRule 5 = .ok (.iconst 1, 1) := by decide +kernel
theorem dX9_bestRule_6 : decode cX9_bestRule 6 = .ok (.if_icmp .le 6, 3) := by decide +kernel
theorem dX9_bestRule_9 : decode cX9_bestRule 9 = .ok (.bipush (-2), 2) := by decide +kernel
theorem dX9_bestRule_11 : decode cX9_bestRule 11 = .ok (.ireturn, 1) := by decide +kernel
theorem dX9_bestRule_12 : decode cX9_bestRule 12 = .ok (.aload_n 0, 1) := by decide +kernel
theorem dX9_bestRule_13 : decode cX9_bestRule 13 = .ok (.invokevirtual 117, 3) := by decide +kernel
theorem dX9_bestRule_16 : decode cX9_bestRule 16 = .ok (.ifCond .eq 6, 3) := by decide +kernel
theorem dX9_bestRule_19 : decode cX9_bestRule 19 = .ok (.bipush (-3), 2) := by decide +kernel
theorem dX9_bestRule_21 : decode cX9_bestRule 21 = .ok (.ireturn, 1) := by decide +kernel
theorem dX9_bestRule_22 : decode cX9_bestRule 22 = .ok (.aload_n 0, 1) := by decide +kernel
theorem dX9_bestRule_23 : decode cX9_bestRule 23 = .ok (.getfield 18, 3) := by decide +kernel
theorem dX9_bestRule_26 : decode cX9_bestRule 26 = .ok (.aload_n 0, 1) := by decide +kernel
theorem dX9_bestRule_27 : decode cX9_bestRule 27 = .ok (.getfield 12, 3) := by decide +kernel
theorem dX9_bestRule_30 : decode cX9_bestRule 30 = .ok (.invokevirtual 232, 3) := by decide +kernel
theorem dX9_bestRule_33 : decode cX9_bestRule 33 = .ok (.iconst 0, 1) := by decide +kernel
theorem dX9_bestRule_34 : decode cX9_bestRule 34 = .ok (.istore_n 2, 1) := by decide +kernel
theorem dX9_bestRule_35 : decode cX9_bestRule 35 = .ok (.iconst (-1), 1) := by decide +kernel
theorem dX9_bestRule_36 : decode cX9_bestRule 36 = .ok (.istore_n 3, 1) := by decide +kernel
theorem dX9_bestRule_37 : decode cX9_bestRule 37 = .ok (.iconst 0, 1) := by decide +kernel
theorem dX9_bestRule_38 : decode cX9_bestRule 38 = .ok (.istore 4, 2) := by decide +kernel
theorem dX9_bestRule_40 : decode cX9_bestRule 40 = .ok (.iload 4, 2) := by decide +kernel
theorem dX9_bestRule_42 : decode cX9_bestRule 42 = .ok (.iconst 2, 1) := by decide +kernel
theorem dX9_bestRule_43 : decode cX9_bestRule 43 = .ok (.if_icmp .gt 47, 3) := by decide +kernel
theorem dX9_bestRule_46 : decode cX9_bestRule 46 = .ok (.aload_n 0, 1) := by decide +kernel
theorem dX9_bestRule_47 : decode cX9_bestRule 47 = .ok (.getfield 18, 3) := by decide +kernel
theorem dX9_bestRule_50 : decode cX9_bestRule 50 = .ok (.iload 4, 2) := by decide +kernel
theorem dX9_bestRule_52 : decode cX9_bestRule 52 = .ok (.putfield 121, 3) := by decide +kernel
theorem dX9_bestRule_55 : decode cX9_bestRule 55 = .ok (.aload_n 0, 1) := by decide +kernel
theorem dX9_bestRule_56 : decode cX9_bestRule 56 = .ok (.getfield 51, 3) := by decide +kernel
theorem dX9_bestRule_59 : decode cX9_bestRule 59 = .ok (.aload_n 0, 1) := by decide +kernel
theorem dX9_bestRule_60 : decode cX9_bestRule 60 = .ok (.getfield 18, 3) := by decide +kernel
theorem dX9_bestRule_63 : decode cX9_bestRule 63 = .ok (.iconst (-1), 1) := by decide +kernel
theorem dX9_bestRule_64 : decode cX9_bestRule 64 = .ok (.sipush 399, 3) := by decide +kernel
theorem dX9_bestRule_67 : decode cX9_bestRule 67 = .ok (.invokevirtual 199, 3) := by decide +kernel
theorem dX9_bestRule_70 : decode cX9_bestRule 70 = .ok (.istore 5, 2) := by decide +kernel
theorem dX9_bestRule_72 : decode cX9_bestRule 72 = .ok (.iload 5, 2) := by decide +kernel
theorem dX9_bestRule_74 : decode cX9_bestRule 74 = .ok (.iload_n 3, 1) := by decide +kernel
theorem dX9_bestRule_75 : decode cX9_bestRule 75 = .ok (.if_icmp .le 9, 3) := by decide +kernel
theorem dX9_bestRule_78 : decode cX9_bestRule 78 = .ok (.iload 5, 2) := by decide +kernel
theorem dX9_bestRule_80 : decode cX9_bestRule 80 = .ok (.istore_n 3, 1) := by decide +kernel
theorem dX9_bestRule_81 : decode cX9_bestRule 81 = .ok (.iload 4, 2) := by decide +kernel
theorem dX9_bestRule_83 : decode cX9_bestRule 83 = .ok (.istore_n 2, 1) := by decide +kernel
theorem dX9_bestRule_84 : decode cX9_bestRule 84 = .ok (.iinc 4 1, 3) := by decide +kernel
theorem dX9_bestRule_87 : decode cX9_bestRule 87 = .ok (.goto (-47), 3) := by decide +kernel
theorem dX9_bestRule_90 : decode cX9_bestRule 90 = .ok (.iload_n 1, 1) := by decide +kernel
theorem dX9_bestRule_91 : decode cX9_bestRule 91 = .ok (.ifCond .ne 7, 3) := by decide +kernel
theorem dX9_bestRule_94 : decode cX9_bestRule 94 = .ok (.iload_n 2, 1) := by decide +kernel
theorem dX9_bestRule_95 : decode cX9_bestRule 95 = .ok (.goto 4, 3) := by decide +kernel
theorem dX9_bestRule_98 : decode cX9_bestRule 98 = .ok (.iload_n 3, 1) := by decide +kernel
theorem dX9_bestRule_99 : decode cX9_bestRule 99 = .ok (.ireturn, 1) := by decide +kernel
theorem dX9_waiting_0 : decode cX9_waiting 0 = .ok (.iload_n 1, 1) := by decide +kernel
theorem dX9_waiting_1 : decode cX9_waiting 1 = .ok (.ifCond .lt 8, 3) := by decide +kernel
theorem dX9_waiting_4 : decode cX9_waiting 4 = .ok (.iload_n 1, 1) := by decide +kernel
theorem dX9_waiting_5 : decode cX9_waiting 5 = .ok (.iconst 1, 1) := by decide +kernel
theorem dX9_waiting_6 : decode cX9_waiting 6 = .ok (.if_icmp .le 6, 3) := by decide +kernel
theorem dX9_waiting_9 : decode cX9_waiting 9 = .ok (.bipush (-2), 2) := by decide +kernel
theorem dX9_waiting_11 : decode cX9_waiting 11 = .ok (.ireturn, 1) := by decide +kernel
theorem dX9_waiting_12 : decode cX9_waiting 12 = .ok (.aload_n 0, 1) := by decide +kernel
theorem dX9_waiting_13 : decode cX9_waiting 13 = .ok (.invokevirtual 117, 3) := by decide +kernel
theorem dX9_waiting_16 : decode cX9_waiting 16 = .ok (.ifCond .eq 6, 3) := by decide +kernel
theorem dX9_waiting_19 : decode cX9_waiting 19 = .ok (.bipush (-3), 2) := by decide +kernel
theorem dX9_waiting_21 : decode cX9_waiting 21 = .ok (.ireturn, 1) := by decide +kernel
theorem dX9_waiting_22 : decode cX9_waiting 22 = .ok (.aload_n 0, 1) := by decide +kernel
theorem dX9_waiting_23 : decode cX9_waiting 23 = .ok (.invokevirtual 236, 3) := by decide +kernel
theorem dX9_waiting_26 : decode cX9_waiting 26 = .ok (.iconst 0, 1) := by decide +kernel
theorem dX9_waiting_27 : decode cX9_waiting 27 = .ok (.istore_n 2, 1) := by decide +kernel
theorem dX9_waiting_28 : decode cX9_waiting 28 = .ok (.iconst 1, 1) := by decide +kernel
theorem dX9_waiting_29 : decode cX9_waiting 29 = .ok (.istore_n 3, 1) := by decide +kernel
theorem dX9_waiting_30 : decode cX9_waiting 30 = .ok (.iload_n 3, 1) := by decide +kernel
theorem dX9_waiting_31 : decode cX9_waiting 31 = .ok (.bipush 30, 2) := by decide +kernel
theorem dX9_waiting_33 : decode cX9_waiting 33 = .ok (.if_icmp .gt 26, 3) := by decide +kernel
theorem dX9_waiting_36 : decode cX9_waiting 36 = .ok (.aload_n 0, 1) := by decide +kernel
theorem dX9_waiting_37 : decode cX9_waiting 37 = .ok (.getfield 61, 3) := by decide +kernel
theorem dX9_waiting_40 : decode cX9_waiting 40 = .ok (.iload_n 3, 1) := by decide +kernel
theorem dX9_waiting_41 : decode cX9_waiting 41 = .ok (.iaload, 1) := by decide +kernel
theorem dX9_waiting_42 : decode cX9_waiting 42 = .ok (.aload_n 0, 1) := by decide +kernel
theorem dX9_waiting_43 : decode cX9_waiting 43 = .ok (.getfield 61, 3) := by decide +kernel
theorem dX9_waiting_46 : decode cX9_waiting 46 = .ok (.iload_n 2, 1) := by decide +kernel
theorem dX9_waiting_47 : decode cX9_waiting 47 = .ok (.iaload, 1) := by decide +kernel
theorem dX9_waiting_48 : decode cX9_waiting 48 = .ok (.if_icmp .le 5, 3) := by decide +kernel
theorem dX9_waiting_51 : decode cX9_waiting 51 = .ok (.iload_n 3, 1) := by decide +kernel
theorem dX9_waiting_52 : decode cX9_waiting 52 = .ok (.istore_n 2, 1) := by decide +kernel
theorem dX9_waiting_53 : decode cX9_waiting 53 = .ok (.iinc 3 1, 3) := by decide +kernel
theorem dX9_waiting_56 : decode cX9_waiting 56 = .ok (.goto (-26), 3) := by decide +kernel
theorem dX9_waiting_59 : decode cX9_waiting 59 = .ok (.iload_n 1, 1) := by decide +kernel
theorem dX9_waiting_60 : decode cX9_waiting 60 = .ok (.ifCond .ne 7, 3) := by decide +kernel
theorem dX9_waiting_63 : decode cX9_waiting 63 = .ok (.iload_n 2, 1) := by decide +kernel
theorem dX9_waiting_64 : decode cX9_waiting 64 = .ok (.goto 9, 3) := by decide +kernel
theorem dX9_waiting_67 : decode cX9_waiting 67 = .ok (.aload_n 0, 1) := by decide +kernel
theorem dX9_waiting_68 : decode cX9_waiting 68 = .ok (.getfield 61, 3) := by decide +kernel
theorem dX9_waiting_71 : decode cX9_waiting 71 = .ok (.iload_n 2, 1) := by decide +kernel
theorem dX9_waiting_72 : decode cX9_waiting 72 = .ok (.iaload, 1) := by decide +kernel
theorem dX9_waiting_73 : decode cX9_waiting 73 = .ok (.ireturn, 1) := by decide +kernel
theorem dX9_mix_0 : decode cX9_mix 0 = .ok (.iload_n 1, 1) := by decide +kernel
theorem dX9_mix_1 : decode cX9_mix 1 = .ok (.iconst 2, 1) := by decide +kernel
theorem dX9_mix_2 : decode cX9_mix 2 = .ok (.if_icmp .lt 18, 3) := by decide +kernel
theorem dX9_mix_5 : decode cX9_mix 5 = .ok (.iload_n 1, 1) := by decide +kernel
theorem dX9_mix_6 : decode cX9_mix 6 = .ok (.bipush 24, 2) := by decide +kernel
theorem dX9_mix_8 : decode cX9_mix 8 = .ok (.if_icmp .gt 12, 3) := by decide +kernel
theorem dX9_mix_11 : decode cX9_mix 11 = .ok (.iload_n 2, 1) := by decide +kernel
theorem dX9_mix_12 : decode cX9_mix 12 = .ok (.ifCond .lt 8, 3) := by decide +kernel
theorem dX9_mix_15 : decode cX9_mix 15 = .ok (.iload_n 2, 1) := by decide +kernel
theorem dX9_mix_16 : decode cX9_mix 16 = .ok (.iconst 3, 1) := by decide +kernel
theorem dX9_mix_17 : decode cX9_mix 17 = .ok (.if_icmp .le 6, 3) := by decide +kernel
theorem dX9_mix_20 : decode cX9_mix 20 = .ok (.bipush (-2), 2) := by decide +kernel
theorem dX9_mix_22 : decode cX9_mix 22 = .ok (.ireturn, 1) := by decide +kernel
theorem dX9_mix_23 : decode cX9_mix 23 = .ok (.aload_n 0, 1) := by decide +kernel
theorem dX9_mix_24 : decode cX9_mix 24 = .ok (.invokevirtual 117, 3) := by decide +kernel
theorem dX9_mix_27 : decode cX9_mix 27 = .ok (.ifCond .eq 6, 3) := by decide +kernel
theorem dX9_mix_30 : decode cX9_mix 30 = .ok (.bipush (-3), 2) := by decide +kernel
theorem dX9_mix_32 : decode cX9_mix 32 = .ok (.ireturn, 1) := by decide +kernel
theorem dX9_mix_33 : decode cX9_mix 33 = .ok (.aload_n 0, 1) := by decide +kernel
theorem dX9_mix_34 : decode cX9_mix 34 = .ok (.getfield 239, 3) := by decide +kernel
theorem dX9_mix_37 : decode cX9_mix 37 = .ok (.iload_n 1, 1) := by decide +kernel
theorem dX9_mix_38 : decode cX9_mix 38 = .ok (.if_icmp .eq 13, 3) := by decide +kernel
theorem dX9_mix_41 : decode cX9_mix 41 = .ok (.aload_n 0, 1) := by decide +kernel
theorem dX9_mix_42 : decode cX9_mix 42 = .ok (.iload_n 1, 1) := by decide +kernel
theorem dX9_mix_43 : decode cX9_mix 43 = .ok (.invokevirtual 242, 3) := by decide +kernel
theorem dX9_mix_46 : decode cX9_mix 46 = .ok (.aload_n 0, 1) := by decide +kernel
theorem dX9_mix_47 : decode cX9_mix 47 = .ok (.iload_n 1, 1) := by decide +kernel
theorem dX9_mix_48 : decode cX9_mix 48 = .ok (.putfield 239, 3) := by decide +kernel
theorem dX9_mix_51 : decode cX9_mix 51 = .ok (.aload_n 0, 1) := by decide +kernel
theorem dX9_mix_52 : decode cX9_mix 52 = .ok (.getfield 65, 3) := by decide +kernel
theorem dX9_mix_55 : decode cX9_mix 55 = .ok (.iload_n 2, 1) := by decide +kernel
theorem dX9_mix_56 : decode cX9_mix 56 = .ok (.iaload, 1) := by decide +kernel
theorem dX9_mix_57 : decode cX9_mix 57 = .ok (.ireturn, 1) := by decide +kernel
theorem dX9_till_0 : decode cX9_till 0 = .ok (.iload_n 2, 1) := by decide +kernel
theorem dX9_till_1 : decode cX9_till 1 = .ok (.ifCond .lt 8, 3) := by decide +kernel
theorem dX9_till_4 : decode cX9_till 4 = .ok (.iload_n 2, 1) := by decide +kernel
theorem dX9_till_5 : decode cX9_till 5 = .ok (.iconst 2, 1) := by decide +kernel
theorem dX9_till_6 : decode cX9_till 6 = .ok (.if_icmp .le 6, 3) := by decide +kernel
theorem dX9_till_9 : decode cX9_till 9 = .ok (.bipush (-2), 2) := by decide +kernel
theorem dX9_till_11 : decode cX9_till 11 = .ok (.ireturn, 1) := by decide +kernel
theorem dX9_till_12 : decode cX9_till 12 = .ok (.aload_n 0, 1) := by decide +kernel
theorem dX9_till_13 : decode cX9_till 13 = .ok (.invokevirtual 117, 3) := by decide +kernel
theorem dX9_till_16 : decode cX9_till 16 = .ok (.ifCond .eq 6, 3) := by decide +kernel
theorem dX9_till_19 : decode cX9_till 19 = .ok (.bipush (-3), 2) := by decide +kernel
theorem dX9_till_21 : decode cX9_till 21 = .ok (.ireturn, 1) := by decide +kernel
theorem dX9_till_22 : decode cX9_till 22 = .ok (.aload_n 0, 1) := by decide +kernel
theorem dX9_till_23 : decode cX9_till 23 = .ok (.invokevirtual 236, 3) := by decide +kernel
theorem dX9_till_26 : decode cX9_till 26 = .ok (.iconst 0, 1) := by decide +kernel
theorem dX9_till_27 : decode cX9_till 27 = .ok (.istore_n 3, 1) := by decide +kernel
theorem dX9_till_28 : decode cX9_till 28 = .ok (.bipush (-9), 2) := by decide +kernel
theorem dX9_till_30 : decode cX9_till 30 = .ok (.istore 4, 2) := by decide +kernel
theorem dX9_till_32 : decode cX9_till 32 = .ok (.bipush (-9), 2) := by decide +kernel
theorem dX9_till_34 : decode cX9_till 34 = .ok (.istore 5, 2) := by decide +kernel
theorem dX9_till_36 : decode cX9_till 36 = .ok (.iconst 0, 1) := by decide +kernel
theorem dX9_till_37 : decode cX9_till 37 = .ok (.istore 6, 2) := by decide +kernel
theorem dX9_till_39 : decode cX9_till 39 = .ok (.iload 6, 2) := by decide +kernel
theorem dX9_till_41 : decode cX9_till 41 = .ok (.bipush 30, 2) := by decide +kernel
theorem dX9_till_43 : decode cX9_till 43 = .ok (.if_icmp .gt 43, 3) := by decide +kernel
theorem dX9_till_46 : decode cX9_till 46 = .ok (.aload_n 0, 1) := by decide +kernel
theorem dX9_till_47 : decode cX9_till 47 = .ok (.getfield 61, 3) := by decide +kernel
theorem dX9_till_50 : decode cX9_till 50 = .ok (.iload 6, 2) := by decide +kernel
theorem dX9_till_52 : decode cX9_till 52 = .ok (.iaload, 1) := by decide +kernel
theorem dX9_till_53 : decode cX9_till 53 = .ok (.iload_n 1, 1) := by decide +kernel
theorem dX9_till_54 : decode cX9_till 54 = .ok (.if_icmp .ne 26, 3) := by decide +kernel
theorem dX9_till_57 : decode cX9_till 57 = .ok (.iinc 3 1, 3) := by decide +kernel
theorem dX9_till_60 : decode cX9_till 60 = .ok (.iload 4, 2) := by decide +kernel
theorem dX9_till_62 : decode cX9_till 62 = .ok (.bipush (-9), 2) := by decide +kernel
theorem dX9_till_64 : decode cX9_till 64 = .ok (.if_icmp .ne 8, 3) := by decide +kernel
theorem dX9_till_67 : decode cX9_till 67 = .ok (.iload 6, 2) := by decide +kernel
theorem dX9_till_69 : decode cX9_till 69 = .ok (.goto 5, 3) := by decide +kernel
theorem dX9_till_72 : decode cX9_till 72 = .ok (.iload 4, 2) := by decide +kernel
theorem dX9_till_74 : decode cX9_till 74 = .ok (.istore 4, 2) := by decide +kernel
theorem dX9_till_76 : decode cX9_till 76 = .ok (.iload 6, 2) := by decide +kernel
theorem dX9_till_78 : decode cX9_till 78 = .ok (.istore 5, 2) := by decide +kernel
theorem dX9_till_80 : decode cX9_till 80 = .ok (.iinc 6 1, 3) := by decide +kernel
theorem dX9_till_83 : decode cX9_till 83 = .ok (.goto (-44), 3) := by decide +kernel
theorem dX9_till_86 : decode cX9_till 86 = .ok (.iload_n 2, 1) := by decide +kernel
theorem dX9_till_87 : decode cX9_till 87 = .ok (.ifCond .ne 5, 3) := by decide +kernel
theorem dX9_till_90 : decode cX9_till 90 = .ok (.iload_n 3, 1) := by decide +kernel
theorem dX9_till_91 : decode cX9_till 91 = .ok (.ireturn, 1) := by decide +kernel
theorem dX9_till_92 : decode cX9_till 92 = .ok (.iload_n 2, 1) := by decide +kernel
theorem dX9_till_93 : decode cX9_till 93 = .ok (.iconst 1, 1) := by decide +kernel
theorem dX9_till_94 : decode cX9_till 94 = .ok (.if_icmp .ne 8, 3) := by decide +kernel
theorem dX9_till_97 : decode cX9_till 97 = .ok (.iload 4, 2) := by decide +kernel
theorem dX9_till_99 : decode cX9_till 99 = .ok (.goto 5, 3) := by decide +kernel
theorem dX9_till_102 : decode cX9_till 102 = .ok (.iload 5, 2) := by decide +kernel
theorem dX9_till_104 : decode cX9_till 104 = .ok (.ireturn, 1) := by decide +kernel
theorem dX9_names_0 : decode cX9_names 0 = .ok (.iload_n 1, 1) := by decide +kernel
theorem dX9_names_1 : decode cX9_names 1 = .ok (.ifCond .lt 32, 3) := by decide +kernel
theorem dX9_names_4 : decode cX9_names 4 = .ok (.iload_n 1, 1) := by decide +kernel
theorem dX9_names_5 : decode cX9_names 5 = .ok (.bipush 8, 2) := by decide +kernel
theorem dX9_names_7 : decode cX9_names 7 = .ok (.if_icmp .gt 26, 3) := by decide +kernel
theorem dX9_names_10 : decode cX9_names 10 = .ok (.iload 6, 2) := by decide +kernel
theorem dX9_names_12 : decode cX9_names 12 = .ok (.ifCond .lt 21, 3) := by decide +kernel
theorem dX9_names_15 : decode cX9_names 15 = .ok (.iload 6, 2) := by decide +kernel
theorem dX9_names_17 : decode cX9_names 17 = .ok (.iconst 1, 1) := by decide +kernel
theorem dX9_names_18 : decode cX9_names 18 = .ok (.if_icmp .gt 15, 3) := by decide +kernel
theorem dX9_names_21 : decode cX9_names 21 = .ok (.iload_n 2, 1) := by decide +kernel
theorem dX9_names_22 : decode cX9_names 22 = .ok (.iload_n 3, 1) := by decide +kernel
theorem dX9_names_23 : decode cX9_names 23 = .ok (.iload 4, 2) := by decide +kernel
theorem dX9_names_25 : decode cX9_names 25 = .ok (.iload 5, 2) := by decide +kernel
theorem dX9_names_27 : decode cX9_names 27 = .ok (.invokestatic 246, 3) := by decide +kernel
theorem dX9_names_30 : decode cX9_names 30 = .ok (.ifCond .eq 7, 3) := by decide +kernel
theorem dX9_names_33 : decode cX9_names 33 = .ok (.ldc2_w 212, 3) := by decide +kernel
theorem dX9_names_36 : decode cX9_names 36 = .ok (.lreturn, 1) := by decide +kernel
theorem dX9_names_37 : decode cX9_names 37 = .ok (.iload_n 1, 1) := by decide +kernel
theorem dX9_names_38 : decode cX9_names 38 = .ok (.iload_n 2, 1) := by decide +kernel
theorem dX9_names_39 : decode cX9_names 39 = .ok (.iload_n 3, 1) := by decide +kernel
theorem dX9_names_40 : decode cX9_names 40 = .ok (.iload 4, 2) := by decide +kernel
theorem dX9_names_42 : decode cX9_names 42 = .ok (.iload 5, 2) := by decide +kernel
theorem dX9_names_44 : decode cX9_names 44 = .ok (.invokestatic 250, 3) := by decide +kernel
theorem dX9_names_47 : decode cX9_names 47 = .ok (.lstore 7, 2) := by decide +kernel
theorem dX9_names_49 : decode cX9_names 49 = .ok (.ldc2_w 254, 3) := by decide +kernel
theorem dX9_names_52 : decode cX9_names 52 = .ok (.iload_n 1, 1) := by decide +kernel
theorem dX9_names_53 : decode cX9_names 53 = .ok (.invokestatic 256, 3) := by decide +kernel
theorem dX9_names_56 : decode cX9_names 56 = .ok (.lstore 9, 2) := by decide +kernel
theorem dX9_names_58 : decode cX9_names 58 = .ok (.lload 7, 2) := by decide +kernel
theorem dX9_names_60 : decode cX9_names 60 = .ok (.invokestatic 260, 3) := by decide +kernel
theorem dX9_names_63 : decode cX9_names 63 = .ok (.lload 9, 2) := by decide +kernel
theorem dX9_names_65 : decode cX9_names 65 = .ok (.invokestatic 264, 3) := by decide +kernel
theorem dX9_names_68 : decode cX9_names 68 = .ok (.lstore 11, 2) := by decide +kernel
theorem dX9_names_70 : decode cX9_names 70 = .ok (.lload 11, 2) := by decide +kernel
theorem dX9_names_72 : decode cX9_names 72 = .ok (.lconst 1, 1) := by decide +kernel
theorem dX9_names_73 : decode cX9_names 73 = .ok (.lcmp, 1) := by decide +kernel
theorem dX9_names_74 : decode cX9_names 74 = .ok (.ifCond .ge 7, 3) := by decide +kernel
theorem dX9_names_77 : decode cX9_names 77 = .ok (.ldc2_w 212, 3) := by decide +kernel
theorem dX9_names_80 : decode cX9_names 80 = .ok (.lreturn, 1) := by decide +kernel
theorem dX9_names_81 : decode cX9_names 81 = .ok (.iload 6, 2) := by decide +kernel
theorem dX9_names_83 : decode cX9_names 83 = .ok (.ifCond .ne 11, 3) := by decide +kernel
theorem dX9_names_86 : decode cX9_names 86 = .ok (.lload 7, 2) := by decide +kernel
theorem dX9_names_88 : decode cX9_names 88 = .ok (.lload 11, 2) := by decide +kernel
theorem dX9_names_90 : decode cX9_names 90 = .ok (.ldiv, 1) := by decide +kernel
theorem dX9_names_91 : decode cX9_names 91 = .ok (.goto 8, 3) := by decide +kernel
theorem dX9_names_94 : decode cX9_names 94 = .ok (.lload 9, 2) := by decide +kernel
theorem dX9_names_96 : decode cX9_names 96 = .ok (.lload 11, 2) := by decide +kernel
theorem dX9_names_98 : decode cX9_names 98 = .ok (.ldiv, 1) := by decide +kernel
theorem dX9_names_99 : decode cX9_names 99 = .ok (.lreturn, 1) := by decide +kernel
theorem dX9_take_0 : decode cX9_take 0 = .ok (.iload_n 1, 1) := by decide +kernel
theorem dX9_take_1 : decode cX9_take 1 = .ok (.iload_n 2, 1) := by decide +kernel
theorem dX9_take_2 : decode cX9_take 2 = .ok (.iload_n 3, 1) := by decide +kernel
theorem dX9_take_3 : decode cX9_take 3 = .ok (.iload 4, 2) := by decide +kernel
theorem dX9_take_5 : decode cX9_take 5 = .ok (.invokestatic 246, 3) := by decide +kernel
theorem dX9_take_8 : decode cX9_take 8 = .ok (.ifCond .eq 6, 3) := by decide +kernel
theorem dX9_take_11 : decode cX9_take 11 = .ok (.bipush (-2), 2) := by decide +kernel
theorem dX9_take_13 : decode cX9_take 13 = .ok (.ireturn, 1) := by decide +kernel
theorem dX9_take_14 : decode cX9_take 14 = .ok (.iconst 0, 1) := by decide +kernel
theorem dX9_take_15 : decode cX9_take 15 = .ok (.istore 5, 2) := by decide +kernel
theorem dX9_take_17 : decode cX9_take 17 = .ok (.lconst 0, 1) := by decide +kernel
theorem dX9_take_18 : decode cX9_take 18 = .ok (.lstore 6, 2) := by decide +kernel
theorem dX9_take_20 : decode cX9_take 20 = .ok (.iconst 1, 1) := by decide +kernel
theorem dX9_take_21 : decode cX9_take 21 = .ok (.istore 8, 2) := by decide +kernel
theorem dX9_take_23 : decode cX9_take 23 = .ok (.iload 8, 2) := by decide +kernel
theorem dX9_take_25 : decode cX9_take 25 = .ok (.bipush 8, 2) := by decide +kernel
theorem dX9_take_27 : decode cX9_take 27 = .ok (.if_icmp .gt 49, 3) := by decide +kernel
theorem dX9_take_30 : decode cX9_take 30 = .ok (.iload 8, 2) := by decide +kernel
theorem dX9_take_32 : decode cX9_take 32 = .ok (.iload_n 1, 1) := by decide +kernel
theorem dX9_take_33 : decode cX9_take 33 = .ok (.iload_n 2, 1) := by decide +kernel
theorem dX9_take_34 : decode cX9_take 34 = .ok (.iload_n 3, 1) := by decide +kernel
theorem dX9_take_35 : decode cX9_take 35 = .ok (.iload 4, 2) := by decide +kernel
theorem dX9_take_37 : decode cX9_take 37 = .ok (.invokestatic 250, 3) := by decide +kernel
theorem dX9_take_40 : decode cX9_take 40 = .ok (.ldc2_w 254, 3) := by decide +kernel
theorem dX9_take_43 : decode cX9_take 43 = .ok (.bipush 8, 2) := by decide +kernel
theorem dX9_take_45 : decode cX9_take 45 = .ok (.iload 8, 2) := by decide +kernel
theorem dX9_take_47 : decode cX9_take 47 = .ok (.isub, 1) := by decide +kernel
theorem dX9_take_48 : decode cX9_take 48 = .ok (.invokestatic 256, 3) := by decide +kernel
theorem dX9_take_51 : decode cX9_take 51 = .ok (.lmul, 1) := by decide +kernel
theorem dX9_take_52 : decode cX9_take 52 = .ok (.lstore 9, 2) := by decide +kernel
theorem dX9_take_54 : decode cX9_take 54 = .ok (.lload 9, 2) := by decide +kernel
theorem dX9_take_56 : decode cX9_take 56 = .ok (.lload 6, 2) := by decide +kernel
theorem dX9_take_58 : decode cX9_take 58 = .ok (.lcmp, 1) := by decide +kernel
theorem dX9_take_59 : decode cX9_take 59 = .ok (.ifCond .le 11, 3) := by decide +kernel
theorem dX9_take_62 : decode cX9_take 62 = .ok (.lload 9, 2) := by decide +kernel
theorem dX9_take_64 : decode cX9_take 64 = .ok (.lstore 6, 2) := by decide +kernel
theorem dX9_take_66 : decode cX9_take 66 = .ok (.iload 8, 2) := by decide +kernel
theorem dX9_take_68 : decode cX9_take 68 = .ok (.istore 5, 2) := by decide +kernel
theorem dX9_take_70 : decode cX9_take 70 = .ok (.iinc 8 1, 3) := by decide +kernel
theorem dX9_take_73 : decode cX9_take 73 = .ok (.goto (-50), 3) := by decide +kernel
theorem dX9_take_76 : decode cX9_take 76 = .ok (.iload 5, 2) := by decide +kernel
theorem dX9_take_78 : decode cX9_take 78 = .ok (.ireturn, 1) := by decide +kernel
theorem dX9_sheet_0 : decode cX9_sheet 0 = .ok (.aload_n 0, 1) := by decide +kernel
theorem dX9_sheet_1 : decode cX9_sheet 1 = .ok (.iconst 0, 1) := by decide +kernel
theorem dX9_sheet_2 : decode cX9_sheet 2 = .ok (.putfield 68, 3) := by decide +kernel
theorem dX9_sheet_5 : decode cX9_sheet 5 = .ok (.iload_n 1, 1) := by decide +kernel
theorem dX9_sheet_6 : decode cX9_sheet 6 = .ok (.invokestatic 72, 3) := by decide +kernel
theorem dX9_sheet_9 : decode cX9_sheet 9 = .ok (.ifCond .eq 5, 3) := by decide +kernel
theorem dX9_sheet_12 : decode cX9_sheet 12 = .ok (.iconst (-1), 1) := by decide +kernel
theorem dX9_sheet_13 : decode cX9_sheet 13 = .ok (.ireturn, 1) := by decide +kernel
theorem dX9_sheet_14 : decode cX9_sheet 14 = .ok (.iload_n 2, 1) := by decide +kernel
theorem dX9_sheet_15 : decode cX9_sheet 15 = .ok (.invokestatic 76, 3) := by decide +kernel
theorem dX9_sheet_18 : decode cX9_sheet 18 = .ok (.ifCond .ne 9, 3) := by decide +kernel
theorem dX9_sheet_21 : decode cX9_sheet 21 = .ok (.iload_n 3, 1) := by decide +kernel
theorem dX9_sheet_22 : decode cX9_sheet 22 = .ok (.bipush 40, 2) := by decide +kernel
theorem dX9_sheet_24 : decode cX9_sheet 24 = .ok (.if_icmp .le 6, 3) := by decide +kernel
theorem dX9_sheet_27 : decode cX9_sheet 27 = .ok (.bipush (-2), 2) := by decide +kernel
theorem dX9_sheet_29 : decode cX9_sheet 29 = .ok (.ireturn, 1) := by decide +kernel
theorem dX9_sheet_30 : decode cX9_sheet 30 = .ok (.iload_n 3, 1) := by decide +kernel
theorem dX9_sheet_31 : decode cX9_sheet 31 = .ok (.ifCond .ge 9, 3) := by decide +kernel
theorem dX9_sheet_34 : decode cX9_sheet 34 = .ok (.aload_n 0, 1) := by decide +kernel
theorem dX9_sheet_35 : decode cX9_sheet 35 = .ok (.iconst 4, 1) := by decide +kernel
theorem dX9_sheet_36 : decode cX9_sheet 36 = .ok (.invokevirtual 86, 3) := by decide +kernel
theorem dX9_sheet_39 : decode cX9_sheet 39 = .ok (.ireturn, 1) := by decide +kernel
theorem dX9_sheet_40 : decode cX9_sheet 40 = .ok (.aload_n 0, 1) := by decide +kernel
theorem dX9_sheet_41 : decode cX9_sheet 41 = .ok (.getfield 30, 3) := by decide +kernel
theorem dX9_sheet_44 : decode cX9_sheet 44 = .ok (.iload_n 1, 1) := by decide +kernel
theorem dX9_sheet_45 : decode cX9_sheet 45 = .ok (.aaload, 1) := by decide +kernel
theorem dX9_sheet_46 : decode cX9_sheet 46 = .ok (.iload_n 2, 1) := by decide +kernel
theorem dX9_sheet_47 : decode cX9_sheet 47 = .ok (.iload_n 3, 1) := by decide +kernel
theorem dX9_sheet_48 : decode cX9_sheet 48 = .ok (.invokevirtual 268, 3) := by decide +kernel
theorem dX9_sheet_51 : decode cX9_sheet 51 = .ok (.iconst 1, 1) := by decide +kernel
theorem dX9_sheet_52 : decode cX9_sheet 52 = .ok (.ireturn, 1) := by decide +kernel
theorem dX9_lose_0 : decode cX9_lose 0 = .ok (.iload_n 1, 1) := by decide +kernel
theorem dX9_lose_1 : decode cX9_lose 1 = .ok (.invokestatic 72, 3) := by decide +kernel
theorem dX9_lose_4 : decode cX9_lose 4 = .ok (.ifCond .eq 5, 3) := by decide +kernel
theorem dX9_lose_7 : decode cX9_lose 7 = .ok (.iconst (-1), 1) := by decide +kernel
theorem dX9_lose_8 : decode cX9_lose 8 = .ok (.ireturn, 1) := by decide +kernel
theorem dX9_lose_9 : decode cX9_lose 9 = .ok (.aload_n 0, 1) := by decide +kernel
theorem dX9_lose_10 : decode cX9_lose 10 = .ok (.getfield 30, 3) := by decide +kernel
theorem dX9_lose_13 : decode cX9_lose 13 = .ok (.iload_n 1, 1) := by decide +kernel
theorem dX9_lose_14 : decode cX9_lose 14 = .ok (.aaload, 1) := by decide +kernel
theorem dX9_lose_15 : decode cX9_lose 15 = .ok (.getfield 79, 3) := by decide +kernel
theorem dX9_lose_18 : decode cX9_lose 18 = .ok (.ifCond .ne 5, 3) := by decide +kernel
theorem dX9_lose_21 : decode cX9_lose 21 = .ok (.iconst 0, 1) := by decide +kernel
theorem dX9_lose_22 : decode cX9_lose 22 = .ok (.ireturn, 1) := by decide +kernel
theorem dX9_lose_23 : decode cX9_lose 23 = .ok (.aload_n 0, 1) := by decide +kernel
theorem dX9_lose_24 : decode cX9_lose 24 = .ok (.getfield 30, 3) := by decide +kernel
theorem dX9_lose_27 : decode cX9_lose 27 = .ok (.iload_n 1, 1) := by decide +kernel
theorem dX9_lose_28 : decode cX9_lose 28 = .ok (.aaload, 1) := by decide +kernel
theorem dX9_lose_29 : decode cX9_lose 29 = .ok (.iconst 0, 1) := by decide +kernel
theorem dX9_lose_30 : decode cX9_lose 30 = .ok (.putfield 79, 3) := by decide +kernel
theorem dX9_lose_33 : decode cX9_lose 33 = .ok (.iconst 1, 1) := by decide +kernel
theorem dX9_lose_34 : decode cX9_lose 34 = .ok (.ireturn, 1) := by decide +kernel
theorem dX9_put_0 : decode cX9_put 0 = .ok (.aload_n 0, 1) := by decide +kernel
theorem dX9_put_1 : decode cX9_put 1 = .ok (.iconst 0, 1) := by decide +kernel
theorem dX9_put_2 : decode cX9_put 2 = .ok (.putfield 68, 3) := by decide +kernel
theorem dX9_put_5 : decode cX9_put 5 = .ok (.iload_n 1, 1) := by decide +kernel
theorem dX9_put_6 : decode cX9_put 6 = .ok (.invokestatic 72, 3) := by decide +kernel
theorem dX9_put_9 : decode cX9_put 9 = .ok (.ifCond .eq 5, 3) := by decide +kernel
theorem dX9_put_12 : decode cX9_put 12 = .ok (.iconst (-1), 1) := by decide +kernel
theorem dX9_put_13 : decode cX9_put 13 = .ok (.ireturn, 1) := by decide +kernel
theorem dX9_put_14 : decode cX9_put 14 = .ok (.aload_n 0, 1) := by decide +kernel
theorem dX9_put_15 : decode cX9_put 15 = .ok (.getfield 30, 3) := by decide +kernel
theorem dX9_put_18 : decode cX9_put 18 = .ok (.iload_n 1, 1) := by decide +kernel
theorem dX9_put_19 : decode cX9_put 19 = .ok (.aaload, 1) := by decide +kernel
theorem dX9_put_20 : decode cX9_put 20 = .ok (.astore 4, 2) := by decide +kernel
theorem dX9_put_22 : decode cX9_put 22 = .ok (.aload 4, 2) := by decide +kernel
theorem dX9_put_24 : decode cX9_put 24 = .ok (.getfield 79, 3) := by decide +kernel
theorem dX9_put_27 : decode cX9_put 27 = .ok (.ifCond .ne 9, 3) := by decide +kernel
theorem dX9_put_30 : decode cX9_put 30 = .ok (.aload_n 0, 1) := by decide +kernel
theorem dX9_put_31 : decode cX9_put 31 = .ok (.iconst 1, 1) := by decide +kernel
theorem dX9_put_32 : decode cX9_put 32 = .ok (.invokevirtual 86, 3) := by decide +kernel
theorem dX9_put_35 : decode cX9_put 35 = .ok (.ireturn, 1) := by decide +kernel
theorem dX9_put_36 : decode cX9_put 36 = .ok (.iload_n 2, 1) := by decide +kernel
theorem dX9_put_37 : decode cX9_put 37 = .ok (.ifCond .lt 12, 3) := by decide +kernel
theorem dX9_put_40 : decode cX9_put 40 = .ok (.iload_n 2, 1) := by decide +kernel
theorem dX9_put_41 : decode cX9_put 41 = .ok (.aload 4, 2) := by decide +kernel
theorem dX9_put_43 : decode cX9_put 43 = .ok (.getfield 272, 3) := by decide +kernel
theorem dX9_put_46 : decode cX9_put 46 = .ok (.if_icmp .lt 9, 3) := by decide +kernel
theorem dX9_put_49 : decode cX9_put 49 = .ok (.aload_n 0, 1) := by decide +kernel
theorem dX9_put_50 : decode cX9_put 50 = .ok (.iconst 3, 1) := by decide +kernel
theorem dX9_put_51 : decode cX9_put 51 = .ok (.invokevirtual 86, 3) := by decide +kernel
theorem dX9_put_54 : decode cX9_put 54 = .ok (.ireturn, 1) := by decide +kernel
theorem dX9_put_55 : decode cX9_put 55 = .ok (.aload 4, 2) := by decide +kernel
theorem dX9_put_57 : decode cX9_put 57 = .ok (.getfield 275, 3) := by decide +kernel
theorem dX9_put_60 : decode cX9_put 60 = .ok (.iload_n 2, 1) := by decide +kernel
theorem dX9_put_61 : decode cX9_put 61 = .ok (.aload 4, 2) := by decide +kernel
theorem dX9_put_63 : decode cX9_put 63 = .ok (.iload_n 3, 1) := by decide +kernel
theorem dX9_put_64 : decode cX9_put 64 = .ok (.invokevirtual 278, 3) := by decide +kernel
theorem dX9_put_67 : decode cX9_put 67 = .ok (.iastore, 1) := by decide +kernel
theorem dX9_put_68 : decode cX9_put 68 = .ok (.iconst 1, 1) := by decide +kernel
theorem dX9_put_69 : decode cX9_put 69 = .ok (.ireturn, 1) := by decide +kernel
theorem dX9_cell_0 : decode cX9_cell 0 = .ok (.aload_n 0, 1) := by decide +kernel
theorem dX9_cell_1 : decode cX9_cell 1 = .ok (.iconst 0, 1) := by decide +kernel
theorem dX9_cell_2 : decode cX9_cell 2 = .ok (.putfield 68, 3) := by decide +kernel
theorem dX9_cell_5 : decode cX9_cell 5 = .ok (.iload_n 1, 1) := by decide +kernel
theorem dX9_cell_6 : decode cX9_cell 6 = .ok (.invokestatic 72, 3) := by decide +kernel
theorem dX9_cell_9 : decode cX9_cell 9 = .ok (.ifCond .ne 10, 3) := by decide +kernel
theorem dX9_cell_12 : decode cX9_cell 12 = .ok (.iload_n 3, 1) := by decide +kernel
theorem dX9_cell_13 : decode cX9_cell 13 = .ok (.invokestatic 76, 3) := by decide +kernel
theorem dX9_cell_16 : decode cX9_cell 16 = .ok (.ifCond .eq 7, 3) := by decide +kernel
theorem dX9_cell_19 : decode cX9_cell 19 = .ok (.ldc2_w 212, 3) := by decide +kernel
theorem dX9_cell_22 : decode cX9_cell 22 = .ok (.lreturn, 1) := by decide +kernel
theorem dX9_cell_23 : decode cX9_cell 23 = .ok (.aload_n 0, 1) := by decide +kernel
theorem dX9_cell_24 : decode cX9_cell 24 = .ok (.getfield 30, 3) := by decide +kernel
theorem dX9_cell_27 : decode cX9_cell 27 = .ok (.iload_n 1, 1) := by decide +kernel
theorem dX9_cell_28 : decode cX9_cell 28 = .ok (.aaload, 1) := by decide +kernel
theorem dX9_cell_29 : decode cX9_cell 29 = .ok (.astore 4, 2) := by decide +kernel
theorem dX9_cell_31 : decode cX9_cell 31 = .ok (.aload 4, 2) := by decide +kernel
theorem dX9_cell_33 : decode cX9_cell 33 = .ok (.getfield 79, 3) := by decide +kernel
theorem dX9_cell_36 : decode cX9_cell 36 = .ok (.ifCond .eq 18, 3) := by decide +kernel
theorem dX9_cell_39 : decode cX9_cell 39 = .ok (.aload 4, 2) := by decide +kernel
theorem dX9_cell_41 : decode cX9_cell 41 = .ok (.getfield 83, 3) := by decide +kernel
theorem dX9_cell_44 : decode cX9_cell 44 = .ok (.iload_n 3, 1) := by decide +kernel
theorem dX9_cell_45 : decode cX9_cell 45 = .ok (.if_icmp .eq 9, 3) := by decide +kernel
theorem dX9_cell_48 : decode cX9_cell 48 = .ok (.aload_n 0, 1) := by decide +kernel
theorem dX9_cell_49 : decode cX9_cell 49 = .ok (.iconst 2, 1) := by decide +kernel
theorem dX9_cell_50 : decode cX9_cell 50 = .ok (.invokevirtual 281, 3) := by decide +kernel
theorem dX9_cell_53 : decode cX9_cell 53 = .ok (.lreturn, 1) := by decide +kernel
theorem dX9_cell_54 : decode cX9_cell 54 = .ok (.aload 4, 2) := by decide +kernel
theorem dX9_cell_56 : decode cX9_cell 56 = .ok (.getfield 79, 3) := by decide +kernel
theorem dX9_cell_59 : decode cX9_cell 59 = .ok (.ifCond .ne 9, 3) := by decide +kernel
theorem dX9_cell_62 : decode cX9_cell 62 = .ok (.aload_n 0, 1) := by decide +kernel
theorem dX9_cell_63 : decode cX9_cell 63 = .ok (.iconst 1, 1) := by decide +kernel
theorem dX9_cell_64 : decode cX9_cell 64 = .ok (.invokevirtual 281, 3) := by decide +kernel
theorem dX9_cell_67 : decode cX9_cell 67 = .ok (.lreturn, 1) := by decide +kernel
theorem dX9_cell_68 : decode cX9_cell 68 = .ok (.iload_n 2, 1) := by decide +kernel
theorem dX9_cell_69 : decode cX9_cell 69 = .ok (.ifCond .lt 12, 3) := by decide +kernel
theorem dX9_cell_72 : decode cX9_cell 72 = .ok (.iload_n 2, 1) := by decide +kernel
theorem dX9_cell_73 : decode cX9_cell 73 = .ok (.aload 4, 2) := by decide +kernel
theorem dX9_cell_75 : decode cX9_cell 75 = .ok (.getfield 272, 3) := by decide +kernel
theorem dX9_cell_78 : decode cX9_cell 78 = .ok (.if_icmp .lt 9, 3) := by decide +kernel
theorem dX9_cell_81 : decode cX9_cell 81 = .ok (.aload_n 0, 1) := by decide +kernel
theorem dX9_cell_82 : decode cX9_cell 82 = .ok (.iconst 3, 1) := by decide +kernel
theorem dX9_cell_83 : decode cX9_cell 83 = .ok (.invokevirtual 281, 3) := by decide +kernel
theorem dX9_cell_86 : decode cX9_cell 86 = .ok (.lreturn, 1) := by decide +kernel
theorem dX9_cell_87 : decode cX9_cell 87 = .ok (.aload 4, 2) := by decide +kernel
theorem dX9_cell_89 : decode cX9_cell 89 = .ok (.getfield 275, 3) := by decide +kernel
theorem dX9_cell_92 : decode cX9_cell 92 = .ok (.iload_n 2, 1) := by decide +kernel
theorem dX9_cell_93 : decode cX9_cell 93 = .ok (.iaload, 1) := by decide +kernel
theorem dX9_cell_94 : decode cX9_cell 94 = .ok (.i2l, 1) := by decide +kernel
theorem dX9_cell_95 : decode cX9_cell 95 = .ok (.lreturn, 1) := by decide +kernel
theorem dX9_copy_0 : decode cX9_copy 0 = .ok (.aload_n 0, 1) := by decide +kernel
theorem dX9_copy_1 : decode cX9_copy 1 = .ok (.iconst 0, 1) := by decide +kernel
theorem dX9_copy_2 : decode cX9_copy 2 = .ok (.putfield 68, 3) := by decide +kernel
theorem dX9_copy_5 : decode cX9_copy 5 = .ok (.iload_n 1, 1) := by decide +kernel
theorem dX9_copy_6 : decode cX9_copy 6 = .ok (.invokestatic 72, 3) := by decide +kernel
theorem dX9_copy_9 : decode cX9_copy 9 = .ok (.ifCond .ne 10, 3) := by decide +kernel
theorem dX9_copy_12 : decode cX9_copy 12 = .ok (.iload_n 3, 1) := by decide +kernel
theorem dX9_copy_13 : decode cX9_copy 13 = .ok (.invokestatic 72, 3) := by decide +kernel
theorem dX9_copy_16 : decode cX9_copy 16 = .ok (.ifCond .eq 5, 3) := by decide +kernel
theorem dX9_copy_19 : decode cX9_copy 19 = .ok (.iconst (-1), 1) := by decide +kernel
theorem dX9_copy_20 : decode cX9_copy 20 = .ok (.ireturn, 1) := by decide +kernel
theorem dX9_copy_21 : decode cX9_copy 21 = .ok (.aload_n 0, 1) := by decide +kernel
theorem dX9_copy_22 : decode cX9_copy 22 = .ok (.getfield 30, 3) := by decide +kernel
theorem dX9_copy_25 : decode cX9_copy 25 = .ok (.iload_n 1, 1) := by decide +kernel
theorem dX9_copy_26 : decode cX9_copy 26 = .ok (.aaload, 1) := by decide +kernel
theorem dX9_copy_27 : decode cX9_copy 27 = .ok (.astore 6, 2) := by decide +kernel
theorem dX9_copy_29 : decode cX9_copy 29 = .ok (.aload_n 0, 1) := by decide +kernel
theorem dX9_copy_30 : decode cX9_copy 30 = .ok (.getfield 30, 3) := by decide +kernel
theorem dX9_copy_33 : decode cX9_copy 33 = .ok (.iload_n 3, 1) := by decide +kernel
theorem dX9_copy_34 : decode cX9_copy 34 = .ok (.aaload, 1) := by decide +kernel
theorem dX9_copy_35 : decode cX9_copy 35 = .ok (.astore 7, 2) := by decide +kernel
theorem dX9_copy_37 : decode cX9_copy 37 = .ok (.aload 6, 2) := by decide +kernel
theorem dX9_copy_39 : decode cX9_copy 39 = .ok (.getfield 79, 3) := by decide +kernel
theorem dX9_copy_42 : decode cX9_copy 42 = .ok (.ifCond .eq 11, 3) := by decide +kernel
theorem dX9_copy_45 : decode cX9_copy 45 = .ok (.aload 7, 2) := by decide +kernel
theorem dX9_copy_47 : decode cX9_copy 47 = .ok (.getfield 79, 3) := by decide +kernel
theorem dX9_copy_50 : decode cX9_copy 50 = .ok (.ifCond .ne 9, 3) := by decide +kernel
theorem dX9_copy_53 : decode cX9_copy 53 = .ok (.aload_n 0, 1) := by decide +kernel
theorem dX9_copy_54 : decode cX9_copy 54 = .ok (.iconst 1, 1) := by decide +kernel
theorem dX9_copy_55 : decode cX9_copy 55 = .ok (.invokevirtual 86, 3) := by decide +kernel
theorem dX9_copy_58 : decode cX9_copy 58 = .ok (.ireturn, 1) := by decide +kernel
theorem dX9_copy_59 : decode cX9_copy 59 = .ok (.aload 6, 2) := by decide +kernel
theorem dX9_copy_61 : decode cX9_copy 61 = .ok (.getfield 83, 3) := by decide +kernel
theorem dX9_copy_64 : decode cX9_copy 64 = .ok (.aload 7, 2) := by decide +kernel
theorem dX9_copy_66 : decode cX9_copy 66 = .ok (.getfield 83, 3) := by decide +kernel
theorem dX9_copy_69 : decode cX9_copy 69 = .ok (.if_icmp .eq 9, 3) := by decide +kernel
theorem dX9_copy_72 : decode cX9_copy 72 = .ok (.aload_n 0, 1) := by decide +kernel
theorem dX9_copy_73 : decode cX9_copy 73 = .ok (.iconst 2, 1) := by decide +kernel
theorem dX9_copy_74 : decode cX9_copy 74 = .ok (.invokevirtual 86, 3) := by decide +kernel
theorem dX9_copy_77 : decode cX9_copy 77 = .ok (.ireturn, 1) := by decide +kernel
theorem dX9_copy_78 : decode cX9_copy 78 = .ok (.aload 6, 2) := by decide +kernel
theorem dX9_copy_80 : decode cX9_copy 80 = .ok (.iload_n 2, 1) := by decide +kernel
theorem dX9_copy_81 : decode cX9_copy 81 = .ok (.iload 5, 2) := by decide +kernel
theorem dX9_copy_83 : decode cX9_copy 83 = .ok (.invokevirtual 90, 3) := by decide +kernel
theorem dX9_copy_86 : decode cX9_copy 86 = .ok (.ifCond .eq 15, 3) := by decide +kernel
theorem dX9_copy_89 : decode cX9_copy 89 = .ok (.aload 7, 2) := by decide +kernel
theorem dX9_copy_91 : decode cX9_copy 91 = .ok (.iload 4, 2) := by decide +kernel
theorem dX9_copy_93 : decode cX9_copy 93 = .ok (.iload 5, 2) := by decide +kernel
theorem dX9_copy_95 : decode cX9_copy 95 = .ok (.invokevirtual 90, 3) := by decide +kernel
theorem dX9_copy_98 : decode cX9_copy 98 = .ok (.ifCond .ne 9, 3) := by decide +kernel
theorem dX9_copy_101 : decode cX9_copy 101 = .ok (.aload_n 0, 1) := by decide +kernel
theorem dX9_copy_102 : decode cX9_copy 102 = .ok (.iconst 3, 1) := by decide +kernel
theorem dX9_copy_103 : decode cX9_copy 103 = .ok (.invokevirtual 86, 3) := by decide +kernel
theorem dX9_copy_106 : decode cX9_copy 106 = .ok (.ireturn, 1) := by decide +kernel
theorem dX9_copy_107 : decode cX9_copy 107 = .ok (.aload 6, 2) := by decide +kernel
theorem dX9_copy_109 : decode cX9_copy 109 = .ok (.getfield 275, 3) := by decide +kernel
theorem dX9_copy_112 : decode cX9_copy 112 = .ok (.iload_n 2, 1) := by decide +kernel
theorem dX9_copy_113 : decode cX9_copy 113 = .ok (.aload 7, 2) := by decide +kernel
theorem dX9_copy_115 : decode cX9_copy 115 = .ok (.getfield 275, 3) := by decide +kernel
theorem dX9_copy_118 : decode cX9_copy 118 = .ok (.iload 4, 2) := by decide +kernel
theorem dX9_copy_120 : decode cX9_copy 120 = .ok (.iload 5, 2) := by decide +kernel
theorem dX9_copy_122 : decode cX9_copy 122 = .ok (.invokestatic 285, 3) := by decide +kernel
theorem dX9_copy_125 : decode cX9_copy 125 = .ok (.iload 5, 2) := by decide +kernel
theorem dX9_copy_127 : decode cX9_copy 127 = .ok (.ireturn, 1) := by decide +kernel
theorem dX9_tell_0 : decode cX9_tell 0 = .ok (.aload_n 0, 1) := by decide +kernel
theorem dX9_tell_1 : decode cX9_tell 1 = .ok (.getfield 24, 3) := by decide +kernel
theorem dX9_tell_4 : decode cX9_tell 4 = .ok (.iload_n 1, 1) := by decide +kernel
theorem dX9_tell_5 : decode cX9_tell 5 = .ok (.invokevirtual 151, 3) := by decide +kernel
theorem dX9_tell_8 : decode cX9_tell 8 = .ok (.astore_n 2, 1) := by decide +kernel
theorem dX9_tell_9 : decode cX9_tell 9 = .ok (.aload_n 2, 1) := by decide +kernel
theorem dX9_tell_10 : decode cX9_tell 10 = .ok (.ifnonnull 7, 3) := by decide +kernel
theorem dX9_tell_13 : decode cX9_tell 13 = .ok (.iconst (-1), 1) := by decide +kernel
theorem dX9_tell_14 : decode cX9_tell 14 = .ok (.goto 11, 3) := by decide +kernel
theorem dX9_tell_17 : decode cX9_tell 17 = .ok (.aload_n 2, 1) := by decide +kernel
theorem dX9_tell_18 : decode cX9_tell 18 = .ok (.aload_n 0, 1) := by decide +kernel
theorem dX9_tell_19 : decode cX9_tell 19 = .ok (.getfield 38, 3) := by decide +kernel
theorem dX9_tell_22 : decode cX9_tell 22 = .ok (.invokevirtual 291, 3) := by decide +kernel
theorem dX9_tell_25 : decode cX9_tell 25 = .ok (.ireturn, 1) := by decide +kernel
theorem dX9_serve_0 : decode cX9_serve 0 = .ok (.aload_n 0, 1) := by decide +kernel
theorem dX9_serve_1 : decode cX9_serve 1 = .ok (.getfield 24, 3) := by decide +kernel
theorem dX9_serve_4 : decode cX9_serve 4 = .ok (.iload_n 1, 1) := by decide +kernel
theorem dX9_serve_5 : decode cX9_serve 5 = .ok (.invokevirtual 151, 3) := by decide +kernel
theorem dX9_serve_8 : decode cX9_serve 8 = .ok (.astore_n 2, 1) := by decide +kernel
theorem dX9_serve_9 : decode cX9_serve 9 = .ok (.aload_n 2, 1) := by decide +kernel
theorem dX9_serve_10 : decode cX9_serve 10 = .ok (.ifnonnull 7, 3) := by decide +kernel
theorem dX9_serve_13 : decode cX9_serve 13 = .ok (.iconst (-1), 1) := by decide +kernel
theorem dX9_serve_14 : decode cX9_serve 14 = .ok (.goto 11, 3) := by decide +kernel
theorem dX9_serve_17 : decode cX9_serve 17 = .ok (.aload_n 2, 1) := by decide +kernel
theorem dX9_serve_18 : decode cX9_serve 18 = .ok (.aload_n 0, 1) := by decide +kernel
theorem dX9_serve_19 : decode cX9_serve 19 = .ok (.getfield 38, 3) := by decide +kernel
theorem dX9_serve_22 : decode cX9_serve 22 = .ok (.invokevirtual 295, 3) := by decide +kernel
theorem dX9_serve_25 : decode cX9_serve 25 = .ok (.ireturn, 1) := by decide +kernel
theorem dX9_as_0 : decode cX9_as 0 = .ok (.aload_n 0, 1) := by decide +kernel
theorem dX9_as_1 : decode cX9_as 1 = .ok (.iconst 0, 1) := by decide +kernel
theorem dX9_as_2 : decode cX9_as 2 = .ok (.putfield 68, 3) := by decide +kernel
theorem dX9_as_5 : decode cX9_as 5 = .ok (.aload_n 0, 1) := by decide +kernel
theorem dX9_as_6 : decode cX9_as 6 = .ok (.getfield 24, 3) := by decide +kernel
theorem dX9_as_9 : decode cX9_as 9 = .ok (.iload_n 1, 1) := by decide +kernel
theorem dX9_as_10 : decode cX9_as 10 = .ok (.invokevirtual 151, 3) := by decide +kernel
theorem dX9_as_13 : decode cX9_as 13 = .ok (.astore_n 3, 1) := by decide +kernel
theorem dX9_as_14 : decode cX9_as 14 = .ok (.aload_n 3, 1) := by decide +kernel
theorem dX9_as_15 : decode cX9_as 15 = .ok (.ifnonnull 5, 3) := by decide +kernel
theorem dX9_as_18 : decode cX9_as 18 = .ok (.iconst (-1), 1) := by decide +kernel
theorem dX9_as_19 : decode cX9_as 19 = .ok (.ireturn, 1) := by decide +kernel
theorem dX9_as_20 : decode cX9_as 20 = .ok (.iload_n 2, 1) := by decide +kernel
theorem dX9_as_21 : decode cX9_as 21 = .ok (.invokestatic 133, 3) := by decide +kernel
theorem dX9_as_24 : decode cX9_as 24 = .ok (.ifCond .eq 6, 3) := by decide +kernel
theorem dX9_as_27 : decode cX9_as 27 = .ok (.bipush (-2), 2) := by decide +kernel
theorem dX9_as_29 : decode cX9_as 29 = .ok (.ireturn, 1) := by decide +kernel
theorem dX9_as_30 : decode cX9_as 30 = .ok (.iload_n 2, 1) := by decide +kernel
theorem dX9_as_31 : decode cX9_as 31 = .ok (.ifCond .eq 25, 3) := by decide +kernel
theorem dX9_as_34 : decode cX9_as 34 = .ok (.iload_n 2, 1) := by decide +kernel
theorem dX9_as_35 : decode cX9_as 35 = .ok (.iconst 1, 1) := by decide +kernel
theorem dX9_as_36 : decode cX9_as 36 = .ok (.if_icmp .ne 13, 3) := by decide +kernel
theorem dX9_as_39 : decode cX9_as 39 = .ok (.aload_n 3, 1) := by decide +kernel
theorem dX9_as_40 : decode cX9_as 40 = .ok (.instanceof 145, 3) := by decide +kernel
theorem dX9_as_43 : decode cX9_as 43 = .ok (.ifCond .eq 17, 3) := by decide +kernel
theorem dX9_as_46 : decode cX9_as 46 = .ok (.goto 10, 3) := by decide +kernel
theorem dX9_as_49 : decode cX9_as 49 = .ok (.aload_n 3, 1) := by decide +kernel
theorem dX9_as_50 : decode cX9_as 50 = .ok (.instanceof 148, 3) := by decide +kernel
theorem dX9_as_53 : decode cX9_as 53 = .ok (.ifCond .eq 7, 3) := by decide +kernel
theorem dX9_as_56 : decode cX9_as 56 = .ok (.iconst 1, 1) := by decide +kernel
theorem dX9_as_57 : decode cX9_as 57 = .ok (.goto 4, 3) := by decide +kernel
theorem dX9_as_60 : decode cX9_as 60 = .ok (.iconst 0, 1) := by decide +kernel
theorem dX9_as_61 : decode cX9_as 61 = .ok (.istore 4, 2) := by decide +kernel
theorem dX9_as_63 : decode cX9_as 63 = .ok (.iload 4, 2) := by decide +kernel
theorem dX9_as_65 : decode cX9_as 65 = .ok (.ifCond .eq 7, 3) := by decide +kernel
theorem dX9_as_68 : decode cX9_as 68 = .ok (.iconst 1, 1) := by decide +kernel
theorem dX9_as_69 : decode cX9_as 69 = .ok (.goto 8, 3) := by decide +kernel
theorem dX9_as_72 : decode cX9_as 72 = .ok (.aload_n 0, 1) := by decide +kernel
theorem dX9_as_73 : decode cX9_as 73 = .ok (.iconst 2, 1) := by decide +kernel
theorem dX9_as_74 : decode cX9_as 74 = .ok (.invokevirtual 86, 3) := by decide +kernel
theorem dX9_as_77 : decode cX9_as 77 = .ok (.ireturn, 1) := by decide +kernel
theorem dX9_trace_0 : decode cX9_trace 0 = .ok (.aload_n 0, 1) := by decide +kernel
theorem dX9_trace_1 : decode cX9_trace 1 = .ok (.getfield 38, 3) := by decide +kernel
theorem dX9_trace_4 : decode cX9_trace 4 = .ok (.getfield 298, 3) := by decide +kernel
theorem dX9_trace_7 : decode cX9_trace 7 = .ok (.ireturn, 1) := by decide +kernel
theorem dX9_fault_0 : decode cX9_fault 0 = .ok (.aload_n 0, 1) := by decide +kernel
theorem dX9_fault_1 : decode cX9_fault 1 = .ok (.getfield 68, 3) := by decide +kernel
theorem dX9_fault_4 : decode cX9_fault 4 = .ok (.ireturn, 1) := by decide +kernel
theorem dX9_many_0 : decode cX9_many 0 = .ok (.iload_n 1, 1) := by decide +kernel
theorem dX9_many_1 : decode cX9_many 1 = .ok (.tableswitch 107 0 6 #[43, 51, 59, 67, 75, 91, 99], 43) := by decide +kernel
theorem dX9_many_44 : decode cX9_many 44 = .ok (.aload_n 0, 1) := by decide +kernel
theorem dX9_many_45 : decode cX9_many 45 = .ok (.getfield 12, 3) := by decide +kernel
theorem dX9_many_48 : decode cX9_many 48 = .ok (.getfield 108, 3) := by decide +kernel
theorem dX9_many_51 : decode cX9_many 51 = .ok (.ireturn, 1) := by decide +kernel
theorem dX9_many_52 : decode cX9_many 52 = .ok (.aload_n 0, 1) := by decide +kernel
theorem dX9_many_53 : decode cX9_many 53 = .ok (.getfield 24, 3) := by decide +kernel
theorem dX9_many_56 : decode cX9_many 56 = .ok (.getfield 102, 3) := by decide +kernel
theorem dX9_many_59 : decode cX9_many 59 = .ok (.ireturn, 1) := by decide +kernel
theorem dX9_many_60 : decode cX9_many 60 = .ok (.aload_n 0, 1) := by decide +kernel
theorem dX9_many_61 : decode cX9_many 61 = .ok (.getfield 12, 3) := by decide +kernel
theorem dX9_many_64 : decode cX9_many 64 = .ok (.getfield 121, 3) := by decide +kernel
theorem dX9_many_67 : decode cX9_many 67 = .ok (.ireturn, 1) := by decide +kernel
theorem dX9_many_68 : decode cX9_many 68 = .ok (.aload_n 0, 1) := by decide +kernel
theorem dX9_many_69 : decode cX9_many 69 = .ok (.getfield 12, 3) := by decide +kernel
theorem dX9_many_72 : decode cX9_many 72 = .ok (.getfield 124, 3) := by decide +kernel
theorem dX9_many_75 : decode cX9_many 75 = .ok (.ireturn, 1) := by decide +kernel
theorem dX9_many_76 : decode cX9_many 76 = .ok (.aload_n 0, 1) := by decide +kernel
theorem dX9_many_77 : decode cX9_many 77 = .ok (.getfield 12, 3) := by decide +kernel
theorem dX9_many_80 : decode cX9_many 80 = .ok (.getfield 127, 3) := by decide +kernel
theorem dX9_many_83 : decode cX9_many 83 = .ok (.ifCond .eq 7, 3) := by decide +kernel
theorem dX9_many_86 : decode cX9_many 86 = .ok (.iconst 1, 1) := by decide +kernel
theorem dX9_many_87 : decode cX9_many 87 = .ok (.goto 4, 3) := by decide +kernel
theorem dX9_many_90 : decode cX9_many 90 = .ok (.iconst 0, 1) := by decide +kernel
theorem dX9_many_91 : decode cX9_many 91 = .ok (.ireturn, 1) := by decide +kernel
theorem dX9_many_92 : decode cX9_many 92 = .ok (.aload_n 0, 1) := by decide +kernel
theorem dX9_many_93 : decode cX9_many 93 = .ok (.getfield 12, 3) := by decide +kernel
theorem dX9_many_96 : decode cX9_many 96 = .ok (.getfield 130, 3) := by decide +kernel
theorem dX9_many_99 : decode cX9_many 99 = .ok (.ireturn, 1) := by decide +kernel
theorem dX9_many_100 : decode cX9_many 100 = .ok (.aload_n 0, 1) := by decide +kernel
theorem dX9_many_101 : decode cX9_many 101 = .ok (.getfield 12, 3) := by decide +kernel
theorem dX9_many_104 : decode cX9_many 104 = .ok (.invokevirtual 301, 3) := by decide +kernel
theorem dX9_many_107 : decode cX9_many 107 = .ok (.ireturn, 1) := by decide +kernel
theorem dX9_many_108 : decode cX9_many 108 = .ok (.bipush (-2), 2) := by decide +kernel
theorem dX9_many_110 : decode cX9_many 110 = .ok (.ireturn, 1) := by decide +kernel
theorem dX9_isNoCafe_0 : decode cX9_isNoCafe 0 = .ok (.aload_n 0, 1) := by decide +kernel
theorem dX9_isNoCafe_1 : decode cX9_isNoCafe 1 = .ok (.getfield 12, 3) := by decide +kernel
theorem dX9_isNoCafe_4 : decode cX9_isNoCafe 4 = .ok (.getfield 108, 3) := by decide +kernel
theorem dX9_isNoCafe_7 : decode cX9_isNoCafe 7 = .ok (.ifCond .ne 7, 3) := by decide +kernel
theorem dX9_isNoCafe_10 : decode cX9_isNoCafe 10 = .ok (.iconst 1, 1) := by decide +kernel
theorem dX9_isNoCafe_11 : decode cX9_isNoCafe 11 = .ok (.goto 4, 3) := by decide +kernel
theorem dX9_isNoCafe_14 : decode cX9_isNoCafe 14 = .ok (.iconst 0, 1) := by decide +kernel
theorem dX9_isNoCafe_15 : decode cX9_isNoCafe 15 = .ok (.ireturn, 1) := by decide +kernel
theorem dX9_isNoSheet_0 : decode cX9_isNoSheet 0 = .ok (.iload_n 0, 1) := by decide +kernel
theorem dX9_isNoSheet_1 : decode cX9_isNoSheet 1 = .ok (.ifCond .lt 8, 3) := by decide +kernel
theorem dX9_isNoSheet_4 : decode cX9_isNoSheet 4 = .ok (.iload_n 0, 1) := by decide +kernel
theorem dX9_isNoSheet_5 : decode cX9_isNoSheet 5 = .ok (.iconst 4, 1) := by decide +kernel
theorem dX9_isNoSheet_6 : decode cX9_isNoSheet 6 = .ok (.if_icmp .lt 7, 3) := by decide +kernel
theorem dX9_isNoSheet_9 : decode cX9_isNoSheet 9 = .ok (.iconst 1, 1) := by decide +kernel
theorem dX9_isNoSheet_10 : decode cX9_isNoSheet 10 = .ok (.goto 4, 3) := by decide +kernel
theorem dX9_isNoSheet_13 : decode cX9_isNoSheet 13 = .ok (.iconst 0, 1) := by decide +kernel
theorem dX9_isNoSheet_14 : decode cX9_isNoSheet 14 = .ok (.ireturn, 1) := by decide +kernel
theorem dX9_isNoSort_0 : decode cX9_isNoSort 0 = .ok (.iload_n 0, 1) := by decide +kernel
theorem dX9_isNoSort_1 : decode cX9_isNoSort 1 = .ok (.ifCond .lt 8, 3) := by decide +kernel
theorem dX9_isNoSort_4 : decode cX9_isNoSort 4 = .ok (.iload_n 0, 1) := by decide +kernel
theorem dX9_isNoSort_5 : decode cX9_isNoSort 5 = .ok (.iconst 2, 1) := by decide +kernel
theorem dX9_isNoSort_6 : decode cX9_isNoSort 6 = .ok (.if_icmp .le 7, 3) := by decide +kernel
theorem dX9_isNoSort_9 : decode cX9_isNoSort 9 = .ok (.iconst 1, 1) := by decide +kernel
theorem dX9_isNoSort_10 : decode cX9_isNoSort 10 = .ok (.goto 4, 3) := by decide +kernel
theorem dX9_isNoSort_13 : decode cX9_isNoSort 13 = .ok (.iconst 0, 1) := by decide +kernel
theorem dX9_isNoSort_14 : decode cX9_isNoSort 14 = .ok (.ireturn, 1) := by decide +kernel
theorem dX9_isNoKind_0 : decode cX9_isNoKind 0 = .ok (.iload_n 0, 1) := by decide +kernel
theorem dX9_isNoKind_1 : decode cX9_isNoKind 1 = .ok (.ifCond .lt 8, 3) := by decide +kernel
theorem dX9_isNoKind_4 : decode cX9_isNoKind 4 = .ok (.iload_n 0, 1) := by decide +kernel
theorem dX9_isNoKind_5 : decode cX9_isNoKind 5 = .ok (.iconst 2, 1) := by decide +kernel
theorem dX9_isNoKind_6 : decode cX9_isNoKind 6 = .ok (.if_icmp .le 7, 3) := by decide +kernel
theorem dX9_isNoKind_9 : decode cX9_isNoKind 9 = .ok (.iconst 1, 1) := by decide +kernel
theorem dX9_isNoKind_10 : decode cX9_isNoKind 10 = .ok (.goto 4, 3) := by decide +kernel
theorem dX9_isNoKind_13 : decode cX9_isNoKind 13 = .ok (.iconst 0, 1) := by decide +kernel
theorem dX9_isNoKind_14 : decode cX9_isNoKind 14 = .ok (.ireturn, 1) := by decide +kernel
theorem dX9_isNoTaking_0 : decode cX9_isNoTaking 0 = .ok (.iload_n 0, 1) := by decide +kernel
theorem dX9_isNoTaking_1 : decode cX9_isNoTaking 1 = .ok (.ifCond .lt 39, 3) := by decide +kernel
theorem dX9_isNoTaking_4 : decode cX9_isNoTaking 4 = .ok (.iload_n 0, 1) := by decide +kernel
theorem dX9_isNoTaking_5 : decode cX9_isNoTaking 5 = .ok (.bipush 100, 2) := by decide +kernel
theorem dX9_isNoTaking_7 : decode cX9_isNoTaking 7 = .ok (.if_icmp .gt 33, 3) := by decide +kernel
theorem dX9_isNoTaking_10 : decode cX9_isNoTaking 10 = .ok (.iload_n 1, 1) := by decide +kernel
theorem dX9_isNoTaking_11 : decode cX9_isNoTaking 11 = .ok (.ifCond .lt 29, 3) := by decide +kernel
theorem dX9_isNoTaking_14 : decode cX9_isNoTaking 14 = .ok (.iload_n 1, 1) := by decide +kernel
theorem dX9_isNoTaking_15 : decode cX9_isNoTaking 15 = .ok (.bipush 8, 2) := by decide +kernel
theorem dX9_isNoTaking_17 : decode cX9_isNoTaking 17 = .ok (.if_icmp .gt 23, 3) := by decide +kernel
theorem dX9_isNoTaking_20 : decode cX9_isNoTaking 20 = .ok (.iload_n 2, 1) := by decide +kernel
theorem dX9_isNoTaking_21 : decode cX9_isNoTaking 21 = .ok (.ifCond .lt 19, 3) := by decide +kernel
theorem dX9_isNoTaking_24 : decode cX9_isNoTaking 24 = .ok (.iload_n 2, 1) := by decide +kernel
theorem dX9_isNoTaking_25 : decode cX9_isNoTaking 25 = .ok (.bipush 9, 2) := by decide +kernel
theorem dX9_isNoTaking_27 : decode cX9_isNoTaking 27 = .ok (.if_icmp .gt 13, 3) := by decide +kernel
theorem dX9_isNoTaking_30 : decode cX9_isNoTaking 30 = .ok (.iload_n 3, 1) := by decide +kernel
theorem dX9_isNoTaking_31 : decode cX9_isNoTaking 31 = .ok (.ifCond .lt 9, 3) := by decide +kernel
theorem dX9_isNoTaking_34 : decode cX9_isNoTaking 34 = .ok (.iload_n 3, 1) := by decide +kernel
theorem dX9_isNoTaking_35 : decode cX9_isNoTaking 35 = .ok (.bipush 9, 2) := by decide +kernel
theorem dX9_isNoTaking_37 : decode cX9_isNoTaking 37 = .ok (.if_icmp .le 7, 3) := by decide +kernel
theorem dX9_isNoTaking_40 : decode cX9_isNoTaking 40 = .ok (.iconst 1, 1) := by decide +kernel
theorem dX9_isNoTaking_41 : decode cX9_isNoTaking 41 = .ok (.goto 4, 3) := by decide +kernel
theorem dX9_isNoTaking_44 : decode cX9_isNoTaking 44 = .ok (.iconst 0, 1) := by decide +kernel
theorem dX9_isNoTaking_45 : decode cX9_isNoTaking 45 = .ok (.ireturn, 1) := by decide +kernel
theorem dX9_failed_0 : decode cX9_failed 0 = .ok (.aload_n 0, 1) := by decide +kernel
theorem dX9_failed_1 : decode cX9_failed 1 = .ok (.iload_n 1, 1) := by decide +kernel
theorem dX9_failed_2 : decode cX9_failed 2 = .ok (.putfield 68, 3) := by decide +kernel
theorem dX9_failed_5 : decode cX9_failed 5 = .ok (.bipush (-10), 2) := by decide +kernel
theorem dX9_failed_7 : decode cX9_failed 7 = .ok (.iload_n 1, 1) := by decide +kernel
theorem dX9_failed_8 : decode cX9_failed 8 = .ok (.isub, 1) := by decide +kernel
theorem dX9_failed_9 : decode cX9_failed 9 = .ok (.ireturn, 1) := by decide +kernel
theorem dX9_lostBy_0 : decode cX9_lostBy 0 = .ok (.aload_n 0, 1) := by decide +kernel
theorem dX9_lostBy_1 : decode cX9_lostBy 1 = .ok (.iload_n 1, 1) := by decide +kernel
theorem dX9_lostBy_2 : decode cX9_lostBy 2 = .ok (.putfield 68, 3) := by decide +kernel
theorem dX9_lostBy_5 : decode cX9_lostBy 5 = .ok (.ldc2_w 212, 3) := by decide +kernel
theorem dX9_lostBy_8 : decode cX9_lostBy 8 = .ok (.lreturn, 1) := by decide +kernel
theorem dX9_forget_0 : decode cX9_forget 0 = .ok (.aload_n 0, 1) := by decide +kernel
theorem dX9_forget_1 : decode cX9_forget 1 = .ok (.iconst 0, 1) := by decide +kernel
theorem dX9_forget_2 : decode cX9_forget 2 = .ok (.putfield 304, 3) := by decide +kernel
theorem dX9_forget_5 : decode cX9_forget 5 = .ok (.aload_n 0, 1) := by decide +kernel
theorem dX9_forget_6 : decode cX9_forget 6 = .ok (.iconst 0, 1) := by decide +kernel
theorem dX9_forget_7 : decode cX9_forget 7 = .ok (.putfield 220, 3) := by decide +kernel
theorem dX9_forget_10 : decode cX9_forget 10 = .ok (.aload_n 0, 1) := by decide +kernel
theorem dX9_forget_11 : decode cX9_forget 11 = .ok (.iconst 0, 1) := by decide +kernel
theorem dX9_forget_12 : decode cX9_forget 12 = .ok (.putfield 307, 3) := by decide +kernel
theorem dX9_forget_15 : decode cX9_forget 15 = .ok (.aload_n 0, 1) := by decide +kernel
theorem dX9_forget_16 : decode cX9_forget 16 = .ok (.iconst 0, 1) := by decide +kernel
theorem dX9_forget_17 : decode cX9_forget 17 = .ok (.putfield 239, 3) := by decide +kernel
theorem dX9_forget_20 : decode cX9_forget 20 = .ok (.return_, 1) := by decide +kernel
theorem dX9_reckonDay_0 : decode cX9_reckonDay 0 = .ok (.aload_n 0, 1) := by decide +kernel
theorem dX9_reckonDay_1 : decode cX9_reckonDay 1 = .ok (.getfield 304, 3) := by decide +kernel
theorem dX9_reckonDay_4 : decode cX9_reckonDay 4 = .ok (.ifCond .ne 24, 3) := by decide +kernel
theorem dX9_reckonDay_7 : decode cX9_reckonDay 7 = .ok (.aload_n 0, 1) := by decide +kernel
theorem dX9_reckonDay_8 : decode cX9_reckonDay 8 = .ok (.getfield 47, 3) := by decide +kernel
theorem dX9_reckonDay_11 : decode cX9_reckonDay 11 = .ok (.aload_n 0, 1) := by decide +kernel
theorem dX9_reckonDay_12 : decode cX9_reckonDay 12 = .ok (.getfield 12, 3) := by decide +kernel
theorem dX9_reckonDay_15 : decode cX9_reckonDay 15 = .ok (.iconst (-1), 1) := by decide +kernel
theorem dX9_reckonDay_16 : decode cX9_reckonDay 16 = .ok (.sipush 399, 3) := by decide +kernel
theorem dX9_reckonDay_19 : decode cX9_reckonDay 19 = .ok (.invokevirtual 199, 3) := by decide +kernel
theorem dX9_reckonDay_22 : decode cX9_reckonDay 22 = .ok (.pop, 1) := by decide +kernel
theorem dX9_reckonDay_23 : decode cX9_reckonDay 23 = .ok (.aload_n 0, 1) := by decide +kernel
theorem dX9_reckonDay_24 : decode cX9_reckonDay 24 = .ok (.iconst 1, 1) := by decide +kernel
theorem dX9_reckonDay_25 : decode cX9_reckonDay 25 = .ok (.putfield 304, 3) := by decide +kernel
theorem dX9_reckonDay_28 : decode cX9_reckonDay 28 = .ok (.return_, 1) := by decide +kernel
theorem dX9_reckonCoins_0 : decode cX9_reckonCoins 0 = .ok (.aload_n 0, 1) := by decide +kernel
theorem dX9_reckonCoins_1 : decode cX9_reckonCoins 1 = .ok (.getfield 307, 3) := by decide +kernel
theorem dX9_reckonCoins_4 : decode cX9_reckonCoins 4 = .ok (.ifCond .eq 4, 3) := by decide +kernel
theorem dX9_reckonCoins_7 : decode cX9_reckonCoins 7 = .ok (.return_, 1) := by decide +kernel
theorem dX9_reckonCoins_8 : decode cX9_reckonCoins 8 = .ok (.aload_n 0, 1) := by decide +kernel
theorem dX9_reckonCoins_9 : decode cX9_reckonCoins 9 = .ok (.getfield 18, 3) := by decide +kernel
theorem dX9_reckonCoins_12 : decode cX9_reckonCoins 12 = .ok (.aload_n 0, 1) := by decide +kernel
theorem dX9_reckonCoins_13 : decode cX9_reckonCoins 13 = .ok (.getfield 12, 3) := by decide +kernel
theorem dX9_reckonCoins_16 : decode cX9_reckonCoins 16 = .ok (.invokevirtual 232, 3) := by decide +kernel
theorem dX9_reckonCoins_19 : decode cX9_reckonCoins 19 = .ok (.iconst 0, 1) := by decide +kernel
theorem dX9_reckonCoins_20 : decode cX9_reckonCoins 20 = .ok (.istore_n 1, 1) := by decide +kernel
theorem dX9_reckonCoins_21 : decode cX9_reckonCoins 21 = .ok (.iload_n 1, 1) := by decide +kernel
theorem dX9_reckonCoins_22 : decode cX9_reckonCoins 22 = .ok (.bipush 30, 2) := by decide +kernel
theorem dX9_reckonCoins_24 : decode cX9_reckonCoins 24 = .ok (.if_icmp .gt 38, 3) := by decide +kernel
theorem dX9_reckonCoins_27 : decode cX9_reckonCoins 27 = .ok (.aload_n 0, 1) := by decide +kernel
theorem dX9_reckonCoins_28 : decode cX9_reckonCoins 28 = .ok (.getfield 18, 3) := by decide +kernel
theorem dX9_reckonCoins_31 : decode cX9_reckonCoins 31 = .ok (.iload_n 1, 1) := by decide +kernel
theorem dX9_reckonCoins_32 : decode cX9_reckonCoins 32 = .ok (.putfield 124, 3) := by decide +kernel
theorem dX9_reckonCoins_35 : decode cX9_reckonCoins 35 = .ok (.aload_n 0, 1) := by decide +kernel
theorem dX9_reckonCoins_36 : decode cX9_reckonCoins 36 = .ok (.getfield 61, 3) := by decide +kernel
theorem dX9_reckonCoins_39 : decode cX9_reckonCoins 39 = .ok (.iload_n 1, 1) := by decide +kernel
theorem dX9_reckonCoins_40 : decode cX9_reckonCoins 40 = .ok (.aload_n 0, 1) := by decide +kernel
theorem dX9_reckonCoins_41 : decode cX9_reckonCoins 41 = .ok (.getfield 51, 3) := by decide +kernel
theorem dX9_reckonCoins_44 : decode cX9_reckonCoins 44 = .ok (.aload_n 0, 1) := by decide +kernel
theorem dX9_reckonCoins_45 : decode cX9_reckonCoins 45 = .ok (.getfield 18, 3) := by decide +kernel
theorem dX9_reckonCoins_48 : decode cX9_reckonCoins 48 = .ok (.iconst (-1), 1) := by decide +kernel
theorem dX9_reckonCoins_49 : decode cX9_reckonCoins 49 = .ok (.sipush 399, 3) := by decide +kernel
theorem dX9_reckonCoins_52 : decode cX9_reckonCoins 52 = .ok (.invokevirtual 199, 3) := by decide +kernel
theorem dX9_reckonCoins_55 : decode cX9_reckonCoins 55 = .ok (.iastore, 1) := by decide +kernel
theorem dX9_reckonCoins_56 : decode cX9_reckonCoins 56 = .ok (.iinc 1 1, 3) := by decide +kernel
theorem dX9_reckonCoins_59 : decode cX9_reckonCoins 59 = .ok (.goto (-38), 3) := by decide +kernel
theorem dX9_reckonCoins_62 : decode cX9_reckonCoins 62 = .ok (.aload_n 0, 1) := by decide +kernel
theorem dX9_reckonCoins_63 : decode cX9_reckonCoins 63 = .ok (.iconst 1, 1) := by decide +kernel
theorem dX9_reckonCoins_64 : decode cX9_reckonCoins 64 = .ok (.putfield 307, 3) := by decide +kernel
theorem dX9_reckonCoins_67 : decode cX9_reckonCoins 67 = .ok (.return_, 1) := by decide +kernel
theorem dX9_findMix_0 : decode cX9_findMix 0 = .ok (.aload_n 0, 1) := by decide +kernel
theorem dX9_findMix_1 : decode cX9_findMix 1 = .ok (.getfield 18, 3) := by decide +kernel
theorem dX9_findMix_4 : decode cX9_findMix 4 = .ok (.aload_n 0, 1) := by decide +kernel
theorem dX9_findMix_5 : decode cX9_findMix 5 = .ok (.getfield 12, 3) := by decide +kernel
theorem dX9_findMix_8 : decode cX9_findMix 8 = .ok (.invokevirtual 232, 3) := by decide +kernel
theorem dX9_findMix_11 : decode cX9_findMix 11 = .ok (.aload_n 0, 1) := by decide +kernel
theorem dX9_findMix_12 : decode cX9_findMix 12 = .ok (.getfield 18, 3) := by decide +kernel
theorem dX9_findMix_15 : decode cX9_findMix 15 = .ok (.bipush (-9), 2) := by decide +kernel
theorem dX9_findMix_17 : decode cX9_findMix 17 = .ok (.putfield 130, 3) := by decide +kernel
theorem dX9_findMix_20 : decode cX9_findMix 20 = .ok (.aload_n 0, 1) := by decide +kernel
theorem dX9_findMix_21 : decode cX9_findMix 21 = .ok (.getfield 65, 3) := by decide +kernel
theorem dX9_findMix_24 : decode cX9_findMix 24 = .ok (.iconst 0, 1) := by decide +kernel
theorem dX9_findMix_25 : decode cX9_findMix 25 = .ok (.iconst (-1), 1) := by decide +kernel
theorem dX9_findMix_26 : decode cX9_findMix 26 = .ok (.iastore, 1) := by decide +kernel
theorem dX9_findMix_27 : decode cX9_findMix 27 = .ok (.iconst 0, 1) := by decide +kernel
theorem dX9_findMix_28 : decode cX9_findMix 28 = .ok (.istore_n 2, 1) := by decide +kernel
theorem dX9_findMix_29 : decode cX9_findMix 29 = .ok (.iload_n 2, 1) := by decide +kernel
theorem dX9_findMix_30 : decode cX9_findMix 30 = .ok (.bipush 6, 2) := by decide +kernel
theorem dX9_findMix_32 : decode cX9_findMix 32 = .ok (.if_icmp .gt 99, 3) := by decide +kernel
theorem dX9_findMix_35 : decode cX9_findMix 35 = .ok (.iconst 0, 1) := by decide +kernel
theorem dX9_findMix_36 : decode cX9_findMix 36 = .ok (.istore_n 3, 1) := by decide +kernel
theorem dX9_findMix_37 : decode cX9_findMix 37 = .ok (.iload_n 3, 1) := by decide +kernel
theorem dX9_findMix_38 : decode cX9_findMix 38 = .ok (.bipush 6, 2) := by decide +kernel
theorem dX9_findMix_40 : decode cX9_findMix 40 = .ok (.iload_n 2, 1) := by decide +kernel
theorem dX9_findMix_41 : decode cX9_findMix 41 = .ok (.isub, 1) := by decide +kernel
theorem dX9_findMix_42 : decode cX9_findMix 42 = .ok (.if_icmp .gt 83, 3) := by decide +kernel
theorem dX9_findMix_45 : decode cX9_findMix 45 = .ok (.iconst 0, 1) := by decide +kernel
theorem dX9_findMix_46 : decode cX9_findMix 46 = .ok (.istore 4, 2) := by decide +kernel
theorem dX9_findMix_48 : decode cX9_findMix 48 = .ok (.iload 4, 2) := by decide +kernel
theorem dX9_findMix_50 : decode cX9_findMix 50 = .ok (.bipush 6, 2) := by decide +kernel
theorem dX9_findMix_52 : decode cX9_findMix 52 = .ok (.iload_n 2, 1) := by decide +kernel
theorem dX9_findMix_53 : decode cX9_findMix 53 = .ok (.isub, 1) := by decide +kernel
theorem dX9_findMix_54 : decode cX9_findMix 54 = .ok (.iload_n 3, 1) := by decide +kernel
theorem dX9_findMix_55 : decode cX9_findMix 55 = .ok (.isub, 1) := by decide +kernel
theorem dX9_findMix_56 : decode cX9_findMix 56 = .ok (.if_icmp .gt 63, 3) := by decide +kernel
theorem dX9_findMix_59 : decode cX9_findMix 59 = .ok (.iconst 2, 1) := by decide +kernel
theorem dX9_findMix_60 : decode cX9_findMix 60 = .ok (.iload_n 2, 1) := by decide +kernel
theorem dX9_findMix_61 : decode cX9_findMix 61 = .ok (.imul, 1) := by decide +kernel
theorem dX9_findMix_62 : decode cX9_findMix 62 = .ok (.iconst 4, 1) := by decide +kernel
theorem dX9_findMix_63 : decode cX9_findMix 63 = .ok (.iload_n 3, 1) := by decide +kernel
theorem dX9_findMix_64 : decode cX9_findMix 64 = .ok (.imul, 1) := by decide +kernel
theorem dX9_findMix_65 : decode cX9_findMix 65 = .ok (.iadd, 1) := by decide +kernel
theorem dX9_findMix_66 : decode cX9_findMix 66 = .ok (.bipush 6, 2) := by decide +kernel
theorem dX9_findMix_68 : decode cX9_findMix 68 = .ok (.iload 4, 2) := by decide +kernel
theorem dX9_findMix_70 : decode cX9_findMix 70 = .ok (.imul, 1) := by decide +kernel
theorem dX9_findMix_71 : decode cX9_findMix 71 = .ok (.iadd, 1) := by decide +kernel
theorem dX9_findMix_72 : decode cX9_findMix 72 = .ok (.iload_n 1, 1) := by decide +kernel
theorem dX9_findMix_73 : decode cX9_findMix 73 = .ok (.if_icmp .le 6, 3) := by decide +kernel
theorem dX9_findMix_76 : decode cX9_findMix 76 = .ok (.goto 37, 3) := by decide +kernel
theorem dX9_findMix_79 : decode cX9_findMix 79 = .ok (.aload_n 0, 1) := by decide +kernel
theorem dX9_findMix_80 : decode cX9_findMix 80 = .ok (.getfield 18, 3) := by decide +kernel
theorem dX9_findMix_83 : decode cX9_findMix 83 = .ok (.iload_n 2, 1) := by decide +kernel
theorem dX9_findMix_84 : decode cX9_findMix 84 = .ok (.iload_n 3, 1) := by decide +kernel
theorem dX9_findMix_85 : decode cX9_findMix 85 = .ok (.iload 4, 2) := by decide +kernel
theorem dX9_findMix_87 : decode cX9_findMix 87 = .ok (.invokevirtual 310, 3) := by decide +kernel
theorem dX9_findMix_90 : decode cX9_findMix 90 = .ok (.aload_n 0, 1) := by decide +kernel
theorem dX9_findMix_91 : decode cX9_findMix 91 = .ok (.aload_n 0, 1) := by decide +kernel
theorem dX9_findMix_92 : decode cX9_findMix 92 = .ok (.getfield 51, 3) := by decide +kernel
theorem dX9_findMix_95 : decode cX9_findMix 95 = .ok (.aload_n 0, 1) := by decide +kernel
theorem dX9_findMix_96 : decode cX9_findMix 96 = .ok (.getfield 18, 3) := by decide +kernel
theorem dX9_findMix_99 : decode cX9_findMix 99 = .ok (.iconst (-1), 1) := by decide +kernel
theorem dX9_findMix_100 : decode cX9_findMix 100 = .ok (.sipush 399, 3) := by decide +kernel
theorem dX9_findMix_103 : decode cX9_findMix 103 = .ok (.invokevirtual 199, 3) := by decide +kernel
theorem dX9_findMix_106 : decode cX9_findMix 106 = .ok (.iload_n 2, 1) := by decide +kernel
theorem dX9_findMix_107 : decode cX9_findMix 107 = .ok (.iload_n 3, 1) := by decide +kernel
theorem dX9_findMix_108 : decode cX9_findMix 108 = .ok (.iload 4, 2) := by decide +kernel
theorem dX9_findMix_110 : decode cX9_findMix 110 = .ok (.invokevirtual 314, 3) := by decide +kernel
theorem dX9_findMix_113 : decode cX9_findMix 113 = .ok (.iinc 4 1, 3) := by decide +kernel
theorem dX9_findMix_116 : decode cX9_findMix 116 = .ok (.goto (-68), 3) := by decide +kernel
theorem dX9_findMix_119 : decode cX9_findMix 119 = .ok (.iinc 3 1, 3) := by decide +kernel
theorem dX9_findMix_122 : decode cX9_findMix 122 = .ok (.goto (-85), 3) := by decide +kernel
theorem dX9_findMix_125 : decode cX9_findMix 125 = .ok (.iinc 2 1, 3) := by decide +kernel
theorem dX9_findMix_128 : decode cX9_findMix 128 = .ok (.goto (-99), 3) := by decide +kernel
theorem dX9_findMix_131 : decode cX9_findMix 131 = .ok (.return_, 1) := by decide +kernel
theorem dX9_keepBetterMix_0 : decode cX9_keepBetterMix 0 = .ok (.iload_n 1, 1) := by decide +kernel
theorem dX9_keepBetterMix_1 : decode cX9_keepBetterMix 1 = .ok (.aload_n 0, 1) := by decide +kernel
theorem dX9_keepBetterMix_2 : decode cX9_keepBetterMix 2 = .ok (.getfield 65, 3) := by decide +kernel
theorem dX9_keepBetterMix_5 : decode cX9_keepBetterMix 5 = .ok (.iconst 0, 1) := by decide +kernel
theorem dX9_keepBetterMix_6 : decode cX9_keepBetterMix 6 = .ok (.iaload, 1) := by decide +kernel
theorem dX9_keepBetterMix_7 : decode cX9_keepBetterMix 7 = .ok (.if_icmp .le 32, 3) := by decide +kernel
theorem dX9_keepBetterMix_10 : decode cX9_keepBetterMix 10 = .ok (.aload_n 0, 1) := by decide +kernel
theorem dX9_keepBetterMix_11 : decode cX9_keepBetterMix 11 = .ok (.getfield 65, 3) := by decide +kernel
theorem dX9_keepBetterMix_14 : decode cX9_keepBetterMix 14 = .ok (.iconst 0, 1) := by decide +kernel
theorem dX9_keepBetterMix_15 : decode cX9_keepBetterMix 15 = .ok (.iload_n 1, 1) := by decide +kernel
theorem dX9_keepBetterMix_16 : decode cX9_keepBetterMix 16 = .ok (.iastore, 1) := by decide +kernel
theorem dX9_keepBetterMix_17 : decode cX9_keepBetterMix 17 = .ok (.aload_n 0, 1) := by decide +kernel
theorem dX9_keepBetterMix_18 : decode cX9_keepBetterMix 18 = .ok (.getfield 65, 3) := by decide +kernel
theorem dX9_keepBetterMix_21 : decode cX9_keepBetterMix 21 = .ok (.iconst 1, 1) := by decide +kernel
theorem dX9_keepBetterMix_22 : decode cX9_keepBetterMix 22 = .ok (.iload_n 2, 1) := by decide +kernel
theorem dX9_keepBetterMix_23 : decode cX9_keepBetterMix 23 = .ok (.iastore, 1) := by decide +kernel
theorem dX9_keepBetterMix_24 : decode cX9_keepBetterMix 24 = .ok (.aload_n 0, 1) := by decide +kernel
theorem dX9_keepBetterMix_25 : decode cX9_keepBetterMix 25 = .ok (.getfield 65, 3) := by decide +kernel
theorem dX9_keepBetterMix_28 : decode cX9_keepBetterMix 28 = .ok (.iconst 2, 1) := by decide +kernel
theorem dX9_keepBetterMix_29 : decode cX9_keepBetterMix 29 = .ok (.iload_n 3, 1) := by decide +kernel
theorem dX9_keepBetterMix_30 : decode cX9_keepBetterMix 30 = .ok (.iastore, 1) := by decide +kernel
theorem dX9_keepBetterMix_31 : decode cX9_keepBetterMix 31 = .ok (.aload_n 0, 1) := by decide +kernel
theorem dX9_keepBetterMix_32 : decode cX9_keepBetterMix 32 = .ok (.getfield 65, 3) := by decide +kernel
theorem dX9_keepBetterMix_35 : decode cX9_keepBetterMix 35 = .ok (.iconst 3, 1) := by decide +kernel
theorem dX9_keepBetterMix_36 : decode cX9_keepBetterMix 36 = .ok (.iload 4, 2) := by decide +kernel
theorem dX9_keepBetterMix_38 : decode cX9_keepBetterMix 38 = .ok (.iastore, 1) := by decide +kernel
theorem dX9_keepBetterMix_39 : decode cX9_keepBetterMix 39 = .ok (.return_, 1) := by decide +kernel
theorem dX9_firstFault_0 : decode cX9_firstFault 0 = .ok (.iconst 0, 1) := by decide +kernel
theorem dX9_firstFault_1 : decode cX9_firstFault 1 = .ok (.istore_n 3, 1) := by decide +kernel
theorem dX9_firstFault_2 : decode cX9_firstFault 2 = .ok (.iload_n 3, 1) := by decide +kernel
theorem dX9_firstFault_3 : decode cX9_firstFault 3 = .ok (.iload_n 2, 1) := by decide +kernel
theorem dX9_firstFault_4 : decode cX9_firstFault 4 = .ok (.if_icmp .ge 26, 3) := by decide +kernel
theorem dX9_firstFault_7 : decode cX9_firstFault 7 = .ok (.iload_n 3, 1) := by decide +kernel
theorem dX9_firstFault_8 : decode cX9_firstFault 8 = .ok (.aload_n 0, 1) := by decide +kernel
theorem dX9_firstFault_9 : decode cX9_firstFault 9 = .ok (.getfield 275, 3) := by decide +kernel
theorem dX9_firstFault_12 : decode cX9_firstFault 12 = .ok (.iload_n 1, 1) := by decide +kernel
theorem dX9_firstFault_13 : decode cX9_firstFault 13 = .ok (.iload_n 3, 1) := by decide +kernel
theorem dX9_firstFault_14 : decode cX9_firstFault 14 = .ok (.iadd, 1) := by decide +kernel
theorem dX9_firstFault_15 : decode cX9_firstFault 15 = .ok (.iaload, 1) := by decide +kernel
theorem dX9_firstFault_16 : decode cX9_firstFault 16 = .ok (.invokestatic 318, 3) := by decide +kernel
theorem dX9_firstFault_19 : decode cX9_firstFault 19 = .ok (.ifCond .ne 5, 3) := by decide +kernel
theorem dX9_firstFault_22 : decode cX9_firstFault 22 = .ok (.iload_n 3, 1) := by decide +kernel
theorem dX9_firstFault_23 : decode cX9_firstFault 23 = .ok (.ireturn, 1) := by decide +kernel
theorem dX9_firstFault_24 : decode cX9_firstFault 24 = .ok (.iinc 3 1, 3) := by decide +kernel
theorem dX9_firstFault_27 : decode cX9_firstFault 27 = .ok (.goto (-25), 3) := by decide +kernel
theorem dX9_firstFault_30 : decode cX9_firstFault 30 = .ok (.iload_n 2, 1) := by decide +kernel
theorem dX9_firstFault_31 : decode cX9_firstFault 31 = .ok (.iconst 3, 1) := by decide +kernel
theorem dX9_firstFault_32 : decode cX9_firstFault 32 = .ok (.irem, 1) := by decide +kernel
theorem dX9_firstFault_33 : decode cX9_firstFault 33 = .ok (.iconst 2, 1) := by decide +kernel
theorem dX9_firstFault_34 : decode cX9_firstFault 34 = .ok (.if_icmp .ne 8, 3) := by decide +kernel
theorem dX9_firstFault_37 : decode cX9_firstFault 37 = .ok (.bipush (-9), 2) := by decide +kernel
theorem dX9_firstFault_39 : decode cX9_firstFault 39 = .ok (.goto 4, 3) := by decide +kernel
theorem dX9_firstFault_42 : decode cX9_firstFault 42 = .ok (.iload_n 2, 1) := by decide +kernel
theorem dX9_firstFault_43 : decode cX9_firstFault 43 = .ok (.ireturn, 1) := by decide +kernel
theorem dX9_goesOn_0 : decode cX9_goesOn 0 = .ok (.iload_n 0, 1) := by decide +kernel
theorem dX9_goesOn_1 : decode cX9_goesOn 1 = .ok (.iconst 3, 1) := by decide +kernel
theorem dX9_goesOn_2 : decode cX9_goesOn 2 = .ok (.irem, 1) := by decide +kernel
theorem dX9_goesOn_3 : decode cX9_goesOn 3 = .ok (.istore_n 2, 1) := by decide +kernel
theorem dX9_goesOn_4 : decode cX9_goesOn 4 = .ok (.iload_n 2, 1) := by decide +kernel
theorem dX9_goesOn_5 : decode cX9_goesOn 5 = .ok (.ifCond .ne 18, 3) := by decide +kernel
theorem dX9_goesOn_8 : decode cX9_goesOn 8 = .ok (.iload_n 1, 1) := by decide +kernel
theorem dX9_goesOn_9 : decode cX9_goesOn 9 = .ok (.invokestatic 321, 3) := by decide +kernel
theorem dX9_goesOn_12 : decode cX9_goesOn 12 = .ok (.bipush (-9), 2) := by decide +kernel
theorem dX9_goesOn_14 : decode cX9_goesOn 14 = .ok (.if_icmp .eq 7, 3) := by decide +kernel
theorem dX9_goesOn_17 : decode cX9_goesOn 17 = .ok (.iconst 1, 1) := by decide +kernel
theorem dX9_goesOn_18 : decode cX9_goesOn 18 = .ok (.goto 4, 3) := by decide +kernel
theorem dX9_goesOn_21 : decode cX9_goesOn 21 = .ok (.iconst 0, 1) := by decide +kernel
theorem dX9_goesOn_22 : decode cX9_goesOn 22 = .ok (.ireturn, 1) := by decide +kernel
theorem dX9_goesOn_23 : decode cX9_goesOn 23 = .ok (.iload_n 2, 1) := by decide +kernel
theorem dX9_goesOn_24 : decode cX9_goesOn 24 = .ok (.iconst 1, 1) := by decide +kernel
theorem dX9_goesOn_25 : decode cX9_goesOn 25 = .ok (.if_icmp .ne 21, 3) := by decide +kernel
theorem dX9_goesOn_28 : decode cX9_goesOn 28 = .ok (.iload_n 1, 1) := by decide +kernel
theorem dX9_goesOn_29 : decode cX9_goesOn 29 = .ok (.bipush 49, 2) := by decide +kernel
theorem dX9_goesOn_31 : decode cX9_goesOn 31 = .ok (.if_icmp .lt 13, 3) := by decide +kernel
theorem dX9_goesOn_34 : decode cX9_goesOn 34 = .ok (.iload_n 1, 1) := by decide +kernel
theorem dX9_goesOn_35 : decode cX9_goesOn 35 = .ok (.bipush 54, 2) := by decide +kernel
theorem dX9_goesOn_37 : decode cX9_goesOn 37 = .ok (.if_icmp .gt 7, 3) := by decide +kernel
theorem dX9_goesOn_40 : decode cX9_goesOn 40 = .ok (.iconst 1, 1) := by decide +kernel
theorem dX9_goesOn_41 : decode cX9_goesOn 41 = .ok (.goto 4, 3) := by decide +kernel
theorem dX9_goesOn_44 : decode cX9_goesOn 44 = .ok (.iconst 0, 1) := by decide +kernel
theorem dX9_goesOn_45 : decode cX9_goesOn 45 = .ok (.ireturn, 1) := by decide +kernel
theorem dX9_goesOn_46 : decode cX9_goesOn 46 = .ok (.iload_n 1, 1) := by decide +kernel
theorem dX9_goesOn_47 : decode cX9_goesOn 47 = .ok (.bipush 59, 2) := by decide +kernel
theorem dX9_goesOn_49 : decode cX9_goesOn 49 = .ok (.if_icmp .ne 13, 3) := by decide +kernel
theorem dX9_goesOn_52 : decode cX9_goesOn 52 = .ok (.iload_n 0, 1) := by decide +kernel
theorem dX9_goesOn_53 : decode cX9_goesOn 53 = .ok (.bipush 17, 2) := by decide +kernel
theorem dX9_goesOn_55 : decode cX9_goesOn 55 = .ok (.if_icmp .ge 7, 3) := by decide +kernel
theorem dX9_goesOn_58 : decode cX9_goesOn 58 = .ok (.iconst 1, 1) := by decide +kernel
theorem dX9_goesOn_59 : decode cX9_goesOn 59 = .ok (.goto 4, 3) := by decide +kernel
theorem dX9_goesOn_62 : decode cX9_goesOn 62 = .ok (.iconst 0, 1) := by decide +kernel
theorem dX9_goesOn_63 : decode cX9_goesOn 63 = .ok (.ireturn, 1) := by decide +kernel
theorem dX9_placeOf_0 : decode cX9_placeOf 0 = .ok (.iload_n 0, 1) := by decide +kernel
theorem dX9_placeOf_1 : decode cX9_placeOf 1 = .ok (.lookupswitch 41 #[(105, 39), (115, 35), (119, 37)], 35) := by decide +kernel
theorem dX9_placeOf_36 : decode cX9_placeOf 36 = .ok (.iconst 0, 1) := by decide +kernel
theorem dX9_placeOf_37 : decode cX9_placeOf 37 = .ok (.ireturn, 1) := by decide +kernel
theorem dX9_placeOf_38 : decode cX9_placeOf 38 = .ok (.iconst 1, 1) := by decide +kernel
theorem dX9_placeOf_39 : decode cX9_placeOf 39 = .ok (.ireturn, 1) := by decide +kernel
theorem dX9_placeOf_40 : decode cX9_placeOf 40 = .ok (.iconst 2, 1) := by decide +kernel
theorem dX9_placeOf_41 : decode cX9_placeOf 41 = .ok (.ireturn, 1) := by decide +kernel
theorem dX9_placeOf_42 : decode cX9_placeOf 42 = .ok (.bipush (-9), 2) := by decide +kernel
theorem dX9_placeOf_44 : decode cX9_placeOf 44 = .ok (.ireturn, 1) := by decide +kernel
theorem dX9_awaited_0 : decode cX9_awaited 0 = .ok (.lconst 0, 1) := by decide +kernel
theorem dX9_awaited_1 : decode cX9_awaited 1 = .ok (.lstore 5, 2) := by decide +kernel
theorem dX9_awaited_3 : decode cX9_awaited 3 = .ok (.iconst 0, 1) := by decide +kernel
theorem dX9_awaited_4 : decode cX9_awaited 4 = .ok (.istore 7, 2) := by decide +kernel
theorem dX9_awaited_6 : decode cX9_awaited 6 = .ok (.iload 7, 2) := by decide +kernel
theorem dX9_awaited_8 : decode cX9_awaited 8 = .ok (.iload_n 0, 1) := by decide +kernel
theorem dX9_awaited_9 : decode cX9_awaited 9 = .ok (.if_icmp .gt 67, 3) := by decide +kernel
theorem dX9_awaited_12 : decode cX9_awaited 12 = .ok (.iload_n 0, 1) := by decide +kernel
theorem dX9_awaited_13 : decode cX9_awaited 13 = .ok (.iload 7, 2) := by decide +kernel
theorem dX9_awaited_15 : decode cX9_awaited 15 = .ok (.invokestatic 324, 3) := by decide +kernel
theorem dX9_awaited_18 : decode cX9_awaited 18 = .ok (.iload_n 1, 1) := by decide +kernel
theorem dX9_awaited_19 : decode cX9_awaited 19 = .ok (.i2l, 1) := by decide +kernel
theorem dX9_awaited_20 : decode cX9_awaited 20 = .ok (.iload 7, 2) := by decide +kernel
theorem dX9_awaited_22 : decode cX9_awaited 22 = .ok (.invokestatic 256, 3) := by decide +kernel
theorem dX9_awaited_25 : decode cX9_awaited 25 = .ok (.lmul, 1) := by decide +kernel
theorem dX9_awaited_26 : decode cX9_awaited 26 = .ok (.bipush 100, 2) := by decide +kernel
theorem dX9_awaited_28 : decode cX9_awaited 28 = .ok (.iload_n 1, 1) := by decide +kernel
theorem dX9_awaited_29 : decode cX9_awaited 29 = .ok (.isub, 1) := by decide +kernel
theorem dX9_awaited_30 : decode cX9_awaited 30 = .ok (.i2l, 1) := by decide +kernel
theorem dX9_awaited_31 : decode cX9_awaited 31 = .ok (.iload_n 0, 1) := by decide +kernel
theorem dX9_awaited_32 : decode cX9_awaited 32 = .ok (.iload 7, 2) := by decide +kernel
theorem dX9_awaited_34 : decode cX9_awaited 34 = .ok (.isub, 1) := by decide +kernel
theorem dX9_awaited_35 : decode cX9_awaited 35 = .ok (.invokestatic 256, 3) := by decide +kernel
theorem dX9_awaited_38 : decode cX9_awaited 38 = .ok (.lmul, 1) := by decide +kernel
theorem dX9_awaited_39 : decode cX9_awaited 39 = .ok (.lstore 8, 2) := by decide +kernel
theorem dX9_awaited_41 : decode cX9_awaited 41 = .ok (.lload 5, 2) := by decide +kernel
theorem dX9_awaited_43 : decode cX9_awaited 43 = .ok (.lload 8, 2) := by decide +kernel
theorem dX9_awaited_45 : decode cX9_awaited 45 = .ok (.iload_n 3, 1) := by decide +kernel
theorem dX9_awaited_46 : decode cX9_awaited 46 = .ok (.iload 7, 2) := by decide +kernel
theorem dX9_awaited_48 : decode cX9_awaited 48 = .ok (.iload_n 2, 1) := by decide +kernel
theorem dX9_awaited_49 : decode cX9_awaited 49 = .ok (.invokestatic 214, 3) := by decide +kernel
theorem dX9_awaited_52 : decode cX9_awaited 52 = .ok (.imul, 1) := by decide +kernel
theorem dX9_awaited_53 : decode cX9_awaited 53 = .ok (.iload 4, 2) := by decide +kernel
theorem dX9_awaited_55 : decode cX9_awaited 55 = .ok (.iconst 0, 1) := by decide +kernel
theorem dX9_awaited_56 : decode cX9_awaited 56 = .ok (.iload 7, 2) := by decide +kernel
theorem dX9_awaited_58 : decode cX9_awaited 58 = .ok (.iload_n 2, 1) := by decide +kernel
theorem dX9_awaited_59 : decode cX9_awaited 59 = .ok (.isub, 1) := by decide +kernel
theorem dX9_awaited_60 : decode cX9_awaited 60 = .ok (.invokestatic 328, 3) := by decide +kernel
theorem dX9_awaited_63 : decode cX9_awaited 63 = .ok (.imul, 1) := by decide +kernel
theorem dX9_awaited_64 : decode cX9_awaited 64 = .ok (.isub, 1) := by decide +kernel
theorem dX9_awaited_65 : decode cX9_awaited 65 = .ok (.i2l, 1) := by decide +kernel
theorem dX9_awaited_66 : decode cX9_awaited 66 = .ok (.lmul, 1) := by decide +kernel
theorem dX9_awaited_67 : decode cX9_awaited 67 = .ok (.ladd, 1) := by decide +kernel
theorem dX9_awaited_68 : decode cX9_awaited 68 = .ok (.lstore 5, 2) := by decide +kernel
theorem dX9_awaited_70 : decode cX9_awaited 70 = .ok (.iinc 7 1, 3) := by decide +kernel
theorem dX9_awaited_73 : decode cX9_awaited 73 = .ok (.goto (-67), 3) := by decide +kernel
theorem dX9_awaited_76 : decode cX9_awaited 76 = .ok (.lload 5, 2) := by decide +kernel
theorem dX9_awaited_78 : decode cX9_awaited 78 = .ok (.lreturn, 1) := by decide +kernel
theorem dX9_choices_0 : decode cX9_choices 0 = .ok (.lconst 1, 1) := by decide +kernel
theorem dX9_choices_1 : decode cX9_choices 1 = .ok (.lstore_n 2, 1) := by decide +kernel
theorem dX9_choices_2 : decode cX9_choices 2 = .ok (.iconst 1, 1) := by decide +kernel
theorem dX9_choices_3 : decode cX9_choices 3 = .ok (.istore 4, 2) := by decide +kernel
theorem dX9_choices_5 : decode cX9_choices 5 = .ok (.iload 4, 2) := by decide +kernel
theorem dX9_choices_7 : decode cX9_choices 7 = .ok (.iload_n 1, 1) := by decide +kernel
theorem dX9_choices_8 : decode cX9_choices 8 = .ok (.if_icmp .gt 23, 3) := by decide +kernel
theorem dX9_choices_11 : decode cX9_choices 11 = .ok (.lload_n 2, 1) := by decide +kernel
theorem dX9_choices_12 : decode cX9_choices 12 = .ok (.iload_n 0, 1) := by decide +kernel
theorem dX9_choices_13 : decode cX9_choices 13 = .ok (.iload 4, 2) := by decide +kernel
theorem dX9_choices_15 : decode cX9_choices 15 = .ok (.isub, 1) := by decide +kernel
theorem dX9_choices_16 : decode cX9_choices 16 = .ok (.iconst 1, 1) := by decide +kernel
theorem dX9_choices_17 : decode cX9_choices 17 = .ok (.iadd, 1) := by decide +kernel
theorem dX9_choices_18 : decode cX9_choices 18 = .ok (.i2l, 1) := by decide +kernel
theorem dX9_choices_19 : decode cX9_choices 19 = .ok (.lmul, 1) := by decide +kernel
theorem dX9_choices_20 : decode cX9_choices 20 = .ok (.iload 4, 2) := by decide +kernel
theorem dX9_choices_22 : decode cX9_choices 22 = .ok (.i2l, 1) := by decide +kernel
theorem dX9_choices_23 : decode cX9_choices 23 = .ok (.ldiv, 1) := by decide +kernel
theorem dX9_choices_24 : decode cX9_choices 24 = .ok (.lstore_n 2, 1) := by decide +kernel
theorem dX9_choices_25 : decode cX9_choices 25 = .ok (.iinc 4 1, 3) := by decide +kernel
theorem dX9_choices_28 : decode cX9_choices 28 = .ok (.goto (-23), 3) := by decide +kernel
theorem dX9_choices_31 : decode cX9_choices 31 = .ok (.lload_n 2, 1) := by decide +kernel
theorem dX9_choices_32 : decode cX9_choices 32 = .ok (.lreturn, 1) := by decide +kernel
theorem dX9_power_0 : decode cX9_power 0 = .ok (.lconst 1, 1) := by decide +kernel
theorem dX9_power_1 : decode cX9_power 1 = .ok (.lstore_n 3, 1) := by decide +kernel
theorem dX9_power_2 : decode cX9_power 2 = .ok (.iconst 0, 1) := by decide +kernel
theorem dX9_power_3 : decode cX9_power 3 = .ok (.istore 5, 2) := by decide +kernel
theorem dX9_power_5 : decode cX9_power 5 = .ok (.iload 5, 2) := by decide +kernel
theorem dX9_power_7 : decode cX9_power 7 = .ok (.iload_n 2, 1) := by decide +kernel
theorem dX9_power_8 : decode cX9_power 8 = .ok (.if_icmp .ge 13, 3) := by decide +kernel
theorem dX9_power_11 : decode cX9_power 11 = .ok (.lload_n 3, 1) := by decide +kernel
theorem dX9_power_12 : decode cX9_power 12 = .ok (.lload_n 0, 1) := by decide +kernel
theorem dX9_power_13 : decode cX9_power 13 = .ok (.lmul, 1) := by decide +kernel
theorem dX9_power_14 : decode cX9_power 14 = .ok (.lstore_n 3, 1) := by decide +kernel
theorem dX9_power_15 : decode cX9_power 15 = .ok (.iinc 5 1, 3) := by decide +kernel
theorem dX9_power_18 : decode cX9_power 18 = .ok (.goto (-13), 3) := by decide +kernel
theorem dX9_power_21 : decode cX9_power 21 = .ok (.lload_n 3, 1) := by decide +kernel
theorem dX9_power_22 : decode cX9_power 22 = .ok (.lreturn, 1) := by decide +kernel
theorem dX9_commonDivisor_0 : decode cX9_commonDivisor 0 = .ok (.lload_n 0, 1) := by decide +kernel
theorem dX9_commonDivisor_1 : decode cX9_commonDivisor 1 = .ok (.lstore 4, 2) := by decide +kernel
theorem dX9_commonDivisor_3 : decode cX9_commonDivisor 3 = .ok (.lload_n 2, 1) := by decide +kernel
theorem dX9_commonDivisor_4 : decode cX9_commonDivisor 4 = .ok (.lstore 6, 2) := by decide +kernel
theorem dX9_commonDivisor_6 : decode cX9_commonDivisor 6 = .ok (.iconst 0, 1) := by decide +kernel
theorem dX9_commonDivisor_7 : decode cX9_commonDivisor 7 = .ok (.istore 8, 2) := by decide +kernel
theorem dX9_commonDivisor_9 : decode cX9_commonDivisor 9 = .ok (.iload 8, 2) := by decide +kernel
theorem dX9_commonDivisor_11 : decode cX9_commonDivisor 11 = .ok (.sipush 200, 3) := by decide +kernel
theorem dX9_commonDivisor_14 : decode cX9_commonDivisor 14 = .ok (.if_icmp .ge 31, 3) := by decide +kernel
theorem dX9_commonDivisor_17 : decode cX9_commonDivisor 17 = .ok (.lload 6, 2) := by decide +kernel
theorem dX9_commonDivisor_19 : decode cX9_commonDivisor 19 = .ok (.lconst 0, 1) := by decide +kernel
theorem dX9_commonDivisor_20 : decode cX9_commonDivisor 20 = .ok (.lcmp, 1) := by decide +kernel
theorem dX9_commonDivisor_21 : decode cX9_commonDivisor 21 = .ok (.ifCond .eq 24, 3) := by decide +kernel
theorem dX9_commonDivisor_24 : decode cX9_commonDivisor 24 = .ok (.lload 4, 2) := by decide +kernel
theorem dX9_commonDivisor_26 : decode cX9_commonDivisor 26 = .ok (.lload 6, 2) := by decide +kernel
theorem dX9_commonDivisor_28 : decode cX9_commonDivisor 28 = .ok (.lrem, 1) := by decide +kernel
theorem dX9_commonDivisor_29 : decode cX9_commonDivisor 29 = .ok (.lstore 9, 2) := by decide +kernel
theorem dX9_commonDivisor_31 : decode cX9_commonDivisor 31 = .ok (.lload 6, 2) := by decide +kernel
theorem dX9_commonDivisor_33 : decode cX9_commonDivisor 33 = .ok (.lstore 4, 2) := by decide +kernel
theorem dX9_commonDivisor_35 : decode cX9_commonDivisor 35 = .ok (.lload 9, 2) := by decide +kernel
theorem dX9_commonDivisor_37 : decode cX9_commonDivisor 37 = .ok (.lstore 6, 2) := by decide +kernel
theorem dX9_commonDivisor_39 : decode cX9_commonDivisor 39 = .ok (.iinc 8 1, 3) := by decide +kernel
theorem dX9_commonDivisor_42 : decode cX9_commonDivisor 42 = .ok (.goto (-33), 3) := by decide +kernel
theorem dX9_commonDivisor_45 : decode cX9_commonDivisor 45 = .ok (.lload 4, 2) := by decide +kernel
theorem dX9_commonDivisor_47 : decode cX9_commonDivisor 47 = .ok (.lreturn, 1) := by decide +kernel
theorem dJ9_abs_067f4_0 : decode cJ9_abs_067f4 0 = .ok (.lload_n 0, 1) := by decide +kernel
theorem dJ9_abs_067f4_1 : decode cJ9_abs_067f4 1 = .ok (.lconst 0, 1) := by decide +kernel
theorem dJ9_abs_067f4_2 : decode cJ9_abs_067f4 2 = .ok (.lcmp, 1) := by decide +kernel
theorem dJ9_abs_067f4_3 : decode cJ9_abs_067f4 3 = .ok (.ifCond .ge 8, 3) := by decide +kernel
theorem dJ9_abs_067f4_6 : decode cJ9_abs_067f4 6 = .ok (.lload_n 0, 1) := by decide +kernel
theorem dJ9_abs_067f4_7 : decode cJ9_abs_067f4 7 = .ok (.lneg, 1) := by decide +kernel
theorem dJ9_abs_067f4_8 : decode cJ9_abs_067f4 8 = .ok (.goto 4, 3) := by decide +kernel
theorem dJ9_abs_067f4_11 : decode cJ9_abs_067f4 11 = .ok (.lload_n 0, 1) := by decide +kernel
theorem dJ9_abs_067f4_12 : decode cJ9_abs_067f4 12 = .ok (.lreturn, 1) := by decide +kernel
theorem dJ9_max_7cf53_0 : decode cJ9_max_7cf53 0 = .ok (.iload_n 0, 1) := by decide +kernel
theorem dJ9_max_7cf53_1 : decode cJ9_max_7cf53 1 = .ok (.iload_n 1, 1) := by decide +kernel
theorem dJ9_max_7cf53_2 : decode cJ9_max_7cf53 2 = .ok (.if_icmp .lt 7, 3) := by decide +kernel
theorem dJ9_max_7cf53_5 : decode cJ9_max_7cf53 5 = .ok (.iload_n 0, 1) := by decide +kernel
theorem dJ9_max_7cf53_6 : decode cJ9_max_7cf53 6 = .ok (.goto 4, 3) := by decide +kernel
theorem dJ9_max_7cf53_9 : decode cJ9_max_7cf53 9 = .ok (.iload_n 1, 1) := by decide +kernel
theorem dJ9_max_7cf53_10 : decode cJ9_max_7cf53 10 = .ok (.ireturn, 1) := by decide +kernel
theorem dJ9_min_7cf53_0 : decode cJ9_min_7cf53 0 = .ok (.iload_n 0, 1) := by decide +kernel
theorem dJ9_min_7cf53_1 : decode cJ9_min_7cf53 1 = .ok (.iload_n 1, 1) := by decide +kernel
theorem dJ9_min_7cf53_2 : decode cJ9_min_7cf53 2 = .ok (.if_icmp .gt 7, 3) := by decide +kernel
theorem dJ9_min_7cf53_5 : decode cJ9_min_7cf53 5 = .ok (.iload_n 0, 1) := by decide +kernel
theorem dJ9_min_7cf53_6 : decode cJ9_min_7cf53 6 = .ok (.goto 4, 3) := by decide +kernel
theorem dJ9_min_7cf53_9 : decode cJ9_min_7cf53 9 = .ok (.iload_n 1, 1) := by decide +kernel
theorem dJ9_min_7cf53_10 : decode cJ9_min_7cf53 10 = .ok (.ireturn, 1) := by decide +kernel
theorem dJ7_fill_53178_0 : decode cJ7_fill_53178 0 = .ok (.iconst 0, 1) := by decide +kernel
theorem dJ7_fill_53178_1 : decode cJ7_fill_53178 1 = .ok (.istore_n 2, 1) := by decide +kernel
theorem dJ7_fill_53178_2 : decode cJ7_fill_53178 2 = .ok (.aload_n 0, 1) := by decide +kernel
theorem dJ7_fill_53178_3 : decode cJ7_fill_53178 3 = .ok (.arraylength, 1) := by decide +kernel
theorem dJ7_fill_53178_4 : decode cJ7_fill_53178 4 = .ok (.istore_n 3, 1) := by decide +kernel
theorem dJ7_fill_53178_5 : decode cJ7_fill_53178 5 = .ok (.iload_n 2, 1) := by decide +kernel
theorem dJ7_fill_53178_6 : decode cJ7_fill_53178 6 = .ok (.iload_n 3, 1) := by decide +kernel
theorem dJ7_fill_53178_7 : decode cJ7_fill_53178 7 = .ok (.if_icmp .ge 13, 3) := by decide +kernel
theorem dJ7_fill_53178_10 : decode cJ7_fill_53178 10 = .ok (.aload_n 0, 1) := by decide +kernel
theorem dJ7_fill_53178_11 : decode cJ7_fill_53178 11 = .ok (.iload_n 2, 1) := by decide +kernel
theorem dJ7_fill_53178_12 : decode cJ7_fill_53178 12 = .ok (.iload_n 1, 1) := by decide +kernel
theorem dJ7_fill_53178_13 : decode cJ7_fill_53178 13 = .ok (.iastore, 1) := by decide +kernel
theorem dJ7_fill_53178_14 : decode cJ7_fill_53178 14 = .ok (.iinc 2 1, 3) := by decide +kernel
theorem dJ7_fill_53178_17 : decode cJ7_fill_53178 17 = .ok (.goto (-12), 3) := by decide +kernel
theorem dJ7_fill_53178_20 : decode cJ7_fill_53178 20 = .ok (.return_, 1) := by decide +kernel
