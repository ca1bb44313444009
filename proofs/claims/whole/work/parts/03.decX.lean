theorem d_AR_fill_0 : decode b_AR_fill 0 = .ok (.iconst 0, 1) := by decide +kernel
theorem d_AR_fill_1 : decode b_AR_fill 1 = .ok (.istore_n 2, 1) := by decide +kernel
theorem d_AR_fill_2 : decode b_AR_fill 2 = .ok (.aload_n 0, 1) := by decide +kernel
theorem d_AR_fill_3 : decode b_AR_fill 3 = .ok (.arraylength, 1) := by decide +kernel
theorem d_AR_fill_4 : decode b_AR_fill 4 = .ok (.istore_n 3, 1) := by decide +kernel
theorem d_AR_fill_5 : decode b_AR_fill 5 = .ok (.iload_n 2, 1) := by decide +kernel
theorem d_AR_fill_6 : decode b_AR_fill 6 = .ok (.iload_n 3, 1) := by decide +kernel
theorem d_AR_fill_7 : decode b_AR_fill 7 = .ok (.if_icmp .ge 13, 3) := by decide +kernel
theorem d_AR_fill_10 : decode b_AR_fill 10 = .ok (.aload_n 0, 1) := by decide +kernel
theorem d_AR_fill_11 : decode b_AR_fill 11 = .ok (.iload_n 2, 1) := by decide +kernel
theorem d_AR_fill_12 : decode b_AR_fill 12 = .ok (.iload_n 1, 1) := by decide +kernel
theorem d_AR_fill_13 : decode b_AR_fill 13 = .ok (.iastore, 1) := by decide +kernel
theorem d_AR_fill_14 : decode b_AR_fill 14 = .ok (.iinc 2 1, 3) := by decide +kernel
theorem d_AR_fill_17 : decode b_AR_fill 17 = .ok (.goto (-12), 3) := by decide +kernel
theorem d_AR_fill_20 : decode b_AR_fill 20 = .ok (.return_, 1) := by decide +kernel
theorem d_LY_reset_0 : decode b_LY_reset 0 = .ok (.aload_n 0, 1) := by decide +kernel
theorem d_LY_reset_1 : decode b_LY_reset 1 = .ok (.iload_n 1, 1) := by decide +kernel
theorem d_LY_reset_2 : decode b_LY_reset 2 = .ok (.putfield 30, 3) := by decide +kernel
theorem d_LY_reset_5 : decode b_LY_reset 5 = .ok (.aload_n 0, 1) := by decide +kernel
theorem d_LY_reset_6 : decode b_LY_reset 6 = .ok (.getfield 9, 3) := by decide +kernel
theorem d_LY_reset_9 : decode b_LY_reset 9 = .ok (.iconst 0, 1) := by decide +kernel
theorem d_LY_reset_10 : decode b_LY_reset 10 = .ok (.invokestatic 34, 3) := by decide +kernel
theorem d_LY_reset_13 : decode b_LY_reset 13 = .ok (.aload_n 0, 1) := by decide +kernel
theorem d_LY_reset_14 : decode b_LY_reset 14 = .ok (.getfield 15, 3) := by decide +kernel
theorem d_LY_reset_17 : decode b_LY_reset 17 = .ok (.sipush 500, 3) := by decide +kernel
theorem d_LY_reset_20 : decode b_LY_reset 20 = .ok (.invokestatic 34, 3) := by decide +kernel
theorem d_LY_reset_23 : decode b_LY_reset 23 = .ok (.aload_n 0, 1) := by decide +kernel
theorem d_LY_reset_24 : decode b_LY_reset 24 = .ok (.getfield 18, 3) := by decide +kernel
theorem d_LY_reset_27 : decode b_LY_reset 27 = .ok (.bipush 10, 2) := by decide +kernel
theorem d_LY_reset_29 : decode b_LY_reset 29 = .ok (.invokestatic 34, 3) := by decide +kernel
theorem d_LY_reset_32 : decode b_LY_reset 32 = .ok (.iconst 0, 1) := by decide +kernel
theorem d_LY_reset_33 : decode b_LY_reset 33 = .ok (.istore_n 2, 1) := by decide +kernel
theorem d_LY_reset_34 : decode b_LY_reset 34 = .ok (.iload_n 2, 1) := by decide +kernel
theorem d_LY_reset_35 : decode b_LY_reset 35 = .ok (.bipush 7, 2) := by decide +kernel
theorem d_LY_reset_37 : decode b_LY_reset 37 = .ok (.if_icmp .ge 19, 3) := by decide +kernel
theorem d_LY_reset_40 : decode b_LY_reset 40 = .ok (.aload_n 0, 1) := by decide +kernel
theorem d_LY_reset_41 : decode b_LY_reset 41 = .ok (.getfield 23, 3) := by decide +kernel
theorem d_LY_reset_44 : decode b_LY_reset 44 = .ok (.iload_n 2, 1) := by decide +kernel
theorem d_LY_reset_45 : decode b_LY_reset 45 = .ok (.aaload, 1) := by decide +kernel
theorem d_LY_reset_46 : decode b_LY_reset 46 = .ok (.iconst 0, 1) := by decide +kernel
theorem d_LY_reset_47 : decode b_LY_reset 47 = .ok (.invokestatic 34, 3) := by decide +kernel
theorem d_LY_reset_50 : decode b_LY_reset 50 = .ok (.iinc 2 1, 3) := by decide +kernel
theorem d_LY_reset_53 : decode b_LY_reset 53 = .ok (.goto (-19), 3) := by decide +kernel
theorem d_LY_reset_56 : decode b_LY_reset 56 = .ok (.return_, 1) := by decide +kernel
theorem d_LY_hasTank_0 : decode b_LY_hasTank 0 = .ok (.iconst 1, 1) := by decide +kernel
theorem d_LY_hasTank_1 : decode b_LY_hasTank 1 = .ok (.iload_n 1, 1) := by decide +kernel
theorem d_LY_hasTank_2 : decode b_LY_hasTank 2 = .ok (.if_icmp .gt 15, 3) := by decide +kernel
theorem d_LY_hasTank_5 : decode b_LY_hasTank 5 = .ok (.iload_n 1, 1) := by decide +kernel
theorem d_LY_hasTank_6 : decode b_LY_hasTank 6 = .ok (.aload_n 0, 1) := by decide +kernel
theorem d_LY_hasTank_7 : decode b_LY_hasTank 7 = .ok (.getfield 30, 3) := by decide +kernel
theorem d_LY_hasTank_10 : decode b_LY_hasTank 10 = .ok (.if_icmp .gt 7, 3) := by decide +kernel
theorem d_LY_hasTank_13 : decode b_LY_hasTank 13 = .ok (.iconst 1, 1) := by decide +kernel
theorem d_LY_hasTank_14 : decode b_LY_hasTank 14 = .ok (.goto 4, 3) := by decide +kernel
theorem d_LY_hasTank_17 : decode b_LY_hasTank 17 = .ok (.iconst 0, 1) := by decide +kernel
theorem d_LY_hasTank_18 : decode b_LY_hasTank 18 = .ok (.ireturn, 1) := by decide +kernel
theorem d_LY_hasMove_0 : decode b_LY_hasMove 0 = .ok (.iconst 0, 1) := by decide +kernel
theorem d_LY_hasMove_1 : decode b_LY_hasMove 1 = .ok (.iload_n 1, 1) := by decide +kernel
theorem d_LY_hasMove_2 : decode b_LY_hasMove 2 = .ok (.if_icmp .gt 15, 3) := by decide +kernel
theorem d_LY_hasMove_5 : decode b_LY_hasMove 5 = .ok (.iload_n 1, 1) := by decide +kernel
theorem d_LY_hasMove_6 : decode b_LY_hasMove 6 = .ok (.aload_n 0, 1) := by decide +kernel
theorem d_LY_hasMove_7 : decode b_LY_hasMove 7 = .ok (.getfield 30, 3) := by decide +kernel
theorem d_LY_hasMove_10 : decode b_LY_hasMove 10 = .ok (.if_icmp .gt 7, 3) := by decide +kernel
theorem d_LY_hasMove_13 : decode b_LY_hasMove 13 = .ok (.iconst 1, 1) := by decide +kernel
theorem d_LY_hasMove_14 : decode b_LY_hasMove 14 = .ok (.goto 4, 3) := by decide +kernel
theorem d_LY_hasMove_17 : decode b_LY_hasMove 17 = .ok (.iconst 0, 1) := by decide +kernel
theorem d_LY_hasMove_18 : decode b_LY_hasMove 18 = .ok (.ireturn, 1) := by decide +kernel
theorem d_LY_hasPlace_0 : decode b_LY_hasPlace 0 = .ok (.iconst 0, 1) := by decide +kernel
theorem d_LY_hasPlace_1 : decode b_LY_hasPlace 1 = .ok (.iload_n 1, 1) := by decide +kernel
theorem d_LY_hasPlace_2 : decode b_LY_hasPlace 2 = .ok (.if_icmp .gt 17, 3) := by decide +kernel
theorem d_LY_hasPlace_5 : decode b_LY_hasPlace 5 = .ok (.iload_n 1, 1) := by decide +kernel
theorem d_LY_hasPlace_6 : decode b_LY_hasPlace 6 = .ok (.aload_n 0, 1) := by decide +kernel
theorem d_LY_hasPlace_7 : decode b_LY_hasPlace 7 = .ok (.getfield 30, 3) := by decide +kernel
theorem d_LY_hasPlace_10 : decode b_LY_hasPlace 10 = .ok (.iconst 1, 1) := by decide +kernel
theorem d_LY_hasPlace_11 : decode b_LY_hasPlace 11 = .ok (.iadd, 1) := by decide +kernel
theorem d_LY_hasPlace_12 : decode b_LY_hasPlace 12 = .ok (.if_icmp .gt 7, 3) := by decide +kernel
theorem d_LY_hasPlace_15 : decode b_LY_hasPlace 15 = .ok (.iconst 1, 1) := by decide +kernel
theorem d_LY_hasPlace_16 : decode b_LY_hasPlace 16 = .ok (.goto 4, 3) := by decide +kernel
theorem d_LY_hasPlace_19 : decode b_LY_hasPlace 19 = .ok (.iconst 0, 1) := by decide +kernel
theorem d_LY_hasPlace_20 : decode b_LY_hasPlace 20 = .ok (.ireturn, 1) := by decide +kernel
theorem d_LY_slowEmptyWay_0 : decode b_LY_slowEmptyWay 0 = .ok (.iconst 0, 1) := by decide +kernel
theorem d_LY_slowEmptyWay_1 : decode b_LY_slowEmptyWay 1 = .ok (.istore_n 1, 1) := by decide +kernel
theorem d_LY_slowEmptyWay_2 : decode b_LY_slowEmptyWay 2 = .ok (.iload_n 1, 1) := by decide +kernel
theorem d_LY_slowEmptyWay_3 : decode b_LY_slowEmptyWay 3 = .ok (.aload_n 0, 1) := by decide +kernel
theorem d_LY_slowEmptyWay_4 : decode b_LY_slowEmptyWay 4 = .ok (.getfield 30, 3) := by decide +kernel
theorem d_LY_slowEmptyWay_7 : decode b_LY_slowEmptyWay 7 = .ok (.if_icmp .gt 32, 3) := by decide +kernel
theorem d_LY_slowEmptyWay_10 : decode b_LY_slowEmptyWay 10 = .ok (.aload_n 0, 1) := by decide +kernel
theorem d_LY_slowEmptyWay_11 : decode b_LY_slowEmptyWay 11 = .ok (.getfield 23, 3) := by decide +kernel
theorem d_LY_slowEmptyWay_14 : decode b_LY_slowEmptyWay 14 = .ok (.iload_n 1, 1) := by decide +kernel
theorem d_LY_slowEmptyWay_15 : decode b_LY_slowEmptyWay 15 = .ok (.aaload, 1) := by decide +kernel
theorem d_LY_slowEmptyWay_16 : decode b_LY_slowEmptyWay 16 = .ok (.iload_n 1, 1) := by decide +kernel
theorem d_LY_slowEmptyWay_17 : decode b_LY_slowEmptyWay 17 = .ok (.iconst 1, 1) := by decide +kernel
theorem d_LY_slowEmptyWay_18 : decode b_LY_slowEmptyWay 18 = .ok (.iadd, 1) := by decide +kernel
theorem d_LY_slowEmptyWay_19 : decode b_LY_slowEmptyWay 19 = .ok (.iaload, 1) := by decide +kernel
theorem d_LY_slowEmptyWay_20 : decode b_LY_slowEmptyWay 20 = .ok (.aload_n 0, 1) := by decide +kernel
theorem d_LY_slowEmptyWay_21 : decode b_LY_slowEmptyWay 21 = .ok (.getfield 18, 3) := by decide +kernel
theorem d_LY_slowEmptyWay_24 : decode b_LY_slowEmptyWay 24 = .ok (.iload_n 1, 1) := by decide +kernel
theorem d_LY_slowEmptyWay_25 : decode b_LY_slowEmptyWay 25 = .ok (.iaload, 1) := by decide +kernel
theorem d_LY_slowEmptyWay_26 : decode b_LY_slowEmptyWay 26 = .ok (.if_icmp .le 7, 3) := by decide +kernel
theorem d_LY_slowEmptyWay_29 : decode b_LY_slowEmptyWay 29 = .ok (.iconst 1, 1) := by decide +kernel
theorem d_LY_slowEmptyWay_30 : decode b_LY_slowEmptyWay 30 = .ok (.iload_n 1, 1) := by decide +kernel
theorem d_LY_slowEmptyWay_31 : decode b_LY_slowEmptyWay 31 = .ok (.iadd, 1) := by decide +kernel
theorem d_LY_slowEmptyWay_32 : decode b_LY_slowEmptyWay 32 = .ok (.ireturn, 1) := by decide +kernel
theorem d_LY_slowEmptyWay_33 : decode b_LY_slowEmptyWay 33 = .ok (.iinc 1 1, 3) := by decide +kernel
theorem d_LY_slowEmptyWay_36 : decode b_LY_slowEmptyWay 36 = .ok (.goto (-34), 3) := by decide +kernel
theorem d_LY_slowEmptyWay_39 : decode b_LY_slowEmptyWay 39 = .ok (.iconst 0, 1) := by decide +kernel
theorem d_LY_slowEmptyWay_40 : decode b_LY_slowEmptyWay 40 = .ok (.ireturn, 1) := by decide +kernel
theorem d_LY_roundaboutWay_0 : decode b_LY_roundaboutWay 0 = .ok (.iconst 0, 1) := by decide +kernel
theorem d_LY_roundaboutWay_1 : decode b_LY_roundaboutWay 1 = .ok (.istore_n 1, 1) := by decide +kernel
theorem d_LY_roundaboutWay_2 : decode b_LY_roundaboutWay 2 = .ok (.iload_n 1, 1) := by decide +kernel
theorem d_LY_roundaboutWay_3 : decode b_LY_roundaboutWay 3 = .ok (.aload_n 0, 1) := by decide +kernel
theorem d_LY_roundaboutWay_4 : decode b_LY_roundaboutWay 4 = .ok (.getfield 30, 3) := by decide +kernel
theorem d_LY_roundaboutWay_7 : decode b_LY_roundaboutWay 7 = .ok (.iconst 1, 1) := by decide +kernel
theorem d_LY_roundaboutWay_8 : decode b_LY_roundaboutWay 8 = .ok (.iadd, 1) := by decide +kernel
theorem d_LY_roundaboutWay_9 : decode b_LY_roundaboutWay 9 = .ok (.if_icmp .gt 88, 3) := by decide +kernel
theorem d_LY_roundaboutWay_12 : decode b_LY_roundaboutWay 12 = .ok (.iconst 0, 1) := by decide +kernel
theorem d_LY_roundaboutWay_13 : decode b_LY_roundaboutWay 13 = .ok (.istore_n 2, 1) := by decide +kernel
theorem d_LY_roundaboutWay_14 : decode b_LY_roundaboutWay 14 = .ok (.iload_n 2, 1) := by decide +kernel
theorem d_LY_roundaboutWay_15 : decode b_LY_roundaboutWay 15 = .ok (.aload_n 0, 1) := by decide +kernel
theorem d_LY_roundaboutWay_16 : decode b_LY_roundaboutWay 16 = .ok (.getfield 30, 3) := by decide +kernel
theorem d_LY_roundaboutWay_19 : decode b_LY_roundaboutWay 19 = .ok (.iconst 1, 1) := by decide +kernel
theorem d_LY_roundaboutWay_20 : decode b_LY_roundaboutWay 20 = .ok (.iadd, 1) := by decide +kernel
theorem d_LY_roundaboutWay_21 : decode b_LY_roundaboutWay 21 = .ok (.if_icmp .gt 70, 3) := by decide +kernel
theorem d_LY_roundaboutWay_24 : decode b_LY_roundaboutWay 24 = .ok (.iconst 0, 1) := by decide +kernel
theorem d_LY_roundaboutWay_25 : decode b_LY_roundaboutWay 25 = .ok (.istore_n 3, 1) := by decide +kernel
theorem d_LY_roundaboutWay_26 : decode b_LY_roundaboutWay 26 = .ok (.iload_n 3, 1) := by decide +kernel
theorem d_LY_roundaboutWay_27 : decode b_LY_roundaboutWay 27 = .ok (.aload_n 0, 1) := by decide +kernel
theorem d_LY_roundaboutWay_28 : decode b_LY_roundaboutWay 28 = .ok (.getfield 30, 3) := by decide +kernel
theorem d_LY_roundaboutWay_31 : decode b_LY_roundaboutWay 31 = .ok (.iconst 1, 1) := by decide +kernel
theorem d_LY_roundaboutWay_32 : decode b_LY_roundaboutWay 32 = .ok (.iadd, 1) := by decide +kernel
theorem d_LY_roundaboutWay_33 : decode b_LY_roundaboutWay 33 = .ok (.if_icmp .gt 52, 3) := by decide +kernel
theorem d_LY_roundaboutWay_36 : decode b_LY_roundaboutWay 36 = .ok (.aload_n 0, 1) := by decide +kernel
theorem d_LY_roundaboutWay_37 : decode b_LY_roundaboutWay 37 = .ok (.getfield 23, 3) := by decide +kernel
theorem d_LY_roundaboutWay_40 : decode b_LY_roundaboutWay 40 = .ok (.iload_n 1, 1) := by decide +kernel
theorem d_LY_roundaboutWay_41 : decode b_LY_roundaboutWay 41 = .ok (.aaload, 1) := by decide +kernel
theorem d_LY_roundaboutWay_42 : decode b_LY_roundaboutWay 42 = .ok (.iload_n 3, 1) := by decide +kernel
theorem d_LY_roundaboutWay_43 : decode b_LY_roundaboutWay 43 = .ok (.iaload, 1) := by decide +kernel
theorem d_LY_roundaboutWay_44 : decode b_LY_roundaboutWay 44 = .ok (.aload_n 0, 1) := by decide +kernel
theorem d_LY_roundaboutWay_45 : decode b_LY_roundaboutWay 45 = .ok (.getfield 23, 3) := by decide +kernel
theorem d_LY_roundaboutWay_48 : decode b_LY_roundaboutWay 48 = .ok (.iload_n 1, 1) := by decide +kernel
theorem d_LY_roundaboutWay_49 : decode b_LY_roundaboutWay 49 = .ok (.aaload, 1) := by decide +kernel
theorem d_LY_roundaboutWay_50 : decode b_LY_roundaboutWay 50 = .ok (.iload_n 2, 1) := by decide +kernel
theorem d_LY_roundaboutWay_51 : decode b_LY_roundaboutWay 51 = .ok (.iaload, 1) := by decide +kernel
theorem d_LY_roundaboutWay_52 : decode b_LY_roundaboutWay 52 = .ok (.aload_n 0, 1) := by decide +kernel
theorem d_LY_roundaboutWay_53 : decode b_LY_roundaboutWay 53 = .ok (.getfield 23, 3) := by decide +kernel
theorem d_LY_roundaboutWay_56 : decode b_LY_roundaboutWay 56 = .ok (.iload_n 2, 1) := by decide +kernel
theorem d_LY_roundaboutWay_57 : decode b_LY_roundaboutWay 57 = .ok (.aaload, 1) := by decide +kernel
theorem d_LY_roundaboutWay_58 : decode b_LY_roundaboutWay 58 = .ok (.iload_n 3, 1) := by decide +kernel
theorem d_LY_roundaboutWay_59 : decode b_LY_roundaboutWay 59 = .ok (.iaload, 1) := by decide +kernel
theorem d_LY_roundaboutWay_60 : decode b_LY_roundaboutWay 60 = .ok (.iadd, 1) := by decide +kernel
theorem d_LY_roundaboutWay_61 : decode b_LY_roundaboutWay 61 = .ok (.if_icmp .le 18, 3) := by decide +kernel
theorem d_LY_roundaboutWay_64 : decode b_LY_roundaboutWay 64 = .ok (.bipush 100, 2) := by decide +kernel
theorem d_LY_roundaboutWay_66 : decode b_LY_roundaboutWay 66 = .ok (.bipush 49, 2) := by decide +kernel
theorem d_LY_roundaboutWay_68 : decode b_LY_roundaboutWay 68 = .ok (.iload_n 1, 1) := by decide +kernel
theorem d_LY_roundaboutWay_69 : decode b_LY_roundaboutWay 69 = .ok (.imul, 1) := by decide +kernel
theorem d_LY_roundaboutWay_70 : decode b_LY_roundaboutWay 70 = .ok (.iadd, 1) := by decide +kernel
theorem d_LY_roundaboutWay_71 : decode b_LY_roundaboutWay 71 = .ok (.bipush 7, 2) := by decide +kernel
theorem d_LY_roundaboutWay_73 : decode b_LY_roundaboutWay 73 = .ok (.iload_n 2, 1) := by decide +kernel
theorem d_LY_roundaboutWay_74 : decode b_LY_roundaboutWay 74 = .ok (.imul, 1) := by decide +kernel
theorem d_LY_roundaboutWay_75 : decode b_LY_roundaboutWay 75 = .ok (.iadd, 1) := by decide +kernel
theorem d_LY_roundaboutWay_76 : decode b_LY_roundaboutWay 76 = .ok (.iload_n 3, 1) := by decide +kernel
theorem d_LY_roundaboutWay_77 : decode b_LY_roundaboutWay 77 = .ok (.iadd, 1) := by decide +kernel
theorem d_LY_roundaboutWay_78 : decode b_LY_roundaboutWay 78 = .ok (.ireturn, 1) := by decide +kernel
theorem d_LY_roundaboutWay_79 : decode b_LY_roundaboutWay 79 = .ok (.iinc 3 1, 3) := by decide +kernel
theorem d_LY_roundaboutWay_82 : decode b_LY_roundaboutWay 82 = .ok (.goto (-56), 3) := by decide +kernel
theorem d_LY_roundaboutWay_85 : decode b_LY_roundaboutWay 85 = .ok (.iinc 2 1, 3) := by decide +kernel
theorem d_LY_roundaboutWay_88 : decode b_LY_roundaboutWay 88 = .ok (.goto (-74), 3) := by decide +kernel
theorem d_LY_roundaboutWay_91 : decode b_LY_roundaboutWay 91 = .ok (.iinc 1 1, 3) := by decide +kernel
theorem d_LY_roundaboutWay_94 : decode b_LY_roundaboutWay 94 = .ok (.goto (-92), 3) := by decide +kernel
theorem d_LY_roundaboutWay_97 : decode b_LY_roundaboutWay 97 = .ok (.iconst 0, 1) := by decide +kernel
theorem d_LY_roundaboutWay_98 : decode b_LY_roundaboutWay 98 = .ok (.ireturn, 1) := by decide +kernel
theorem d_LY_fault_0 : decode b_LY_fault 0 = .ok (.aload_n 0, 1) := by decide +kernel
theorem d_LY_fault_1 : decode b_LY_fault 1 = .ok (.invokevirtual 40, 3) := by decide +kernel
theorem d_LY_fault_4 : decode b_LY_fault 4 = .ok (.istore_n 1, 1) := by decide +kernel
theorem d_LY_fault_5 : decode b_LY_fault 5 = .ok (.iload_n 1, 1) := by decide +kernel
theorem d_LY_fault_6 : decode b_LY_fault 6 = .ok (.ifCond .eq 7, 3) := by decide +kernel
theorem d_LY_fault_9 : decode b_LY_fault 9 = .ok (.iload_n 1, 1) := by decide +kernel
theorem d_LY_fault_10 : decode b_LY_fault 10 = .ok (.goto 7, 3) := by decide +kernel
theorem d_LY_fault_13 : decode b_LY_fault 13 = .ok (.aload_n 0, 1) := by decide +kernel
theorem d_LY_fault_14 : decode b_LY_fault 14 = .ok (.invokevirtual 44, 3) := by decide +kernel
theorem d_LY_fault_17 : decode b_LY_fault 17 = .ok (.ireturn, 1) := by decide +kernel
theorem d_OR_rankMoves_0 : decode b_OR_rankMoves 0 = .ok (.iconst 0, 1) := by decide +kernel
theorem d_OR_rankMoves_1 : decode b_OR_rankMoves 1 = .ok (.istore_n 1, 1) := by decide +kernel
theorem d_OR_rankMoves_2 : decode b_OR_rankMoves 2 = .ok (.iload_n 1, 1) := by decide +kernel
theorem d_OR_rankMoves_3 : decode b_OR_rankMoves 3 = .ok (.aload_n 0, 1) := by decide +kernel
theorem d_OR_rankMoves_4 : decode b_OR_rankMoves 4 = .ok (.getfield 18, 3) := by decide +kernel
theorem d_OR_rankMoves_7 : decode b_OR_rankMoves 7 = .ok (.if_icmp .ge 21, 3) := by decide +kernel
theorem d_OR_rankMoves_10 : decode b_OR_rankMoves 10 = .ok (.aload_n 0, 1) := by decide +kernel
theorem d_OR_rankMoves_11 : decode b_OR_rankMoves 11 = .ok (.getfield 15, 3) := by decide +kernel
theorem d_OR_rankMoves_14 : decode b_OR_rankMoves 14 = .ok (.aload_n 0, 1) := by decide +kernel
theorem d_OR_rankMoves_15 : decode b_OR_rankMoves 15 = .ok (.getfield 9, 3) := by decide +kernel
theorem d_OR_rankMoves_18 : decode b_OR_rankMoves 18 = .ok (.iload_n 1, 1) := by decide +kernel
theorem d_OR_rankMoves_19 : decode b_OR_rankMoves 19 = .ok (.iaload, 1) := by decide +kernel
theorem d_OR_rankMoves_20 : decode b_OR_rankMoves 20 = .ok (.iload_n 1, 1) := by decide +kernel
theorem d_OR_rankMoves_21 : decode b_OR_rankMoves 21 = .ok (.iastore, 1) := by decide +kernel
theorem d_OR_rankMoves_22 : decode b_OR_rankMoves 22 = .ok (.iinc 1 1, 3) := by decide +kernel
theorem d_OR_rankMoves_25 : decode b_OR_rankMoves 25 = .ok (.goto (-23), 3) := by decide +kernel
theorem d_OR_rankMoves_28 : decode b_OR_rankMoves 28 = .ok (.return_, 1) := by decide +kernel
theorem d_OR_swap_0 : decode b_OR_swap 0 = .ok (.aload_n 0, 1) := by decide +kernel
theorem d_OR_swap_1 : decode b_OR_swap 1 = .ok (.getfield 9, 3) := by decide +kernel
theorem d_OR_swap_4 : decode b_OR_swap 4 = .ok (.iload_n 1, 1) := by decide +kernel
theorem d_OR_swap_5 : decode b_OR_swap 5 = .ok (.iaload, 1) := by decide +kernel
theorem d_OR_swap_6 : decode b_OR_swap 6 = .ok (.istore_n 3, 1) := by decide +kernel
theorem d_OR_swap_7 : decode b_OR_swap 7 = .ok (.aload_n 0, 1) := by decide +kernel
theorem d_OR_swap_8 : decode b_OR_swap 8 = .ok (.getfield 9, 3) := by decide +kernel
theorem d_OR_swap_11 : decode b_OR_swap 11 = .ok (.iload_n 1, 1) := by decide +kernel
theorem d_OR_swap_12 : decode b_OR_swap 12 = .ok (.aload_n 0, 1) := by decide +kernel
theorem d_OR_swap_13 : decode b_OR_swap 13 = .ok (.getfield 9, 3) := by decide +kernel
theorem d_OR_swap_16 : decode b_OR_swap 16 = .ok (.iload_n 2, 1) := by decide +kernel
theorem d_OR_swap_17 : decode b_OR_swap 17 = .ok (.iaload, 1) := by decide +kernel
theorem d_OR_swap_18 : decode b_OR_swap 18 = .ok (.iastore, 1) := by decide +kernel
theorem d_OR_swap_19 : decode b_OR_swap 19 = .ok (.aload_n 0, 1) := by decide +kernel
theorem d_OR_swap_20 : decode b_OR_swap 20 = .ok (.getfield 9, 3) := by decide +kernel
theorem d_OR_swap_23 : decode b_OR_swap 23 = .ok (.iload_n 2, 1) := by decide +kernel
theorem d_OR_swap_24 : decode b_OR_swap 24 = .ok (.iload_n 3, 1) := by decide +kernel
theorem d_OR_swap_25 : decode b_OR_swap 25 = .ok (.iastore, 1) := by decide +kernel
theorem d_OR_swap_26 : decode b_OR_swap 26 = .ok (.return_, 1) := by decide +kernel
theorem d_OR_reverseFrom_0 : decode b_OR_reverseFrom 0 = .ok (.aload_n 0, 1) := by decide +kernel
theorem d_OR_reverseFrom_1 : decode b_OR_reverseFrom 1 = .ok (.getfield 18, 3) := by decide +kernel
theorem d_OR_reverseFrom_4 : decode b_OR_reverseFrom 4 = .ok (.iconst 1, 1) := by decide +kernel
theorem d_OR_reverseFrom_5 : decode b_OR_reverseFrom 5 = .ok (.isub, 1) := by decide +kernel
theorem d_OR_reverseFrom_6 : decode b_OR_reverseFrom 6 = .ok (.istore_n 2, 1) := by decide +kernel
theorem d_OR_reverseFrom_7 : decode b_OR_reverseFrom 7 = .ok (.iload_n 1, 1) := by decide +kernel
theorem d_OR_reverseFrom_8 : decode b_OR_reverseFrom 8 = .ok (.istore_n 3, 1) := by decide +kernel
theorem d_OR_reverseFrom_9 : decode b_OR_reverseFrom 9 = .ok (.iload_n 3, 1) := by decide +kernel
theorem d_OR_reverseFrom_10 : decode b_OR_reverseFrom 10 = .ok (.iload_n 2, 1) := by decide +kernel
theorem d_OR_reverseFrom_11 : decode b_OR_reverseFrom 11 = .ok (.if_icmp .ge 18, 3) := by decide +kernel
theorem d_OR_reverseFrom_14 : decode b_OR_reverseFrom 14 = .ok (.aload_n 0, 1) := by decide +kernel
theorem d_OR_reverseFrom_15 : decode b_OR_reverseFrom 15 = .ok (.iload_n 3, 1) := by decide +kernel
theorem d_OR_reverseFrom_16 : decode b_OR_reverseFrom 16 = .ok (.iload_n 2, 1) := by decide +kernel
theorem d_OR_reverseFrom_17 : decode b_OR_reverseFrom 17 = .ok (.invokevirtual 25, 3) := by decide +kernel
theorem d_OR_reverseFrom_20 : decode b_OR_reverseFrom 20 = .ok (.iinc 2 (-1), 3) := by decide +kernel
theorem d_OR_reverseFrom_23 : decode b_OR_reverseFrom 23 = .ok (.iinc 3 1, 3) := by decide +kernel
theorem d_OR_reverseFrom_26 : decode b_OR_reverseFrom 26 = .ok (.goto (-17), 3) := by decide +kernel
theorem d_OR_reverseFrom_29 : decode b_OR_reverseFrom 29 = .ok (.return_, 1) := by decide +kernel
theorem d_OR_toFirst_0 : decode b_OR_toFirst 0 = .ok (.aload_n 0, 1) := by decide +kernel
theorem d_OR_toFirst_1 : decode b_OR_toFirst 1 = .ok (.iload_n 1, 1) := by decide +kernel
theorem d_OR_toFirst_2 : decode b_OR_toFirst 2 = .ok (.iconst 1, 1) := by decide +kernel
theorem d_OR_toFirst_3 : decode b_OR_toFirst 3 = .ok (.iadd, 1) := by decide +kernel
theorem d_OR_toFirst_4 : decode b_OR_toFirst 4 = .ok (.putfield 18, 3) := by decide +kernel
theorem d_OR_toFirst_7 : decode b_OR_toFirst 7 = .ok (.iconst 0, 1) := by decide +kernel
theorem d_OR_toFirst_8 : decode b_OR_toFirst 8 = .ok (.istore_n 2, 1) := by decide +kernel
theorem d_OR_toFirst_9 : decode b_OR_toFirst 9 = .ok (.iload_n 2, 1) := by decide +kernel
theorem d_OR_toFirst_10 : decode b_OR_toFirst 10 = .ok (.aload_n 0, 1) := by decide +kernel
theorem d_OR_toFirst_11 : decode b_OR_toFirst 11 = .ok (.getfield 18, 3) := by decide +kernel
theorem d_OR_toFirst_14 : decode b_OR_toFirst 14 = .ok (.if_icmp .ge 16, 3) := by decide +kernel
theorem d_OR_toFirst_17 : decode b_OR_toFirst 17 = .ok (.aload_n 0, 1) := by decide +kernel
theorem d_OR_toFirst_18 : decode b_OR_toFirst 18 = .ok (.getfield 9, 3) := by decide +kernel
theorem d_OR_toFirst_21 : decode b_OR_toFirst 21 = .ok (.iload_n 2, 1) := by decide +kernel
theorem d_OR_toFirst_22 : decode b_OR_toFirst 22 = .ok (.iload_n 2, 1) := by decide +kernel
theorem d_OR_toFirst_23 : decode b_OR_toFirst 23 = .ok (.iastore, 1) := by decide +kernel
theorem d_OR_toFirst_24 : decode b_OR_toFirst 24 = .ok (.iinc 2 1, 3) := by decide +kernel
theorem d_OR_toFirst_27 : decode b_OR_toFirst 27 = .ok (.goto (-18), 3) := by decide +kernel
theorem d_OR_toFirst_30 : decode b_OR_toFirst 30 = .ok (.aload_n 0, 1) := by decide +kernel
theorem d_OR_toFirst_31 : decode b_OR_toFirst 31 = .ok (.invokevirtual 22, 3) := by decide +kernel
theorem d_OR_toFirst_34 : decode b_OR_toFirst 34 = .ok (.return_, 1) := by decide +kernel
theorem d_OR_toNext_0 : decode b_OR_toNext 0 = .ok (.aload_n 0, 1) := by decide +kernel
theorem d_OR_toNext_1 : decode b_OR_toNext 1 = .ok (.getfield 18, 3) := by decide +kernel
theorem d_OR_toNext_4 : decode b_OR_toNext 4 = .ok (.iconst 2, 1) := by decide +kernel
theorem d_OR_toNext_5 : decode b_OR_toNext 5 = .ok (.isub, 1) := by decide +kernel
theorem d_OR_toNext_6 : decode b_OR_toNext 6 = .ok (.istore_n 1, 1) := by decide +kernel
theorem d_OR_toNext_7 : decode b_OR_toNext 7 = .ok (.iload_n 1, 1) := by decide +kernel
theorem d_OR_toNext_8 : decode b_OR_toNext 8 = .ok (.iconst 1, 1) := by decide +kernel
theorem d_OR_toNext_9 : decode b_OR_toNext 9 = .ok (.if_icmp .lt 26, 3) := by decide +kernel
theorem d_OR_toNext_12 : decode b_OR_toNext 12 = .ok (.aload_n 0, 1) := by decide +kernel
theorem d_OR_toNext_13 : decode b_OR_toNext 13 = .ok (.getfield 9, 3) := by decide +kernel
theorem d_OR_toNext_16 : decode b_OR_toNext 16 = .ok (.iload_n 1, 1) := by decide +kernel
theorem d_OR_toNext_17 : decode b_OR_toNext 17 = .ok (.iaload, 1) := by decide +kernel
theorem d_OR_toNext_18 : decode b_OR_toNext 18 = .ok (.aload_n 0, 1) := by decide +kernel
theorem d_OR_toNext_19 : decode b_OR_toNext 19 = .ok (.getfield 9, 3) := by decide +kernel
theorem d_OR_toNext_22 : decode b_OR_toNext 22 = .ok (.iload_n 1, 1) := by decide +kernel
theorem d_OR_toNext_23 : decode b_OR_toNext 23 = .ok (.iconst 1, 1) := by decide +kernel
theorem d_OR_toNext_24 : decode b_OR_toNext 24 = .ok (.iadd, 1) := by decide +kernel
theorem d_OR_toNext_25 : decode b_OR_toNext 25 = .ok (.iaload, 1) := by decide +kernel
theorem d_OR_toNext_26 : decode b_OR_toNext 26 = .ok (.if_icmp .le 9, 3) := by decide +kernel
theorem d_OR_toNext_29 : decode b_OR_toNext 29 = .ok (.iinc 1 (-1), 3) := by decide +kernel
theorem d_OR_toNext_32 : decode b_OR_toNext 32 = .ok (.goto (-25), 3) := by decide +kernel
theorem d_OR_toNext_35 : decode b_OR_toNext 35 = .ok (.iload_n 1, 1) := by decide +kernel
theorem d_OR_toNext_36 : decode b_OR_toNext 36 = .ok (.iconst 1, 1) := by decide +kernel
theorem d_OR_toNext_37 : decode b_OR_toNext 37 = .ok (.if_icmp .ge 5, 3) := by decide +kernel
theorem d_OR_toNext_40 : decode b_OR_toNext 40 = .ok (.iconst 0, 1) := by decide +kernel
theorem d_OR_toNext_41 : decode b_OR_toNext 41 = .ok (.ireturn, 1) := by decide +kernel
theorem d_OR_toNext_42 : decode b_OR_toNext 42 = .ok (.aload_n 0, 1) := by decide +kernel
theorem d_OR_toNext_43 : decode b_OR_toNext 43 = .ok (.getfield 18, 3) := by decide +kernel
theorem d_OR_toNext_46 : decode b_OR_toNext 46 = .ok (.iconst 1, 1) := by decide +kernel
theorem d_OR_toNext_47 : decode b_OR_toNext 47 = .ok (.isub, 1) := by decide +kernel
theorem d_OR_toNext_48 : decode b_OR_toNext 48 = .ok (.istore_n 2, 1) := by decide +kernel
theorem d_OR_toNext_49 : decode b_OR_toNext 49 = .ok (.iload_n 2, 1) := by decide +kernel
theorem d_OR_toNext_50 : decode b_OR_toNext 50 = .ok (.iload_n 1, 1) := by decide +kernel
theorem d_OR_toNext_51 : decode b_OR_toNext 51 = .ok (.iconst 1, 1) := by decide +kernel
theorem d_OR_toNext_52 : decode b_OR_toNext 52 = .ok (.iadd, 1) := by decide +kernel
theorem d_OR_toNext_53 : decode b_OR_toNext 53 = .ok (.if_icmp .le 24, 3) := by decide +kernel
theorem d_OR_toNext_56 : decode b_OR_toNext 56 = .ok (.aload_n 0, 1) := by decide +kernel
theorem d_OR_toNext_57 : decode b_OR_toNext 57 = .ok (.getfield 9, 3) := by decide +kernel
theorem d_OR_toNext_60 : decode b_OR_toNext 60 = .ok (.iload_n 2, 1) := by decide +kernel
theorem d_OR_toNext_61 : decode b_OR_toNext 61 = .ok (.iaload, 1) := by decide +kernel
theorem d_OR_toNext_62 : decode b_OR_toNext 62 = .ok (.aload_n 0, 1) := by decide +kernel
theorem d_OR_toNext_63 : decode b_OR_toNext 63 = .ok (.getfield 9, 3) := by decide +kernel
theorem d_OR_toNext_66 : decode b_OR_toNext 66 = .ok (.iload_n 1, 1) := by decide +kernel
theorem d_OR_toNext_67 : decode b_OR_toNext 67 = .ok (.iaload, 1) := by decide +kernel
theorem d_OR_toNext_68 : decode b_OR_toNext 68 = .ok (.if_icmp .ge 9, 3) := by decide +kernel
theorem d_OR_toNext_71 : decode b_OR_toNext 71 = .ok (.iinc 2 (-1), 3) := by decide +kernel
theorem d_OR_toNext_74 : decode b_OR_toNext 74 = .ok (.goto (-25), 3) := by decide +kernel
theorem d_OR_toNext_77 : decode b_OR_toNext 77 = .ok (.aload_n 0, 1) := by decide +kernel
theorem d_OR_toNext_78 : decode b_OR_toNext 78 = .ok (.iload_n 1, 1) := by decide +kernel
theorem d_OR_toNext_79 : decode b_OR_toNext 79 = .ok (.iload_n 2, 1) := by decide +kernel
theorem d_OR_toNext_80 : decode b_OR_toNext 80 = .ok (.invokevirtual 25, 3) := by decide +kernel
theorem d_OR_toNext_83 : decode b_OR_toNext 83 = .ok (.aload_n 0, 1) := by decide +kernel
theorem d_OR_toNext_84 : decode b_OR_toNext 84 = .ok (.iload_n 1, 1) := by decide +kernel
theorem d_OR_toNext_85 : decode b_OR_toNext 85 = .ok (.iconst 1, 1) := by decide +kernel
theorem d_OR_toNext_86 : decode b_OR_toNext 86 = .ok (.iadd, 1) := by decide +kernel
theorem d_OR_toNext_87 : decode b_OR_toNext 87 = .ok (.invokevirtual 29, 3) := by decide +kernel
theorem d_OR_toNext_90 : decode b_OR_toNext 90 = .ok (.aload_n 0, 1) := by decide +kernel
theorem d_OR_toNext_91 : decode b_OR_toNext 91 = .ok (.invokevirtual 22, 3) := by decide +kernel
theorem d_OR_toNext_94 : decode b_OR_toNext 94 = .ok (.iconst 1, 1) := by decide +kernel
theorem d_OR_toNext_95 : decode b_OR_toNext 95 = .ok (.ireturn, 1) := by decide +kernel
theorem d_OR_read_0 : decode b_OR_read 0 = .ok (.aload_n 0, 1) := by decide +kernel
theorem d_OR_read_1 : decode b_OR_read 1 = .ok (.iload_n 2, 1) := by decide +kernel
theorem d_OR_read_2 : decode b_OR_read 2 = .ok (.iconst 1, 1) := by decide +kernel
theorem d_OR_read_3 : decode b_OR_read 3 = .ok (.iadd, 1) := by decide +kernel
theorem d_OR_read_4 : decode b_OR_read 4 = .ok (.putfield 18, 3) := by decide +kernel
theorem d_OR_read_7 : decode b_OR_read 7 = .ok (.aload_n 0, 1) := by decide +kernel
theorem d_OR_read_8 : decode b_OR_read 8 = .ok (.getfield 15, 3) := by decide +kernel
theorem d_OR_read_11 : decode b_OR_read 11 = .ok (.iconst 0, 1) := by decide +kernel
theorem d_OR_read_12 : decode b_OR_read 12 = .ok (.invokestatic 33, 3) := by decide +kernel
theorem d_OR_read_15 : decode b_OR_read 15 = .ok (.iload_n 1, 1) := by decide +kernel
theorem d_OR_read_16 : decode b_OR_read 16 = .ok (.istore_n 3, 1) := by decide +kernel
theorem d_OR_read_17 : decode b_OR_read 17 = .ok (.iload_n 2, 1) := by decide +kernel
theorem d_OR_read_18 : decode b_OR_read 18 = .ok (.istore 4, 2) := by decide +kernel
theorem d_OR_read_20 : decode b_OR_read 20 = .ok (.iload 4, 2) := by decide +kernel
theorem d_OR_read_22 : decode b_OR_read 22 = .ok (.iconst 1, 1) := by decide +kernel
theorem d_OR_read_23 : decode b_OR_read 23 = .ok (.if_icmp .lt 62, 3) := by decide +kernel
theorem d_OR_read_26 : decode b_OR_read 26 = .ok (.iload_n 3, 1) := by decide +kernel
theorem d_OR_read_27 : decode b_OR_read 27 = .ok (.bipush 10, 2) := by decide +kernel
theorem d_OR_read_29 : decode b_OR_read 29 = .ok (.irem, 1) := by decide +kernel
theorem d_OR_read_30 : decode b_OR_read 30 = .ok (.istore 5, 2) := by decide +kernel
theorem d_OR_read_32 : decode b_OR_read 32 = .ok (.iload 5, 2) := by decide +kernel
theorem d_OR_read_34 : decode b_OR_read 34 = .ok (.iconst 1, 1) := by decide +kernel
theorem d_OR_read_35 : decode b_OR_read 35 = .ok (.if_icmp .lt 19, 3) := by decide +kernel
theorem d_OR_read_38 : decode b_OR_read 38 = .ok (.iload 5, 2) := by decide +kernel
theorem d_OR_read_40 : decode b_OR_read 40 = .ok (.iload_n 2, 1) := by decide +kernel
theorem d_OR_read_41 : decode b_OR_read 41 = .ok (.if_icmp .gt 13, 3) := by decide +kernel
theorem d_OR_read_44 : decode b_OR_read 44 = .ok (.aload_n 0, 1) := by decide +kernel
theorem d_OR_read_45 : decode b_OR_read 45 = .ok (.getfield 15, 3) := by decide +kernel
theorem d_OR_read_48 : decode b_OR_read 48 = .ok (.iload 5, 2) := by decide +kernel
theorem d_OR_read_50 : decode b_OR_read 50 = .ok (.iaload, 1) := by decide +kernel
theorem d_OR_read_51 : decode b_OR_read 51 = .ok (.ifCond .eq 5, 3) := by decide +kernel
theorem d_OR_read_54 : decode b_OR_read 54 = .ok (.iconst 0, 1) := by decide +kernel
theorem d_OR_read_55 : decode b_OR_read 55 = .ok (.ireturn, 1) := by decide +kernel
theorem d_OR_read_56 : decode b_OR_read 56 = .ok (.aload_n 0, 1) := by decide +kernel
theorem d_OR_read_57 : decode b_OR_read 57 = .ok (.getfield 9, 3) := by decide +kernel
theorem d_OR_read_60 : decode b_OR_read 60 = .ok (.iload 4, 2) := by decide +kernel
theorem d_OR_read_62 : decode b_OR_read 62 = .ok (.iload 5, 2) := by decide +kernel
theorem d_OR_read_64 : decode b_OR_read 64 = .ok (.iastore, 1) := by decide +kernel
theorem d_OR_read_65 : decode b_OR_read 65 = .ok (.aload_n 0, 1) := by decide +kernel
theorem d_OR_read_66 : decode b_OR_read 66 = .ok (.getfield 15, 3) := by decide +kernel
theorem d_OR_read_69 : decode b_OR_read 69 = .ok (.iload 5, 2) := by decide +kernel
theorem d_OR_read_71 : decode b_OR_read 71 = .ok (.iload 4, 2) := by decide +kernel
theorem d_OR_read_73 : decode b_OR_read 73 = .ok (.iastore, 1) := by decide +kernel
theorem d_OR_read_74 : decode b_OR_read 74 = .ok (.iload_n 3, 1) := by decide +kernel
theorem d_OR_read_75 : decode b_OR_read 75 = .ok (.bipush 10, 2) := by decide +kernel
theorem d_OR_read_77 : decode b_OR_read 77 = .ok (.idiv, 1) := by decide +kernel
theorem d_OR_read_78 : decode b_OR_read 78 = .ok (.istore_n 3, 1) := by decide +kernel
theorem d_OR_read_79 : decode b_OR_read 79 = .ok (.iinc 4 (-1), 3) := by decide +kernel
theorem d_OR_read_82 : decode b_OR_read 82 = .ok (.goto (-62), 3) := by decide +kernel
theorem d_OR_read_85 : decode b_OR_read 85 = .ok (.aload_n 0, 1) := by decide +kernel
theorem d_OR_read_86 : decode b_OR_read 86 = .ok (.getfield 9, 3) := by decide +kernel
theorem d_OR_read_89 : decode b_OR_read 89 = .ok (.iconst 0, 1) := by decide +kernel
theorem d_OR_read_90 : decode b_OR_read 90 = .ok (.iconst 0, 1) := by decide +kernel
theorem d_OR_read_91 : decode b_OR_read 91 = .ok (.iastore, 1) := by decide +kernel
theorem d_OR_read_92 : decode b_OR_read 92 = .ok (.iload_n 3, 1) := by decide +kernel
theorem d_OR_read_93 : decode b_OR_read 93 = .ok (.ifCond .ne 7, 3) := by decide +kernel
theorem d_OR_read_96 : decode b_OR_read 96 = .ok (.iconst 1, 1) := by decide +kernel
theorem d_OR_read_97 : decode b_OR_read 97 = .ok (.goto 4, 3) := by decide +kernel
theorem d_OR_read_100 : decode b_OR_read 100 = .ok (.iconst 0, 1) := by decide +kernel
theorem d_OR_read_101 : decode b_OR_read 101 = .ok (.ireturn, 1) := by decide +kernel
theorem d_OR_number_0 : decode b_OR_number 0 = .ok (.iconst 0, 1) := by decide +kernel
theorem d_OR_number_1 : decode b_OR_number 1 = .ok (.istore_n 1, 1) := by decide +kernel
theorem d_OR_number_2 : decode b_OR_number 2 = .ok (.iconst 1, 1) := by decide +kernel
theorem d_OR_number_3 : decode b_OR_number 3 = .ok (.istore_n 2, 1) := by decide +kernel
theorem d_OR_number_4 : decode b_OR_number 4 = .ok (.iload_n 2, 1) := by decide +kernel
theorem d_OR_number_5 : decode b_OR_number 5 = .ok (.aload_n 0, 1) := by decide +kernel
theorem d_OR_number_6 : decode b_OR_number 6 = .ok (.getfield 18, 3) := by decide +kernel
theorem d_OR_number_9 : decode b_OR_number 9 = .ok (.if_icmp .ge 21, 3) := by decide +kernel
theorem d_OR_number_12 : decode b_OR_number 12 = .ok (.bipush 10, 2) := by decide +kernel
theorem d_OR_number_14 : decode b_OR_number 14 = .ok (.iload_n 1, 1) := by decide +kernel
theorem d_OR_number_15 : decode b_OR_number 15 = .ok (.imul, 1) := by decide +kernel
theorem d_OR_number_16 : decode b_OR_number 16 = .ok (.aload_n 0, 1) := by decide +kernel
theorem d_OR_number_17 : decode b_OR_number 17 = .ok (.getfield 9, 3) := by decide +kernel
theorem d_OR_number_20 : decode b_OR_number 20 = .ok (.iload_n 2, 1) := by decide +kernel
theorem d_OR_number_21 : decode b_OR_number 21 = .ok (.iaload, 1) := by decide +kernel
theorem d_OR_number_22 : decode b_OR_number 22 = .ok (.iadd, 1) := by decide +kernel
theorem d_OR_number_23 : decode b_OR_number 23 = .ok (.istore_n 1, 1) := by decide +kernel
theorem d_OR_number_24 : decode b_OR_number 24 = .ok (.iinc 2 1, 3) := by decide +kernel
theorem d_OR_number_27 : decode b_OR_number 27 = .ok (.goto (-23), 3) := by decide +kernel
theorem d_OR_number_30 : decode b_OR_number 30 = .ok (.iload_n 1, 1) := by decide +kernel
theorem d_OR_number_31 : decode b_OR_number 31 = .ok (.ireturn, 1) := by decide +kernel
theorem d_OR_soakTurns_0 : decode b_OR_soakTurns 0 = .ok (.aload_n 0, 1) := by decide +kernel
theorem d_OR_soakTurns_1 : decode b_OR_soakTurns 1 = .ok (.getfield 15, 3) := by decide +kernel
theorem d_OR_soakTurns_4 : decode b_OR_soakTurns 4 = .ok (.iload_n 1, 1) := by decide +kernel
theorem d_OR_soakTurns_5 : decode b_OR_soakTurns 5 = .ok (.iaload, 1) := by decide +kernel
theorem d_OR_soakTurns_6 : decode b_OR_soakTurns 6 = .ok (.aload_n 0, 1) := by decide +kernel
theorem d_OR_soakTurns_7 : decode b_OR_soakTurns 7 = .ok (.getfield 15, 3) := by decide +kernel
theorem d_OR_soakTurns_10 : decode b_OR_soakTurns 10 = .ok (.iload_n 1, 1) := by decide +kernel
theorem d_OR_soakTurns_11 : decode b_OR_soakTurns 11 = .ok (.iconst 1, 1) := by decide +kernel
theorem d_OR_soakTurns_12 : decode b_OR_soakTurns 12 = .ok (.isub, 1) := by decide +kernel
theorem d_OR_soakTurns_13 : decode b_OR_soakTurns 13 = .ok (.iaload, 1) := by decide +kernel
theorem d_OR_soakTurns_14 : decode b_OR_soakTurns 14 = .ok (.if_icmp .ge 7, 3) := by decide +kernel
theorem d_OR_soakTurns_17 : decode b_OR_soakTurns 17 = .ok (.iconst 1, 1) := by decide +kernel
theorem d_OR_soakTurns_18 : decode b_OR_soakTurns 18 = .ok (.goto 4, 3) := by decide +kernel
theorem d_OR_soakTurns_21 : decode b_OR_soakTurns 21 = .ok (.iconst 0, 1) := by decide +kernel
theorem d_OR_soakTurns_22 : decode b_OR_soakTurns 22 = .ok (.ireturn, 1) := by decide +kernel
theorem d_OR_copyFrom_0 : decode b_OR_copyFrom 0 = .ok (.aload_n 0, 1) := by decide +kernel
theorem d_OR_copyFrom_1 : decode b_OR_copyFrom 1 = .ok (.aload_n 1, 1) := by decide +kernel
theorem d_OR_copyFrom_2 : decode b_OR_copyFrom 2 = .ok (.getfield 18, 3) := by decide +kernel
theorem d_OR_copyFrom_5 : decode b_OR_copyFrom 5 = .ok (.putfield 18, 3) := by decide +kernel
theorem d_OR_copyFrom_8 : decode b_OR_copyFrom 8 = .ok (.aload_n 1, 1) := by decide +kernel
theorem d_OR_copyFrom_9 : decode b_OR_copyFrom 9 = .ok (.getfield 9, 3) := by decide +kernel
theorem d_OR_copyFrom_12 : decode b_OR_copyFrom 12 = .ok (.iconst 0, 1) := by decide +kernel
theorem d_OR_copyFrom_13 : decode b_OR_copyFrom 13 = .ok (.aload_n 0, 1) := by decide +kernel
theorem d_OR_copyFrom_14 : decode b_OR_copyFrom 14 = .ok (.getfield 9, 3) := by decide +kernel
theorem d_OR_copyFrom_17 : decode b_OR_copyFrom 17 = .ok (.iconst 0, 1) := by decide +kernel
theorem d_OR_copyFrom_18 : decode b_OR_copyFrom 18 = .ok (.bipush 6, 2) := by decide +kernel
theorem d_OR_copyFrom_20 : decode b_OR_copyFrom 20 = .ok (.invokestatic 39, 3) := by decide +kernel
theorem d_OR_copyFrom_23 : decode b_OR_copyFrom 23 = .ok (.aload_n 1, 1) := by decide +kernel
theorem d_OR_copyFrom_24 : decode b_OR_copyFrom 24 = .ok (.getfield 15, 3) := by decide +kernel
theorem d_OR_copyFrom_27 : decode b_OR_copyFrom 27 = .ok (.iconst 0, 1) := by decide +kernel
theorem d_OR_copyFrom_28 : decode b_OR_copyFrom 28 = .ok (.aload_n 0, 1) := by decide +kernel
theorem d_OR_copyFrom_29 : decode b_OR_copyFrom 29 = .ok (.getfield 15, 3) := by decide +kernel
theorem d_OR_copyFrom_32 : decode b_OR_copyFrom 32 = .ok (.iconst 0, 1) := by decide +kernel
theorem d_OR_copyFrom_33 : decode b_OR_copyFrom 33 = .ok (.bipush 6, 2) := by decide +kernel
theorem d_OR_copyFrom_35 : decode b_OR_copyFrom 35 = .ok (.invokestatic 39, 3) := by decide +kernel
theorem d_OR_copyFrom_38 : decode b_OR_copyFrom 38 = .ok (.return_, 1) := by decide +kernel
theorem d_TM_addRule_0 : decode b_TM_addRule 0 = .ok (.aload_n 0, 1) := by decide +kernel
theorem d_TM_addRule_1 : decode b_TM_addRule 1 = .ok (.getfield 9, 3) := by decide +kernel
theorem d_TM_addRule_4 : decode b_TM_addRule 4 = .ok (.aload_n 0, 1) := by decide +kernel
theorem d_TM_addRule_5 : decode b_TM_addRule 5 = .ok (.getfield 34, 3) := by decide +kernel
theorem d_TM_addRule_8 : decode b_TM_addRule 8 = .ok (.iload_n 1, 1) := by decide +kernel
theorem d_TM_addRule_9 : decode b_TM_addRule 9 = .ok (.iastore, 1) := by decide +kernel
theorem d_TM_addRule_10 : decode b_TM_addRule 10 = .ok (.aload_n 0, 1) := by decide +kernel
theorem d_TM_addRule_11 : decode b_TM_addRule 11 = .ok (.getfield 15, 3) := by decide +kernel
theorem d_TM_addRule_14 : decode b_TM_addRule 14 = .ok (.aload_n 0, 1) := by decide +kernel
theorem d_TM_addRule_15 : decode b_TM_addRule 15 = .ok (.getfield 34, 3) := by decide +kernel
theorem d_TM_addRule_18 : decode b_TM_addRule 18 = .ok (.iload_n 2, 1) := by decide +kernel
theorem d_TM_addRule_19 : decode b_TM_addRule 19 = .ok (.iastore, 1) := by decide +kernel
theorem d_TM_addRule_20 : decode b_TM_addRule 20 = .ok (.aload_n 0, 1) := by decide +kernel
theorem d_TM_addRule_21 : decode b_TM_addRule 21 = .ok (.getfield 18, 3) := by decide +kernel
theorem d_TM_addRule_24 : decode b_TM_addRule 24 = .ok (.aload_n 0, 1) := by decide +kernel
theorem d_TM_addRule_25 : decode b_TM_addRule 25 = .ok (.getfield 34, 3) := by decide +kernel
theorem d_TM_addRule_28 : decode b_TM_addRule 28 = .ok (.iload_n 3, 1) := by decide +kernel
theorem d_TM_addRule_29 : decode b_TM_addRule 29 = .ok (.iastore, 1) := by decide +kernel
theorem d_TM_addRule_30 : decode b_TM_addRule 30 = .ok (.aload_n 0, 1) := by decide +kernel
theorem d_TM_addRule_31 : decode b_TM_addRule 31 = .ok (.getfield 21, 3) := by decide +kernel
theorem d_TM_addRule_34 : decode b_TM_addRule 34 = .ok (.aload_n 0, 1) := by decide +kernel
theorem d_TM_addRule_35 : decode b_TM_addRule 35 = .ok (.getfield 34, 3) := by decide +kernel
theorem d_TM_addRule_38 : decode b_TM_addRule 38 = .ok (.iload 4, 2) := by decide +kernel
theorem d_TM_addRule_40 : decode b_TM_addRule 40 = .ok (.iastore, 1) := by decide +kernel
theorem d_TM_addRule_41 : decode b_TM_addRule 41 = .ok (.aload_n 0, 1) := by decide +kernel
theorem d_TM_addRule_42 : decode b_TM_addRule 42 = .ok (.dup, 1) := by decide +kernel
theorem d_TM_addRule_43 : decode b_TM_addRule 43 = .ok (.getfield 34, 3) := by decide +kernel
theorem d_TM_addRule_46 : decode b_TM_addRule 46 = .ok (.iconst 1, 1) := by decide +kernel
theorem d_TM_addRule_47 : decode b_TM_addRule 47 = .ok (.iadd, 1) := by decide +kernel
theorem d_TM_addRule_48 : decode b_TM_addRule 48 = .ok (.putfield 34, 3) := by decide +kernel
theorem d_TM_addRule_51 : decode b_TM_addRule 51 = .ok (.return_, 1) := by decide +kernel
theorem d_TM_addWays_0 : decode b_TM_addWays 0 = .ok (.iconst 0, 1) := by decide +kernel
theorem d_TM_addWays_1 : decode b_TM_addWays 1 = .ok (.istore_n 2, 1) := by decide +kernel
theorem d_TM_addWays_2 : decode b_TM_addWays 2 = .ok (.iconst 0, 1) := by decide +kernel
theorem d_TM_addWays_3 : decode b_TM_addWays 3 = .ok (.istore_n 3, 1) := by decide +kernel
theorem d_TM_addWays_4 : decode b_TM_addWays 4 = .ok (.iload_n 3, 1) := by decide +kernel
theorem d_TM_addWays_5 : decode b_TM_addWays 5 = .ok (.aload_n 1, 1) := by decide +kernel
theorem d_TM_addWays_6 : decode b_TM_addWays 6 = .ok (.getfield 46, 3) := by decide +kernel
theorem d_TM_addWays_9 : decode b_TM_addWays 9 = .ok (.if_icmp .ge 106, 3) := by decide +kernel
theorem d_TM_addWays_12 : decode b_TM_addWays 12 = .ok (.iload_n 3, 1) := by decide +kernel
theorem d_TM_addWays_13 : decode b_TM_addWays 13 = .ok (.aload_n 1, 1) := by decide +kernel
theorem d_TM_addWays_14 : decode b_TM_addWays 14 = .ok (.getfield 46, 3) := by decide +kernel
theorem d_TM_addWays_17 : decode b_TM_addWays 17 = .ok (.iconst 1, 1) := by decide +kernel
theorem d_TM_addWays_18 : decode b_TM_addWays 18 = .ok (.isub, 1) := by decide +kernel
theorem d_TM_addWays_19 : decode b_TM_addWays 19 = .ok (.if_icmp .ne 7, 3) := by decide +kernel
theorem d_TM_addWays_22 : decode b_TM_addWays 22 = .ok (.iconst 1, 1) := by decide +kernel
theorem d_TM_addWays_23 : decode b_TM_addWays 23 = .ok (.goto 4, 3) := by decide +kernel
theorem d_TM_addWays_26 : decode b_TM_addWays 26 = .ok (.iconst 0, 1) := by decide +kernel
theorem d_TM_addWays_27 : decode b_TM_addWays 27 = .ok (.istore 4, 2) := by decide +kernel
theorem d_TM_addWays_29 : decode b_TM_addWays 29 = .ok (.aload_n 1, 1) := by decide +kernel
theorem d_TM_addWays_30 : decode b_TM_addWays 30 = .ok (.getfield 58, 3) := by decide +kernel
theorem d_TM_addWays_33 : decode b_TM_addWays 33 = .ok (.iload_n 3, 1) := by decide +kernel
theorem d_TM_addWays_34 : decode b_TM_addWays 34 = .ok (.iaload, 1) := by decide +kernel
theorem d_TM_addWays_35 : decode b_TM_addWays 35 = .ok (.istore 5, 2) := by decide +kernel
theorem d_TM_addWays_37 : decode b_TM_addWays 37 = .ok (.iload 4, 2) := by decide +kernel
theorem d_TM_addWays_39 : decode b_TM_addWays 39 = .ok (.ifCond .eq 7, 3) := by decide +kernel
theorem d_TM_addWays_42 : decode b_TM_addWays 42 = .ok (.iconst 0, 1) := by decide +kernel
theorem d_TM_addWays_43 : decode b_TM_addWays 43 = .ok (.goto 11, 3) := by decide +kernel
theorem d_TM_addWays_46 : decode b_TM_addWays 46 = .ok (.aload_n 1, 1) := by decide +kernel
theorem d_TM_addWays_47 : decode b_TM_addWays 47 = .ok (.getfield 58, 3) := by decide +kernel
theorem d_TM_addWays_50 : decode b_TM_addWays 50 = .ok (.iload_n 3, 1) := by decide +kernel
theorem d_TM_addWays_51 : decode b_TM_addWays 51 = .ok (.iconst 1, 1) := by decide +kernel
theorem d_TM_addWays_52 : decode b_TM_addWays 52 = .ok (.iadd, 1) := by decide +kernel
theorem d_TM_addWays_53 : decode b_TM_addWays 53 = .ok (.iaload, 1) := by decide +kernel
theorem d_TM_addWays_54 : decode b_TM_addWays 54 = .ok (.istore 6, 2) := by decide +kernel
theorem d_TM_addWays_56 : decode b_TM_addWays 56 = .ok (.aload_n 0, 1) := by decide +kernel
theorem d_TM_addWays_57 : decode b_TM_addWays 57 = .ok (.getfield 30, 3) := by decide +kernel
theorem d_TM_addWays_60 : decode b_TM_addWays 60 = .ok (.getfield 61, 3) := by decide +kernel
theorem d_TM_addWays_63 : decode b_TM_addWays 63 = .ok (.iload 5, 2) := by decide +kernel
theorem d_TM_addWays_65 : decode b_TM_addWays 65 = .ok (.iaload, 1) := by decide +kernel
theorem d_TM_addWays_66 : decode b_TM_addWays 66 = .ok (.aload_n 0, 1) := by decide +kernel
theorem d_TM_addWays_67 : decode b_TM_addWays 67 = .ok (.getfield 30, 3) := by decide +kernel
theorem d_TM_addWays_70 : decode b_TM_addWays 70 = .ok (.getfield 66, 3) := by decide +kernel
theorem d_TM_addWays_73 : decode b_TM_addWays 73 = .ok (.iload 5, 2) := by decide +kernel
theorem d_TM_addWays_75 : decode b_TM_addWays 75 = .ok (.iconst 1, 1) := by decide +kernel
theorem d_TM_addWays_76 : decode b_TM_addWays 76 = .ok (.iadd, 1) := by decide +kernel
theorem d_TM_addWays_77 : decode b_TM_addWays 77 = .ok (.aaload, 1) := by decide +kernel
theorem d_TM_addWays_78 : decode b_TM_addWays 78 = .ok (.iload 6, 2) := by decide +kernel
theorem d_TM_addWays_80 : decode b_TM_addWays 80 = .ok (.iaload, 1) := by decide +kernel
theorem d_TM_addWays_81 : decode b_TM_addWays 81 = .ok (.iadd, 1) := by decide +kernel
theorem d_TM_addWays_82 : decode b_TM_addWays 82 = .ok (.istore 7, 2) := by decide +kernel
theorem d_TM_addWays_84 : decode b_TM_addWays 84 = .ok (.aload_n 0, 1) := by decide +kernel
theorem d_TM_addWays_85 : decode b_TM_addWays 85 = .ok (.iload 5, 2) := by decide +kernel
theorem d_TM_addWays_87 : decode b_TM_addWays 87 = .ok (.iload 6, 2) := by decide +kernel
theorem d_TM_addWays_89 : decode b_TM_addWays 89 = .ok (.iload 7, 2) := by decide +kernel
theorem d_TM_addWays_91 : decode b_TM_addWays 91 = .ok (.iload 4, 2) := by decide +kernel
theorem d_TM_addWays_93 : decode b_TM_addWays 93 = .ok (.ifCond .eq 7, 3) := by decide +kernel
theorem d_TM_addWays_96 : decode b_TM_addWays 96 = .ok (.iconst (-1), 1) := by decide +kernel
theorem d_TM_addWays_97 : decode b_TM_addWays 97 = .ok (.goto 4, 3) := by decide +kernel
theorem d_TM_addWays_100 : decode b_TM_addWays 100 = .ok (.iconst 0, 1) := by decide +kernel
theorem d_TM_addWays_101 : decode b_TM_addWays 101 = .ok (.invokevirtual 70, 3) := by decide +kernel
theorem d_TM_addWays_104 : decode b_TM_addWays 104 = .ok (.iload_n 2, 1) := by decide +kernel
theorem d_TM_addWays_105 : decode b_TM_addWays 105 = .ok (.iload 7, 2) := by decide +kernel
theorem d_TM_addWays_107 : decode b_TM_addWays 107 = .ok (.iadd, 1) := by decide +kernel
theorem d_TM_addWays_108 : decode b_TM_addWays 108 = .ok (.istore_n 2, 1) := by decide +kernel
theorem d_TM_addWays_109 : decode b_TM_addWays 109 = .ok (.iinc 3 1, 3) := by decide +kernel
theorem d_TM_addWays_112 : decode b_TM_addWays 112 = .ok (.goto (-108), 3) := by decide +kernel
theorem d_TM_addWays_115 : decode b_TM_addWays 115 = .ok (.iload_n 2, 1) := by decide +kernel
theorem d_TM_addWays_116 : decode b_TM_addWays 116 = .ok (.ireturn, 1) := by decide +kernel
theorem d_TM_addSoaks_0 : decode b_TM_addSoaks 0 = .ok (.iconst 1, 1) := by decide +kernel
theorem d_TM_addSoaks_1 : decode b_TM_addSoaks 1 = .ok (.istore_n 2, 1) := by decide +kernel
theorem d_TM_addSoaks_2 : decode b_TM_addSoaks 2 = .ok (.iload_n 2, 1) := by decide +kernel
theorem d_TM_addSoaks_3 : decode b_TM_addSoaks 3 = .ok (.aload_n 1, 1) := by decide +kernel
theorem d_TM_addSoaks_4 : decode b_TM_addSoaks 4 = .ok (.getfield 46, 3) := by decide +kernel
theorem d_TM_addSoaks_7 : decode b_TM_addSoaks 7 = .ok (.if_icmp .ge 72, 3) := by decide +kernel
theorem d_TM_addSoaks_10 : decode b_TM_addSoaks 10 = .ok (.aload_n 0, 1) := by decide +kernel
theorem d_TM_addSoaks_11 : decode b_TM_addSoaks 11 = .ok (.getfield 30, 3) := by decide +kernel
theorem d_TM_addSoaks_14 : decode b_TM_addSoaks 14 = .ok (.getfield 61, 3) := by decide +kernel
theorem d_TM_addSoaks_17 : decode b_TM_addSoaks 17 = .ok (.iload_n 2, 1) := by decide +kernel
theorem d_TM_addSoaks_18 : decode b_TM_addSoaks 18 = .ok (.iconst 1, 1) := by decide +kernel
theorem d_TM_addSoaks_19 : decode b_TM_addSoaks 19 = .ok (.isub, 1) := by decide +kernel
theorem d_TM_addSoaks_20 : decode b_TM_addSoaks 20 = .ok (.iaload, 1) := by decide +kernel
theorem d_TM_addSoaks_21 : decode b_TM_addSoaks 21 = .ok (.istore_n 3, 1) := by decide +kernel
theorem d_TM_addSoaks_22 : decode b_TM_addSoaks 22 = .ok (.aload_n 1, 1) := by decide +kernel
theorem d_TM_addSoaks_23 : decode b_TM_addSoaks 23 = .ok (.iload_n 2, 1) := by decide +kernel
theorem d_TM_addSoaks_24 : decode b_TM_addSoaks 24 = .ok (.invokevirtual 74, 3) := by decide +kernel
theorem d_TM_addSoaks_27 : decode b_TM_addSoaks 27 = .ok (.istore 4, 2) := by decide +kernel
theorem d_TM_addSoaks_29 : decode b_TM_addSoaks 29 = .ok (.aload_n 0, 1) := by decide +kernel
theorem d_TM_addSoaks_30 : decode b_TM_addSoaks 30 = .ok (.iload_n 2, 1) := by decide +kernel
theorem d_TM_addSoaks_31 : decode b_TM_addSoaks 31 = .ok (.iconst 1, 1) := by decide +kernel
theorem d_TM_addSoaks_32 : decode b_TM_addSoaks 32 = .ok (.isub, 1) := by decide +kernel
theorem d_TM_addSoaks_33 : decode b_TM_addSoaks 33 = .ok (.iload_n 2, 1) := by decide +kernel
theorem d_TM_addSoaks_34 : decode b_TM_addSoaks 34 = .ok (.iload_n 3, 1) := by decide +kernel
theorem d_TM_addSoaks_35 : decode b_TM_addSoaks 35 = .ok (.aload_n 0, 1) := by decide +kernel
theorem d_TM_addSoaks_36 : decode b_TM_addSoaks 36 = .ok (.getfield 30, 3) := by decide +kernel
theorem d_TM_addSoaks_39 : decode b_TM_addSoaks 39 = .ok (.getfield 78, 3) := by decide +kernel
theorem d_TM_addSoaks_42 : decode b_TM_addSoaks 42 = .ok (.iload_n 2, 1) := by decide +kernel
theorem d_TM_addSoaks_43 : decode b_TM_addSoaks 43 = .ok (.iaload, 1) := by decide +kernel
theorem d_TM_addSoaks_44 : decode b_TM_addSoaks 44 = .ok (.iadd, 1) := by decide +kernel
theorem d_TM_addSoaks_45 : decode b_TM_addSoaks 45 = .ok (.iload 4, 2) := by decide +kernel
theorem d_TM_addSoaks_47 : decode b_TM_addSoaks 47 = .ok (.ineg, 1) := by decide +kernel
theorem d_TM_addSoaks_48 : decode b_TM_addSoaks 48 = .ok (.invokevirtual 70, 3) := by decide +kernel
theorem d_TM_addSoaks_51 : decode b_TM_addSoaks 51 = .ok (.aload_n 0, 1) := by decide +kernel
theorem d_TM_addSoaks_52 : decode b_TM_addSoaks 52 = .ok (.iload_n 2, 1) := by decide +kernel
theorem d_TM_addSoaks_53 : decode b_TM_addSoaks 53 = .ok (.iload_n 2, 1) := by decide +kernel
theorem d_TM_addSoaks_54 : decode b_TM_addSoaks 54 = .ok (.iconst 1, 1) := by decide +kernel
theorem d_TM_addSoaks_55 : decode b_TM_addSoaks 55 = .ok (.isub, 1) := by decide +kernel
theorem d_TM_addSoaks_56 : decode b_TM_addSoaks 56 = .ok (.iload_n 3, 1) := by decide +kernel
theorem d_TM_addSoaks_57 : decode b_TM_addSoaks 57 = .ok (.ineg, 1) := by decide +kernel
theorem d_TM_addSoaks_58 : decode b_TM_addSoaks 58 = .ok (.aload_n 0, 1) := by decide +kernel
theorem d_TM_addSoaks_59 : decode b_TM_addSoaks 59 = .ok (.getfield 30, 3) := by decide +kernel
theorem d_TM_addSoaks_62 : decode b_TM_addSoaks 62 = .ok (.getfield 81, 3) := by decide +kernel
theorem d_TM_addSoaks_65 : decode b_TM_addSoaks 65 = .ok (.iload_n 2, 1) := by decide +kernel
theorem d_TM_addSoaks_66 : decode b_TM_addSoaks 66 = .ok (.iaload, 1) := by decide +kernel
theorem d_TM_addSoaks_67 : decode b_TM_addSoaks 67 = .ok (.isub, 1) := by decide +kernel
theorem d_TM_addSoaks_68 : decode b_TM_addSoaks 68 = .ok (.iload 4, 2) := by decide +kernel
theorem d_TM_addSoaks_70 : decode b_TM_addSoaks 70 = .ok (.invokevirtual 70, 3) := by decide +kernel
theorem d_TM_addSoaks_73 : decode b_TM_addSoaks 73 = .ok (.iinc 2 1, 3) := by decide +kernel
theorem d_TM_addSoaks_76 : decode b_TM_addSoaks 76 = .ok (.goto (-74), 3) := by decide +kernel
theorem d_TM_addSoaks_79 : decode b_TM_addSoaks 79 = .ok (.return_, 1) := by decide +kernel
theorem d_TM_raiseTimes_0 : decode b_TM_raiseTimes 0 = .ok (.iconst (-1), 1) := by decide +kernel
theorem d_TM_raiseTimes_1 : decode b_TM_raiseTimes 1 = .ok (.istore_n 2, 1) := by decide +kernel
theorem d_TM_raiseTimes_2 : decode b_TM_raiseTimes 2 = .ok (.iconst 0, 1) := by decide +kernel
theorem d_TM_raiseTimes_3 : decode b_TM_raiseTimes 3 = .ok (.istore_n 3, 1) := by decide +kernel
theorem d_TM_raiseTimes_4 : decode b_TM_raiseTimes 4 = .ok (.iload_n 3, 1) := by decide +kernel
theorem d_TM_raiseTimes_5 : decode b_TM_raiseTimes 5 = .ok (.aload_n 0, 1) := by decide +kernel
theorem d_TM_raiseTimes_6 : decode b_TM_raiseTimes 6 = .ok (.getfield 34, 3) := by decide +kernel
theorem d_TM_raiseTimes_9 : decode b_TM_raiseTimes 9 = .ok (.if_icmp .ge 78, 3) := by decide +kernel
theorem d_TM_raiseTimes_12 : decode b_TM_raiseTimes 12 = .ok (.aload_n 0, 1) := by decide +kernel
theorem d_TM_raiseTimes_13 : decode b_TM_raiseTimes 13 = .ok (.getfield 27, 3) := by decide +kernel
theorem d_TM_raiseTimes_16 : decode b_TM_raiseTimes 16 = .ok (.aload_n 0, 1) := by decide +kernel
theorem d_TM_raiseTimes_17 : decode b_TM_raiseTimes 17 = .ok (.getfield 9, 3) := by decide +kernel
theorem d_TM_raiseTimes_20 : decode b_TM_raiseTimes 20 = .ok (.iload_n 3, 1) := by decide +kernel
theorem d_TM_raiseTimes_21 : decode b_TM_raiseTimes 21 = .ok (.iaload, 1) := by decide +kernel
theorem d_TM_raiseTimes_22 : decode b_TM_raiseTimes 22 = .ok (.iaload, 1) := by decide +kernel
theorem d_TM_raiseTimes_23 : decode b_TM_raiseTimes 23 = .ok (.aload_n 0, 1) := by decide +kernel
theorem d_TM_raiseTimes_24 : decode b_TM_raiseTimes 24 = .ok (.getfield 18, 3) := by decide +kernel
theorem d_TM_raiseTimes_27 : decode b_TM_raiseTimes 27 = .ok (.iload_n 3, 1) := by decide +kernel
theorem d_TM_raiseTimes_28 : decode b_TM_raiseTimes 28 = .ok (.iaload, 1) := by decide +kernel
theorem d_TM_raiseTimes_29 : decode b_TM_raiseTimes 29 = .ok (.iadd, 1) := by decide +kernel
theorem d_TM_raiseTimes_30 : decode b_TM_raiseTimes 30 = .ok (.aload_n 0, 1) := by decide +kernel
theorem d_TM_raiseTimes_31 : decode b_TM_raiseTimes 31 = .ok (.getfield 21, 3) := by decide +kernel
theorem d_TM_raiseTimes_34 : decode b_TM_raiseTimes 34 = .ok (.iload_n 3, 1) := by decide +kernel
theorem d_TM_raiseTimes_35 : decode b_TM_raiseTimes 35 = .ok (.iaload, 1) := by decide +kernel
theorem d_TM_raiseTimes_36 : decode b_TM_raiseTimes 36 = .ok (.iload_n 1, 1) := by decide +kernel
theorem d_TM_raiseTimes_37 : decode b_TM_raiseTimes 37 = .ok (.imul, 1) := by decide +kernel
theorem d_TM_raiseTimes_38 : decode b_TM_raiseTimes 38 = .ok (.iadd, 1) := by decide +kernel
theorem d_TM_raiseTimes_39 : decode b_TM_raiseTimes 39 = .ok (.istore 4, 2) := by decide +kernel
theorem d_TM_raiseTimes_41 : decode b_TM_raiseTimes 41 = .ok (.aload_n 0, 1) := by decide +kernel
theorem d_TM_raiseTimes_42 : decode b_TM_raiseTimes 42 = .ok (.getfield 15, 3) := by decide +kernel
theorem d_TM_raiseTimes_45 : decode b_TM_raiseTimes 45 = .ok (.iload_n 3, 1) := by decide +kernel
theorem d_TM_raiseTimes_46 : decode b_TM_raiseTimes 46 = .ok (.iaload, 1) := by decide +kernel
theorem d_TM_raiseTimes_47 : decode b_TM_raiseTimes 47 = .ok (.istore 5, 2) := by decide +kernel
theorem d_TM_raiseTimes_49 : decode b_TM_raiseTimes 49 = .ok (.aload_n 0, 1) := by decide +kernel
theorem d_TM_raiseTimes_50 : decode b_TM_raiseTimes 50 = .ok (.getfield 27, 3) := by decide +kernel
theorem d_TM_raiseTimes_53 : decode b_TM_raiseTimes 53 = .ok (.iload 5, 2) := by decide +kernel
theorem d_TM_raiseTimes_55 : decode b_TM_raiseTimes 55 = .ok (.iaload, 1) := by decide +kernel
theorem d_TM_raiseTimes_56 : decode b_TM_raiseTimes 56 = .ok (.iload 4, 2) := by decide +kernel
theorem d_TM_raiseTimes_58 : decode b_TM_raiseTimes 58 = .ok (.if_icmp .ge 23, 3) := by decide +kernel
theorem d_TM_raiseTimes_61 : decode b_TM_raiseTimes 61 = .ok (.aload_n 0, 1) := by decide +kernel
theorem d_TM_raiseTimes_62 : decode b_TM_raiseTimes 62 = .ok (.getfield 27, 3) := by decide +kernel
theorem d_TM_raiseTimes_65 : decode b_TM_raiseTimes 65 = .ok (.iload 5, 2) := by decide +kernel
theorem d_TM_raiseTimes_67 : decode b_TM_raiseTimes 67 = .ok (.iload 4, 2) := by decide +kernel
theorem d_TM_raiseTimes_69 : decode b_TM_raiseTimes 69 = .ok (.iastore, 1) := by decide +kernel
theorem d_TM_raiseTimes_70 : decode b_TM_raiseTimes 70 = .ok (.aload_n 0, 1) := by decide +kernel
theorem d_TM_raiseTimes_71 : decode b_TM_raiseTimes 71 = .ok (.getfield 24, 3) := by decide +kernel
theorem d_TM_raiseTimes_74 : decode b_TM_raiseTimes 74 = .ok (.iload 5, 2) := by decide +kernel
theorem d_TM_raiseTimes_76 : decode b_TM_raiseTimes 76 = .ok (.iload_n 3, 1) := by decide +kernel
theorem d_TM_raiseTimes_77 : decode b_TM_raiseTimes 77 = .ok (.iastore, 1) := by decide +kernel
theorem d_TM_raiseTimes_78 : decode b_TM_raiseTimes 78 = .ok (.iload 5, 2) := by decide +kernel
theorem d_TM_raiseTimes_80 : decode b_TM_raiseTimes 80 = .ok (.istore_n 2, 1) := by decide +kernel
theorem d_TM_raiseTimes_81 : decode b_TM_raiseTimes 81 = .ok (.iinc 3 1, 3) := by decide +kernel
theorem d_TM_raiseTimes_84 : decode b_TM_raiseTimes 84 = .ok (.goto (-80), 3) := by decide +kernel
theorem d_TM_raiseTimes_87 : decode b_TM_raiseTimes 87 = .ok (.iload_n 2, 1) := by decide +kernel
theorem d_TM_raiseTimes_88 : decode b_TM_raiseTimes 88 = .ok (.ireturn, 1) := by decide +kernel
theorem d_TM_settleTimes_0 : decode b_TM_settleTimes 0 = .ok (.aload_n 0, 1) := by decide +kernel
theorem d_TM_settleTimes_1 : decode b_TM_settleTimes 1 = .ok (.getfield 27, 3) := by decide +kernel
theorem d_TM_settleTimes_4 : decode b_TM_settleTimes 4 = .ok (.iconst 0, 1) := by decide +kernel
theorem d_TM_settleTimes_5 : decode b_TM_settleTimes 5 = .ok (.invokestatic 84, 3) := by decide +kernel
theorem d_TM_settleTimes_8 : decode b_TM_settleTimes 8 = .ok (.iconst 0, 1) := by decide +kernel
theorem d_TM_settleTimes_9 : decode b_TM_settleTimes 9 = .ok (.istore_n 3, 1) := by decide +kernel
theorem d_TM_settleTimes_10 : decode b_TM_settleTimes 10 = .ok (.iload_n 3, 1) := by decide +kernel
theorem d_TM_settleTimes_11 : decode b_TM_settleTimes 11 = .ok (.iload_n 1, 1) := by decide +kernel
theorem d_TM_settleTimes_12 : decode b_TM_settleTimes 12 = .ok (.if_icmp .ge 34, 3) := by decide +kernel
theorem d_TM_settleTimes_15 : decode b_TM_settleTimes 15 = .ok (.aload_n 0, 1) := by decide +kernel
theorem d_TM_settleTimes_16 : decode b_TM_settleTimes 16 = .ok (.iload_n 2, 1) := by decide +kernel
theorem d_TM_settleTimes_17 : decode b_TM_settleTimes 17 = .ok (.invokevirtual 90, 3) := by decide +kernel
theorem d_TM_settleTimes_20 : decode b_TM_settleTimes 20 = .ok (.istore 4, 2) := by decide +kernel
theorem d_TM_settleTimes_22 : decode b_TM_settleTimes 22 = .ok (.iload 4, 2) := by decide +kernel
theorem d_TM_settleTimes_24 : decode b_TM_settleTimes 24 = .ok (.iconst (-1), 1) := by decide +kernel
theorem d_TM_settleTimes_25 : decode b_TM_settleTimes 25 = .ok (.if_icmp .ne 5, 3) := by decide +kernel
theorem d_TM_settleTimes_28 : decode b_TM_settleTimes 28 = .ok (.iconst (-1), 1) := by decide +kernel
theorem d_TM_settleTimes_29 : decode b_TM_settleTimes 29 = .ok (.ireturn, 1) := by decide +kernel
theorem d_TM_settleTimes_30 : decode b_TM_settleTimes 30 = .ok (.iload_n 3, 1) := by decide +kernel
theorem d_TM_settleTimes_31 : decode b_TM_settleTimes 31 = .ok (.iload_n 1, 1) := by decide +kernel
theorem d_TM_settleTimes_32 : decode b_TM_settleTimes 32 = .ok (.iconst 1, 1) := by decide +kernel
theorem d_TM_settleTimes_33 : decode b_TM_settleTimes 33 = .ok (.isub, 1) := by decide +kernel
theorem d_TM_settleTimes_34 : decode b_TM_settleTimes 34 = .ok (.if_icmp .ne 6, 3) := by decide +kernel
theorem d_TM_settleTimes_37 : decode b_TM_settleTimes 37 = .ok (.iload 4, 2) := by decide +kernel
theorem d_TM_settleTimes_39 : decode b_TM_settleTimes 39 = .ok (.ireturn, 1) := by decide +kernel
theorem d_TM_settleTimes_40 : decode b_TM_settleTimes 40 = .ok (.iinc 3 1, 3) := by decide +kernel
theorem d_TM_settleTimes_43 : decode b_TM_settleTimes 43 = .ok (.goto (-33), 3) := by decide +kernel
theorem d_TM_settleTimes_46 : decode b_TM_settleTimes 46 = .ok (.iconst (-1), 1) := by decide +kernel
theorem d_TM_settleTimes_47 : decode b_TM_settleTimes 47 = .ok (.ireturn, 1) := by decide +kernel
theorem d_TM_moveOnRing_0 : decode b_TM_moveOnRing 0 = .ok (.iload_n 2, 1) := by decide +kernel
theorem d_TM_moveOnRing_1 : decode b_TM_moveOnRing 1 = .ok (.istore_n 3, 1) := by decide +kernel
theorem d_TM_moveOnRing_2 : decode b_TM_moveOnRing 2 = .ok (.iconst 0, 1) := by decide +kernel
theorem d_TM_moveOnRing_3 : decode b_TM_moveOnRing 3 = .ok (.istore 4, 2) := by decide +kernel
theorem d_TM_moveOnRing_5 : decode b_TM_moveOnRing 5 = .ok (.iload 4, 2) := by decide +kernel
theorem d_TM_moveOnRing_7 : decode b_TM_moveOnRing 7 = .ok (.iload_n 1, 1) := by decide +kernel
theorem d_TM_moveOnRing_8 : decode b_TM_moveOnRing 8 = .ok (.if_icmp .ge 21, 3) := by decide +kernel
theorem d_TM_moveOnRing_11 : decode b_TM_moveOnRing 11 = .ok (.aload_n 0, 1) := by decide +kernel
theorem d_TM_moveOnRing_12 : decode b_TM_moveOnRing 12 = .ok (.getfield 9, 3) := by decide +kernel
theorem d_TM_moveOnRing_15 : decode b_TM_moveOnRing 15 = .ok (.aload_n 0, 1) := by decide +kernel
theorem d_TM_moveOnRing_16 : decode b_TM_moveOnRing 16 = .ok (.getfield 24, 3) := by decide +kernel
theorem d_TM_moveOnRing_19 : decode b_TM_moveOnRing 19 = .ok (.iload_n 3, 1) := by decide +kernel
theorem d_TM_moveOnRing_20 : decode b_TM_moveOnRing 20 = .ok (.iaload, 1) := by decide +kernel
theorem d_TM_moveOnRing_21 : decode b_TM_moveOnRing 21 = .ok (.iaload, 1) := by decide +kernel
theorem d_TM_moveOnRing_22 : decode b_TM_moveOnRing 22 = .ok (.istore_n 3, 1) := by decide +kernel
theorem d_TM_moveOnRing_23 : decode b_TM_moveOnRing 23 = .ok (.iinc 4 1, 3) := by decide +kernel
theorem d_TM_moveOnRing_26 : decode b_TM_moveOnRing 26 = .ok (.goto (-21), 3) := by decide +kernel
theorem d_TM_moveOnRing_29 : decode b_TM_moveOnRing 29 = .ok (.iload_n 3, 1) := by decide +kernel
theorem d_TM_moveOnRing_30 : decode b_TM_moveOnRing 30 = .ok (.ireturn, 1) := by decide +kernel
theorem d_TM_cycleThatBreaksRing_0 : decode b_TM_cycleThatBreaksRing 0 = .ok (.aload_n 0, 1) := by decide +kernel
theorem d_TM_cycleThatBreaksRing_1 : decode b_TM_cycleThatBreaksRing 1 = .ok (.iload_n 1, 1) := by decide +kernel
theorem d_TM_cycleThatBreaksRing_2 : decode b_TM_cycleThatBreaksRing 2 = .ok (.iload_n 2, 1) := by decide +kernel
theorem d_TM_cycleThatBreaksRing_3 : decode b_TM_cycleThatBreaksRing 3 = .ok (.invokevirtual 93, 3) := by decide +kernel
theorem d_TM_cycleThatBreaksRing_6 : decode b_TM_cycleThatBreaksRing 6 = .ok (.istore_n 3, 1) := by decide +kernel
theorem d_TM_cycleThatBreaksRing_7 : decode b_TM_cycleThatBreaksRing 7 = .ok (.iconst 0, 1) := by decide +kernel
theorem d_TM_cycleThatBreaksRing_8 : decode b_TM_cycleThatBreaksRing 8 = .ok (.istore 4, 2) := by decide +kernel
theorem d_TM_cycleThatBreaksRing_10 : decode b_TM_cycleThatBreaksRing 10 = .ok (.iconst 0, 1) := by decide +kernel
theorem d_TM_cycleThatBreaksRing_11 : decode b_TM_cycleThatBreaksRing 11 = .ok (.istore 5, 2) := by decide +kernel
theorem d_TM_cycleThatBreaksRing_13 : decode b_TM_cycleThatBreaksRing 13 = .ok (.iload_n 3, 1) := by decide +kernel
theorem d_TM_cycleThatBreaksRing_14 : decode b_TM_cycleThatBreaksRing 14 = .ok (.istore 6, 2) := by decide +kernel
theorem d_TM_cycleThatBreaksRing_16 : decode b_TM_cycleThatBreaksRing 16 = .ok (.iconst 0, 1) := by decide +kernel
theorem d_TM_cycleThatBreaksRing_17 : decode b_TM_cycleThatBreaksRing 17 = .ok (.istore 7, 2) := by decide +kernel
theorem d_TM_cycleThatBreaksRing_19 : decode b_TM_cycleThatBreaksRing 19 = .ok (.iload 7, 2) := by decide +kernel
theorem d_TM_cycleThatBreaksRing_21 : decode b_TM_cycleThatBreaksRing 21 = .ok (.iload_n 1, 1) := by decide +kernel
theorem d_TM_cycleThatBreaksRing_22 : decode b_TM_cycleThatBreaksRing 22 = .ok (.if_icmp .ge 60, 3) := by decide +kernel
theorem d_TM_cycleThatBreaksRing_25 : decode b_TM_cycleThatBreaksRing 25 = .ok (.aload_n 0, 1) := by decide +kernel
theorem d_TM_cycleThatBreaksRing_26 : decode b_TM_cycleThatBreaksRing 26 = .ok (.getfield 24, 3) := by decide +kernel
theorem d_TM_cycleThatBreaksRing_29 : decode b_TM_cycleThatBreaksRing 29 = .ok (.iload 6, 2) := by decide +kernel
theorem d_TM_cycleThatBreaksRing_31 : decode b_TM_cycleThatBreaksRing 31 = .ok (.iaload, 1) := by decide +kernel
theorem d_TM_cycleThatBreaksRing_32 : decode b_TM_cycleThatBreaksRing 32 = .ok (.istore 8, 2) := by decide +kernel
theorem d_TM_cycleThatBreaksRing_34 : decode b_TM_cycleThatBreaksRing 34 = .ok (.iload 4, 2) := by decide +kernel
theorem d_TM_cycleThatBreaksRing_36 : decode b_TM_cycleThatBreaksRing 36 = .ok (.aload_n 0, 1) := by decide +kernel
theorem d_TM_cycleThatBreaksRing_37 : decode b_TM_cycleThatBreaksRing 37 = .ok (.getfield 18, 3) := by decide +kernel
theorem d_TM_cycleThatBreaksRing_40 : decode b_TM_cycleThatBreaksRing 40 = .ok (.iload 8, 2) := by decide +kernel
theorem d_TM_cycleThatBreaksRing_42 : decode b_TM_cycleThatBreaksRing 42 = .ok (.iaload, 1) := by decide +kernel
theorem d_TM_cycleThatBreaksRing_43 : decode b_TM_cycleThatBreaksRing 43 = .ok (.iadd, 1) := by decide +kernel
theorem d_TM_cycleThatBreaksRing_44 : decode b_TM_cycleThatBreaksRing 44 = .ok (.istore 4, 2) := by decide +kernel
theorem d_TM_cycleThatBreaksRing_46 : decode b_TM_cycleThatBreaksRing 46 = .ok (.iload 5, 2) := by decide +kernel
theorem d_TM_cycleThatBreaksRing_48 : decode b_TM_cycleThatBreaksRing 48 = .ok (.aload_n 0, 1) := by decide +kernel
theorem d_TM_cycleThatBreaksRing_49 : decode b_TM_cycleThatBreaksRing 49 = .ok (.getfield 21, 3) := by decide +kernel
theorem d_TM_cycleThatBreaksRing_52 : decode b_TM_cycleThatBreaksRing 52 = .ok (.iload 8, 2) := by decide +kernel
theorem d_TM_cycleThatBreaksRing_54 : decode b_TM_cycleThatBreaksRing 54 = .ok (.iaload, 1) := by decide +kernel
theorem d_TM_cycleThatBreaksRing_55 : decode b_TM_cycleThatBreaksRing 55 = .ok (.iadd, 1) := by decide +kernel
theorem d_TM_cycleThatBreaksRing_56 : decode b_TM_cycleThatBreaksRing 56 = .ok (.istore 5, 2) := by decide +kernel
theorem d_TM_cycleThatBreaksRing_58 : decode b_TM_cycleThatBreaksRing 58 = .ok (.aload_n 0, 1) := by decide +kernel
theorem d_TM_cycleThatBreaksRing_59 : decode b_TM_cycleThatBreaksRing 59 = .ok (.getfield 9, 3) := by decide +kernel
theorem d_TM_cycleThatBreaksRing_62 : decode b_TM_cycleThatBreaksRing 62 = .ok (.iload 8, 2) := by decide +kernel
theorem d_TM_cycleThatBreaksRing_64 : decode b_TM_cycleThatBreaksRing 64 = .ok (.iaload, 1) := by decide +kernel
theorem d_TM_cycleThatBreaksRing_65 : decode b_TM_cycleThatBreaksRing 65 = .ok (.istore 6, 2) := by decide +kernel
theorem d_TM_cycleThatBreaksRing_67 : decode b_TM_cycleThatBreaksRing 67 = .ok (.iload 6, 2) := by decide +kernel
theorem d_TM_cycleThatBreaksRing_69 : decode b_TM_cycleThatBreaksRing 69 = .ok (.iload_n 3, 1) := by decide +kernel
theorem d_TM_cycleThatBreaksRing_70 : decode b_TM_cycleThatBreaksRing 70 = .ok (.if_icmp .ne 6, 3) := by decide +kernel
theorem d_TM_cycleThatBreaksRing_73 : decode b_TM_cycleThatBreaksRing 73 = .ok (.goto 9, 3) := by decide +kernel
theorem d_TM_cycleThatBreaksRing_76 : decode b_TM_cycleThatBreaksRing 76 = .ok (.iinc 7 1, 3) := by decide +kernel
theorem d_TM_cycleThatBreaksRing_79 : decode b_TM_cycleThatBreaksRing 79 = .ok (.goto (-60), 3) := by decide +kernel
theorem d_TM_cycleThatBreaksRing_82 : decode b_TM_cycleThatBreaksRing 82 = .ok (.iload 5, 2) := by decide +kernel
theorem d_TM_cycleThatBreaksRing_84 : decode b_TM_cycleThatBreaksRing 84 = .ok (.ifCond .lt 7, 3) := by decide +kernel
theorem d_TM_cycleThatBreaksRing_87 : decode b_TM_cycleThatBreaksRing 87 = .ok (.sipush 2001, 3) := by decide +kernel
theorem d_TM_cycleThatBreaksRing_90 : decode b_TM_cycleThatBreaksRing 90 = .ok (.ireturn, 1) := by decide +kernel
theorem d_TM_cycleThatBreaksRing_91 : decode b_TM_cycleThatBreaksRing 91 = .ok (.iload 5, 2) := by decide +kernel
theorem d_TM_cycleThatBreaksRing_93 : decode b_TM_cycleThatBreaksRing 93 = .ok (.ineg, 1) := by decide +kernel
theorem d_TM_cycleThatBreaksRing_94 : decode b_TM_cycleThatBreaksRing 94 = .ok (.istore 7, 2) := by decide +kernel
theorem d_TM_cycleThatBreaksRing_96 : decode b_TM_cycleThatBreaksRing 96 = .ok (.iload 4, 2) := by decide +kernel
theorem d_TM_cycleThatBreaksRing_98 : decode b_TM_cycleThatBreaksRing 98 = .ok (.iload 7, 2) := by decide +kernel
theorem d_TM_cycleThatBreaksRing_100 : decode b_TM_cycleThatBreaksRing 100 = .ok (.iadd, 1) := by decide +kernel
theorem d_TM_cycleThatBreaksRing_101 : decode b_TM_cycleThatBreaksRing 101 = .ok (.iconst 1, 1) := by decide +kernel
theorem d_TM_cycleThatBreaksRing_102 : decode b_TM_cycleThatBreaksRing 102 = .ok (.isub, 1) := by decide +kernel
theorem d_TM_cycleThatBreaksRing_103 : decode b_TM_cycleThatBreaksRing 103 = .ok (.iload 7, 2) := by decide +kernel
theorem d_TM_cycleThatBreaksRing_105 : decode b_TM_cycleThatBreaksRing 105 = .ok (.idiv, 1) := by decide +kernel
theorem d_TM_cycleThatBreaksRing_106 : decode b_TM_cycleThatBreaksRing 106 = .ok (.ireturn, 1) := by decide +kernel
theorem d_TM_leastCycle_0 : decode b_TM_leastCycle 0 = .ok (.aload_n 0, 1) := by decide +kernel
theorem d_TM_leastCycle_1 : decode b_TM_leastCycle 1 = .ok (.iconst 0, 1) := by decide +kernel
theorem d_TM_leastCycle_2 : decode b_TM_leastCycle 2 = .ok (.putfield 34, 3) := by decide +kernel
theorem d_TM_leastCycle_5 : decode b_TM_leastCycle 5 = .ok (.aload_n 0, 1) := by decide +kernel
theorem d_TM_leastCycle_6 : decode b_TM_leastCycle 6 = .ok (.aload_n 1, 1) := by decide +kernel
theorem d_TM_leastCycle_7 : decode b_TM_leastCycle 7 = .ok (.invokevirtual 38, 3) := by decide +kernel
theorem d_TM_leastCycle_10 : decode b_TM_leastCycle 10 = .ok (.istore_n 3, 1) := by decide +kernel
theorem d_TM_leastCycle_11 : decode b_TM_leastCycle 11 = .ok (.iload_n 3, 1) := by decide +kernel
theorem d_TM_leastCycle_12 : decode b_TM_leastCycle 12 = .ok (.iload_n 2, 1) := by decide +kernel
theorem d_TM_leastCycle_13 : decode b_TM_leastCycle 13 = .ok (.if_icmp .le 5, 3) := by decide +kernel
theorem d_TM_leastCycle_16 : decode b_TM_leastCycle 16 = .ok (.iconst (-1), 1) := by decide +kernel
theorem d_TM_leastCycle_17 : decode b_TM_leastCycle 17 = .ok (.ireturn, 1) := by decide +kernel
theorem d_TM_leastCycle_18 : decode b_TM_leastCycle 18 = .ok (.aload_n 0, 1) := by decide +kernel
theorem d_TM_leastCycle_19 : decode b_TM_leastCycle 19 = .ok (.aload_n 1, 1) := by decide +kernel
theorem d_TM_leastCycle_20 : decode b_TM_leastCycle 20 = .ok (.invokevirtual 42, 3) := by decide +kernel
theorem d_TM_leastCycle_23 : decode b_TM_leastCycle 23 = .ok (.iconst 0, 1) := by decide +kernel
theorem d_TM_leastCycle_24 : decode b_TM_leastCycle 24 = .ok (.istore 4, 2) := by decide +kernel
theorem d_TM_leastCycle_26 : decode b_TM_leastCycle 26 = .ok (.iload 4, 2) := by decide +kernel
theorem d_TM_leastCycle_28 : decode b_TM_leastCycle 28 = .ok (.sipush 2000, 3) := by decide +kernel
theorem d_TM_leastCycle_31 : decode b_TM_leastCycle 31 = .ok (.if_icmp .ge 44, 3) := by decide +kernel
theorem d_TM_leastCycle_34 : decode b_TM_leastCycle 34 = .ok (.iload_n 3, 1) := by decide +kernel
theorem d_TM_leastCycle_35 : decode b_TM_leastCycle 35 = .ok (.iload_n 2, 1) := by decide +kernel
theorem d_TM_leastCycle_36 : decode b_TM_leastCycle 36 = .ok (.if_icmp .gt 39, 3) := by decide +kernel
theorem d_TM_leastCycle_39 : decode b_TM_leastCycle 39 = .ok (.aload_n 0, 1) := by decide +kernel
theorem d_TM_leastCycle_40 : decode b_TM_leastCycle 40 = .ok (.aload_n 1, 1) := by decide +kernel
theorem d_TM_leastCycle_41 : decode b_TM_leastCycle 41 = .ok (.getfield 46, 3) := by decide +kernel
theorem d_TM_leastCycle_44 : decode b_TM_leastCycle 44 = .ok (.iload_n 3, 1) := by decide +kernel
theorem d_TM_leastCycle_45 : decode b_TM_leastCycle 45 = .ok (.invokevirtual 51, 3) := by decide +kernel
theorem d_TM_leastCycle_48 : decode b_TM_leastCycle 48 = .ok (.istore 5, 2) := by decide +kernel
theorem d_TM_leastCycle_50 : decode b_TM_leastCycle 50 = .ok (.iload 5, 2) := by decide +kernel
theorem d_TM_leastCycle_52 : decode b_TM_leastCycle 52 = .ok (.iconst (-1), 1) := by decide +kernel
theorem d_TM_leastCycle_53 : decode b_TM_leastCycle 53 = .ok (.if_icmp .ne 5, 3) := by decide +kernel
theorem d_TM_leastCycle_56 : decode b_TM_leastCycle 56 = .ok (.iload_n 3, 1) := by decide +kernel
theorem d_TM_leastCycle_57 : decode b_TM_leastCycle 57 = .ok (.ireturn, 1) := by decide +kernel
theorem d_TM_leastCycle_58 : decode b_TM_leastCycle 58 = .ok (.aload_n 0, 1) := by decide +kernel
theorem d_TM_leastCycle_59 : decode b_TM_leastCycle 59 = .ok (.aload_n 1, 1) := by decide +kernel
theorem d_TM_leastCycle_60 : decode b_TM_leastCycle 60 = .ok (.getfield 46, 3) := by decide +kernel
theorem d_TM_leastCycle_63 : decode b_TM_leastCycle 63 = .ok (.iload 5, 2) := by decide +kernel
theorem d_TM_leastCycle_65 : decode b_TM_leastCycle 65 = .ok (.invokevirtual 55, 3) := by decide +kernel
theorem d_TM_leastCycle_68 : decode b_TM_leastCycle 68 = .ok (.istore_n 3, 1) := by decide +kernel
theorem d_TM_leastCycle_69 : decode b_TM_leastCycle 69 = .ok (.iinc 4 1, 3) := by decide +kernel
theorem d_TM_leastCycle_72 : decode b_TM_leastCycle 72 = .ok (.goto (-46), 3) := by decide +kernel
theorem d_TM_leastCycle_75 : decode b_TM_leastCycle 75 = .ok (.iconst (-1), 1) := by decide +kernel
theorem d_TM_leastCycle_76 : decode b_TM_leastCycle 76 = .ok (.ireturn, 1) := by decide +kernel
theorem d_PL_keep_0 : decode b_PL_keep 0 = .ok (.aload_n 0, 1) := by decide +kernel
theorem d_PL_keep_1 : decode b_PL_keep 1 = .ok (.getfield 12, 3) := by decide +kernel
theorem d_PL_keep_4 : decode b_PL_keep 4 = .ok (.aload_n 1, 1) := by decide +kernel
theorem d_PL_keep_5 : decode b_PL_keep 5 = .ok (.invokevirtual 22, 3) := by decide +kernel
theorem d_PL_keep_8 : decode b_PL_keep 8 = .ok (.aload_n 2, 1) := by decide +kernel
theorem d_PL_keep_9 : decode b_PL_keep 9 = .ok (.iconst 0, 1) := by decide +kernel
theorem d_PL_keep_10 : decode b_PL_keep 10 = .ok (.aload_n 0, 1) := by decide +kernel
theorem d_PL_keep_11 : decode b_PL_keep 11 = .ok (.getfield 18, 3) := by decide +kernel
theorem d_PL_keep_14 : decode b_PL_keep 14 = .ok (.iconst 0, 1) := by decide +kernel
theorem d_PL_keep_15 : decode b_PL_keep 15 = .ok (.bipush 6, 2) := by decide +kernel
theorem d_PL_keep_17 : decode b_PL_keep 17 = .ok (.invokestatic 26, 3) := by decide +kernel
theorem d_PL_keep_20 : decode b_PL_keep 20 = .ok (.aload_n 0, 1) := by decide +kernel
theorem d_PL_keep_21 : decode b_PL_keep 21 = .ok (.iload_n 3, 1) := by decide +kernel
theorem d_PL_keep_22 : decode b_PL_keep 22 = .ok (.putfield 32, 3) := by decide +kernel
theorem d_PL_keep_25 : decode b_PL_keep 25 = .ok (.return_, 1) := by decide +kernel
theorem d_PL_soakSeconds_0 : decode b_PL_soakSeconds 0 = .ok (.aload_n 0, 1) := by decide +kernel
theorem d_PL_soakSeconds_1 : decode b_PL_soakSeconds 1 = .ok (.getfield 18, 3) := by decide +kernel
theorem d_PL_soakSeconds_4 : decode b_PL_soakSeconds 4 = .ok (.iload_n 1, 1) := by decide +kernel
theorem d_PL_soakSeconds_5 : decode b_PL_soakSeconds 5 = .ok (.iconst 1, 1) := by decide +kernel
theorem d_PL_soakSeconds_6 : decode b_PL_soakSeconds 6 = .ok (.isub, 1) := by decide +kernel
theorem d_PL_soakSeconds_7 : decode b_PL_soakSeconds 7 = .ok (.iaload, 1) := by decide +kernel
theorem d_PL_soakSeconds_8 : decode b_PL_soakSeconds 8 = .ok (.aload_n 2, 1) := by decide +kernel
theorem d_PL_soakSeconds_9 : decode b_PL_soakSeconds 9 = .ok (.getfield 36, 3) := by decide +kernel
theorem d_PL_soakSeconds_12 : decode b_PL_soakSeconds 12 = .ok (.iload_n 1, 1) := by decide +kernel
theorem d_PL_soakSeconds_13 : decode b_PL_soakSeconds 13 = .ok (.iconst 1, 1) := by decide +kernel
theorem d_PL_soakSeconds_14 : decode b_PL_soakSeconds 14 = .ok (.isub, 1) := by decide +kernel
theorem d_PL_soakSeconds_15 : decode b_PL_soakSeconds 15 = .ok (.iaload, 1) := by decide +kernel
theorem d_PL_soakSeconds_16 : decode b_PL_soakSeconds 16 = .ok (.iadd, 1) := by decide +kernel
theorem d_PL_soakSeconds_17 : decode b_PL_soakSeconds 17 = .ok (.istore_n 3, 1) := by decide +kernel
theorem d_PL_soakSeconds_18 : decode b_PL_soakSeconds 18 = .ok (.aload_n 0, 1) := by decide +kernel
theorem d_PL_soakSeconds_19 : decode b_PL_soakSeconds 19 = .ok (.getfield 18, 3) := by decide +kernel
theorem d_PL_soakSeconds_22 : decode b_PL_soakSeconds 22 = .ok (.iload_n 1, 1) := by decide +kernel
theorem d_PL_soakSeconds_23 : decode b_PL_soakSeconds 23 = .ok (.iaload, 1) := by decide +kernel
theorem d_PL_soakSeconds_24 : decode b_PL_soakSeconds 24 = .ok (.aload_n 0, 1) := by decide +kernel
theorem d_PL_soakSeconds_25 : decode b_PL_soakSeconds 25 = .ok (.getfield 12, 3) := by decide +kernel
theorem d_PL_soakSeconds_28 : decode b_PL_soakSeconds 28 = .ok (.iload_n 1, 1) := by decide +kernel
theorem d_PL_soakSeconds_29 : decode b_PL_soakSeconds 29 = .ok (.invokevirtual 41, 3) := by decide +kernel
theorem d_PL_soakSeconds_32 : decode b_PL_soakSeconds 32 = .ok (.aload_n 0, 1) := by decide +kernel
theorem d_PL_soakSeconds_33 : decode b_PL_soakSeconds 33 = .ok (.getfield 32, 3) := by decide +kernel
theorem d_PL_soakSeconds_36 : decode b_PL_soakSeconds 36 = .ok (.imul, 1) := by decide +kernel
theorem d_PL_soakSeconds_37 : decode b_PL_soakSeconds 37 = .ok (.iadd, 1) := by decide +kernel
theorem d_PL_soakSeconds_38 : decode b_PL_soakSeconds 38 = .ok (.iload_n 3, 1) := by decide +kernel
theorem d_PL_soakSeconds_39 : decode b_PL_soakSeconds 39 = .ok (.isub, 1) := by decide +kernel
theorem d_PL_soakSeconds_40 : decode b_PL_soakSeconds 40 = .ok (.ireturn, 1) := by decide +kernel
theorem d_WK_freeHoist_0 : decode b_WK_freeHoist 0 = .ok (.aload_n 0, 1) := by decide +kernel
theorem d_WK_freeHoist_1 : decode b_WK_freeHoist 1 = .ok (.iconst 0, 1) := by decide +kernel
theorem d_WK_freeHoist_2 : decode b_WK_freeHoist 2 = .ok (.putfield 99, 3) := by decide +kernel
theorem d_WK_freeHoist_5 : decode b_WK_freeHoist 5 = .ok (.aload_n 0, 1) := by decide +kernel
theorem d_WK_freeHoist_6 : decode b_WK_freeHoist 6 = .ok (.iconst (-1), 1) := by decide +kernel
theorem d_WK_freeHoist_7 : decode b_WK_freeHoist 7 = .ok (.putfield 67, 3) := by decide +kernel
theorem d_WK_freeHoist_10 : decode b_WK_freeHoist 10 = .ok (.return_, 1) := by decide +kernel
theorem d_WK_reset_0 : decode b_WK_reset 0 = .ok (.aload_n 0, 1) := by decide +kernel
theorem d_WK_reset_1 : decode b_WK_reset 1 = .ok (.iconst 0, 1) := by decide +kernel
theorem d_WK_reset_2 : decode b_WK_reset 2 = .ok (.putfield 29, 3) := by decide +kernel
theorem d_WK_reset_5 : decode b_WK_reset 5 = .ok (.aload_n 0, 1) := by decide +kernel
theorem d_WK_reset_6 : decode b_WK_reset 6 = .ok (.iconst 0, 1) := by decide +kernel
theorem d_WK_reset_7 : decode b_WK_reset 7 = .ok (.putfield 33, 3) := by decide +kernel
theorem d_WK_reset_10 : decode b_WK_reset 10 = .ok (.aload_n 0, 1) := by decide +kernel
theorem d_WK_reset_11 : decode b_WK_reset 11 = .ok (.iconst 0, 1) := by decide +kernel
theorem d_WK_reset_12 : decode b_WK_reset 12 = .ok (.putfield 36, 3) := by decide +kernel
theorem d_WK_reset_15 : decode b_WK_reset 15 = .ok (.aload_n 0, 1) := by decide +kernel
theorem d_WK_reset_16 : decode b_WK_reset 16 = .ok (.iconst 0, 1) := by decide +kernel
theorem d_WK_reset_17 : decode b_WK_reset 17 = .ok (.putfield 39, 3) := by decide +kernel
theorem d_WK_reset_20 : decode b_WK_reset 20 = .ok (.aload_n 0, 1) := by decide +kernel
theorem d_WK_reset_21 : decode b_WK_reset 21 = .ok (.iconst 0, 1) := by decide +kernel
theorem d_WK_reset_22 : decode b_WK_reset 22 = .ok (.putfield 43, 3) := by decide +kernel
theorem d_WK_reset_25 : decode b_WK_reset 25 = .ok (.aload_n 0, 1) := by decide +kernel
theorem d_WK_reset_26 : decode b_WK_reset 26 = .ok (.iconst 0, 1) := by decide +kernel
theorem d_WK_reset_27 : decode b_WK_reset 27 = .ok (.putfield 46, 3) := by decide +kernel
theorem d_WK_reset_30 : decode b_WK_reset 30 = .ok (.aload_n 0, 1) := by decide +kernel
theorem d_WK_reset_31 : decode b_WK_reset 31 = .ok (.iconst 0, 1) := by decide +kernel
theorem d_WK_reset_32 : decode b_WK_reset 32 = .ok (.putfield 49, 3) := by decide +kernel
theorem d_WK_reset_35 : decode b_WK_reset 35 = .ok (.aload_n 0, 1) := by decide +kernel
theorem d_WK_reset_36 : decode b_WK_reset 36 = .ok (.iconst 0, 1) := by decide +kernel
theorem d_WK_reset_37 : decode b_WK_reset 37 = .ok (.putfield 52, 3) := by decide +kernel
theorem d_WK_reset_40 : decode b_WK_reset 40 = .ok (.aload_n 0, 1) := by decide +kernel
theorem d_WK_reset_41 : decode b_WK_reset 41 = .ok (.iconst 0, 1) := by decide +kernel
theorem d_WK_reset_42 : decode b_WK_reset 42 = .ok (.putfield 55, 3) := by decide +kernel
theorem d_WK_reset_45 : decode b_WK_reset 45 = .ok (.aload_n 0, 1) := by decide +kernel
theorem d_WK_reset_46 : decode b_WK_reset 46 = .ok (.invokevirtual 58, 3) := by decide +kernel
theorem d_WK_reset_49 : decode b_WK_reset 49 = .ok (.aload_n 0, 1) := by decide +kernel
theorem d_WK_reset_50 : decode b_WK_reset 50 = .ok (.getfield 9, 3) := by decide +kernel
theorem d_WK_reset_53 : decode b_WK_reset 53 = .ok (.iconst 0, 1) := by decide +kernel
theorem d_WK_reset_54 : decode b_WK_reset 54 = .ok (.invokestatic 61, 3) := by decide +kernel
theorem d_WK_reset_57 : decode b_WK_reset 57 = .ok (.aload_n 0, 1) := by decide +kernel
theorem d_WK_reset_58 : decode b_WK_reset 58 = .ok (.getfield 15, 3) := by decide +kernel
theorem d_WK_reset_61 : decode b_WK_reset 61 = .ok (.iconst 0, 1) := by decide +kernel
theorem d_WK_reset_62 : decode b_WK_reset 62 = .ok (.invokestatic 61, 3) := by decide +kernel
theorem d_WK_reset_65 : decode b_WK_reset 65 = .ok (.return_, 1) := by decide +kernel
theorem d_WK_endMove_0 : decode b_WK_endMove 0 = .ok (.aload_n 0, 1) := by decide +kernel
theorem d_WK_endMove_1 : decode b_WK_endMove 1 = .ok (.getfield 67, 3) := by decide +kernel
theorem d_WK_endMove_4 : decode b_WK_endMove 4 = .ok (.aload_n 0, 1) := by decide +kernel
theorem d_WK_endMove_5 : decode b_WK_endMove 5 = .ok (.getfield 18, 3) := by decide +kernel
theorem d_WK_endMove_8 : decode b_WK_endMove 8 = .ok (.getfield 91, 3) := by decide +kernel
theorem d_WK_endMove_11 : decode b_WK_endMove 11 = .ok (.if_icmp .ne 29, 3) := by decide +kernel
theorem d_WK_endMove_14 : decode b_WK_endMove 14 = .ok (.aload_n 0, 1) := by decide +kernel
theorem d_WK_endMove_15 : decode b_WK_endMove 15 = .ok (.dup, 1) := by decide +kernel
theorem d_WK_endMove_16 : decode b_WK_endMove 16 = .ok (.getfield 46, 3) := by decide +kernel
theorem d_WK_endMove_19 : decode b_WK_endMove 19 = .ok (.iconst 1, 1) := by decide +kernel
theorem d_WK_endMove_20 : decode b_WK_endMove 20 = .ok (.iadd, 1) := by decide +kernel
theorem d_WK_endMove_21 : decode b_WK_endMove 21 = .ok (.putfield 46, 3) := by decide +kernel
theorem d_WK_endMove_24 : decode b_WK_endMove 24 = .ok (.aload_n 0, 1) := by decide +kernel
theorem d_WK_endMove_25 : decode b_WK_endMove 25 = .ok (.aload_n 0, 1) := by decide +kernel
theorem d_WK_endMove_26 : decode b_WK_endMove 26 = .ok (.getfield 29, 3) := by decide +kernel
theorem d_WK_endMove_29 : decode b_WK_endMove 29 = .ok (.aload_n 0, 1) := by decide +kernel
theorem d_WK_endMove_30 : decode b_WK_endMove 30 = .ok (.getfield 52, 3) := by decide +kernel
theorem d_WK_endMove_33 : decode b_WK_endMove 33 = .ok (.isub, 1) := by decide +kernel
theorem d_WK_endMove_34 : decode b_WK_endMove 34 = .ok (.putfield 49, 3) := by decide +kernel
theorem d_WK_endMove_37 : decode b_WK_endMove 37 = .ok (.goto 33, 3) := by decide +kernel
theorem d_WK_endMove_40 : decode b_WK_endMove 40 = .ok (.aload_n 0, 1) := by decide +kernel
theorem d_WK_endMove_41 : decode b_WK_endMove 41 = .ok (.getfield 9, 3) := by decide +kernel
theorem d_WK_endMove_44 : decode b_WK_endMove 44 = .ok (.aload_n 0, 1) := by decide +kernel
theorem d_WK_endMove_45 : decode b_WK_endMove 45 = .ok (.getfield 67, 3) := by decide +kernel
theorem d_WK_endMove_48 : decode b_WK_endMove 48 = .ok (.iconst 1, 1) := by decide +kernel
theorem d_WK_endMove_49 : decode b_WK_endMove 49 = .ok (.iadd, 1) := by decide +kernel
theorem d_WK_endMove_50 : decode b_WK_endMove 50 = .ok (.aload_n 0, 1) := by decide +kernel
theorem d_WK_endMove_51 : decode b_WK_endMove 51 = .ok (.getfield 99, 3) := by decide +kernel
theorem d_WK_endMove_54 : decode b_WK_endMove 54 = .ok (.iastore, 1) := by decide +kernel
theorem d_WK_endMove_55 : decode b_WK_endMove 55 = .ok (.aload_n 0, 1) := by decide +kernel
theorem d_WK_endMove_56 : decode b_WK_endMove 56 = .ok (.getfield 15, 3) := by decide +kernel
theorem d_WK_endMove_59 : decode b_WK_endMove 59 = .ok (.aload_n 0, 1) := by decide +kernel
theorem d_WK_endMove_60 : decode b_WK_endMove 60 = .ok (.getfield 67, 3) := by decide +kernel
theorem d_WK_endMove_63 : decode b_WK_endMove 63 = .ok (.iconst 1, 1) := by decide +kernel
theorem d_WK_endMove_64 : decode b_WK_endMove 64 = .ok (.iadd, 1) := by decide +kernel
theorem d_WK_endMove_65 : decode b_WK_endMove 65 = .ok (.aload_n 0, 1) := by decide +kernel
theorem d_WK_endMove_66 : decode b_WK_endMove 66 = .ok (.getfield 52, 3) := by decide +kernel
theorem d_WK_endMove_69 : decode b_WK_endMove 69 = .ok (.iastore, 1) := by decide +kernel
theorem d_WK_endMove_70 : decode b_WK_endMove 70 = .ok (.aload_n 0, 1) := by decide +kernel
theorem d_WK_endMove_71 : decode b_WK_endMove 71 = .ok (.invokevirtual 58, 3) := by decide +kernel
theorem d_WK_endMove_74 : decode b_WK_endMove 74 = .ok (.return_, 1) := by decide +kernel
theorem d_WK_takeNext_0 : decode b_WK_takeNext 0 = .ok (.aload_n 0, 1) := by decide +kernel
theorem d_WK_takeNext_1 : decode b_WK_takeNext 1 = .ok (.getfield 39, 3) := by decide +kernel
theorem d_WK_takeNext_4 : decode b_WK_takeNext 4 = .ok (.ifCond .eq 5, 3) := by decide +kernel
theorem d_WK_takeNext_7 : decode b_WK_takeNext 7 = .ok (.iconst 0, 1) := by decide +kernel
theorem d_WK_takeNext_8 : decode b_WK_takeNext 8 = .ok (.ireturn, 1) := by decide +kernel
theorem d_WK_takeNext_9 : decode b_WK_takeNext 9 = .ok (.aload_n 0, 1) := by decide +kernel
theorem d_WK_takeNext_10 : decode b_WK_takeNext 10 = .ok (.dup, 1) := by decide +kernel
theorem d_WK_takeNext_11 : decode b_WK_takeNext 11 = .ok (.getfield 43, 3) := by decide +kernel
theorem d_WK_takeNext_14 : decode b_WK_takeNext 14 = .ok (.iconst 1, 1) := by decide +kernel
theorem d_WK_takeNext_15 : decode b_WK_takeNext 15 = .ok (.iadd, 1) := by decide +kernel
theorem d_WK_takeNext_16 : decode b_WK_takeNext 16 = .ok (.putfield 43, 3) := by decide +kernel
theorem d_WK_takeNext_19 : decode b_WK_takeNext 19 = .ok (.aload_n 0, 1) := by decide +kernel
theorem d_WK_takeNext_20 : decode b_WK_takeNext 20 = .ok (.aload_n 0, 1) := by decide +kernel
theorem d_WK_takeNext_21 : decode b_WK_takeNext 21 = .ok (.getfield 43, 3) := by decide +kernel
theorem d_WK_takeNext_24 : decode b_WK_takeNext 24 = .ok (.putfield 99, 3) := by decide +kernel
theorem d_WK_takeNext_27 : decode b_WK_takeNext 27 = .ok (.aload_n 0, 1) := by decide +kernel
theorem d_WK_takeNext_28 : decode b_WK_takeNext 28 = .ok (.aload_n 0, 1) := by decide +kernel
theorem d_WK_takeNext_29 : decode b_WK_takeNext 29 = .ok (.getfield 29, 3) := by decide +kernel
theorem d_WK_takeNext_32 : decode b_WK_takeNext 32 = .ok (.putfield 52, 3) := by decide +kernel
theorem d_WK_takeNext_35 : decode b_WK_takeNext 35 = .ok (.iconst 1, 1) := by decide +kernel
theorem d_WK_takeNext_36 : decode b_WK_takeNext 36 = .ok (.ireturn, 1) := by decide +kernel
theorem d_WK_takeFromTank_0 : decode b_WK_takeFromTank 0 = .ok (.aload_n 0, 1) := by decide +kernel
theorem d_WK_takeFromTank_1 : decode b_WK_takeFromTank 1 = .ok (.getfield 9, 3) := by decide +kernel
theorem d_WK_takeFromTank_4 : decode b_WK_takeFromTank 4 = .ok (.iload_n 1, 1) := by decide +kernel
theorem d_WK_takeFromTank_5 : decode b_WK_takeFromTank 5 = .ok (.iaload, 1) := by decide +kernel
theorem d_WK_takeFromTank_6 : decode b_WK_takeFromTank 6 = .ok (.ifCond .ne 5, 3) := by decide +kernel
theorem d_WK_takeFromTank_9 : decode b_WK_takeFromTank 9 = .ok (.iconst 0, 1) := by decide +kernel
theorem d_WK_takeFromTank_10 : decode b_WK_takeFromTank 10 = .ok (.ireturn, 1) := by decide +kernel
theorem d_WK_takeFromTank_11 : decode b_WK_takeFromTank 11 = .ok (.aload_n 0, 1) := by decide +kernel
theorem d_WK_takeFromTank_12 : decode b_WK_takeFromTank 12 = .ok (.aload_n 0, 1) := by decide +kernel
theorem d_WK_takeFromTank_13 : decode b_WK_takeFromTank 13 = .ok (.getfield 9, 3) := by decide +kernel
theorem d_WK_takeFromTank_16 : decode b_WK_takeFromTank 16 = .ok (.iload_n 1, 1) := by decide +kernel
theorem d_WK_takeFromTank_17 : decode b_WK_takeFromTank 17 = .ok (.iaload, 1) := by decide +kernel
theorem d_WK_takeFromTank_18 : decode b_WK_takeFromTank 18 = .ok (.putfield 99, 3) := by decide +kernel
theorem d_WK_takeFromTank_21 : decode b_WK_takeFromTank 21 = .ok (.aload_n 0, 1) := by decide +kernel
theorem d_WK_takeFromTank_22 : decode b_WK_takeFromTank 22 = .ok (.aload_n 0, 1) := by decide +kernel
theorem d_WK_takeFromTank_23 : decode b_WK_takeFromTank 23 = .ok (.getfield 15, 3) := by decide +kernel
theorem d_WK_takeFromTank_26 : decode b_WK_takeFromTank 26 = .ok (.iload_n 1, 1) := by decide +kernel
theorem d_WK_takeFromTank_27 : decode b_WK_takeFromTank 27 = .ok (.iaload, 1) := by decide +kernel
theorem d_WK_takeFromTank_28 : decode b_WK_takeFromTank 28 = .ok (.putfield 52, 3) := by decide +kernel
theorem d_WK_takeFromTank_31 : decode b_WK_takeFromTank 31 = .ok (.aload_n 0, 1) := by decide +kernel
theorem d_WK_takeFromTank_32 : decode b_WK_takeFromTank 32 = .ok (.getfield 9, 3) := by decide +kernel
theorem d_WK_takeFromTank_35 : decode b_WK_takeFromTank 35 = .ok (.iload_n 1, 1) := by decide +kernel
theorem d_WK_takeFromTank_36 : decode b_WK_takeFromTank 36 = .ok (.iconst 0, 1) := by decide +kernel
theorem d_WK_takeFromTank_37 : decode b_WK_takeFromTank 37 = .ok (.iastore, 1) := by decide +kernel
theorem d_WK_takeFromTank_38 : decode b_WK_takeFromTank 38 = .ok (.iconst 1, 1) := by decide +kernel
theorem d_WK_takeFromTank_39 : decode b_WK_takeFromTank 39 = .ok (.ireturn, 1) := by decide +kernel
theorem d_WK_beginMove_0 : decode b_WK_beginMove 0 = .ok (.iload_n 1, 1) := by decide +kernel
theorem d_WK_beginMove_1 : decode b_WK_beginMove 1 = .ok (.ifCond .ne 10, 3) := by decide +kernel
theorem d_WK_beginMove_4 : decode b_WK_beginMove 4 = .ok (.aload_n 0, 1) := by decide +kernel
theorem d_WK_beginMove_5 : decode b_WK_beginMove 5 = .ok (.invokevirtual 102, 3) := by decide +kernel
theorem d_WK_beginMove_8 : decode b_WK_beginMove 8 = .ok (.goto 8, 3) := by decide +kernel
theorem d_WK_beginMove_11 : decode b_WK_beginMove 11 = .ok (.aload_n 0, 1) := by decide +kernel
theorem d_WK_beginMove_12 : decode b_WK_beginMove 12 = .ok (.iload_n 1, 1) := by decide +kernel
theorem d_WK_beginMove_13 : decode b_WK_beginMove 13 = .ok (.invokevirtual 106, 3) := by decide +kernel
theorem d_WK_beginMove_16 : decode b_WK_beginMove 16 = .ok (.istore_n 2, 1) := by decide +kernel
theorem d_WK_beginMove_17 : decode b_WK_beginMove 17 = .ok (.iload_n 2, 1) := by decide +kernel
theorem d_WK_beginMove_18 : decode b_WK_beginMove 18 = .ok (.ifCond .eq 26, 3) := by decide +kernel
theorem d_WK_beginMove_21 : decode b_WK_beginMove 21 = .ok (.aload_n 0, 1) := by decide +kernel
theorem d_WK_beginMove_22 : decode b_WK_beginMove 22 = .ok (.iload_n 1, 1) := by decide +kernel
theorem d_WK_beginMove_23 : decode b_WK_beginMove 23 = .ok (.putfield 67, 3) := by decide +kernel
theorem d_WK_beginMove_26 : decode b_WK_beginMove 26 = .ok (.aload_n 0, 1) := by decide +kernel
theorem d_WK_beginMove_27 : decode b_WK_beginMove 27 = .ok (.aload_n 0, 1) := by decide +kernel
theorem d_WK_beginMove_28 : decode b_WK_beginMove 28 = .ok (.getfield 29, 3) := by decide +kernel
theorem d_WK_beginMove_31 : decode b_WK_beginMove 31 = .ok (.aload_n 0, 1) := by decide +kernel
theorem d_WK_beginMove_32 : decode b_WK_beginMove 32 = .ok (.getfield 18, 3) := by decide +kernel
theorem d_WK_beginMove_35 : decode b_WK_beginMove 35 = .ok (.getfield 109, 3) := by decide +kernel
theorem d_WK_beginMove_38 : decode b_WK_beginMove 38 = .ok (.iload_n 1, 1) := by decide +kernel
theorem d_WK_beginMove_39 : decode b_WK_beginMove 39 = .ok (.iaload, 1) := by decide +kernel
theorem d_WK_beginMove_40 : decode b_WK_beginMove 40 = .ok (.iadd, 1) := by decide +kernel
theorem d_WK_beginMove_41 : decode b_WK_beginMove 41 = .ok (.putfield 55, 3) := by decide +kernel
theorem d_WK_beginMove_44 : decode b_WK_beginMove 44 = .ok (.iload_n 2, 1) := by decide +kernel
theorem d_WK_beginMove_45 : decode b_WK_beginMove 45 = .ok (.ireturn, 1) := by decide +kernel
theorem d_WK_passSecond_0 : decode b_WK_passSecond 0 = .ok (.aload_n 0, 1) := by decide +kernel
theorem d_WK_passSecond_1 : decode b_WK_passSecond 1 = .ok (.getfield 67, 3) := by decide +kernel
theorem d_WK_passSecond_4 : decode b_WK_passSecond 4 = .ok (.iconst (-1), 1) := by decide +kernel
theorem d_WK_passSecond_5 : decode b_WK_passSecond 5 = .ok (.if_icmp .eq 18, 3) := by decide +kernel
theorem d_WK_passSecond_8 : decode b_WK_passSecond 8 = .ok (.aload_n 0, 1) := by decide +kernel
theorem d_WK_passSecond_9 : decode b_WK_passSecond 9 = .ok (.getfield 55, 3) := by decide +kernel
theorem d_WK_passSecond_12 : decode b_WK_passSecond 12 = .ok (.aload_n 0, 1) := by decide +kernel
theorem d_WK_passSecond_13 : decode b_WK_passSecond 13 = .ok (.getfield 29, 3) := by decide +kernel
theorem d_WK_passSecond_16 : decode b_WK_passSecond 16 = .ok (.if_icmp .ne 7, 3) := by decide +kernel
theorem d_WK_passSecond_19 : decode b_WK_passSecond 19 = .ok (.aload_n 0, 1) := by decide +kernel
theorem d_WK_passSecond_20 : decode b_WK_passSecond 20 = .ok (.invokevirtual 70, 3) := by decide +kernel
theorem d_WK_passSecond_23 : decode b_WK_passSecond 23 = .ok (.iconst 0, 1) := by decide +kernel
theorem d_WK_passSecond_24 : decode b_WK_passSecond 24 = .ok (.istore_n 1, 1) := by decide +kernel
theorem d_WK_passSecond_25 : decode b_WK_passSecond 25 = .ok (.aload_n 0, 1) := by decide +kernel
theorem d_WK_passSecond_26 : decode b_WK_passSecond 26 = .ok (.getfield 22, 3) := by decide +kernel
theorem d_WK_passSecond_29 : decode b_WK_passSecond 29 = .ok (.getfield 73, 3) := by decide +kernel
theorem d_WK_passSecond_32 : decode b_WK_passSecond 32 = .ok (.getfield 79, 3) := by decide +kernel
theorem d_WK_passSecond_35 : decode b_WK_passSecond 35 = .ok (.aload_n 0, 1) := by decide +kernel
theorem d_WK_passSecond_36 : decode b_WK_passSecond 36 = .ok (.getfield 36, 3) := by decide +kernel
theorem d_WK_passSecond_39 : decode b_WK_passSecond 39 = .ok (.iaload, 1) := by decide +kernel
theorem d_WK_passSecond_40 : decode b_WK_passSecond 40 = .ok (.istore_n 2, 1) := by decide +kernel
theorem d_WK_passSecond_41 : decode b_WK_passSecond 41 = .ok (.aload_n 0, 1) := by decide +kernel
theorem d_WK_passSecond_42 : decode b_WK_passSecond 42 = .ok (.getfield 22, 3) := by decide +kernel
theorem d_WK_passSecond_45 : decode b_WK_passSecond 45 = .ok (.getfield 84, 3) := by decide +kernel
theorem d_WK_passSecond_48 : decode b_WK_passSecond 48 = .ok (.iload_n 2, 1) := by decide +kernel
theorem d_WK_passSecond_49 : decode b_WK_passSecond 49 = .ok (.iaload, 1) := by decide +kernel
theorem d_WK_passSecond_50 : decode b_WK_passSecond 50 = .ok (.aload_n 0, 1) := by decide +kernel
theorem d_WK_passSecond_51 : decode b_WK_passSecond 51 = .ok (.getfield 33, 3) := by decide +kernel
theorem d_WK_passSecond_54 : decode b_WK_passSecond 54 = .ok (.if_icmp .ne 37, 3) := by decide +kernel
theorem d_WK_passSecond_57 : decode b_WK_passSecond 57 = .ok (.aload_n 0, 1) := by decide +kernel
theorem d_WK_passSecond_58 : decode b_WK_passSecond 58 = .ok (.iload_n 2, 1) := by decide +kernel
theorem d_WK_passSecond_59 : decode b_WK_passSecond 59 = .ok (.invokevirtual 87, 3) := by decide +kernel
theorem d_WK_passSecond_62 : decode b_WK_passSecond 62 = .ok (.istore_n 1, 1) := by decide +kernel
theorem d_WK_passSecond_63 : decode b_WK_passSecond 63 = .ok (.aload_n 0, 1) := by decide +kernel
theorem d_WK_passSecond_64 : decode b_WK_passSecond 64 = .ok (.aload_n 0, 1) := by decide +kernel
theorem d_WK_passSecond_65 : decode b_WK_passSecond 65 = .ok (.getfield 36, 3) := by decide +kernel
theorem d_WK_passSecond_68 : decode b_WK_passSecond 68 = .ok (.aload_n 0, 1) := by decide +kernel
theorem d_WK_passSecond_69 : decode b_WK_passSecond 69 = .ok (.getfield 18, 3) := by decide +kernel
theorem d_WK_passSecond_72 : decode b_WK_passSecond 72 = .ok (.getfield 91, 3) := by decide +kernel
theorem d_WK_passSecond_75 : decode b_WK_passSecond 75 = .ok (.if_icmp .ne 7, 3) := by decide +kernel
theorem d_WK_passSecond_78 : decode b_WK_passSecond 78 = .ok (.iconst 0, 1) := by decide +kernel
theorem d_WK_passSecond_79 : decode b_WK_passSecond 79 = .ok (.goto 9, 3) := by decide +kernel
theorem d_WK_passSecond_82 : decode b_WK_passSecond 82 = .ok (.aload_n 0, 1) := by decide +kernel
theorem d_WK_passSecond_83 : decode b_WK_passSecond 83 = .ok (.getfield 36, 3) := by decide +kernel
theorem d_WK_passSecond_86 : decode b_WK_passSecond 86 = .ok (.iconst 1, 1) := by decide +kernel
theorem d_WK_passSecond_87 : decode b_WK_passSecond 87 = .ok (.iadd, 1) := by decide +kernel
theorem d_WK_passSecond_88 : decode b_WK_passSecond 88 = .ok (.putfield 36, 3) := by decide +kernel
theorem d_WK_passSecond_91 : decode b_WK_passSecond 91 = .ok (.aload_n 0, 1) := by decide +kernel
theorem d_WK_passSecond_92 : decode b_WK_passSecond 92 = .ok (.dup, 1) := by decide +kernel
theorem d_WK_passSecond_93 : decode b_WK_passSecond 93 = .ok (.getfield 29, 3) := by decide +kernel
theorem d_WK_passSecond_96 : decode b_WK_passSecond 96 = .ok (.iconst 1, 1) := by decide +kernel
theorem d_WK_passSecond_97 : decode b_WK_passSecond 97 = .ok (.iadd, 1) := by decide +kernel
theorem d_WK_passSecond_98 : decode b_WK_passSecond 98 = .ok (.putfield 29, 3) := by decide +kernel
theorem d_WK_passSecond_101 : decode b_WK_passSecond 101 = .ok (.aload_n 0, 1) := by decide +kernel
theorem d_WK_passSecond_102 : decode b_WK_passSecond 102 = .ok (.aload_n 0, 1) := by decide +kernel
theorem d_WK_passSecond_103 : decode b_WK_passSecond 103 = .ok (.getfield 33, 3) := by decide +kernel
theorem d_WK_passSecond_106 : decode b_WK_passSecond 106 = .ok (.iconst 1, 1) := by decide +kernel
theorem d_WK_passSecond_107 : decode b_WK_passSecond 107 = .ok (.iadd, 1) := by decide +kernel
theorem d_WK_passSecond_108 : decode b_WK_passSecond 108 = .ok (.aload_n 0, 1) := by decide +kernel
theorem d_WK_passSecond_109 : decode b_WK_passSecond 109 = .ok (.getfield 22, 3) := by decide +kernel
theorem d_WK_passSecond_112 : decode b_WK_passSecond 112 = .ok (.getfield 96, 3) := by decide +kernel
theorem d_WK_passSecond_115 : decode b_WK_passSecond 115 = .ok (.if_icmp .ne 7, 3) := by decide +kernel
theorem d_WK_passSecond_118 : decode b_WK_passSecond 118 = .ok (.iconst 0, 1) := by decide +kernel
theorem d_WK_passSecond_119 : decode b_WK_passSecond 119 = .ok (.goto 9, 3) := by decide +kernel
theorem d_WK_passSecond_122 : decode b_WK_passSecond 122 = .ok (.aload_n 0, 1) := by decide +kernel
theorem d_WK_passSecond_123 : decode b_WK_passSecond 123 = .ok (.getfield 33, 3) := by decide +kernel
theorem d_WK_passSecond_126 : decode b_WK_passSecond 126 = .ok (.iconst 1, 1) := by decide +kernel
theorem d_WK_passSecond_127 : decode b_WK_passSecond 127 = .ok (.iadd, 1) := by decide +kernel
theorem d_WK_passSecond_128 : decode b_WK_passSecond 128 = .ok (.putfield 33, 3) := by decide +kernel
theorem d_WK_passSecond_131 : decode b_WK_passSecond 131 = .ok (.iload_n 1, 1) := by decide +kernel
theorem d_WK_passSecond_132 : decode b_WK_passSecond 132 = .ok (.ireturn, 1) := by decide +kernel
theorem d_WK_isDrained_0 : decode b_WK_isDrained 0 = .ok (.iconst 1, 1) := by decide +kernel
theorem d_WK_isDrained_1 : decode b_WK_isDrained 1 = .ok (.istore_n 1, 1) := by decide +kernel
theorem d_WK_isDrained_2 : decode b_WK_isDrained 2 = .ok (.iload_n 1, 1) := by decide +kernel
theorem d_WK_isDrained_3 : decode b_WK_isDrained 3 = .ok (.aload_n 0, 1) := by decide +kernel
theorem d_WK_isDrained_4 : decode b_WK_isDrained 4 = .ok (.getfield 18, 3) := by decide +kernel
theorem d_WK_isDrained_7 : decode b_WK_isDrained 7 = .ok (.getfield 91, 3) := by decide +kernel
theorem d_WK_isDrained_10 : decode b_WK_isDrained 10 = .ok (.if_icmp .gt 20, 3) := by decide +kernel
theorem d_WK_isDrained_13 : decode b_WK_isDrained 13 = .ok (.aload_n 0, 1) := by decide +kernel
theorem d_WK_isDrained_14 : decode b_WK_isDrained 14 = .ok (.getfield 9, 3) := by decide +kernel
theorem d_WK_isDrained_17 : decode b_WK_isDrained 17 = .ok (.iload_n 1, 1) := by decide +kernel
theorem d_WK_isDrained_18 : decode b_WK_isDrained 18 = .ok (.iaload, 1) := by decide +kernel
theorem d_WK_isDrained_19 : decode b_WK_isDrained 19 = .ok (.ifCond .eq 5, 3) := by decide +kernel
theorem d_WK_isDrained_22 : decode b_WK_isDrained 22 = .ok (.iconst 0, 1) := by decide +kernel
theorem d_WK_isDrained_23 : decode b_WK_isDrained 23 = .ok (.ireturn, 1) := by decide +kernel
theorem d_WK_isDrained_24 : decode b_WK_isDrained 24 = .ok (.iinc 1 1, 3) := by decide +kernel
theorem d_WK_isDrained_27 : decode b_WK_isDrained 27 = .ok (.goto (-25), 3) := by decide +kernel
theorem d_WK_isDrained_30 : decode b_WK_isDrained 30 = .ok (.aload_n 0, 1) := by decide +kernel
theorem d_WK_isDrained_31 : decode b_WK_isDrained 31 = .ok (.getfield 99, 3) := by decide +kernel
theorem d_WK_isDrained_34 : decode b_WK_isDrained 34 = .ok (.ifCond .ne 7, 3) := by decide +kernel
theorem d_WK_isDrained_37 : decode b_WK_isDrained 37 = .ok (.iconst 1, 1) := by decide +kernel
theorem d_WK_isDrained_38 : decode b_WK_isDrained 38 = .ok (.goto 4, 3) := by decide +kernel
theorem d_WK_isDrained_41 : decode b_WK_isDrained 41 = .ok (.iconst 0, 1) := by decide +kernel
theorem d_WK_isDrained_42 : decode b_WK_isDrained 42 = .ok (.ireturn, 1) := by decide +kernel
theorem d_HP_isWithin_0 : decode b_HP_isWithin 0 = .ok (.iload_n 1, 1) := by decide +kernel
theorem d_HP_isWithin_1 : decode b_HP_isWithin 1 = .ok (.iload_n 0, 1) := by decide +kernel
theorem d_HP_isWithin_2 : decode b_HP_isWithin 2 = .ok (.if_icmp .gt 12, 3) := by decide +kernel
theorem d_HP_isWithin_5 : decode b_HP_isWithin 5 = .ok (.iload_n 0, 1) := by decide +kernel
theorem d_HP_isWithin_6 : decode b_HP_isWithin 6 = .ok (.iload_n 2, 1) := by decide +kernel
theorem d_HP_isWithin_7 : decode b_HP_isWithin 7 = .ok (.if_icmp .gt 7, 3) := by decide +kernel
theorem d_HP_isWithin_10 : decode b_HP_isWithin 10 = .ok (.iconst 1, 1) := by decide +kernel
theorem d_HP_isWithin_11 : decode b_HP_isWithin 11 = .ok (.goto 4, 3) := by decide +kernel
theorem d_HP_isWithin_14 : decode b_HP_isWithin 14 = .ok (.iconst 0, 1) := by decide +kernel
theorem d_HP_isWithin_15 : decode b_HP_isWithin 15 = .ok (.ireturn, 1) := by decide +kernel
theorem d_HP_findPlan_0 : decode b_HP_findPlan 0 = .ok (.iconst (-1), 1) := by decide +kernel
theorem d_HP_findPlan_1 : decode b_HP_findPlan 1 = .ok (.istore_n 1, 1) := by decide +kernel
theorem d_HP_findPlan_2 : decode b_HP_findPlan 2 = .ok (.sipush 2000, 3) := by decide +kernel
theorem d_HP_findPlan_5 : decode b_HP_findPlan 5 = .ok (.istore_n 2, 1) := by decide +kernel
theorem d_HP_findPlan_6 : decode b_HP_findPlan 6 = .ok (.aload_n 0, 1) := by decide +kernel
theorem d_HP_findPlan_7 : decode b_HP_findPlan 7 = .ok (.getfield 19, 3) := by decide +kernel
theorem d_HP_findPlan_10 : decode b_HP_findPlan 10 = .ok (.aload_n 0, 1) := by decide +kernel
theorem d_HP_findPlan_11 : decode b_HP_findPlan 11 = .ok (.getfield 12, 3) := by decide +kernel
theorem d_HP_findPlan_14 : decode b_HP_findPlan 14 = .ok (.getfield 100, 3) := by decide +kernel
theorem d_HP_findPlan_17 : decode b_HP_findPlan 17 = .ok (.invokevirtual 171, 3) := by decide +kernel
theorem d_HP_findPlan_20 : decode b_HP_findPlan 20 = .ok (.iconst 0, 1) := by decide +kernel
theorem d_HP_findPlan_21 : decode b_HP_findPlan 21 = .ok (.istore_n 3, 1) := by decide +kernel
theorem d_HP_findPlan_22 : decode b_HP_findPlan 22 = .ok (.iload_n 3, 1) := by decide +kernel
theorem d_HP_findPlan_23 : decode b_HP_findPlan 23 = .ok (.bipush 120, 2) := by decide +kernel
theorem d_HP_findPlan_25 : decode b_HP_findPlan 25 = .ok (.if_icmp .ge 70, 3) := by decide +kernel
theorem d_HP_findPlan_28 : decode b_HP_findPlan 28 = .ok (.aload_n 0, 1) := by decide +kernel
theorem d_HP_findPlan_29 : decode b_HP_findPlan 29 = .ok (.getfield 28, 3) := by decide +kernel
theorem d_HP_findPlan_32 : decode b_HP_findPlan 32 = .ok (.aload_n 0, 1) := by decide +kernel
theorem d_HP_findPlan_33 : decode b_HP_findPlan 33 = .ok (.getfield 19, 3) := by decide +kernel
theorem d_HP_findPlan_36 : decode b_HP_findPlan 36 = .ok (.iload_n 2, 1) := by decide +kernel
theorem d_HP_findPlan_37 : decode b_HP_findPlan 37 = .ok (.invokevirtual 108, 3) := by decide +kernel
theorem d_HP_findPlan_40 : decode b_HP_findPlan 40 = .ok (.istore 4, 2) := by decide +kernel
theorem d_HP_findPlan_42 : decode b_HP_findPlan 42 = .ok (.iload 4, 2) := by decide +kernel
theorem d_HP_findPlan_44 : decode b_HP_findPlan 44 = .ok (.iconst (-1), 1) := by decide +kernel
theorem d_HP_findPlan_45 : decode b_HP_findPlan 45 = .ok (.if_icmp .eq 31, 3) := by decide +kernel
theorem d_HP_findPlan_48 : decode b_HP_findPlan 48 = .ok (.aload_n 0, 1) := by decide +kernel
theorem d_HP_findPlan_49 : decode b_HP_findPlan 49 = .ok (.getfield 35, 3) := by decide +kernel
theorem d_HP_findPlan_52 : decode b_HP_findPlan 52 = .ok (.aload_n 0, 1) := by decide +kernel
theorem d_HP_findPlan_53 : decode b_HP_findPlan 53 = .ok (.getfield 19, 3) := by decide +kernel
theorem d_HP_findPlan_56 : decode b_HP_findPlan 56 = .ok (.aload_n 0, 1) := by decide +kernel
theorem d_HP_findPlan_57 : decode b_HP_findPlan 57 = .ok (.getfield 28, 3) := by decide +kernel
theorem d_HP_findPlan_60 : decode b_HP_findPlan 60 = .ok (.getfield 174, 3) := by decide +kernel
theorem d_HP_findPlan_63 : decode b_HP_findPlan 63 = .ok (.iload 4, 2) := by decide +kernel
theorem d_HP_findPlan_65 : decode b_HP_findPlan 65 = .ok (.invokevirtual 175, 3) := by decide +kernel
theorem d_HP_findPlan_68 : decode b_HP_findPlan 68 = .ok (.iload 4, 2) := by decide +kernel
theorem d_HP_findPlan_70 : decode b_HP_findPlan 70 = .ok (.istore_n 1, 1) := by decide +kernel
theorem d_HP_findPlan_71 : decode b_HP_findPlan 71 = .ok (.iload 4, 2) := by decide +kernel
theorem d_HP_findPlan_73 : decode b_HP_findPlan 73 = .ok (.iconst 1, 1) := by decide +kernel
theorem d_HP_findPlan_74 : decode b_HP_findPlan 74 = .ok (.isub, 1) := by decide +kernel
theorem d_HP_findPlan_75 : decode b_HP_findPlan 75 = .ok (.istore_n 2, 1) := by decide +kernel
theorem d_HP_findPlan_76 : decode b_HP_findPlan 76 = .ok (.aload_n 0, 1) := by decide +kernel
theorem d_HP_findPlan_77 : decode b_HP_findPlan 77 = .ok (.getfield 19, 3) := by decide +kernel
theorem d_HP_findPlan_80 : decode b_HP_findPlan 80 = .ok (.invokevirtual 179, 3) := by decide +kernel
theorem d_HP_findPlan_83 : decode b_HP_findPlan 83 = .ok (.ifCond .ne 6, 3) := by decide +kernel
theorem d_HP_findPlan_86 : decode b_HP_findPlan 86 = .ok (.goto 9, 3) := by decide +kernel
theorem d_HP_findPlan_89 : decode b_HP_findPlan 89 = .ok (.iinc 3 1, 3) := by decide +kernel
theorem d_HP_findPlan_92 : decode b_HP_findPlan 92 = .ok (.goto (-70), 3) := by decide +kernel
theorem d_HP_findPlan_95 : decode b_HP_findPlan 95 = .ok (.iload_n 1, 1) := by decide +kernel
theorem d_HP_findPlan_96 : decode b_HP_findPlan 96 = .ok (.ireturn, 1) := by decide +kernel
theorem d_HP_ready_0 : decode b_HP_ready 0 = .ok (.aload_n 0, 1) := by decide +kernel
theorem d_HP_ready_1 : decode b_HP_ready 1 = .ok (.getfield 12, 3) := by decide +kernel
theorem d_HP_ready_4 : decode b_HP_ready 4 = .ok (.invokevirtual 88, 3) := by decide +kernel
theorem d_HP_ready_7 : decode b_HP_ready 7 = .ok (.ireturn, 1) := by decide +kernel
