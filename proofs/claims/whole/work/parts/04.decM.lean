theorem d_MD_thrown_0 : decode b_MD_thrown 0 = .ok (.aload_n 0, 1) := by decide +kernel
theorem d_MD_thrown_1 : decode b_MD_thrown 1 = .ok (.getfield 54, 3) := by decide +kernel
theorem d_MD_thrown_4 : decode b_MD_thrown 4 = .ok (.ireturn, 1) := by decide +kernel
theorem d_MD_refuse_0 : decode b_MD_refuse 0 = .ok (.aload_n 0, 1) := by decide +kernel
theorem d_MD_refuse_1 : decode b_MD_refuse 1 = .ok (.iload_n 1, 1) := by decide +kernel
theorem d_MD_refuse_2 : decode b_MD_refuse 2 = .ok (.ifCond .eq 7, 3) := by decide +kernel
theorem d_MD_refuse_5 : decode b_MD_refuse 5 = .ok (.iconst 1, 1) := by decide +kernel
theorem d_MD_refuse_6 : decode b_MD_refuse 6 = .ok (.goto 12, 3) := by decide +kernel
theorem d_MD_refuse_9 : decode b_MD_refuse 9 = .ok (.iload_n 2, 1) := by decide +kernel
theorem d_MD_refuse_10 : decode b_MD_refuse 10 = .ok (.ifCond .eq 7, 3) := by decide +kernel
theorem d_MD_refuse_13 : decode b_MD_refuse 13 = .ok (.iconst 2, 1) := by decide +kernel
theorem d_MD_refuse_14 : decode b_MD_refuse 14 = .ok (.goto 4, 3) := by decide +kernel
theorem d_MD_refuse_17 : decode b_MD_refuse 17 = .ok (.iconst 0, 1) := by decide +kernel
theorem d_MD_refuse_18 : decode b_MD_refuse 18 = .ok (.putfield 54, 3) := by decide +kernel
theorem d_MD_refuse_21 : decode b_MD_refuse 21 = .ok (.aload_n 0, 1) := by decide +kernel
theorem d_MD_refuse_22 : decode b_MD_refuse 22 = .ok (.getfield 54, 3) := by decide +kernel
theorem d_MD_refuse_25 : decode b_MD_refuse 25 = .ok (.ifCond .le 7, 3) := by decide +kernel
theorem d_MD_refuse_28 : decode b_MD_refuse 28 = .ok (.iconst 1, 1) := by decide +kernel
theorem d_MD_refuse_29 : decode b_MD_refuse 29 = .ok (.goto 4, 3) := by decide +kernel
theorem d_MD_refuse_32 : decode b_MD_refuse 32 = .ok (.iconst 0, 1) := by decide +kernel
theorem d_MD_refuse_33 : decode b_MD_refuse 33 = .ok (.ireturn, 1) := by decide +kernel
theorem d_MD_in_0 : decode b_MD_in 0 = .ok (.iload_n 0, 1) := by decide +kernel
theorem d_MD_in_1 : decode b_MD_in 1 = .ok (.iload_n 1, 1) := by decide +kernel
theorem d_MD_in_2 : decode b_MD_in 2 = .ok (.if_icmp .lt 12, 3) := by decide +kernel
theorem d_MD_in_5 : decode b_MD_in 5 = .ok (.iload_n 0, 1) := by decide +kernel
theorem d_MD_in_6 : decode b_MD_in 6 = .ok (.iload_n 2, 1) := by decide +kernel
theorem d_MD_in_7 : decode b_MD_in 7 = .ok (.if_icmp .gt 7, 3) := by decide +kernel
theorem d_MD_in_10 : decode b_MD_in 10 = .ok (.iconst 1, 1) := by decide +kernel
theorem d_MD_in_11 : decode b_MD_in 11 = .ok (.goto 4, 3) := by decide +kernel
theorem d_MD_in_14 : decode b_MD_in 14 = .ok (.iconst 0, 1) := by decide +kernel
theorem d_MD_in_15 : decode b_MD_in 15 = .ok (.ireturn, 1) := by decide +kernel
theorem d_MD_clear_0 : decode b_MD_clear 0 = .ok (.aload_n 0, 1) := by decide +kernel
theorem d_MD_clear_1 : decode b_MD_clear 1 = .ok (.iload_n 1, 1) := by decide +kernel
theorem d_MD_clear_2 : decode b_MD_clear 2 = .ok (.putfield 7, 3) := by decide +kernel
theorem d_MD_clear_5 : decode b_MD_clear 5 = .ok (.aload_n 0, 1) := by decide +kernel
theorem d_MD_clear_6 : decode b_MD_clear 6 = .ok (.iconst 0, 1) := by decide +kernel
theorem d_MD_clear_7 : decode b_MD_clear 7 = .ok (.putfield 57, 3) := by decide +kernel
theorem d_MD_clear_10 : decode b_MD_clear 10 = .ok (.iconst 0, 1) := by decide +kernel
theorem d_MD_clear_11 : decode b_MD_clear 11 = .ok (.istore_n 2, 1) := by decide +kernel
theorem d_MD_clear_12 : decode b_MD_clear 12 = .ok (.iload_n 2, 1) := by decide +kernel
theorem d_MD_clear_13 : decode b_MD_clear 13 = .ok (.bipush 6, 2) := by decide +kernel
theorem d_MD_clear_15 : decode b_MD_clear 15 = .ok (.if_icmp .ge 33, 3) := by decide +kernel
theorem d_MD_clear_18 : decode b_MD_clear 18 = .ok (.aload_n 0, 1) := by decide +kernel
theorem d_MD_clear_19 : decode b_MD_clear 19 = .ok (.getfield 13, 3) := by decide +kernel
theorem d_MD_clear_22 : decode b_MD_clear 22 = .ok (.iload_n 2, 1) := by decide +kernel
theorem d_MD_clear_23 : decode b_MD_clear 23 = .ok (.iconst 0, 1) := by decide +kernel
theorem d_MD_clear_24 : decode b_MD_clear 24 = .ok (.iastore, 1) := by decide +kernel
theorem d_MD_clear_25 : decode b_MD_clear 25 = .ok (.aload_n 0, 1) := by decide +kernel
theorem d_MD_clear_26 : decode b_MD_clear 26 = .ok (.getfield 17, 3) := by decide +kernel
theorem d_MD_clear_29 : decode b_MD_clear 29 = .ok (.iload_n 2, 1) := by decide +kernel
theorem d_MD_clear_30 : decode b_MD_clear 30 = .ok (.sipush 500, 3) := by decide +kernel
theorem d_MD_clear_33 : decode b_MD_clear 33 = .ok (.iastore, 1) := by decide +kernel
theorem d_MD_clear_34 : decode b_MD_clear 34 = .ok (.aload_n 0, 1) := by decide +kernel
theorem d_MD_clear_35 : decode b_MD_clear 35 = .ok (.getfield 20, 3) := by decide +kernel
theorem d_MD_clear_38 : decode b_MD_clear 38 = .ok (.iload_n 2, 1) := by decide +kernel
theorem d_MD_clear_39 : decode b_MD_clear 39 = .ok (.bipush 10, 2) := by decide +kernel
theorem d_MD_clear_41 : decode b_MD_clear 41 = .ok (.iastore, 1) := by decide +kernel
theorem d_MD_clear_42 : decode b_MD_clear 42 = .ok (.iinc 2 1, 3) := by decide +kernel
theorem d_MD_clear_45 : decode b_MD_clear 45 = .ok (.goto (-33), 3) := by decide +kernel
theorem d_MD_clear_48 : decode b_MD_clear 48 = .ok (.iconst 0, 1) := by decide +kernel
theorem d_MD_clear_49 : decode b_MD_clear 49 = .ok (.istore_n 2, 1) := by decide +kernel
theorem d_MD_clear_50 : decode b_MD_clear 50 = .ok (.iload_n 2, 1) := by decide +kernel
theorem d_MD_clear_51 : decode b_MD_clear 51 = .ok (.bipush 49, 2) := by decide +kernel
theorem d_MD_clear_53 : decode b_MD_clear 53 = .ok (.if_icmp .ge 16, 3) := by decide +kernel
theorem d_MD_clear_56 : decode b_MD_clear 56 = .ok (.aload_n 0, 1) := by decide +kernel
theorem d_MD_clear_57 : decode b_MD_clear 57 = .ok (.getfield 23, 3) := by decide +kernel
theorem d_MD_clear_60 : decode b_MD_clear 60 = .ok (.iload_n 2, 1) := by decide +kernel
theorem d_MD_clear_61 : decode b_MD_clear 61 = .ok (.iconst 0, 1) := by decide +kernel
theorem d_MD_clear_62 : decode b_MD_clear 62 = .ok (.iastore, 1) := by decide +kernel
theorem d_MD_clear_63 : decode b_MD_clear 63 = .ok (.iinc 2 1, 3) := by decide +kernel
theorem d_MD_clear_66 : decode b_MD_clear 66 = .ok (.goto (-16), 3) := by decide +kernel
theorem d_MD_clear_69 : decode b_MD_clear 69 = .ok (.return_, 1) := by decide +kernel
theorem d_MD_line_0 : decode b_MD_line 0 = .ok (.aload_n 0, 1) := by decide +kernel
theorem d_MD_line_1 : decode b_MD_line 1 = .ok (.iload_n 1, 1) := by decide +kernel
theorem d_MD_line_2 : decode b_MD_line 2 = .ok (.iconst 1, 1) := by decide +kernel
theorem d_MD_line_3 : decode b_MD_line 3 = .ok (.iconst 5, 1) := by decide +kernel
theorem d_MD_line_4 : decode b_MD_line 4 = .ok (.invokestatic 61, 3) := by decide +kernel
theorem d_MD_line_7 : decode b_MD_line 7 = .ok (.ifCond .ne 7, 3) := by decide +kernel
theorem d_MD_line_10 : decode b_MD_line 10 = .ok (.iconst 1, 1) := by decide +kernel
theorem d_MD_line_11 : decode b_MD_line 11 = .ok (.goto 4, 3) := by decide +kernel
theorem d_MD_line_14 : decode b_MD_line 14 = .ok (.iconst 0, 1) := by decide +kernel
theorem d_MD_line_15 : decode b_MD_line 15 = .ok (.iconst 0, 1) := by decide +kernel
theorem d_MD_line_16 : decode b_MD_line 16 = .ok (.invokevirtual 65, 3) := by decide +kernel
theorem d_MD_line_19 : decode b_MD_line 19 = .ok (.ifCond .ne 8, 3) := by decide +kernel
theorem d_MD_line_22 : decode b_MD_line 22 = .ok (.aload_n 0, 1) := by decide +kernel
theorem d_MD_line_23 : decode b_MD_line 23 = .ok (.iload_n 1, 1) := by decide +kernel
theorem d_MD_line_24 : decode b_MD_line 24 = .ok (.invokevirtual 50, 3) := by decide +kernel
theorem d_MD_line_27 : decode b_MD_line 27 = .ok (.return_, 1) := by decide +kernel
theorem d_MD_soak_0 : decode b_MD_soak 0 = .ok (.aload_n 0, 1) := by decide +kernel
theorem d_MD_soak_1 : decode b_MD_soak 1 = .ok (.iload_n 1, 1) := by decide +kernel
theorem d_MD_soak_2 : decode b_MD_soak 2 = .ok (.iconst 1, 1) := by decide +kernel
theorem d_MD_soak_3 : decode b_MD_soak 3 = .ok (.aload_n 0, 1) := by decide +kernel
theorem d_MD_soak_4 : decode b_MD_soak 4 = .ok (.getfield 7, 3) := by decide +kernel
theorem d_MD_soak_7 : decode b_MD_soak 7 = .ok (.invokestatic 61, 3) := by decide +kernel
theorem d_MD_soak_10 : decode b_MD_soak 10 = .ok (.ifCond .eq 30, 3) := by decide +kernel
theorem d_MD_soak_13 : decode b_MD_soak 13 = .ok (.iload_n 2, 1) := by decide +kernel
theorem d_MD_soak_14 : decode b_MD_soak 14 = .ok (.iconst 0, 1) := by decide +kernel
theorem d_MD_soak_15 : decode b_MD_soak 15 = .ok (.sipush 500, 3) := by decide +kernel
theorem d_MD_soak_18 : decode b_MD_soak 18 = .ok (.invokestatic 61, 3) := by decide +kernel
theorem d_MD_soak_21 : decode b_MD_soak 21 = .ok (.ifCond .eq 19, 3) := by decide +kernel
theorem d_MD_soak_24 : decode b_MD_soak 24 = .ok (.iload_n 3, 1) := by decide +kernel
theorem d_MD_soak_25 : decode b_MD_soak 25 = .ok (.iconst 0, 1) := by decide +kernel
theorem d_MD_soak_26 : decode b_MD_soak 26 = .ok (.sipush 500, 3) := by decide +kernel
theorem d_MD_soak_29 : decode b_MD_soak 29 = .ok (.invokestatic 61, 3) := by decide +kernel
theorem d_MD_soak_32 : decode b_MD_soak 32 = .ok (.ifCond .eq 8, 3) := by decide +kernel
theorem d_MD_soak_35 : decode b_MD_soak 35 = .ok (.iload_n 2, 1) := by decide +kernel
theorem d_MD_soak_36 : decode b_MD_soak 36 = .ok (.iload_n 3, 1) := by decide +kernel
theorem d_MD_soak_37 : decode b_MD_soak 37 = .ok (.if_icmp .le 7, 3) := by decide +kernel
theorem d_MD_soak_40 : decode b_MD_soak 40 = .ok (.iconst 1, 1) := by decide +kernel
theorem d_MD_soak_41 : decode b_MD_soak 41 = .ok (.goto 4, 3) := by decide +kernel
theorem d_MD_soak_44 : decode b_MD_soak 44 = .ok (.iconst 0, 1) := by decide +kernel
theorem d_MD_soak_45 : decode b_MD_soak 45 = .ok (.iconst 0, 1) := by decide +kernel
theorem d_MD_soak_46 : decode b_MD_soak 46 = .ok (.invokevirtual 65, 3) := by decide +kernel
theorem d_MD_soak_49 : decode b_MD_soak 49 = .ok (.ifCond .eq 4, 3) := by decide +kernel
theorem d_MD_soak_52 : decode b_MD_soak 52 = .ok (.return_, 1) := by decide +kernel
theorem d_MD_soak_53 : decode b_MD_soak 53 = .ok (.aload_n 0, 1) := by decide +kernel
theorem d_MD_soak_54 : decode b_MD_soak 54 = .ok (.getfield 13, 3) := by decide +kernel
theorem d_MD_soak_57 : decode b_MD_soak 57 = .ok (.iload_n 1, 1) := by decide +kernel
theorem d_MD_soak_58 : decode b_MD_soak 58 = .ok (.iload_n 2, 1) := by decide +kernel
theorem d_MD_soak_59 : decode b_MD_soak 59 = .ok (.iastore, 1) := by decide +kernel
theorem d_MD_soak_60 : decode b_MD_soak 60 = .ok (.aload_n 0, 1) := by decide +kernel
theorem d_MD_soak_61 : decode b_MD_soak 61 = .ok (.getfield 17, 3) := by decide +kernel
theorem d_MD_soak_64 : decode b_MD_soak 64 = .ok (.iload_n 1, 1) := by decide +kernel
theorem d_MD_soak_65 : decode b_MD_soak 65 = .ok (.iload_n 3, 1) := by decide +kernel
theorem d_MD_soak_66 : decode b_MD_soak 66 = .ok (.iastore, 1) := by decide +kernel
theorem d_MD_soak_67 : decode b_MD_soak 67 = .ok (.aload_n 0, 1) := by decide +kernel
theorem d_MD_soak_68 : decode b_MD_soak 68 = .ok (.iconst 0, 1) := by decide +kernel
theorem d_MD_soak_69 : decode b_MD_soak 69 = .ok (.putfield 57, 3) := by decide +kernel
theorem d_MD_soak_72 : decode b_MD_soak 72 = .ok (.return_, 1) := by decide +kernel
theorem d_MD_loaded_0 : decode b_MD_loaded 0 = .ok (.aload_n 0, 1) := by decide +kernel
theorem d_MD_loaded_1 : decode b_MD_loaded 1 = .ok (.iload_n 1, 1) := by decide +kernel
theorem d_MD_loaded_2 : decode b_MD_loaded 2 = .ok (.iconst 0, 1) := by decide +kernel
theorem d_MD_loaded_3 : decode b_MD_loaded 3 = .ok (.aload_n 0, 1) := by decide +kernel
theorem d_MD_loaded_4 : decode b_MD_loaded 4 = .ok (.getfield 7, 3) := by decide +kernel
theorem d_MD_loaded_7 : decode b_MD_loaded 7 = .ok (.invokestatic 61, 3) := by decide +kernel
theorem d_MD_loaded_10 : decode b_MD_loaded 10 = .ok (.ifCond .eq 13, 3) := by decide +kernel
theorem d_MD_loaded_13 : decode b_MD_loaded 13 = .ok (.iload_n 2, 1) := by decide +kernel
theorem d_MD_loaded_14 : decode b_MD_loaded 14 = .ok (.iconst 1, 1) := by decide +kernel
theorem d_MD_loaded_15 : decode b_MD_loaded 15 = .ok (.bipush 100, 2) := by decide +kernel
theorem d_MD_loaded_17 : decode b_MD_loaded 17 = .ok (.invokestatic 61, 3) := by decide +kernel
theorem d_MD_loaded_20 : decode b_MD_loaded 20 = .ok (.ifCond .ne 7, 3) := by decide +kernel
theorem d_MD_loaded_23 : decode b_MD_loaded 23 = .ok (.iconst 1, 1) := by decide +kernel
theorem d_MD_loaded_24 : decode b_MD_loaded 24 = .ok (.goto 4, 3) := by decide +kernel
theorem d_MD_loaded_27 : decode b_MD_loaded 27 = .ok (.iconst 0, 1) := by decide +kernel
theorem d_MD_loaded_28 : decode b_MD_loaded 28 = .ok (.iconst 0, 1) := by decide +kernel
theorem d_MD_loaded_29 : decode b_MD_loaded 29 = .ok (.invokevirtual 65, 3) := by decide +kernel
theorem d_MD_loaded_32 : decode b_MD_loaded 32 = .ok (.ifCond .eq 4, 3) := by decide +kernel
theorem d_MD_loaded_35 : decode b_MD_loaded 35 = .ok (.return_, 1) := by decide +kernel
theorem d_MD_loaded_36 : decode b_MD_loaded 36 = .ok (.aload_n 0, 1) := by decide +kernel
theorem d_MD_loaded_37 : decode b_MD_loaded 37 = .ok (.getfield 20, 3) := by decide +kernel
theorem d_MD_loaded_40 : decode b_MD_loaded 40 = .ok (.iload_n 1, 1) := by decide +kernel
theorem d_MD_loaded_41 : decode b_MD_loaded 41 = .ok (.iload_n 2, 1) := by decide +kernel
theorem d_MD_loaded_42 : decode b_MD_loaded 42 = .ok (.iastore, 1) := by decide +kernel
theorem d_MD_loaded_43 : decode b_MD_loaded 43 = .ok (.aload_n 0, 1) := by decide +kernel
theorem d_MD_loaded_44 : decode b_MD_loaded 44 = .ok (.iconst 0, 1) := by decide +kernel
theorem d_MD_loaded_45 : decode b_MD_loaded 45 = .ok (.putfield 57, 3) := by decide +kernel
theorem d_MD_loaded_48 : decode b_MD_loaded 48 = .ok (.return_, 1) := by decide +kernel
theorem d_MD_empty_0 : decode b_MD_empty 0 = .ok (.aload_n 0, 1) := by decide +kernel
theorem d_MD_empty_1 : decode b_MD_empty 1 = .ok (.iload_n 1, 1) := by decide +kernel
theorem d_MD_empty_2 : decode b_MD_empty 2 = .ok (.iconst 0, 1) := by decide +kernel
theorem d_MD_empty_3 : decode b_MD_empty 3 = .ok (.aload_n 0, 1) := by decide +kernel
theorem d_MD_empty_4 : decode b_MD_empty 4 = .ok (.getfield 7, 3) := by decide +kernel
theorem d_MD_empty_7 : decode b_MD_empty 7 = .ok (.iconst 1, 1) := by decide +kernel
theorem d_MD_empty_8 : decode b_MD_empty 8 = .ok (.iadd, 1) := by decide +kernel
theorem d_MD_empty_9 : decode b_MD_empty 9 = .ok (.invokestatic 61, 3) := by decide +kernel
theorem d_MD_empty_12 : decode b_MD_empty 12 = .ok (.ifCond .eq 32, 3) := by decide +kernel
theorem d_MD_empty_15 : decode b_MD_empty 15 = .ok (.iload_n 2, 1) := by decide +kernel
theorem d_MD_empty_16 : decode b_MD_empty 16 = .ok (.iconst 0, 1) := by decide +kernel
theorem d_MD_empty_17 : decode b_MD_empty 17 = .ok (.aload_n 0, 1) := by decide +kernel
theorem d_MD_empty_18 : decode b_MD_empty 18 = .ok (.getfield 7, 3) := by decide +kernel
theorem d_MD_empty_21 : decode b_MD_empty 21 = .ok (.iconst 1, 1) := by decide +kernel
theorem d_MD_empty_22 : decode b_MD_empty 22 = .ok (.iadd, 1) := by decide +kernel
theorem d_MD_empty_23 : decode b_MD_empty 23 = .ok (.invokestatic 61, 3) := by decide +kernel
theorem d_MD_empty_26 : decode b_MD_empty 26 = .ok (.ifCond .eq 18, 3) := by decide +kernel
theorem d_MD_empty_29 : decode b_MD_empty 29 = .ok (.iload_n 1, 1) := by decide +kernel
theorem d_MD_empty_30 : decode b_MD_empty 30 = .ok (.iload_n 2, 1) := by decide +kernel
theorem d_MD_empty_31 : decode b_MD_empty 31 = .ok (.if_icmp .eq 13, 3) := by decide +kernel
theorem d_MD_empty_34 : decode b_MD_empty 34 = .ok (.iload_n 3, 1) := by decide +kernel
theorem d_MD_empty_35 : decode b_MD_empty 35 = .ok (.iconst 0, 1) := by decide +kernel
theorem d_MD_empty_36 : decode b_MD_empty 36 = .ok (.bipush 100, 2) := by decide +kernel
theorem d_MD_empty_38 : decode b_MD_empty 38 = .ok (.invokestatic 61, 3) := by decide +kernel
theorem d_MD_empty_41 : decode b_MD_empty 41 = .ok (.ifCond .ne 7, 3) := by decide +kernel
theorem d_MD_empty_44 : decode b_MD_empty 44 = .ok (.iconst 1, 1) := by decide +kernel
theorem d_MD_empty_45 : decode b_MD_empty 45 = .ok (.goto 4, 3) := by decide +kernel
theorem d_MD_empty_48 : decode b_MD_empty 48 = .ok (.iconst 0, 1) := by decide +kernel
theorem d_MD_empty_49 : decode b_MD_empty 49 = .ok (.iconst 0, 1) := by decide +kernel
theorem d_MD_empty_50 : decode b_MD_empty 50 = .ok (.invokevirtual 65, 3) := by decide +kernel
theorem d_MD_empty_53 : decode b_MD_empty 53 = .ok (.ifCond .eq 4, 3) := by decide +kernel
theorem d_MD_empty_56 : decode b_MD_empty 56 = .ok (.return_, 1) := by decide +kernel
theorem d_MD_empty_57 : decode b_MD_empty 57 = .ok (.aload_n 0, 1) := by decide +kernel
theorem d_MD_empty_58 : decode b_MD_empty 58 = .ok (.getfield 23, 3) := by decide +kernel
theorem d_MD_empty_61 : decode b_MD_empty 61 = .ok (.bipush 7, 2) := by decide +kernel
theorem d_MD_empty_63 : decode b_MD_empty 63 = .ok (.iload_n 1, 1) := by decide +kernel
theorem d_MD_empty_64 : decode b_MD_empty 64 = .ok (.imul, 1) := by decide +kernel
theorem d_MD_empty_65 : decode b_MD_empty 65 = .ok (.iload_n 2, 1) := by decide +kernel
theorem d_MD_empty_66 : decode b_MD_empty 66 = .ok (.iadd, 1) := by decide +kernel
theorem d_MD_empty_67 : decode b_MD_empty 67 = .ok (.iload_n 3, 1) := by decide +kernel
theorem d_MD_empty_68 : decode b_MD_empty 68 = .ok (.iastore, 1) := by decide +kernel
theorem d_MD_empty_69 : decode b_MD_empty 69 = .ok (.aload_n 0, 1) := by decide +kernel
theorem d_MD_empty_70 : decode b_MD_empty 70 = .ok (.iconst 0, 1) := by decide +kernel
theorem d_MD_empty_71 : decode b_MD_empty 71 = .ok (.putfield 57, 3) := by decide +kernel
theorem d_MD_empty_74 : decode b_MD_empty 74 = .ok (.return_, 1) := by decide +kernel
theorem d_MD_readiness_0 : decode b_MD_readiness 0 = .ok (.iconst 0, 1) := by decide +kernel
theorem d_MD_readiness_1 : decode b_MD_readiness 1 = .ok (.istore_n 1, 1) := by decide +kernel
theorem d_MD_readiness_2 : decode b_MD_readiness 2 = .ok (.iload_n 1, 1) := by decide +kernel
theorem d_MD_readiness_3 : decode b_MD_readiness 3 = .ok (.aload_n 0, 1) := by decide +kernel
theorem d_MD_readiness_4 : decode b_MD_readiness 4 = .ok (.getfield 7, 3) := by decide +kernel
theorem d_MD_readiness_7 : decode b_MD_readiness 7 = .ok (.if_icmp .gt 35, 3) := by decide +kernel
theorem d_MD_readiness_10 : decode b_MD_readiness 10 = .ok (.aload_n 0, 1) := by decide +kernel
theorem d_MD_readiness_11 : decode b_MD_readiness 11 = .ok (.getfield 23, 3) := by decide +kernel
theorem d_MD_readiness_14 : decode b_MD_readiness 14 = .ok (.bipush 7, 2) := by decide +kernel
theorem d_MD_readiness_16 : decode b_MD_readiness 16 = .ok (.iload_n 1, 1) := by decide +kernel
theorem d_MD_readiness_17 : decode b_MD_readiness 17 = .ok (.imul, 1) := by decide +kernel
theorem d_MD_readiness_18 : decode b_MD_readiness 18 = .ok (.iload_n 1, 1) := by decide +kernel
theorem d_MD_readiness_19 : decode b_MD_readiness 19 = .ok (.iadd, 1) := by decide +kernel
theorem d_MD_readiness_20 : decode b_MD_readiness 20 = .ok (.iconst 1, 1) := by decide +kernel
theorem d_MD_readiness_21 : decode b_MD_readiness 21 = .ok (.iadd, 1) := by decide +kernel
theorem d_MD_readiness_22 : decode b_MD_readiness 22 = .ok (.iaload, 1) := by decide +kernel
theorem d_MD_readiness_23 : decode b_MD_readiness 23 = .ok (.aload_n 0, 1) := by decide +kernel
theorem d_MD_readiness_24 : decode b_MD_readiness 24 = .ok (.getfield 20, 3) := by decide +kernel
theorem d_MD_readiness_27 : decode b_MD_readiness 27 = .ok (.iload_n 1, 1) := by decide +kernel
theorem d_MD_readiness_28 : decode b_MD_readiness 28 = .ok (.iaload, 1) := by decide +kernel
theorem d_MD_readiness_29 : decode b_MD_readiness 29 = .ok (.if_icmp .le 7, 3) := by decide +kernel
theorem d_MD_readiness_32 : decode b_MD_readiness 32 = .ok (.iconst 1, 1) := by decide +kernel
theorem d_MD_readiness_33 : decode b_MD_readiness 33 = .ok (.iload_n 1, 1) := by decide +kernel
theorem d_MD_readiness_34 : decode b_MD_readiness 34 = .ok (.iadd, 1) := by decide +kernel
theorem d_MD_readiness_35 : decode b_MD_readiness 35 = .ok (.ireturn, 1) := by decide +kernel
theorem d_MD_readiness_36 : decode b_MD_readiness 36 = .ok (.iinc 1 1, 3) := by decide +kernel
theorem d_MD_readiness_39 : decode b_MD_readiness 39 = .ok (.goto (-37), 3) := by decide +kernel
theorem d_MD_readiness_42 : decode b_MD_readiness 42 = .ok (.iconst 0, 1) := by decide +kernel
theorem d_MD_readiness_43 : decode b_MD_readiness 43 = .ok (.istore_n 1, 1) := by decide +kernel
theorem d_MD_readiness_44 : decode b_MD_readiness 44 = .ok (.iload_n 1, 1) := by decide +kernel
theorem d_MD_readiness_45 : decode b_MD_readiness 45 = .ok (.sipush 343, 3) := by decide +kernel
theorem d_MD_readiness_48 : decode b_MD_readiness 48 = .ok (.if_icmp .ge 115, 3) := by decide +kernel
theorem d_MD_readiness_51 : decode b_MD_readiness 51 = .ok (.iload_n 1, 1) := by decide +kernel
theorem d_MD_readiness_52 : decode b_MD_readiness 52 = .ok (.bipush 49, 2) := by decide +kernel
theorem d_MD_readiness_54 : decode b_MD_readiness 54 = .ok (.idiv, 1) := by decide +kernel
theorem d_MD_readiness_55 : decode b_MD_readiness 55 = .ok (.istore_n 2, 1) := by decide +kernel
theorem d_MD_readiness_56 : decode b_MD_readiness 56 = .ok (.iload_n 1, 1) := by decide +kernel
theorem d_MD_readiness_57 : decode b_MD_readiness 57 = .ok (.bipush 7, 2) := by decide +kernel
theorem d_MD_readiness_59 : decode b_MD_readiness 59 = .ok (.idiv, 1) := by decide +kernel
theorem d_MD_readiness_60 : decode b_MD_readiness 60 = .ok (.bipush 7, 2) := by decide +kernel
theorem d_MD_readiness_62 : decode b_MD_readiness 62 = .ok (.irem, 1) := by decide +kernel
theorem d_MD_readiness_63 : decode b_MD_readiness 63 = .ok (.istore_n 3, 1) := by decide +kernel
theorem d_MD_readiness_64 : decode b_MD_readiness 64 = .ok (.iload_n 1, 1) := by decide +kernel
theorem d_MD_readiness_65 : decode b_MD_readiness 65 = .ok (.bipush 7, 2) := by decide +kernel
theorem d_MD_readiness_67 : decode b_MD_readiness 67 = .ok (.irem, 1) := by decide +kernel
theorem d_MD_readiness_68 : decode b_MD_readiness 68 = .ok (.istore 4, 2) := by decide +kernel
theorem d_MD_readiness_70 : decode b_MD_readiness 70 = .ok (.iload_n 2, 1) := by decide +kernel
theorem d_MD_readiness_71 : decode b_MD_readiness 71 = .ok (.aload_n 0, 1) := by decide +kernel
theorem d_MD_readiness_72 : decode b_MD_readiness 72 = .ok (.getfield 7, 3) := by decide +kernel
theorem d_MD_readiness_75 : decode b_MD_readiness 75 = .ok (.iconst 1, 1) := by decide +kernel
theorem d_MD_readiness_76 : decode b_MD_readiness 76 = .ok (.iadd, 1) := by decide +kernel
theorem d_MD_readiness_77 : decode b_MD_readiness 77 = .ok (.if_icmp .gt 28, 3) := by decide +kernel
theorem d_MD_readiness_80 : decode b_MD_readiness 80 = .ok (.iload_n 3, 1) := by decide +kernel
theorem d_MD_readiness_81 : decode b_MD_readiness 81 = .ok (.aload_n 0, 1) := by decide +kernel
theorem d_MD_readiness_82 : decode b_MD_readiness 82 = .ok (.getfield 7, 3) := by decide +kernel
theorem d_MD_readiness_85 : decode b_MD_readiness 85 = .ok (.iconst 1, 1) := by decide +kernel
theorem d_MD_readiness_86 : decode b_MD_readiness 86 = .ok (.iadd, 1) := by decide +kernel
theorem d_MD_readiness_87 : decode b_MD_readiness 87 = .ok (.if_icmp .gt 18, 3) := by decide +kernel
theorem d_MD_readiness_90 : decode b_MD_readiness 90 = .ok (.iload 4, 2) := by decide +kernel
theorem d_MD_readiness_92 : decode b_MD_readiness 92 = .ok (.aload_n 0, 1) := by decide +kernel
theorem d_MD_readiness_93 : decode b_MD_readiness 93 = .ok (.getfield 7, 3) := by decide +kernel
theorem d_MD_readiness_96 : decode b_MD_readiness 96 = .ok (.iconst 1, 1) := by decide +kernel
theorem d_MD_readiness_97 : decode b_MD_readiness 97 = .ok (.iadd, 1) := by decide +kernel
theorem d_MD_readiness_98 : decode b_MD_readiness 98 = .ok (.if_icmp .gt 7, 3) := by decide +kernel
theorem d_MD_readiness_101 : decode b_MD_readiness 101 = .ok (.iconst 1, 1) := by decide +kernel
theorem d_MD_readiness_102 : decode b_MD_readiness 102 = .ok (.goto 4, 3) := by decide +kernel
theorem d_MD_readiness_105 : decode b_MD_readiness 105 = .ok (.iconst 0, 1) := by decide +kernel
theorem d_MD_readiness_106 : decode b_MD_readiness 106 = .ok (.istore 5, 2) := by decide +kernel
theorem d_MD_readiness_108 : decode b_MD_readiness 108 = .ok (.iload 5, 2) := by decide +kernel
theorem d_MD_readiness_110 : decode b_MD_readiness 110 = .ok (.ifCond .eq 47, 3) := by decide +kernel
theorem d_MD_readiness_113 : decode b_MD_readiness 113 = .ok (.aload_n 0, 1) := by decide +kernel
theorem d_MD_readiness_114 : decode b_MD_readiness 114 = .ok (.getfield 23, 3) := by decide +kernel
theorem d_MD_readiness_117 : decode b_MD_readiness 117 = .ok (.bipush 7, 2) := by decide +kernel
theorem d_MD_readiness_119 : decode b_MD_readiness 119 = .ok (.iload_n 2, 1) := by decide +kernel
theorem d_MD_readiness_120 : decode b_MD_readiness 120 = .ok (.imul, 1) := by decide +kernel
theorem d_MD_readiness_121 : decode b_MD_readiness 121 = .ok (.iload 4, 2) := by decide +kernel
theorem d_MD_readiness_123 : decode b_MD_readiness 123 = .ok (.iadd, 1) := by decide +kernel
theorem d_MD_readiness_124 : decode b_MD_readiness 124 = .ok (.iaload, 1) := by decide +kernel
theorem d_MD_readiness_125 : decode b_MD_readiness 125 = .ok (.aload_n 0, 1) := by decide +kernel
theorem d_MD_readiness_126 : decode b_MD_readiness 126 = .ok (.getfield 23, 3) := by decide +kernel
theorem d_MD_readiness_129 : decode b_MD_readiness 129 = .ok (.bipush 7, 2) := by decide +kernel
theorem d_MD_readiness_131 : decode b_MD_readiness 131 = .ok (.iload_n 2, 1) := by decide +kernel
theorem d_MD_readiness_132 : decode b_MD_readiness 132 = .ok (.imul, 1) := by decide +kernel
theorem d_MD_readiness_133 : decode b_MD_readiness 133 = .ok (.iload_n 3, 1) := by decide +kernel
theorem d_MD_readiness_134 : decode b_MD_readiness 134 = .ok (.iadd, 1) := by decide +kernel
theorem d_MD_readiness_135 : decode b_MD_readiness 135 = .ok (.iaload, 1) := by decide +kernel
theorem d_MD_readiness_136 : decode b_MD_readiness 136 = .ok (.aload_n 0, 1) := by decide +kernel
theorem d_MD_readiness_137 : decode b_MD_readiness 137 = .ok (.getfield 23, 3) := by decide +kernel
theorem d_MD_readiness_140 : decode b_MD_readiness 140 = .ok (.bipush 7, 2) := by decide +kernel
theorem d_MD_readiness_142 : decode b_MD_readiness 142 = .ok (.iload_n 3, 1) := by decide +kernel
theorem d_MD_readiness_143 : decode b_MD_readiness 143 = .ok (.imul, 1) := by decide +kernel
theorem d_MD_readiness_144 : decode b_MD_readiness 144 = .ok (.iload 4, 2) := by decide +kernel
theorem d_MD_readiness_146 : decode b_MD_readiness 146 = .ok (.iadd, 1) := by decide +kernel
theorem d_MD_readiness_147 : decode b_MD_readiness 147 = .ok (.iaload, 1) := by decide +kernel
theorem d_MD_readiness_148 : decode b_MD_readiness 148 = .ok (.iadd, 1) := by decide +kernel
theorem d_MD_readiness_149 : decode b_MD_readiness 149 = .ok (.if_icmp .le 8, 3) := by decide +kernel
theorem d_MD_readiness_152 : decode b_MD_readiness 152 = .ok (.bipush 100, 2) := by decide +kernel
theorem d_MD_readiness_154 : decode b_MD_readiness 154 = .ok (.iload_n 1, 1) := by decide +kernel
theorem d_MD_readiness_155 : decode b_MD_readiness 155 = .ok (.iadd, 1) := by decide +kernel
theorem d_MD_readiness_156 : decode b_MD_readiness 156 = .ok (.ireturn, 1) := by decide +kernel
theorem d_MD_readiness_157 : decode b_MD_readiness 157 = .ok (.iinc 1 1, 3) := by decide +kernel
theorem d_MD_readiness_160 : decode b_MD_readiness 160 = .ok (.goto (-116), 3) := by decide +kernel
theorem d_MD_readiness_163 : decode b_MD_readiness 163 = .ok (.iconst 0, 1) := by decide +kernel
theorem d_MD_readiness_164 : decode b_MD_readiness 164 = .ok (.ireturn, 1) := by decide +kernel
theorem d_MD_ready_0 : decode b_MD_ready 0 = .ok (.aload_n 0, 1) := by decide +kernel
theorem d_MD_ready_1 : decode b_MD_ready 1 = .ok (.iconst 0, 1) := by decide +kernel
theorem d_MD_ready_2 : decode b_MD_ready 2 = .ok (.putfield 54, 3) := by decide +kernel
theorem d_MD_ready_5 : decode b_MD_ready 5 = .ok (.aload_n 0, 1) := by decide +kernel
theorem d_MD_ready_6 : decode b_MD_ready 6 = .ok (.invokevirtual 69, 3) := by decide +kernel
theorem d_MD_ready_9 : decode b_MD_ready 9 = .ok (.ireturn, 1) := by decide +kernel
theorem d_MD_behind_0 : decode b_MD_behind 0 = .ok (.aload_n 0, 1) := by decide +kernel
theorem d_MD_behind_1 : decode b_MD_behind 1 = .ok (.getfield 20, 3) := by decide +kernel
theorem d_MD_behind_4 : decode b_MD_behind 4 = .ok (.iload_n 1, 1) := by decide +kernel
theorem d_MD_behind_5 : decode b_MD_behind 5 = .ok (.iaload, 1) := by decide +kernel
theorem d_MD_behind_6 : decode b_MD_behind 6 = .ok (.aload_n 0, 1) := by decide +kernel
theorem d_MD_behind_7 : decode b_MD_behind 7 = .ok (.getfield 23, 3) := by decide +kernel
theorem d_MD_behind_10 : decode b_MD_behind 10 = .ok (.bipush 7, 2) := by decide +kernel
theorem d_MD_behind_12 : decode b_MD_behind 12 = .ok (.iload_n 1, 1) := by decide +kernel
theorem d_MD_behind_13 : decode b_MD_behind 13 = .ok (.iconst 1, 1) := by decide +kernel
theorem d_MD_behind_14 : decode b_MD_behind 14 = .ok (.iadd, 1) := by decide +kernel
theorem d_MD_behind_15 : decode b_MD_behind 15 = .ok (.imul, 1) := by decide +kernel
theorem d_MD_behind_16 : decode b_MD_behind 16 = .ok (.iload_n 2, 1) := by decide +kernel
theorem d_MD_behind_17 : decode b_MD_behind 17 = .ok (.iadd, 1) := by decide +kernel
theorem d_MD_behind_18 : decode b_MD_behind 18 = .ok (.iaload, 1) := by decide +kernel
theorem d_MD_behind_19 : decode b_MD_behind 19 = .ok (.iadd, 1) := by decide +kernel
theorem d_MD_behind_20 : decode b_MD_behind 20 = .ok (.ireturn, 1) := by decide +kernel
theorem d_MD_raise_0 : decode b_MD_raise 0 = .ok (.aload_n 0, 1) := by decide +kernel
theorem d_MD_raise_1 : decode b_MD_raise 1 = .ok (.getfield 32, 3) := by decide +kernel
theorem d_MD_raise_4 : decode b_MD_raise 4 = .ok (.iload_n 1, 1) := by decide +kernel
theorem d_MD_raise_5 : decode b_MD_raise 5 = .ok (.iaload, 1) := by decide +kernel
theorem d_MD_raise_6 : decode b_MD_raise 6 = .ok (.iload_n 2, 1) := by decide +kernel
theorem d_MD_raise_7 : decode b_MD_raise 7 = .ok (.if_icmp .lt 5, 3) := by decide +kernel
theorem d_MD_raise_10 : decode b_MD_raise 10 = .ok (.iconst 0, 1) := by decide +kernel
theorem d_MD_raise_11 : decode b_MD_raise 11 = .ok (.ireturn, 1) := by decide +kernel
theorem d_MD_raise_12 : decode b_MD_raise 12 = .ok (.aload_n 0, 1) := by decide +kernel
theorem d_MD_raise_13 : decode b_MD_raise 13 = .ok (.getfield 32, 3) := by decide +kernel
theorem d_MD_raise_16 : decode b_MD_raise 16 = .ok (.iload_n 1, 1) := by decide +kernel
theorem d_MD_raise_17 : decode b_MD_raise 17 = .ok (.iload_n 2, 1) := by decide +kernel
theorem d_MD_raise_18 : decode b_MD_raise 18 = .ok (.iastore, 1) := by decide +kernel
theorem d_MD_raise_19 : decode b_MD_raise 19 = .ok (.iconst 1, 1) := by decide +kernel
theorem d_MD_raise_20 : decode b_MD_raise 20 = .ok (.ireturn, 1) := by decide +kernel
theorem d_MD_raiseAll_0 : decode b_MD_raiseAll 0 = .ok (.iconst 0, 1) := by decide +kernel
theorem d_MD_raiseAll_1 : decode b_MD_raiseAll 1 = .ok (.istore_n 2, 1) := by decide +kernel
theorem d_MD_raiseAll_2 : decode b_MD_raiseAll 2 = .ok (.iconst 0, 1) := by decide +kernel
theorem d_MD_raiseAll_3 : decode b_MD_raiseAll 3 = .ok (.istore_n 3, 1) := by decide +kernel
theorem d_MD_raiseAll_4 : decode b_MD_raiseAll 4 = .ok (.iload_n 3, 1) := by decide +kernel
theorem d_MD_raiseAll_5 : decode b_MD_raiseAll 5 = .ok (.aload_n 0, 1) := by decide +kernel
theorem d_MD_raiseAll_6 : decode b_MD_raiseAll 6 = .ok (.getfield 7, 3) := by decide +kernel
theorem d_MD_raiseAll_9 : decode b_MD_raiseAll 9 = .ok (.if_icmp .ge 64, 3) := by decide +kernel
theorem d_MD_raiseAll_12 : decode b_MD_raiseAll 12 = .ok (.aload_n 0, 1) := by decide +kernel
theorem d_MD_raiseAll_13 : decode b_MD_raiseAll 13 = .ok (.aload_n 0, 1) := by decide +kernel
theorem d_MD_raiseAll_14 : decode b_MD_raiseAll 14 = .ok (.getfield 26, 3) := by decide +kernel
theorem d_MD_raiseAll_17 : decode b_MD_raiseAll 17 = .ok (.iload_n 3, 1) := by decide +kernel
theorem d_MD_raiseAll_18 : decode b_MD_raiseAll 18 = .ok (.iconst 1, 1) := by decide +kernel
theorem d_MD_raiseAll_19 : decode b_MD_raiseAll 19 = .ok (.iadd, 1) := by decide +kernel
theorem d_MD_raiseAll_20 : decode b_MD_raiseAll 20 = .ok (.iaload, 1) := by decide +kernel
theorem d_MD_raiseAll_21 : decode b_MD_raiseAll 21 = .ok (.aload_n 0, 1) := by decide +kernel
theorem d_MD_raiseAll_22 : decode b_MD_raiseAll 22 = .ok (.getfield 32, 3) := by decide +kernel
theorem d_MD_raiseAll_25 : decode b_MD_raiseAll 25 = .ok (.aload_n 0, 1) := by decide +kernel
theorem d_MD_raiseAll_26 : decode b_MD_raiseAll 26 = .ok (.getfield 26, 3) := by decide +kernel
theorem d_MD_raiseAll_29 : decode b_MD_raiseAll 29 = .ok (.iload_n 3, 1) := by decide +kernel
theorem d_MD_raiseAll_30 : decode b_MD_raiseAll 30 = .ok (.iaload, 1) := by decide +kernel
theorem d_MD_raiseAll_31 : decode b_MD_raiseAll 31 = .ok (.iaload, 1) := by decide +kernel
theorem d_MD_raiseAll_32 : decode b_MD_raiseAll 32 = .ok (.aload_n 0, 1) := by decide +kernel
theorem d_MD_raiseAll_33 : decode b_MD_raiseAll 33 = .ok (.aload_n 0, 1) := by decide +kernel
theorem d_MD_raiseAll_34 : decode b_MD_raiseAll 34 = .ok (.getfield 26, 3) := by decide +kernel
theorem d_MD_raiseAll_37 : decode b_MD_raiseAll 37 = .ok (.iload_n 3, 1) := by decide +kernel
theorem d_MD_raiseAll_38 : decode b_MD_raiseAll 38 = .ok (.iaload, 1) := by decide +kernel
theorem d_MD_raiseAll_39 : decode b_MD_raiseAll 39 = .ok (.aload_n 0, 1) := by decide +kernel
theorem d_MD_raiseAll_40 : decode b_MD_raiseAll 40 = .ok (.getfield 26, 3) := by decide +kernel
theorem d_MD_raiseAll_43 : decode b_MD_raiseAll 43 = .ok (.iload_n 3, 1) := by decide +kernel
theorem d_MD_raiseAll_44 : decode b_MD_raiseAll 44 = .ok (.iconst 1, 1) := by decide +kernel
theorem d_MD_raiseAll_45 : decode b_MD_raiseAll 45 = .ok (.iadd, 1) := by decide +kernel
theorem d_MD_raiseAll_46 : decode b_MD_raiseAll 46 = .ok (.iaload, 1) := by decide +kernel
theorem d_MD_raiseAll_47 : decode b_MD_raiseAll 47 = .ok (.invokevirtual 73, 3) := by decide +kernel
theorem d_MD_raiseAll_50 : decode b_MD_raiseAll 50 = .ok (.iadd, 1) := by decide +kernel
theorem d_MD_raiseAll_51 : decode b_MD_raiseAll 51 = .ok (.invokevirtual 77, 3) := by decide +kernel
theorem d_MD_raiseAll_54 : decode b_MD_raiseAll 54 = .ok (.ifCond .ne 7, 3) := by decide +kernel
theorem d_MD_raiseAll_57 : decode b_MD_raiseAll 57 = .ok (.iload_n 2, 1) := by decide +kernel
theorem d_MD_raiseAll_58 : decode b_MD_raiseAll 58 = .ok (.ifCond .eq 7, 3) := by decide +kernel
theorem d_MD_raiseAll_61 : decode b_MD_raiseAll 61 = .ok (.iconst 1, 1) := by decide +kernel
theorem d_MD_raiseAll_62 : decode b_MD_raiseAll 62 = .ok (.goto 4, 3) := by decide +kernel
theorem d_MD_raiseAll_65 : decode b_MD_raiseAll 65 = .ok (.iconst 0, 1) := by decide +kernel
theorem d_MD_raiseAll_66 : decode b_MD_raiseAll 66 = .ok (.istore_n 2, 1) := by decide +kernel
theorem d_MD_raiseAll_67 : decode b_MD_raiseAll 67 = .ok (.iinc 3 1, 3) := by decide +kernel
theorem d_MD_raiseAll_70 : decode b_MD_raiseAll 70 = .ok (.goto (-66), 3) := by decide +kernel
theorem d_MD_raiseAll_73 : decode b_MD_raiseAll 73 = .ok (.iconst 1, 1) := by decide +kernel
theorem d_MD_raiseAll_74 : decode b_MD_raiseAll 74 = .ok (.istore_n 3, 1) := by decide +kernel
theorem d_MD_raiseAll_75 : decode b_MD_raiseAll 75 = .ok (.iload_n 3, 1) := by decide +kernel
theorem d_MD_raiseAll_76 : decode b_MD_raiseAll 76 = .ok (.aload_n 0, 1) := by decide +kernel
theorem d_MD_raiseAll_77 : decode b_MD_raiseAll 77 = .ok (.getfield 7, 3) := by decide +kernel
theorem d_MD_raiseAll_80 : decode b_MD_raiseAll 80 = .ok (.if_icmp .gt 123, 3) := by decide +kernel
theorem d_MD_raiseAll_83 : decode b_MD_raiseAll 83 = .ok (.aload_n 0, 1) := by decide +kernel
theorem d_MD_raiseAll_84 : decode b_MD_raiseAll 84 = .ok (.getfield 29, 3) := by decide +kernel
theorem d_MD_raiseAll_87 : decode b_MD_raiseAll 87 = .ok (.iload_n 3, 1) := by decide +kernel
theorem d_MD_raiseAll_88 : decode b_MD_raiseAll 88 = .ok (.iaload, 1) := by decide +kernel
theorem d_MD_raiseAll_89 : decode b_MD_raiseAll 89 = .ok (.aload_n 0, 1) := by decide +kernel
theorem d_MD_raiseAll_90 : decode b_MD_raiseAll 90 = .ok (.getfield 29, 3) := by decide +kernel
theorem d_MD_raiseAll_93 : decode b_MD_raiseAll 93 = .ok (.iload_n 3, 1) := by decide +kernel
theorem d_MD_raiseAll_94 : decode b_MD_raiseAll 94 = .ok (.iconst 1, 1) := by decide +kernel
theorem d_MD_raiseAll_95 : decode b_MD_raiseAll 95 = .ok (.isub, 1) := by decide +kernel
theorem d_MD_raiseAll_96 : decode b_MD_raiseAll 96 = .ok (.iaload, 1) := by decide +kernel
theorem d_MD_raiseAll_97 : decode b_MD_raiseAll 97 = .ok (.if_icmp .ge 7, 3) := by decide +kernel
theorem d_MD_raiseAll_100 : decode b_MD_raiseAll 100 = .ok (.iload_n 1, 1) := by decide +kernel
theorem d_MD_raiseAll_101 : decode b_MD_raiseAll 101 = .ok (.goto 4, 3) := by decide +kernel
theorem d_MD_raiseAll_104 : decode b_MD_raiseAll 104 = .ok (.iconst 0, 1) := by decide +kernel
theorem d_MD_raiseAll_105 : decode b_MD_raiseAll 105 = .ok (.istore 4, 2) := by decide +kernel
theorem d_MD_raiseAll_107 : decode b_MD_raiseAll 107 = .ok (.aload_n 0, 1) := by decide +kernel
theorem d_MD_raiseAll_108 : decode b_MD_raiseAll 108 = .ok (.iload_n 3, 1) := by decide +kernel
theorem d_MD_raiseAll_109 : decode b_MD_raiseAll 109 = .ok (.aload_n 0, 1) := by decide +kernel
theorem d_MD_raiseAll_110 : decode b_MD_raiseAll 110 = .ok (.getfield 32, 3) := by decide +kernel
theorem d_MD_raiseAll_113 : decode b_MD_raiseAll 113 = .ok (.iload_n 3, 1) := by decide +kernel
theorem d_MD_raiseAll_114 : decode b_MD_raiseAll 114 = .ok (.iconst 1, 1) := by decide +kernel
theorem d_MD_raiseAll_115 : decode b_MD_raiseAll 115 = .ok (.isub, 1) := by decide +kernel
theorem d_MD_raiseAll_116 : decode b_MD_raiseAll 116 = .ok (.iaload, 1) := by decide +kernel
theorem d_MD_raiseAll_117 : decode b_MD_raiseAll 117 = .ok (.aload_n 0, 1) := by decide +kernel
theorem d_MD_raiseAll_118 : decode b_MD_raiseAll 118 = .ok (.getfield 20, 3) := by decide +kernel
theorem d_MD_raiseAll_121 : decode b_MD_raiseAll 121 = .ok (.iload_n 3, 1) := by decide +kernel
theorem d_MD_raiseAll_122 : decode b_MD_raiseAll 122 = .ok (.iconst 1, 1) := by decide +kernel
theorem d_MD_raiseAll_123 : decode b_MD_raiseAll 123 = .ok (.isub, 1) := by decide +kernel
theorem d_MD_raiseAll_124 : decode b_MD_raiseAll 124 = .ok (.iaload, 1) := by decide +kernel
theorem d_MD_raiseAll_125 : decode b_MD_raiseAll 125 = .ok (.iadd, 1) := by decide +kernel
theorem d_MD_raiseAll_126 : decode b_MD_raiseAll 126 = .ok (.aload_n 0, 1) := by decide +kernel
theorem d_MD_raiseAll_127 : decode b_MD_raiseAll 127 = .ok (.getfield 13, 3) := by decide +kernel
theorem d_MD_raiseAll_130 : decode b_MD_raiseAll 130 = .ok (.iload_n 3, 1) := by decide +kernel
theorem d_MD_raiseAll_131 : decode b_MD_raiseAll 131 = .ok (.iaload, 1) := by decide +kernel
theorem d_MD_raiseAll_132 : decode b_MD_raiseAll 132 = .ok (.iadd, 1) := by decide +kernel
theorem d_MD_raiseAll_133 : decode b_MD_raiseAll 133 = .ok (.iload 4, 2) := by decide +kernel
theorem d_MD_raiseAll_135 : decode b_MD_raiseAll 135 = .ok (.isub, 1) := by decide +kernel
theorem d_MD_raiseAll_136 : decode b_MD_raiseAll 136 = .ok (.invokevirtual 77, 3) := by decide +kernel
theorem d_MD_raiseAll_139 : decode b_MD_raiseAll 139 = .ok (.ifCond .ne 7, 3) := by decide +kernel
theorem d_MD_raiseAll_142 : decode b_MD_raiseAll 142 = .ok (.iload_n 2, 1) := by decide +kernel
theorem d_MD_raiseAll_143 : decode b_MD_raiseAll 143 = .ok (.ifCond .eq 7, 3) := by decide +kernel
theorem d_MD_raiseAll_146 : decode b_MD_raiseAll 146 = .ok (.iconst 1, 1) := by decide +kernel
theorem d_MD_raiseAll_147 : decode b_MD_raiseAll 147 = .ok (.goto 4, 3) := by decide +kernel
theorem d_MD_raiseAll_150 : decode b_MD_raiseAll 150 = .ok (.iconst 0, 1) := by decide +kernel
theorem d_MD_raiseAll_151 : decode b_MD_raiseAll 151 = .ok (.istore_n 2, 1) := by decide +kernel
theorem d_MD_raiseAll_152 : decode b_MD_raiseAll 152 = .ok (.aload_n 0, 1) := by decide +kernel
theorem d_MD_raiseAll_153 : decode b_MD_raiseAll 153 = .ok (.iload_n 3, 1) := by decide +kernel
theorem d_MD_raiseAll_154 : decode b_MD_raiseAll 154 = .ok (.iconst 1, 1) := by decide +kernel
theorem d_MD_raiseAll_155 : decode b_MD_raiseAll 155 = .ok (.isub, 1) := by decide +kernel
theorem d_MD_raiseAll_156 : decode b_MD_raiseAll 156 = .ok (.aload_n 0, 1) := by decide +kernel
theorem d_MD_raiseAll_157 : decode b_MD_raiseAll 157 = .ok (.getfield 32, 3) := by decide +kernel
theorem d_MD_raiseAll_160 : decode b_MD_raiseAll 160 = .ok (.iload_n 3, 1) := by decide +kernel
theorem d_MD_raiseAll_161 : decode b_MD_raiseAll 161 = .ok (.iaload, 1) := by decide +kernel
theorem d_MD_raiseAll_162 : decode b_MD_raiseAll 162 = .ok (.iload 4, 2) := by decide +kernel
theorem d_MD_raiseAll_164 : decode b_MD_raiseAll 164 = .ok (.iadd, 1) := by decide +kernel
theorem d_MD_raiseAll_165 : decode b_MD_raiseAll 165 = .ok (.aload_n 0, 1) := by decide +kernel
theorem d_MD_raiseAll_166 : decode b_MD_raiseAll 166 = .ok (.getfield 20, 3) := by decide +kernel
theorem d_MD_raiseAll_169 : decode b_MD_raiseAll 169 = .ok (.iload_n 3, 1) := by decide +kernel
theorem d_MD_raiseAll_170 : decode b_MD_raiseAll 170 = .ok (.iconst 1, 1) := by decide +kernel
theorem d_MD_raiseAll_171 : decode b_MD_raiseAll 171 = .ok (.isub, 1) := by decide +kernel
theorem d_MD_raiseAll_172 : decode b_MD_raiseAll 172 = .ok (.iaload, 1) := by decide +kernel
theorem d_MD_raiseAll_173 : decode b_MD_raiseAll 173 = .ok (.isub, 1) := by decide +kernel
theorem d_MD_raiseAll_174 : decode b_MD_raiseAll 174 = .ok (.aload_n 0, 1) := by decide +kernel
theorem d_MD_raiseAll_175 : decode b_MD_raiseAll 175 = .ok (.getfield 17, 3) := by decide +kernel
theorem d_MD_raiseAll_178 : decode b_MD_raiseAll 178 = .ok (.iload_n 3, 1) := by decide +kernel
theorem d_MD_raiseAll_179 : decode b_MD_raiseAll 179 = .ok (.iaload, 1) := by decide +kernel
theorem d_MD_raiseAll_180 : decode b_MD_raiseAll 180 = .ok (.isub, 1) := by decide +kernel
theorem d_MD_raiseAll_181 : decode b_MD_raiseAll 181 = .ok (.invokevirtual 77, 3) := by decide +kernel
theorem d_MD_raiseAll_184 : decode b_MD_raiseAll 184 = .ok (.ifCond .ne 7, 3) := by decide +kernel
theorem d_MD_raiseAll_187 : decode b_MD_raiseAll 187 = .ok (.iload_n 2, 1) := by decide +kernel
theorem d_MD_raiseAll_188 : decode b_MD_raiseAll 188 = .ok (.ifCond .eq 7, 3) := by decide +kernel
theorem d_MD_raiseAll_191 : decode b_MD_raiseAll 191 = .ok (.iconst 1, 1) := by decide +kernel
theorem d_MD_raiseAll_192 : decode b_MD_raiseAll 192 = .ok (.goto 4, 3) := by decide +kernel
theorem d_MD_raiseAll_195 : decode b_MD_raiseAll 195 = .ok (.iconst 0, 1) := by decide +kernel
theorem d_MD_raiseAll_196 : decode b_MD_raiseAll 196 = .ok (.istore_n 2, 1) := by decide +kernel
theorem d_MD_raiseAll_197 : decode b_MD_raiseAll 197 = .ok (.iinc 3 1, 3) := by decide +kernel
theorem d_MD_raiseAll_200 : decode b_MD_raiseAll 200 = .ok (.goto (-125), 3) := by decide +kernel
theorem d_MD_raiseAll_203 : decode b_MD_raiseAll 203 = .ok (.iload_n 2, 1) := by decide +kernel
theorem d_MD_raiseAll_204 : decode b_MD_raiseAll 204 = .ok (.ireturn, 1) := by decide +kernel
theorem d_MD_fits_0 : decode b_MD_fits 0 = .ok (.iconst 0, 1) := by decide +kernel
theorem d_MD_fits_1 : decode b_MD_fits 1 = .ok (.istore_n 2, 1) := by decide +kernel
theorem d_MD_fits_2 : decode b_MD_fits 2 = .ok (.iload_n 2, 1) := by decide +kernel
theorem d_MD_fits_3 : decode b_MD_fits 3 = .ok (.aload_n 0, 1) := by decide +kernel
theorem d_MD_fits_4 : decode b_MD_fits 4 = .ok (.getfield 7, 3) := by decide +kernel
theorem d_MD_fits_7 : decode b_MD_fits 7 = .ok (.if_icmp .gt 16, 3) := by decide +kernel
theorem d_MD_fits_10 : decode b_MD_fits 10 = .ok (.aload_n 0, 1) := by decide +kernel
theorem d_MD_fits_11 : decode b_MD_fits 11 = .ok (.getfield 32, 3) := by decide +kernel
theorem d_MD_fits_14 : decode b_MD_fits 14 = .ok (.iload_n 2, 1) := by decide +kernel
theorem d_MD_fits_15 : decode b_MD_fits 15 = .ok (.iconst 0, 1) := by decide +kernel
theorem d_MD_fits_16 : decode b_MD_fits 16 = .ok (.iastore, 1) := by decide +kernel
theorem d_MD_fits_17 : decode b_MD_fits 17 = .ok (.iinc 2 1, 3) := by decide +kernel
theorem d_MD_fits_20 : decode b_MD_fits 20 = .ok (.goto (-18), 3) := by decide +kernel
theorem d_MD_fits_23 : decode b_MD_fits 23 = .ok (.iconst 0, 1) := by decide +kernel
theorem d_MD_fits_24 : decode b_MD_fits 24 = .ok (.istore_n 2, 1) := by decide +kernel
theorem d_MD_fits_25 : decode b_MD_fits 25 = .ok (.iload_n 2, 1) := by decide +kernel
theorem d_MD_fits_26 : decode b_MD_fits 26 = .ok (.bipush 9, 2) := by decide +kernel
theorem d_MD_fits_28 : decode b_MD_fits 28 = .ok (.if_icmp .ge 17, 3) := by decide +kernel
theorem d_MD_fits_31 : decode b_MD_fits 31 = .ok (.aload_n 0, 1) := by decide +kernel
theorem d_MD_fits_32 : decode b_MD_fits 32 = .ok (.iload_n 1, 1) := by decide +kernel
theorem d_MD_fits_33 : decode b_MD_fits 33 = .ok (.invokevirtual 81, 3) := by decide +kernel
theorem d_MD_fits_36 : decode b_MD_fits 36 = .ok (.ifCond .eq 9, 3) := by decide +kernel
theorem d_MD_fits_39 : decode b_MD_fits 39 = .ok (.iinc 2 1, 3) := by decide +kernel
theorem d_MD_fits_42 : decode b_MD_fits 42 = .ok (.goto (-17), 3) := by decide +kernel
theorem d_MD_fits_45 : decode b_MD_fits 45 = .ok (.iload_n 2, 1) := by decide +kernel
theorem d_MD_fits_46 : decode b_MD_fits 46 = .ok (.bipush 9, 2) := by decide +kernel
theorem d_MD_fits_48 : decode b_MD_fits 48 = .ok (.if_icmp .ge 49, 3) := by decide +kernel
theorem d_MD_fits_51 : decode b_MD_fits 51 = .ok (.aload_n 0, 1) := by decide +kernel
theorem d_MD_fits_52 : decode b_MD_fits 52 = .ok (.getfield 32, 3) := by decide +kernel
theorem d_MD_fits_55 : decode b_MD_fits 55 = .ok (.iconst 0, 1) := by decide +kernel
theorem d_MD_fits_56 : decode b_MD_fits 56 = .ok (.iaload, 1) := by decide +kernel
theorem d_MD_fits_57 : decode b_MD_fits 57 = .ok (.ifCond .ne 40, 3) := by decide +kernel
theorem d_MD_fits_60 : decode b_MD_fits 60 = .ok (.aload_n 0, 1) := by decide +kernel
theorem d_MD_fits_61 : decode b_MD_fits 61 = .ok (.getfield 32, 3) := by decide +kernel
theorem d_MD_fits_64 : decode b_MD_fits 64 = .ok (.aload_n 0, 1) := by decide +kernel
theorem d_MD_fits_65 : decode b_MD_fits 65 = .ok (.getfield 26, 3) := by decide +kernel
theorem d_MD_fits_68 : decode b_MD_fits 68 = .ok (.aload_n 0, 1) := by decide +kernel
theorem d_MD_fits_69 : decode b_MD_fits 69 = .ok (.getfield 7, 3) := by decide +kernel
theorem d_MD_fits_72 : decode b_MD_fits 72 = .ok (.iaload, 1) := by decide +kernel
theorem d_MD_fits_73 : decode b_MD_fits 73 = .ok (.iaload, 1) := by decide +kernel
theorem d_MD_fits_74 : decode b_MD_fits 74 = .ok (.aload_n 0, 1) := by decide +kernel
theorem d_MD_fits_75 : decode b_MD_fits 75 = .ok (.aload_n 0, 1) := by decide +kernel
theorem d_MD_fits_76 : decode b_MD_fits 76 = .ok (.getfield 26, 3) := by decide +kernel
theorem d_MD_fits_79 : decode b_MD_fits 79 = .ok (.aload_n 0, 1) := by decide +kernel
theorem d_MD_fits_80 : decode b_MD_fits 80 = .ok (.getfield 7, 3) := by decide +kernel
theorem d_MD_fits_83 : decode b_MD_fits 83 = .ok (.iaload, 1) := by decide +kernel
theorem d_MD_fits_84 : decode b_MD_fits 84 = .ok (.iconst 0, 1) := by decide +kernel
theorem d_MD_fits_85 : decode b_MD_fits 85 = .ok (.invokevirtual 73, 3) := by decide +kernel
theorem d_MD_fits_88 : decode b_MD_fits 88 = .ok (.iadd, 1) := by decide +kernel
theorem d_MD_fits_89 : decode b_MD_fits 89 = .ok (.iload_n 1, 1) := by decide +kernel
theorem d_MD_fits_90 : decode b_MD_fits 90 = .ok (.if_icmp .gt 7, 3) := by decide +kernel
theorem d_MD_fits_93 : decode b_MD_fits 93 = .ok (.iconst 1, 1) := by decide +kernel
theorem d_MD_fits_94 : decode b_MD_fits 94 = .ok (.goto 4, 3) := by decide +kernel
theorem d_MD_fits_97 : decode b_MD_fits 97 = .ok (.iconst 0, 1) := by decide +kernel
theorem d_MD_fits_98 : decode b_MD_fits 98 = .ok (.istore_n 3, 1) := by decide +kernel
theorem d_MD_fits_99 : decode b_MD_fits 99 = .ok (.iconst 0, 1) := by decide +kernel
theorem d_MD_fits_100 : decode b_MD_fits 100 = .ok (.istore 4, 2) := by decide +kernel
theorem d_MD_fits_102 : decode b_MD_fits 102 = .ok (.iload 4, 2) := by decide +kernel
theorem d_MD_fits_104 : decode b_MD_fits 104 = .ok (.aload_n 0, 1) := by decide +kernel
theorem d_MD_fits_105 : decode b_MD_fits 105 = .ok (.getfield 7, 3) := by decide +kernel
theorem d_MD_fits_108 : decode b_MD_fits 108 = .ok (.if_icmp .gt 30, 3) := by decide +kernel
theorem d_MD_fits_111 : decode b_MD_fits 111 = .ok (.iload_n 3, 1) := by decide +kernel
theorem d_MD_fits_112 : decode b_MD_fits 112 = .ok (.ifCond .eq 18, 3) := by decide +kernel
theorem d_MD_fits_115 : decode b_MD_fits 115 = .ok (.aload_n 0, 1) := by decide +kernel
theorem d_MD_fits_116 : decode b_MD_fits 116 = .ok (.getfield 32, 3) := by decide +kernel
theorem d_MD_fits_119 : decode b_MD_fits 119 = .ok (.iload 4, 2) := by decide +kernel
theorem d_MD_fits_121 : decode b_MD_fits 121 = .ok (.iaload, 1) := by decide +kernel
theorem d_MD_fits_122 : decode b_MD_fits 122 = .ok (.iload_n 1, 1) := by decide +kernel
theorem d_MD_fits_123 : decode b_MD_fits 123 = .ok (.if_icmp .ge 7, 3) := by decide +kernel
theorem d_MD_fits_126 : decode b_MD_fits 126 = .ok (.iconst 1, 1) := by decide +kernel
theorem d_MD_fits_127 : decode b_MD_fits 127 = .ok (.goto 4, 3) := by decide +kernel
theorem d_MD_fits_130 : decode b_MD_fits 130 = .ok (.iconst 0, 1) := by decide +kernel
theorem d_MD_fits_131 : decode b_MD_fits 131 = .ok (.istore_n 3, 1) := by decide +kernel
theorem d_MD_fits_132 : decode b_MD_fits 132 = .ok (.iinc 4 1, 3) := by decide +kernel
theorem d_MD_fits_135 : decode b_MD_fits 135 = .ok (.goto (-33), 3) := by decide +kernel
theorem d_MD_fits_138 : decode b_MD_fits 138 = .ok (.iload_n 3, 1) := by decide +kernel
theorem d_MD_fits_139 : decode b_MD_fits 139 = .ok (.ireturn, 1) := by decide +kernel
theorem d_MD_seat_0 : decode b_MD_seat 0 = .ok (.iconst 0, 1) := by decide +kernel
theorem d_MD_seat_1 : decode b_MD_seat 1 = .ok (.istore_n 1, 1) := by decide +kernel
theorem d_MD_seat_2 : decode b_MD_seat 2 = .ok (.iload_n 1, 1) := by decide +kernel
theorem d_MD_seat_3 : decode b_MD_seat 3 = .ok (.aload_n 0, 1) := by decide +kernel
theorem d_MD_seat_4 : decode b_MD_seat 4 = .ok (.getfield 7, 3) := by decide +kernel
theorem d_MD_seat_7 : decode b_MD_seat 7 = .ok (.if_icmp .gt 21, 3) := by decide +kernel
theorem d_MD_seat_10 : decode b_MD_seat 10 = .ok (.aload_n 0, 1) := by decide +kernel
theorem d_MD_seat_11 : decode b_MD_seat 11 = .ok (.getfield 29, 3) := by decide +kernel
theorem d_MD_seat_14 : decode b_MD_seat 14 = .ok (.aload_n 0, 1) := by decide +kernel
theorem d_MD_seat_15 : decode b_MD_seat 15 = .ok (.getfield 26, 3) := by decide +kernel
theorem d_MD_seat_18 : decode b_MD_seat 18 = .ok (.iload_n 1, 1) := by decide +kernel
theorem d_MD_seat_19 : decode b_MD_seat 19 = .ok (.iaload, 1) := by decide +kernel
theorem d_MD_seat_20 : decode b_MD_seat 20 = .ok (.iload_n 1, 1) := by decide +kernel
theorem d_MD_seat_21 : decode b_MD_seat 21 = .ok (.iastore, 1) := by decide +kernel
theorem d_MD_seat_22 : decode b_MD_seat 22 = .ok (.iinc 1 1, 3) := by decide +kernel
theorem d_MD_seat_25 : decode b_MD_seat 25 = .ok (.goto (-23), 3) := by decide +kernel
theorem d_MD_seat_28 : decode b_MD_seat 28 = .ok (.return_, 1) := by decide +kernel
theorem d_MD_leastOf_0 : decode b_MD_leastOf 0 = .ok (.aload_n 0, 1) := by decide +kernel
theorem d_MD_leastOf_1 : decode b_MD_leastOf 1 = .ok (.invokevirtual 85, 3) := by decide +kernel
theorem d_MD_leastOf_4 : decode b_MD_leastOf 4 = .ok (.iconst 0, 1) := by decide +kernel
theorem d_MD_leastOf_5 : decode b_MD_leastOf 5 = .ok (.istore_n 2, 1) := by decide +kernel
theorem d_MD_leastOf_6 : decode b_MD_leastOf 6 = .ok (.iconst 0, 1) := by decide +kernel
theorem d_MD_leastOf_7 : decode b_MD_leastOf 7 = .ok (.istore_n 3, 1) := by decide +kernel
theorem d_MD_leastOf_8 : decode b_MD_leastOf 8 = .ok (.iload_n 3, 1) := by decide +kernel
theorem d_MD_leastOf_9 : decode b_MD_leastOf 9 = .ok (.aload_n 0, 1) := by decide +kernel
theorem d_MD_leastOf_10 : decode b_MD_leastOf 10 = .ok (.getfield 7, 3) := by decide +kernel
theorem d_MD_leastOf_13 : decode b_MD_leastOf 13 = .ok (.if_icmp .gt 42, 3) := by decide +kernel
theorem d_MD_leastOf_16 : decode b_MD_leastOf 16 = .ok (.iload_n 2, 1) := by decide +kernel
theorem d_MD_leastOf_17 : decode b_MD_leastOf 17 = .ok (.aload_n 0, 1) := by decide +kernel
theorem d_MD_leastOf_18 : decode b_MD_leastOf 18 = .ok (.aload_n 0, 1) := by decide +kernel
theorem d_MD_leastOf_19 : decode b_MD_leastOf 19 = .ok (.getfield 26, 3) := by decide +kernel
theorem d_MD_leastOf_22 : decode b_MD_leastOf 22 = .ok (.iload_n 3, 1) := by decide +kernel
theorem d_MD_leastOf_23 : decode b_MD_leastOf 23 = .ok (.iaload, 1) := by decide +kernel
theorem d_MD_leastOf_24 : decode b_MD_leastOf 24 = .ok (.iload_n 3, 1) := by decide +kernel
theorem d_MD_leastOf_25 : decode b_MD_leastOf 25 = .ok (.aload_n 0, 1) := by decide +kernel
theorem d_MD_leastOf_26 : decode b_MD_leastOf 26 = .ok (.getfield 7, 3) := by decide +kernel
theorem d_MD_leastOf_29 : decode b_MD_leastOf 29 = .ok (.if_icmp .ne 7, 3) := by decide +kernel
theorem d_MD_leastOf_32 : decode b_MD_leastOf 32 = .ok (.iconst 0, 1) := by decide +kernel
theorem d_MD_leastOf_33 : decode b_MD_leastOf 33 = .ok (.goto 11, 3) := by decide +kernel
theorem d_MD_leastOf_36 : decode b_MD_leastOf 36 = .ok (.aload_n 0, 1) := by decide +kernel
theorem d_MD_leastOf_37 : decode b_MD_leastOf 37 = .ok (.getfield 26, 3) := by decide +kernel
theorem d_MD_leastOf_40 : decode b_MD_leastOf 40 = .ok (.iload_n 3, 1) := by decide +kernel
theorem d_MD_leastOf_41 : decode b_MD_leastOf 41 = .ok (.iconst 1, 1) := by decide +kernel
theorem d_MD_leastOf_42 : decode b_MD_leastOf 42 = .ok (.iadd, 1) := by decide +kernel
theorem d_MD_leastOf_43 : decode b_MD_leastOf 43 = .ok (.iaload, 1) := by decide +kernel
theorem d_MD_leastOf_44 : decode b_MD_leastOf 44 = .ok (.invokevirtual 73, 3) := by decide +kernel
theorem d_MD_leastOf_47 : decode b_MD_leastOf 47 = .ok (.iadd, 1) := by decide +kernel
theorem d_MD_leastOf_48 : decode b_MD_leastOf 48 = .ok (.istore_n 2, 1) := by decide +kernel
theorem d_MD_leastOf_49 : decode b_MD_leastOf 49 = .ok (.iinc 3 1, 3) := by decide +kernel
theorem d_MD_leastOf_52 : decode b_MD_leastOf 52 = .ok (.goto (-44), 3) := by decide +kernel
theorem d_MD_leastOf_55 : decode b_MD_leastOf 55 = .ok (.iload_n 2, 1) := by decide +kernel
theorem d_MD_leastOf_56 : decode b_MD_leastOf 56 = .ok (.iconst 1, 1) := by decide +kernel
theorem d_MD_leastOf_57 : decode b_MD_leastOf 57 = .ok (.if_icmp .ge 7, 3) := by decide +kernel
theorem d_MD_leastOf_60 : decode b_MD_leastOf 60 = .ok (.iconst 1, 1) := by decide +kernel
theorem d_MD_leastOf_61 : decode b_MD_leastOf 61 = .ok (.goto 4, 3) := by decide +kernel
theorem d_MD_leastOf_64 : decode b_MD_leastOf 64 = .ok (.iload_n 2, 1) := by decide +kernel
theorem d_MD_leastOf_65 : decode b_MD_leastOf 65 = .ok (.istore_n 3, 1) := by decide +kernel
theorem d_MD_leastOf_66 : decode b_MD_leastOf 66 = .ok (.iload_n 3, 1) := by decide +kernel
theorem d_MD_leastOf_67 : decode b_MD_leastOf 67 = .ok (.iload_n 1, 1) := by decide +kernel
theorem d_MD_leastOf_68 : decode b_MD_leastOf 68 = .ok (.if_icmp .gt 19, 3) := by decide +kernel
theorem d_MD_leastOf_71 : decode b_MD_leastOf 71 = .ok (.aload_n 0, 1) := by decide +kernel
theorem d_MD_leastOf_72 : decode b_MD_leastOf 72 = .ok (.iload_n 3, 1) := by decide +kernel
theorem d_MD_leastOf_73 : decode b_MD_leastOf 73 = .ok (.invokevirtual 88, 3) := by decide +kernel
theorem d_MD_leastOf_76 : decode b_MD_leastOf 76 = .ok (.ifCond .eq 5, 3) := by decide +kernel
theorem d_MD_leastOf_79 : decode b_MD_leastOf 79 = .ok (.iload_n 3, 1) := by decide +kernel
theorem d_MD_leastOf_80 : decode b_MD_leastOf 80 = .ok (.ireturn, 1) := by decide +kernel
theorem d_MD_leastOf_81 : decode b_MD_leastOf 81 = .ok (.iinc 3 1, 3) := by decide +kernel
theorem d_MD_leastOf_84 : decode b_MD_leastOf 84 = .ok (.goto (-18), 3) := by decide +kernel
theorem d_MD_leastOf_87 : decode b_MD_leastOf 87 = .ok (.iconst (-1), 1) := by decide +kernel
theorem d_MD_leastOf_88 : decode b_MD_leastOf 88 = .ok (.ireturn, 1) := by decide +kernel
theorem d_MD_isOrder_0 : decode b_MD_isOrder 0 = .ok (.aload_n 0, 1) := by decide +kernel
theorem d_MD_isOrder_1 : decode b_MD_isOrder 1 = .ok (.getfield 26, 3) := by decide +kernel
theorem d_MD_isOrder_4 : decode b_MD_isOrder 4 = .ok (.iconst 0, 1) := by decide +kernel
theorem d_MD_isOrder_5 : decode b_MD_isOrder 5 = .ok (.iaload, 1) := by decide +kernel
theorem d_MD_isOrder_6 : decode b_MD_isOrder 6 = .ok (.ifCond .ne 7, 3) := by decide +kernel
theorem d_MD_isOrder_9 : decode b_MD_isOrder 9 = .ok (.iconst 1, 1) := by decide +kernel
theorem d_MD_isOrder_10 : decode b_MD_isOrder 10 = .ok (.goto 4, 3) := by decide +kernel
theorem d_MD_isOrder_13 : decode b_MD_isOrder 13 = .ok (.iconst 0, 1) := by decide +kernel
theorem d_MD_isOrder_14 : decode b_MD_isOrder 14 = .ok (.istore_n 1, 1) := by decide +kernel
theorem d_MD_isOrder_15 : decode b_MD_isOrder 15 = .ok (.iconst 1, 1) := by decide +kernel
theorem d_MD_isOrder_16 : decode b_MD_isOrder 16 = .ok (.istore_n 2, 1) := by decide +kernel
theorem d_MD_isOrder_17 : decode b_MD_isOrder 17 = .ok (.iload_n 2, 1) := by decide +kernel
theorem d_MD_isOrder_18 : decode b_MD_isOrder 18 = .ok (.aload_n 0, 1) := by decide +kernel
theorem d_MD_isOrder_19 : decode b_MD_isOrder 19 = .ok (.getfield 7, 3) := by decide +kernel
theorem d_MD_isOrder_22 : decode b_MD_isOrder 22 = .ok (.if_icmp .gt 74, 3) := by decide +kernel
theorem d_MD_isOrder_25 : decode b_MD_isOrder 25 = .ok (.iload_n 1, 1) := by decide +kernel
theorem d_MD_isOrder_26 : decode b_MD_isOrder 26 = .ok (.ifCond .eq 24, 3) := by decide +kernel
theorem d_MD_isOrder_29 : decode b_MD_isOrder 29 = .ok (.aload_n 0, 1) := by decide +kernel
theorem d_MD_isOrder_30 : decode b_MD_isOrder 30 = .ok (.getfield 26, 3) := by decide +kernel
theorem d_MD_isOrder_33 : decode b_MD_isOrder 33 = .ok (.iload_n 2, 1) := by decide +kernel
theorem d_MD_isOrder_34 : decode b_MD_isOrder 34 = .ok (.iaload, 1) := by decide +kernel
theorem d_MD_isOrder_35 : decode b_MD_isOrder 35 = .ok (.iconst 1, 1) := by decide +kernel
theorem d_MD_isOrder_36 : decode b_MD_isOrder 36 = .ok (.aload_n 0, 1) := by decide +kernel
theorem d_MD_isOrder_37 : decode b_MD_isOrder 37 = .ok (.getfield 7, 3) := by decide +kernel
theorem d_MD_isOrder_40 : decode b_MD_isOrder 40 = .ok (.invokestatic 61, 3) := by decide +kernel
theorem d_MD_isOrder_43 : decode b_MD_isOrder 43 = .ok (.ifCond .eq 7, 3) := by decide +kernel
theorem d_MD_isOrder_46 : decode b_MD_isOrder 46 = .ok (.iconst 1, 1) := by decide +kernel
theorem d_MD_isOrder_47 : decode b_MD_isOrder 47 = .ok (.goto 4, 3) := by decide +kernel
theorem d_MD_isOrder_50 : decode b_MD_isOrder 50 = .ok (.iconst 0, 1) := by decide +kernel
theorem d_MD_isOrder_51 : decode b_MD_isOrder 51 = .ok (.istore_n 1, 1) := by decide +kernel
theorem d_MD_isOrder_52 : decode b_MD_isOrder 52 = .ok (.iconst 1, 1) := by decide +kernel
theorem d_MD_isOrder_53 : decode b_MD_isOrder 53 = .ok (.istore_n 3, 1) := by decide +kernel
theorem d_MD_isOrder_54 : decode b_MD_isOrder 54 = .ok (.iload_n 3, 1) := by decide +kernel
theorem d_MD_isOrder_55 : decode b_MD_isOrder 55 = .ok (.iload_n 2, 1) := by decide +kernel
theorem d_MD_isOrder_56 : decode b_MD_isOrder 56 = .ok (.if_icmp .ge 34, 3) := by decide +kernel
theorem d_MD_isOrder_59 : decode b_MD_isOrder 59 = .ok (.iload_n 1, 1) := by decide +kernel
theorem d_MD_isOrder_60 : decode b_MD_isOrder 60 = .ok (.ifCond .eq 22, 3) := by decide +kernel
theorem d_MD_isOrder_63 : decode b_MD_isOrder 63 = .ok (.aload_n 0, 1) := by decide +kernel
theorem d_MD_isOrder_64 : decode b_MD_isOrder 64 = .ok (.getfield 26, 3) := by decide +kernel
theorem d_MD_isOrder_67 : decode b_MD_isOrder 67 = .ok (.iload_n 3, 1) := by decide +kernel
theorem d_MD_isOrder_68 : decode b_MD_isOrder 68 = .ok (.iaload, 1) := by decide +kernel
theorem d_MD_isOrder_69 : decode b_MD_isOrder 69 = .ok (.aload_n 0, 1) := by decide +kernel
theorem d_MD_isOrder_70 : decode b_MD_isOrder 70 = .ok (.getfield 26, 3) := by decide +kernel
theorem d_MD_isOrder_73 : decode b_MD_isOrder 73 = .ok (.iload_n 2, 1) := by decide +kernel
theorem d_MD_isOrder_74 : decode b_MD_isOrder 74 = .ok (.iaload, 1) := by decide +kernel
theorem d_MD_isOrder_75 : decode b_MD_isOrder 75 = .ok (.if_icmp .eq 7, 3) := by decide +kernel
theorem d_MD_isOrder_78 : decode b_MD_isOrder 78 = .ok (.iconst 1, 1) := by decide +kernel
theorem d_MD_isOrder_79 : decode b_MD_isOrder 79 = .ok (.goto 4, 3) := by decide +kernel
theorem d_MD_isOrder_82 : decode b_MD_isOrder 82 = .ok (.iconst 0, 1) := by decide +kernel
theorem d_MD_isOrder_83 : decode b_MD_isOrder 83 = .ok (.istore_n 1, 1) := by decide +kernel
theorem d_MD_isOrder_84 : decode b_MD_isOrder 84 = .ok (.iinc 3 1, 3) := by decide +kernel
theorem d_MD_isOrder_87 : decode b_MD_isOrder 87 = .ok (.goto (-33), 3) := by decide +kernel
theorem d_MD_isOrder_90 : decode b_MD_isOrder 90 = .ok (.iinc 2 1, 3) := by decide +kernel
theorem d_MD_isOrder_93 : decode b_MD_isOrder 93 = .ok (.goto (-76), 3) := by decide +kernel
theorem d_MD_isOrder_96 : decode b_MD_isOrder 96 = .ok (.iload_n 1, 1) := by decide +kernel
theorem d_MD_isOrder_97 : decode b_MD_isOrder 97 = .ok (.ireturn, 1) := by decide +kernel
theorem d_MD_takeOrder_0 : decode b_MD_takeOrder 0 = .ok (.iload_n 1, 1) := by decide +kernel
theorem d_MD_takeOrder_1 : decode b_MD_takeOrder 1 = .ok (.istore_n 2, 1) := by decide +kernel
theorem d_MD_takeOrder_2 : decode b_MD_takeOrder 2 = .ok (.aload_n 0, 1) := by decide +kernel
theorem d_MD_takeOrder_3 : decode b_MD_takeOrder 3 = .ok (.getfield 26, 3) := by decide +kernel
theorem d_MD_takeOrder_6 : decode b_MD_takeOrder 6 = .ok (.iconst 0, 1) := by decide +kernel
theorem d_MD_takeOrder_7 : decode b_MD_takeOrder 7 = .ok (.iconst 0, 1) := by decide +kernel
theorem d_MD_takeOrder_8 : decode b_MD_takeOrder 8 = .ok (.iastore, 1) := by decide +kernel
theorem d_MD_takeOrder_9 : decode b_MD_takeOrder 9 = .ok (.aload_n 0, 1) := by decide +kernel
theorem d_MD_takeOrder_10 : decode b_MD_takeOrder 10 = .ok (.getfield 7, 3) := by decide +kernel
theorem d_MD_takeOrder_13 : decode b_MD_takeOrder 13 = .ok (.istore_n 3, 1) := by decide +kernel
theorem d_MD_takeOrder_14 : decode b_MD_takeOrder 14 = .ok (.iload_n 3, 1) := by decide +kernel
theorem d_MD_takeOrder_15 : decode b_MD_takeOrder 15 = .ok (.ifCond .le 24, 3) := by decide +kernel
theorem d_MD_takeOrder_18 : decode b_MD_takeOrder 18 = .ok (.aload_n 0, 1) := by decide +kernel
theorem d_MD_takeOrder_19 : decode b_MD_takeOrder 19 = .ok (.getfield 26, 3) := by decide +kernel
theorem d_MD_takeOrder_22 : decode b_MD_takeOrder 22 = .ok (.iload_n 3, 1) := by decide +kernel
theorem d_MD_takeOrder_23 : decode b_MD_takeOrder 23 = .ok (.iload_n 2, 1) := by decide +kernel
theorem d_MD_takeOrder_24 : decode b_MD_takeOrder 24 = .ok (.bipush 10, 2) := by decide +kernel
theorem d_MD_takeOrder_26 : decode b_MD_takeOrder 26 = .ok (.irem, 1) := by decide +kernel
theorem d_MD_takeOrder_27 : decode b_MD_takeOrder 27 = .ok (.iastore, 1) := by decide +kernel
theorem d_MD_takeOrder_28 : decode b_MD_takeOrder 28 = .ok (.iload_n 2, 1) := by decide +kernel
theorem d_MD_takeOrder_29 : decode b_MD_takeOrder 29 = .ok (.bipush 10, 2) := by decide +kernel
theorem d_MD_takeOrder_31 : decode b_MD_takeOrder 31 = .ok (.idiv, 1) := by decide +kernel
theorem d_MD_takeOrder_32 : decode b_MD_takeOrder 32 = .ok (.istore_n 2, 1) := by decide +kernel
theorem d_MD_takeOrder_33 : decode b_MD_takeOrder 33 = .ok (.iinc 3 (-1), 3) := by decide +kernel
theorem d_MD_takeOrder_36 : decode b_MD_takeOrder 36 = .ok (.goto (-22), 3) := by decide +kernel
theorem d_MD_takeOrder_39 : decode b_MD_takeOrder 39 = .ok (.iload_n 1, 1) := by decide +kernel
theorem d_MD_takeOrder_40 : decode b_MD_takeOrder 40 = .ok (.ifCond .le 18, 3) := by decide +kernel
theorem d_MD_takeOrder_43 : decode b_MD_takeOrder 43 = .ok (.iload_n 2, 1) := by decide +kernel
theorem d_MD_takeOrder_44 : decode b_MD_takeOrder 44 = .ok (.ifCond .ne 14, 3) := by decide +kernel
theorem d_MD_takeOrder_47 : decode b_MD_takeOrder 47 = .ok (.aload_n 0, 1) := by decide +kernel
theorem d_MD_takeOrder_48 : decode b_MD_takeOrder 48 = .ok (.invokevirtual 91, 3) := by decide +kernel
theorem d_MD_takeOrder_51 : decode b_MD_takeOrder 51 = .ok (.ifCond .eq 7, 3) := by decide +kernel
theorem d_MD_takeOrder_54 : decode b_MD_takeOrder 54 = .ok (.iconst 1, 1) := by decide +kernel
theorem d_MD_takeOrder_55 : decode b_MD_takeOrder 55 = .ok (.goto 4, 3) := by decide +kernel
theorem d_MD_takeOrder_58 : decode b_MD_takeOrder 58 = .ok (.iconst 0, 1) := by decide +kernel
theorem d_MD_takeOrder_59 : decode b_MD_takeOrder 59 = .ok (.ireturn, 1) := by decide +kernel
theorem d_MD_least_0 : decode b_MD_least 0 = .ok (.aload_n 0, 1) := by decide +kernel
theorem d_MD_least_1 : decode b_MD_least 1 = .ok (.invokevirtual 69, 3) := by decide +kernel
theorem d_MD_least_4 : decode b_MD_least 4 = .ok (.ifCond .ne 7, 3) := by decide +kernel
theorem d_MD_least_7 : decode b_MD_least 7 = .ok (.iconst 1, 1) := by decide +kernel
theorem d_MD_least_8 : decode b_MD_least 8 = .ok (.goto 4, 3) := by decide +kernel
theorem d_MD_least_11 : decode b_MD_least 11 = .ok (.iconst 0, 1) := by decide +kernel
theorem d_MD_least_12 : decode b_MD_least 12 = .ok (.istore_n 2, 1) := by decide +kernel
theorem d_MD_least_13 : decode b_MD_least 13 = .ok (.aload_n 0, 1) := by decide +kernel
theorem d_MD_least_14 : decode b_MD_least 14 = .ok (.iload_n 2, 1) := by decide +kernel
theorem d_MD_least_15 : decode b_MD_least 15 = .ok (.ifCond .ne 7, 3) := by decide +kernel
theorem d_MD_least_18 : decode b_MD_least 18 = .ok (.iconst 1, 1) := by decide +kernel
theorem d_MD_least_19 : decode b_MD_least 19 = .ok (.goto 4, 3) := by decide +kernel
theorem d_MD_least_22 : decode b_MD_least 22 = .ok (.iconst 0, 1) := by decide +kernel
theorem d_MD_least_23 : decode b_MD_least 23 = .ok (.iload_n 2, 1) := by decide +kernel
theorem d_MD_least_24 : decode b_MD_least 24 = .ok (.ifCond .eq 15, 3) := by decide +kernel
theorem d_MD_least_27 : decode b_MD_least 27 = .ok (.aload_n 0, 1) := by decide +kernel
theorem d_MD_least_28 : decode b_MD_least 28 = .ok (.iload_n 1, 1) := by decide +kernel
theorem d_MD_least_29 : decode b_MD_least 29 = .ok (.invokevirtual 95, 3) := by decide +kernel
theorem d_MD_least_32 : decode b_MD_least 32 = .ok (.ifCond .ne 7, 3) := by decide +kernel
theorem d_MD_least_35 : decode b_MD_least 35 = .ok (.iconst 1, 1) := by decide +kernel
theorem d_MD_least_36 : decode b_MD_least 36 = .ok (.goto 4, 3) := by decide +kernel
theorem d_MD_least_39 : decode b_MD_least 39 = .ok (.iconst 0, 1) := by decide +kernel
theorem d_MD_least_40 : decode b_MD_least 40 = .ok (.invokevirtual 65, 3) := by decide +kernel
theorem d_MD_least_43 : decode b_MD_least 43 = .ok (.ifCond .eq 5, 3) := by decide +kernel
theorem d_MD_least_46 : decode b_MD_least 46 = .ok (.iconst 0, 1) := by decide +kernel
theorem d_MD_least_47 : decode b_MD_least 47 = .ok (.ireturn, 1) := by decide +kernel
theorem d_MD_least_48 : decode b_MD_least 48 = .ok (.aload_n 0, 1) := by decide +kernel
theorem d_MD_least_49 : decode b_MD_least 49 = .ok (.sipush 2000, 3) := by decide +kernel
theorem d_MD_least_52 : decode b_MD_least 52 = .ok (.invokevirtual 98, 3) := by decide +kernel
theorem d_MD_least_55 : decode b_MD_least 55 = .ok (.ireturn, 1) := by decide +kernel
theorem d_MD_keep_0 : decode b_MD_keep 0 = .ok (.aload_n 0, 1) := by decide +kernel
theorem d_MD_keep_1 : decode b_MD_keep 1 = .ok (.iload_n 1, 1) := by decide +kernel
theorem d_MD_keep_2 : decode b_MD_keep 2 = .ok (.putfield 102, 3) := by decide +kernel
theorem d_MD_keep_5 : decode b_MD_keep 5 = .ok (.aload_n 0, 1) := by decide +kernel
theorem d_MD_keep_6 : decode b_MD_keep 6 = .ok (.iconst 1, 1) := by decide +kernel
theorem d_MD_keep_7 : decode b_MD_keep 7 = .ok (.putfield 57, 3) := by decide +kernel
theorem d_MD_keep_10 : decode b_MD_keep 10 = .ok (.iconst 0, 1) := by decide +kernel
theorem d_MD_keep_11 : decode b_MD_keep 11 = .ok (.istore_n 2, 1) := by decide +kernel
theorem d_MD_keep_12 : decode b_MD_keep 12 = .ok (.iload_n 2, 1) := by decide +kernel
theorem d_MD_keep_13 : decode b_MD_keep 13 = .ok (.aload_n 0, 1) := by decide +kernel
theorem d_MD_keep_14 : decode b_MD_keep 14 = .ok (.getfield 7, 3) := by decide +kernel
theorem d_MD_keep_17 : decode b_MD_keep 17 = .ok (.if_icmp .gt 33, 3) := by decide +kernel
theorem d_MD_keep_20 : decode b_MD_keep 20 = .ok (.aload_n 0, 1) := by decide +kernel
theorem d_MD_keep_21 : decode b_MD_keep 21 = .ok (.getfield 35, 3) := by decide +kernel
theorem d_MD_keep_24 : decode b_MD_keep 24 = .ok (.iload_n 2, 1) := by decide +kernel
theorem d_MD_keep_25 : decode b_MD_keep 25 = .ok (.aload_n 0, 1) := by decide +kernel
theorem d_MD_keep_26 : decode b_MD_keep 26 = .ok (.getfield 26, 3) := by decide +kernel
theorem d_MD_keep_29 : decode b_MD_keep 29 = .ok (.iload_n 2, 1) := by decide +kernel
theorem d_MD_keep_30 : decode b_MD_keep 30 = .ok (.iaload, 1) := by decide +kernel
theorem d_MD_keep_31 : decode b_MD_keep 31 = .ok (.iastore, 1) := by decide +kernel
theorem d_MD_keep_32 : decode b_MD_keep 32 = .ok (.aload_n 0, 1) := by decide +kernel
theorem d_MD_keep_33 : decode b_MD_keep 33 = .ok (.getfield 38, 3) := by decide +kernel
theorem d_MD_keep_36 : decode b_MD_keep 36 = .ok (.iload_n 2, 1) := by decide +kernel
theorem d_MD_keep_37 : decode b_MD_keep 37 = .ok (.aload_n 0, 1) := by decide +kernel
theorem d_MD_keep_38 : decode b_MD_keep 38 = .ok (.getfield 32, 3) := by decide +kernel
theorem d_MD_keep_41 : decode b_MD_keep 41 = .ok (.iload_n 2, 1) := by decide +kernel
theorem d_MD_keep_42 : decode b_MD_keep 42 = .ok (.iaload, 1) := by decide +kernel
theorem d_MD_keep_43 : decode b_MD_keep 43 = .ok (.iastore, 1) := by decide +kernel
theorem d_MD_keep_44 : decode b_MD_keep 44 = .ok (.iinc 2 1, 3) := by decide +kernel
theorem d_MD_keep_47 : decode b_MD_keep 47 = .ok (.goto (-35), 3) := by decide +kernel
theorem d_MD_keep_50 : decode b_MD_keep 50 = .ok (.return_, 1) := by decide +kernel
theorem d_MD_emptyLine_0 : decode b_MD_emptyLine 0 = .ok (.aload_n 0, 1) := by decide +kernel
theorem d_MD_emptyLine_1 : decode b_MD_emptyLine 1 = .ok (.iconst 0, 1) := by decide +kernel
theorem d_MD_emptyLine_2 : decode b_MD_emptyLine 2 = .ok (.putfield 105, 3) := by decide +kernel
theorem d_MD_emptyLine_5 : decode b_MD_emptyLine 5 = .ok (.aload_n 0, 1) := by decide +kernel
theorem d_MD_emptyLine_6 : decode b_MD_emptyLine 6 = .ok (.iconst 0, 1) := by decide +kernel
theorem d_MD_emptyLine_7 : decode b_MD_emptyLine 7 = .ok (.putfield 108, 3) := by decide +kernel
theorem d_MD_emptyLine_10 : decode b_MD_emptyLine 10 = .ok (.aload_n 0, 1) := by decide +kernel
theorem d_MD_emptyLine_11 : decode b_MD_emptyLine 11 = .ok (.iconst 0, 1) := by decide +kernel
theorem d_MD_emptyLine_12 : decode b_MD_emptyLine 12 = .ok (.putfield 111, 3) := by decide +kernel
theorem d_MD_emptyLine_15 : decode b_MD_emptyLine 15 = .ok (.aload_n 0, 1) := by decide +kernel
theorem d_MD_emptyLine_16 : decode b_MD_emptyLine 16 = .ok (.iconst 0, 1) := by decide +kernel
theorem d_MD_emptyLine_17 : decode b_MD_emptyLine 17 = .ok (.putfield 114, 3) := by decide +kernel
theorem d_MD_emptyLine_20 : decode b_MD_emptyLine 20 = .ok (.aload_n 0, 1) := by decide +kernel
theorem d_MD_emptyLine_21 : decode b_MD_emptyLine 21 = .ok (.iconst 0, 1) := by decide +kernel
theorem d_MD_emptyLine_22 : decode b_MD_emptyLine 22 = .ok (.putfield 117, 3) := by decide +kernel
theorem d_MD_emptyLine_25 : decode b_MD_emptyLine 25 = .ok (.aload_n 0, 1) := by decide +kernel
theorem d_MD_emptyLine_26 : decode b_MD_emptyLine 26 = .ok (.iconst (-1), 1) := by decide +kernel
theorem d_MD_emptyLine_27 : decode b_MD_emptyLine 27 = .ok (.putfield 47, 3) := by decide +kernel
theorem d_MD_emptyLine_30 : decode b_MD_emptyLine 30 = .ok (.aload_n 0, 1) := by decide +kernel
theorem d_MD_emptyLine_31 : decode b_MD_emptyLine 31 = .ok (.iconst 0, 1) := by decide +kernel
theorem d_MD_emptyLine_32 : decode b_MD_emptyLine 32 = .ok (.putfield 120, 3) := by decide +kernel
theorem d_MD_emptyLine_35 : decode b_MD_emptyLine 35 = .ok (.iconst 0, 1) := by decide +kernel
theorem d_MD_emptyLine_36 : decode b_MD_emptyLine 36 = .ok (.istore_n 1, 1) := by decide +kernel
theorem d_MD_emptyLine_37 : decode b_MD_emptyLine 37 = .ok (.iload_n 1, 1) := by decide +kernel
theorem d_MD_emptyLine_38 : decode b_MD_emptyLine 38 = .ok (.bipush 7, 2) := by decide +kernel
theorem d_MD_emptyLine_40 : decode b_MD_emptyLine 40 = .ok (.if_icmp .ge 16, 3) := by decide +kernel
theorem d_MD_emptyLine_43 : decode b_MD_emptyLine 43 = .ok (.aload_n 0, 1) := by decide +kernel
theorem d_MD_emptyLine_44 : decode b_MD_emptyLine 44 = .ok (.getfield 41, 3) := by decide +kernel
theorem d_MD_emptyLine_47 : decode b_MD_emptyLine 47 = .ok (.iload_n 1, 1) := by decide +kernel
theorem d_MD_emptyLine_48 : decode b_MD_emptyLine 48 = .ok (.iconst 0, 1) := by decide +kernel
theorem d_MD_emptyLine_49 : decode b_MD_emptyLine 49 = .ok (.iastore, 1) := by decide +kernel
theorem d_MD_emptyLine_50 : decode b_MD_emptyLine 50 = .ok (.iinc 1 1, 3) := by decide +kernel
theorem d_MD_emptyLine_53 : decode b_MD_emptyLine 53 = .ok (.goto (-16), 3) := by decide +kernel
theorem d_MD_emptyLine_56 : decode b_MD_emptyLine 56 = .ok (.return_, 1) := by decide +kernel
theorem d_MD_solve_0 : decode b_MD_solve 0 = .ok (.aload_n 0, 1) := by decide +kernel
theorem d_MD_solve_1 : decode b_MD_solve 1 = .ok (.aload_n 0, 1) := by decide +kernel
theorem d_MD_solve_2 : decode b_MD_solve 2 = .ok (.invokevirtual 69, 3) := by decide +kernel
theorem d_MD_solve_5 : decode b_MD_solve 5 = .ok (.ifCond .eq 7, 3) := by decide +kernel
theorem d_MD_solve_8 : decode b_MD_solve 8 = .ok (.iconst 1, 1) := by decide +kernel
theorem d_MD_solve_9 : decode b_MD_solve 9 = .ok (.goto 4, 3) := by decide +kernel
theorem d_MD_solve_12 : decode b_MD_solve 12 = .ok (.iconst 0, 1) := by decide +kernel
theorem d_MD_solve_13 : decode b_MD_solve 13 = .ok (.iconst 0, 1) := by decide +kernel
theorem d_MD_solve_14 : decode b_MD_solve 14 = .ok (.invokevirtual 65, 3) := by decide +kernel
theorem d_MD_solve_17 : decode b_MD_solve 17 = .ok (.ifCond .eq 5, 3) := by decide +kernel
theorem d_MD_solve_20 : decode b_MD_solve 20 = .ok (.iconst 0, 1) := by decide +kernel
theorem d_MD_solve_21 : decode b_MD_solve 21 = .ok (.ireturn, 1) := by decide +kernel
theorem d_MD_solve_22 : decode b_MD_solve 22 = .ok (.aload_n 0, 1) := by decide +kernel
theorem d_MD_solve_23 : decode b_MD_solve 23 = .ok (.iconst 0, 1) := by decide +kernel
theorem d_MD_solve_24 : decode b_MD_solve 24 = .ok (.putfield 57, 3) := by decide +kernel
theorem d_MD_solve_27 : decode b_MD_solve 27 = .ok (.sipush 2001, 3) := by decide +kernel
theorem d_MD_solve_30 : decode b_MD_solve 30 = .ok (.istore_n 1, 1) := by decide +kernel
theorem d_MD_solve_31 : decode b_MD_solve 31 = .ok (.iconst 1, 1) := by decide +kernel
theorem d_MD_solve_32 : decode b_MD_solve 32 = .ok (.istore_n 2, 1) := by decide +kernel
theorem d_MD_solve_33 : decode b_MD_solve 33 = .ok (.iconst 0, 1) := by decide +kernel
theorem d_MD_solve_34 : decode b_MD_solve 34 = .ok (.istore_n 3, 1) := by decide +kernel
theorem d_MD_solve_35 : decode b_MD_solve 35 = .ok (.iload_n 3, 1) := by decide +kernel
theorem d_MD_solve_36 : decode b_MD_solve 36 = .ok (.aload_n 0, 1) := by decide +kernel
theorem d_MD_solve_37 : decode b_MD_solve 37 = .ok (.getfield 7, 3) := by decide +kernel
theorem d_MD_solve_40 : decode b_MD_solve 40 = .ok (.if_icmp .ge 14, 3) := by decide +kernel
theorem d_MD_solve_43 : decode b_MD_solve 43 = .ok (.bipush 10, 2) := by decide +kernel
theorem d_MD_solve_45 : decode b_MD_solve 45 = .ok (.iload_n 2, 1) := by decide +kernel
theorem d_MD_solve_46 : decode b_MD_solve 46 = .ok (.imul, 1) := by decide +kernel
theorem d_MD_solve_47 : decode b_MD_solve 47 = .ok (.istore_n 2, 1) := by decide +kernel
theorem d_MD_solve_48 : decode b_MD_solve 48 = .ok (.iinc 3 1, 3) := by decide +kernel
theorem d_MD_solve_51 : decode b_MD_solve 51 = .ok (.goto (-16), 3) := by decide +kernel
theorem d_MD_solve_54 : decode b_MD_solve 54 = .ok (.iload_n 2, 1) := by decide +kernel
theorem d_MD_solve_55 : decode b_MD_solve 55 = .ok (.bipush 10, 2) := by decide +kernel
theorem d_MD_solve_57 : decode b_MD_solve 57 = .ok (.idiv, 1) := by decide +kernel
theorem d_MD_solve_58 : decode b_MD_solve 58 = .ok (.istore_n 3, 1) := by decide +kernel
theorem d_MD_solve_59 : decode b_MD_solve 59 = .ok (.iload_n 3, 1) := by decide +kernel
theorem d_MD_solve_60 : decode b_MD_solve 60 = .ok (.iload_n 2, 1) := by decide +kernel
theorem d_MD_solve_61 : decode b_MD_solve 61 = .ok (.if_icmp .ge 43, 3) := by decide +kernel
theorem d_MD_solve_64 : decode b_MD_solve 64 = .ok (.aload_n 0, 1) := by decide +kernel
theorem d_MD_solve_65 : decode b_MD_solve 65 = .ok (.iload_n 3, 1) := by decide +kernel
theorem d_MD_solve_66 : decode b_MD_solve 66 = .ok (.invokevirtual 95, 3) := by decide +kernel
theorem d_MD_solve_69 : decode b_MD_solve 69 = .ok (.ifCond .ne 6, 3) := by decide +kernel
theorem d_MD_solve_72 : decode b_MD_solve 72 = .ok (.goto 26, 3) := by decide +kernel
theorem d_MD_solve_75 : decode b_MD_solve 75 = .ok (.aload_n 0, 1) := by decide +kernel
theorem d_MD_solve_76 : decode b_MD_solve 76 = .ok (.iload_n 1, 1) := by decide +kernel
theorem d_MD_solve_77 : decode b_MD_solve 77 = .ok (.iconst 1, 1) := by decide +kernel
theorem d_MD_solve_78 : decode b_MD_solve 78 = .ok (.isub, 1) := by decide +kernel
theorem d_MD_solve_79 : decode b_MD_solve 79 = .ok (.invokevirtual 98, 3) := by decide +kernel
theorem d_MD_solve_82 : decode b_MD_solve 82 = .ok (.istore 4, 2) := by decide +kernel
theorem d_MD_solve_84 : decode b_MD_solve 84 = .ok (.iload 4, 2) := by decide +kernel
theorem d_MD_solve_86 : decode b_MD_solve 86 = .ok (.ifCond .le 12, 3) := by decide +kernel
theorem d_MD_solve_89 : decode b_MD_solve 89 = .ok (.iload 4, 2) := by decide +kernel
theorem d_MD_solve_91 : decode b_MD_solve 91 = .ok (.istore_n 1, 1) := by decide +kernel
theorem d_MD_solve_92 : decode b_MD_solve 92 = .ok (.aload_n 0, 1) := by decide +kernel
theorem d_MD_solve_93 : decode b_MD_solve 93 = .ok (.iload 4, 2) := by decide +kernel
theorem d_MD_solve_95 : decode b_MD_solve 95 = .ok (.invokevirtual 123, 3) := by decide +kernel
theorem d_MD_solve_98 : decode b_MD_solve 98 = .ok (.iinc 3 1, 3) := by decide +kernel
theorem d_MD_solve_101 : decode b_MD_solve 101 = .ok (.goto (-42), 3) := by decide +kernel
theorem d_MD_solve_104 : decode b_MD_solve 104 = .ok (.aload_n 0, 1) := by decide +kernel
theorem d_MD_solve_105 : decode b_MD_solve 105 = .ok (.invokevirtual 126, 3) := by decide +kernel
theorem d_MD_solve_108 : decode b_MD_solve 108 = .ok (.aload_n 0, 1) := by decide +kernel
theorem d_MD_solve_109 : decode b_MD_solve 109 = .ok (.getfield 57, 3) := by decide +kernel
theorem d_MD_solve_112 : decode b_MD_solve 112 = .ok (.ifCond .eq 7, 3) := by decide +kernel
theorem d_MD_solve_115 : decode b_MD_solve 115 = .ok (.iload_n 1, 1) := by decide +kernel
theorem d_MD_solve_116 : decode b_MD_solve 116 = .ok (.goto 4, 3) := by decide +kernel
theorem d_MD_solve_119 : decode b_MD_solve 119 = .ok (.iconst (-1), 1) := by decide +kernel
theorem d_MD_solve_120 : decode b_MD_solve 120 = .ok (.ireturn, 1) := by decide +kernel
theorem d_MD_soakOf_0 : decode b_MD_soakOf 0 = .ok (.iconst 0, 1) := by decide +kernel
theorem d_MD_soakOf_1 : decode b_MD_soakOf 1 = .ok (.istore_n 2, 1) := by decide +kernel
theorem d_MD_soakOf_2 : decode b_MD_soakOf 2 = .ok (.iconst 0, 1) := by decide +kernel
theorem d_MD_soakOf_3 : decode b_MD_soakOf 3 = .ok (.istore_n 3, 1) := by decide +kernel
theorem d_MD_soakOf_4 : decode b_MD_soakOf 4 = .ok (.iload_n 3, 1) := by decide +kernel
theorem d_MD_soakOf_5 : decode b_MD_soakOf 5 = .ok (.aload_n 0, 1) := by decide +kernel
theorem d_MD_soakOf_6 : decode b_MD_soakOf 6 = .ok (.getfield 7, 3) := by decide +kernel
theorem d_MD_soakOf_9 : decode b_MD_soakOf 9 = .ok (.if_icmp .gt 44, 3) := by decide +kernel
theorem d_MD_soakOf_12 : decode b_MD_soakOf 12 = .ok (.aload_n 0, 1) := by decide +kernel
theorem d_MD_soakOf_13 : decode b_MD_soakOf 13 = .ok (.getfield 35, 3) := by decide +kernel
theorem d_MD_soakOf_16 : decode b_MD_soakOf 16 = .ok (.iload_n 3, 1) := by decide +kernel
theorem d_MD_soakOf_17 : decode b_MD_soakOf 17 = .ok (.iaload, 1) := by decide +kernel
theorem d_MD_soakOf_18 : decode b_MD_soakOf 18 = .ok (.iload_n 1, 1) := by decide +kernel
theorem d_MD_soakOf_19 : decode b_MD_soakOf 19 = .ok (.iconst 1, 1) := by decide +kernel
theorem d_MD_soakOf_20 : decode b_MD_soakOf 20 = .ok (.isub, 1) := by decide +kernel
theorem d_MD_soakOf_21 : decode b_MD_soakOf 21 = .ok (.if_icmp .ne 6, 3) := by decide +kernel
theorem d_MD_soakOf_24 : decode b_MD_soakOf 24 = .ok (.goto 29, 3) := by decide +kernel
theorem d_MD_soakOf_27 : decode b_MD_soakOf 27 = .ok (.iload_n 2, 1) := by decide +kernel
theorem d_MD_soakOf_28 : decode b_MD_soakOf 28 = .ok (.ifCond .ne 13, 3) := by decide +kernel
theorem d_MD_soakOf_31 : decode b_MD_soakOf 31 = .ok (.aload_n 0, 1) := by decide +kernel
theorem d_MD_soakOf_32 : decode b_MD_soakOf 32 = .ok (.getfield 35, 3) := by decide +kernel
theorem d_MD_soakOf_35 : decode b_MD_soakOf 35 = .ok (.iload_n 3, 1) := by decide +kernel
theorem d_MD_soakOf_36 : decode b_MD_soakOf 36 = .ok (.iaload, 1) := by decide +kernel
theorem d_MD_soakOf_37 : decode b_MD_soakOf 37 = .ok (.iload_n 1, 1) := by decide +kernel
theorem d_MD_soakOf_38 : decode b_MD_soakOf 38 = .ok (.if_icmp .ne 7, 3) := by decide +kernel
theorem d_MD_soakOf_41 : decode b_MD_soakOf 41 = .ok (.iconst 1, 1) := by decide +kernel
theorem d_MD_soakOf_42 : decode b_MD_soakOf 42 = .ok (.goto 4, 3) := by decide +kernel
theorem d_MD_soakOf_45 : decode b_MD_soakOf 45 = .ok (.iconst 0, 1) := by decide +kernel
theorem d_MD_soakOf_46 : decode b_MD_soakOf 46 = .ok (.istore_n 2, 1) := by decide +kernel
theorem d_MD_soakOf_47 : decode b_MD_soakOf 47 = .ok (.iinc 3 1, 3) := by decide +kernel
theorem d_MD_soakOf_50 : decode b_MD_soakOf 50 = .ok (.goto (-46), 3) := by decide +kernel
theorem d_MD_soakOf_53 : decode b_MD_soakOf 53 = .ok (.aload_n 0, 1) := by decide +kernel
theorem d_MD_soakOf_54 : decode b_MD_soakOf 54 = .ok (.getfield 38, 3) := by decide +kernel
theorem d_MD_soakOf_57 : decode b_MD_soakOf 57 = .ok (.iload_n 1, 1) := by decide +kernel
theorem d_MD_soakOf_58 : decode b_MD_soakOf 58 = .ok (.iaload, 1) := by decide +kernel
theorem d_MD_soakOf_59 : decode b_MD_soakOf 59 = .ok (.aload_n 0, 1) := by decide +kernel
theorem d_MD_soakOf_60 : decode b_MD_soakOf 60 = .ok (.getfield 38, 3) := by decide +kernel
theorem d_MD_soakOf_63 : decode b_MD_soakOf 63 = .ok (.iload_n 1, 1) := by decide +kernel
theorem d_MD_soakOf_64 : decode b_MD_soakOf 64 = .ok (.iconst 1, 1) := by decide +kernel
theorem d_MD_soakOf_65 : decode b_MD_soakOf 65 = .ok (.isub, 1) := by decide +kernel
theorem d_MD_soakOf_66 : decode b_MD_soakOf 66 = .ok (.iaload, 1) := by decide +kernel
theorem d_MD_soakOf_67 : decode b_MD_soakOf 67 = .ok (.isub, 1) := by decide +kernel
theorem d_MD_soakOf_68 : decode b_MD_soakOf 68 = .ok (.aload_n 0, 1) := by decide +kernel
theorem d_MD_soakOf_69 : decode b_MD_soakOf 69 = .ok (.getfield 20, 3) := by decide +kernel
theorem d_MD_soakOf_72 : decode b_MD_soakOf 72 = .ok (.iload_n 1, 1) := by decide +kernel
theorem d_MD_soakOf_73 : decode b_MD_soakOf 73 = .ok (.iconst 1, 1) := by decide +kernel
theorem d_MD_soakOf_74 : decode b_MD_soakOf 74 = .ok (.isub, 1) := by decide +kernel
theorem d_MD_soakOf_75 : decode b_MD_soakOf 75 = .ok (.iaload, 1) := by decide +kernel
theorem d_MD_soakOf_76 : decode b_MD_soakOf 76 = .ok (.isub, 1) := by decide +kernel
theorem d_MD_soakOf_77 : decode b_MD_soakOf 77 = .ok (.iload_n 2, 1) := by decide +kernel
theorem d_MD_soakOf_78 : decode b_MD_soakOf 78 = .ok (.ifCond .eq 10, 3) := by decide +kernel
theorem d_MD_soakOf_81 : decode b_MD_soakOf 81 = .ok (.aload_n 0, 1) := by decide +kernel
theorem d_MD_soakOf_82 : decode b_MD_soakOf 82 = .ok (.getfield 102, 3) := by decide +kernel
theorem d_MD_soakOf_85 : decode b_MD_soakOf 85 = .ok (.goto 4, 3) := by decide +kernel
theorem d_MD_soakOf_88 : decode b_MD_soakOf 88 = .ok (.iconst 0, 1) := by decide +kernel
theorem d_MD_soakOf_89 : decode b_MD_soakOf 89 = .ok (.iadd, 1) := by decide +kernel
theorem d_MD_soakOf_90 : decode b_MD_soakOf 90 = .ok (.ireturn, 1) := by decide +kernel
theorem d_MD_plan_0 : decode b_MD_plan 0 = .ok (.iload_n 2, 1) := by decide +kernel
theorem d_MD_plan_1 : decode b_MD_plan 1 = .ok (.iconst 0, 1) := by decide +kernel
theorem d_MD_plan_2 : decode b_MD_plan 2 = .ok (.iconst 4, 1) := by decide +kernel
theorem d_MD_plan_3 : decode b_MD_plan 3 = .ok (.invokestatic 61, 3) := by decide +kernel
theorem d_MD_plan_6 : decode b_MD_plan 6 = .ok (.ifCond .eq 33, 3) := by decide +kernel
theorem d_MD_plan_9 : decode b_MD_plan 9 = .ok (.iload_n 2, 1) := by decide +kernel
theorem d_MD_plan_10 : decode b_MD_plan 10 = .ok (.iconst 2, 1) := by decide +kernel
theorem d_MD_plan_11 : decode b_MD_plan 11 = .ok (.if_icmp .gt 24, 3) := by decide +kernel
theorem d_MD_plan_14 : decode b_MD_plan 14 = .ok (.iload_n 1, 1) := by decide +kernel
theorem d_MD_plan_15 : decode b_MD_plan 15 = .ok (.iload_n 2, 1) := by decide +kernel
theorem d_MD_plan_16 : decode b_MD_plan 16 = .ok (.iconst 2, 1) := by decide +kernel
theorem d_MD_plan_17 : decode b_MD_plan 17 = .ok (.if_icmp .ne 7, 3) := by decide +kernel
theorem d_MD_plan_20 : decode b_MD_plan 20 = .ok (.iconst 1, 1) := by decide +kernel
theorem d_MD_plan_21 : decode b_MD_plan 21 = .ok (.goto 4, 3) := by decide +kernel
theorem d_MD_plan_24 : decode b_MD_plan 24 = .ok (.iconst 0, 1) := by decide +kernel
theorem d_MD_plan_25 : decode b_MD_plan 25 = .ok (.aload_n 0, 1) := by decide +kernel
theorem d_MD_plan_26 : decode b_MD_plan 26 = .ok (.getfield 7, 3) := by decide +kernel
theorem d_MD_plan_29 : decode b_MD_plan 29 = .ok (.invokestatic 61, 3) := by decide +kernel
theorem d_MD_plan_32 : decode b_MD_plan 32 = .ok (.ifCond .eq 7, 3) := by decide +kernel
theorem d_MD_plan_35 : decode b_MD_plan 35 = .ok (.iconst 1, 1) := by decide +kernel
theorem d_MD_plan_36 : decode b_MD_plan 36 = .ok (.goto 4, 3) := by decide +kernel
theorem d_MD_plan_39 : decode b_MD_plan 39 = .ok (.iconst 0, 1) := by decide +kernel
theorem d_MD_plan_40 : decode b_MD_plan 40 = .ok (.istore_n 3, 1) := by decide +kernel
theorem d_MD_plan_41 : decode b_MD_plan 41 = .ok (.aload_n 0, 1) := by decide +kernel
theorem d_MD_plan_42 : decode b_MD_plan 42 = .ok (.aload_n 0, 1) := by decide +kernel
theorem d_MD_plan_43 : decode b_MD_plan 43 = .ok (.getfield 57, 3) := by decide +kernel
theorem d_MD_plan_46 : decode b_MD_plan 46 = .ok (.ifCond .ne 7, 3) := by decide +kernel
theorem d_MD_plan_49 : decode b_MD_plan 49 = .ok (.iconst 1, 1) := by decide +kernel
theorem d_MD_plan_50 : decode b_MD_plan 50 = .ok (.goto 4, 3) := by decide +kernel
theorem d_MD_plan_53 : decode b_MD_plan 53 = .ok (.iconst 0, 1) := by decide +kernel
theorem d_MD_plan_54 : decode b_MD_plan 54 = .ok (.aload_n 0, 1) := by decide +kernel
theorem d_MD_plan_55 : decode b_MD_plan 55 = .ok (.getfield 57, 3) := by decide +kernel
theorem d_MD_plan_58 : decode b_MD_plan 58 = .ok (.ifCond .eq 11, 3) := by decide +kernel
theorem d_MD_plan_61 : decode b_MD_plan 61 = .ok (.iload_n 3, 1) := by decide +kernel
theorem d_MD_plan_62 : decode b_MD_plan 62 = .ok (.ifCond .ne 7, 3) := by decide +kernel
theorem d_MD_plan_65 : decode b_MD_plan 65 = .ok (.iconst 1, 1) := by decide +kernel
theorem d_MD_plan_66 : decode b_MD_plan 66 = .ok (.goto 4, 3) := by decide +kernel
theorem d_MD_plan_69 : decode b_MD_plan 69 = .ok (.iconst 0, 1) := by decide +kernel
theorem d_MD_plan_70 : decode b_MD_plan 70 = .ok (.invokevirtual 65, 3) := by decide +kernel
theorem d_MD_plan_73 : decode b_MD_plan 73 = .ok (.ifCond .eq 5, 3) := by decide +kernel
theorem d_MD_plan_76 : decode b_MD_plan 76 = .ok (.iconst 0, 1) := by decide +kernel
theorem d_MD_plan_77 : decode b_MD_plan 77 = .ok (.ireturn, 1) := by decide +kernel
theorem d_MD_plan_78 : decode b_MD_plan 78 = .ok (.iload_n 2, 1) := by decide +kernel
theorem d_MD_plan_79 : decode b_MD_plan 79 = .ok (.tableswitch 54 0 3 #[29, 36, 43, 49], 29) := by decide +kernel
theorem d_MD_plan_108 : decode b_MD_plan 108 = .ok (.aload_n 0, 1) := by decide +kernel
theorem d_MD_plan_109 : decode b_MD_plan 109 = .ok (.getfield 35, 3) := by decide +kernel
theorem d_MD_plan_112 : decode b_MD_plan 112 = .ok (.iload_n 1, 1) := by decide +kernel
theorem d_MD_plan_113 : decode b_MD_plan 113 = .ok (.iaload, 1) := by decide +kernel
theorem d_MD_plan_114 : decode b_MD_plan 114 = .ok (.ireturn, 1) := by decide +kernel
theorem d_MD_plan_115 : decode b_MD_plan 115 = .ok (.aload_n 0, 1) := by decide +kernel
theorem d_MD_plan_116 : decode b_MD_plan 116 = .ok (.getfield 38, 3) := by decide +kernel
theorem d_MD_plan_119 : decode b_MD_plan 119 = .ok (.iload_n 1, 1) := by decide +kernel
theorem d_MD_plan_120 : decode b_MD_plan 120 = .ok (.iaload, 1) := by decide +kernel
theorem d_MD_plan_121 : decode b_MD_plan 121 = .ok (.ireturn, 1) := by decide +kernel
theorem d_MD_plan_122 : decode b_MD_plan 122 = .ok (.aload_n 0, 1) := by decide +kernel
theorem d_MD_plan_123 : decode b_MD_plan 123 = .ok (.iload_n 1, 1) := by decide +kernel
theorem d_MD_plan_124 : decode b_MD_plan 124 = .ok (.invokevirtual 129, 3) := by decide +kernel
theorem d_MD_plan_127 : decode b_MD_plan 127 = .ok (.ireturn, 1) := by decide +kernel
theorem d_MD_plan_128 : decode b_MD_plan 128 = .ok (.aload_n 0, 1) := by decide +kernel
theorem d_MD_plan_129 : decode b_MD_plan 129 = .ok (.getfield 102, 3) := by decide +kernel
theorem d_MD_plan_132 : decode b_MD_plan 132 = .ok (.ireturn, 1) := by decide +kernel
theorem d_MD_plan_133 : decode b_MD_plan 133 = .ok (.iconst 0, 1) := by decide +kernel
theorem d_MD_plan_134 : decode b_MD_plan 134 = .ok (.istore 4, 2) := by decide +kernel
theorem d_MD_plan_136 : decode b_MD_plan 136 = .ok (.iconst 1, 1) := by decide +kernel
theorem d_MD_plan_137 : decode b_MD_plan 137 = .ok (.istore 5, 2) := by decide +kernel
theorem d_MD_plan_139 : decode b_MD_plan 139 = .ok (.iload 5, 2) := by decide +kernel
theorem d_MD_plan_141 : decode b_MD_plan 141 = .ok (.aload_n 0, 1) := by decide +kernel
theorem d_MD_plan_142 : decode b_MD_plan 142 = .ok (.getfield 7, 3) := by decide +kernel
theorem d_MD_plan_145 : decode b_MD_plan 145 = .ok (.if_icmp .gt 24, 3) := by decide +kernel
theorem d_MD_plan_148 : decode b_MD_plan 148 = .ok (.bipush 10, 2) := by decide +kernel
theorem d_MD_plan_150 : decode b_MD_plan 150 = .ok (.iload 4, 2) := by decide +kernel
theorem d_MD_plan_152 : decode b_MD_plan 152 = .ok (.imul, 1) := by decide +kernel
theorem d_MD_plan_153 : decode b_MD_plan 153 = .ok (.aload_n 0, 1) := by decide +kernel
theorem d_MD_plan_154 : decode b_MD_plan 154 = .ok (.getfield 35, 3) := by decide +kernel
theorem d_MD_plan_157 : decode b_MD_plan 157 = .ok (.iload 5, 2) := by decide +kernel
theorem d_MD_plan_159 : decode b_MD_plan 159 = .ok (.iaload, 1) := by decide +kernel
theorem d_MD_plan_160 : decode b_MD_plan 160 = .ok (.iadd, 1) := by decide +kernel
theorem d_MD_plan_161 : decode b_MD_plan 161 = .ok (.istore 4, 2) := by decide +kernel
theorem d_MD_plan_163 : decode b_MD_plan 163 = .ok (.iinc 5 1, 3) := by decide +kernel
theorem d_MD_plan_166 : decode b_MD_plan 166 = .ok (.goto (-27), 3) := by decide +kernel
theorem d_MD_plan_169 : decode b_MD_plan 169 = .ok (.iload 4, 2) := by decide +kernel
theorem d_MD_plan_171 : decode b_MD_plan 171 = .ok (.ireturn, 1) := by decide +kernel
theorem d_MD_endMove_0 : decode b_MD_endMove 0 = .ok (.aload_n 0, 1) := by decide +kernel
theorem d_MD_endMove_1 : decode b_MD_endMove 1 = .ok (.getfield 47, 3) := by decide +kernel
theorem d_MD_endMove_4 : decode b_MD_endMove 4 = .ok (.aload_n 0, 1) := by decide +kernel
theorem d_MD_endMove_5 : decode b_MD_endMove 5 = .ok (.getfield 7, 3) := by decide +kernel
theorem d_MD_endMove_8 : decode b_MD_endMove 8 = .ok (.if_icmp .ne 29, 3) := by decide +kernel
theorem d_MD_endMove_11 : decode b_MD_endMove 11 = .ok (.aload_n 0, 1) := by decide +kernel
theorem d_MD_endMove_12 : decode b_MD_endMove 12 = .ok (.dup, 1) := by decide +kernel
theorem d_MD_endMove_13 : decode b_MD_endMove 13 = .ok (.getfield 111, 3) := by decide +kernel
theorem d_MD_endMove_16 : decode b_MD_endMove 16 = .ok (.iconst 1, 1) := by decide +kernel
theorem d_MD_endMove_17 : decode b_MD_endMove 17 = .ok (.iadd, 1) := by decide +kernel
theorem d_MD_endMove_18 : decode b_MD_endMove 18 = .ok (.putfield 111, 3) := by decide +kernel
theorem d_MD_endMove_21 : decode b_MD_endMove 21 = .ok (.aload_n 0, 1) := by decide +kernel
theorem d_MD_endMove_22 : decode b_MD_endMove 22 = .ok (.aload_n 0, 1) := by decide +kernel
theorem d_MD_endMove_23 : decode b_MD_endMove 23 = .ok (.getfield 105, 3) := by decide +kernel
theorem d_MD_endMove_26 : decode b_MD_endMove 26 = .ok (.aload_n 0, 1) := by decide +kernel
theorem d_MD_endMove_27 : decode b_MD_endMove 27 = .ok (.getfield 132, 3) := by decide +kernel
theorem d_MD_endMove_30 : decode b_MD_endMove 30 = .ok (.isub, 1) := by decide +kernel
theorem d_MD_endMove_31 : decode b_MD_endMove 31 = .ok (.putfield 114, 3) := by decide +kernel
theorem d_MD_endMove_34 : decode b_MD_endMove 34 = .ok (.goto 33, 3) := by decide +kernel
theorem d_MD_endMove_37 : decode b_MD_endMove 37 = .ok (.aload_n 0, 1) := by decide +kernel
theorem d_MD_endMove_38 : decode b_MD_endMove 38 = .ok (.getfield 41, 3) := by decide +kernel
theorem d_MD_endMove_41 : decode b_MD_endMove 41 = .ok (.aload_n 0, 1) := by decide +kernel
theorem d_MD_endMove_42 : decode b_MD_endMove 42 = .ok (.getfield 47, 3) := by decide +kernel
theorem d_MD_endMove_45 : decode b_MD_endMove 45 = .ok (.iconst 1, 1) := by decide +kernel
theorem d_MD_endMove_46 : decode b_MD_endMove 46 = .ok (.iadd, 1) := by decide +kernel
theorem d_MD_endMove_47 : decode b_MD_endMove 47 = .ok (.aload_n 0, 1) := by decide +kernel
theorem d_MD_endMove_48 : decode b_MD_endMove 48 = .ok (.getfield 120, 3) := by decide +kernel
theorem d_MD_endMove_51 : decode b_MD_endMove 51 = .ok (.iastore, 1) := by decide +kernel
theorem d_MD_endMove_52 : decode b_MD_endMove 52 = .ok (.aload_n 0, 1) := by decide +kernel
theorem d_MD_endMove_53 : decode b_MD_endMove 53 = .ok (.getfield 44, 3) := by decide +kernel
theorem d_MD_endMove_56 : decode b_MD_endMove 56 = .ok (.aload_n 0, 1) := by decide +kernel
theorem d_MD_endMove_57 : decode b_MD_endMove 57 = .ok (.getfield 47, 3) := by decide +kernel
theorem d_MD_endMove_60 : decode b_MD_endMove 60 = .ok (.iconst 1, 1) := by decide +kernel
theorem d_MD_endMove_61 : decode b_MD_endMove 61 = .ok (.iadd, 1) := by decide +kernel
theorem d_MD_endMove_62 : decode b_MD_endMove 62 = .ok (.aload_n 0, 1) := by decide +kernel
theorem d_MD_endMove_63 : decode b_MD_endMove 63 = .ok (.getfield 132, 3) := by decide +kernel
theorem d_MD_endMove_66 : decode b_MD_endMove 66 = .ok (.iastore, 1) := by decide +kernel
theorem d_MD_endMove_67 : decode b_MD_endMove 67 = .ok (.aload_n 0, 1) := by decide +kernel
theorem d_MD_endMove_68 : decode b_MD_endMove 68 = .ok (.iconst (-1), 1) := by decide +kernel
theorem d_MD_endMove_69 : decode b_MD_endMove 69 = .ok (.putfield 47, 3) := by decide +kernel
theorem d_MD_endMove_72 : decode b_MD_endMove 72 = .ok (.aload_n 0, 1) := by decide +kernel
theorem d_MD_endMove_73 : decode b_MD_endMove 73 = .ok (.iconst 0, 1) := by decide +kernel
theorem d_MD_endMove_74 : decode b_MD_endMove 74 = .ok (.putfield 120, 3) := by decide +kernel
theorem d_MD_endMove_77 : decode b_MD_endMove 77 = .ok (.return_, 1) := by decide +kernel
theorem d_MD_begin_0 : decode b_MD_begin 0 = .ok (.iload_n 1, 1) := by decide +kernel
theorem d_MD_begin_1 : decode b_MD_begin 1 = .ok (.ifCond .ne 13, 3) := by decide +kernel
theorem d_MD_begin_4 : decode b_MD_begin 4 = .ok (.aload_n 0, 1) := by decide +kernel
theorem d_MD_begin_5 : decode b_MD_begin 5 = .ok (.getfield 117, 3) := by decide +kernel
theorem d_MD_begin_8 : decode b_MD_begin 8 = .ok (.ifCond .eq 17, 3) := by decide +kernel
theorem d_MD_begin_11 : decode b_MD_begin 11 = .ok (.goto 12, 3) := by decide +kernel
theorem d_MD_begin_14 : decode b_MD_begin 14 = .ok (.aload_n 0, 1) := by decide +kernel
theorem d_MD_begin_15 : decode b_MD_begin 15 = .ok (.getfield 41, 3) := by decide +kernel
theorem d_MD_begin_18 : decode b_MD_begin 18 = .ok (.iload_n 1, 1) := by decide +kernel
theorem d_MD_begin_19 : decode b_MD_begin 19 = .ok (.iaload, 1) := by decide +kernel
theorem d_MD_begin_20 : decode b_MD_begin 20 = .ok (.ifCond .ne 5, 3) := by decide +kernel
theorem d_MD_begin_23 : decode b_MD_begin 23 = .ok (.iconst 0, 1) := by decide +kernel
theorem d_MD_begin_24 : decode b_MD_begin 24 = .ok (.ireturn, 1) := by decide +kernel
theorem d_MD_begin_25 : decode b_MD_begin 25 = .ok (.iload_n 1, 1) := by decide +kernel
theorem d_MD_begin_26 : decode b_MD_begin 26 = .ok (.ifCond .ne 32, 3) := by decide +kernel
theorem d_MD_begin_29 : decode b_MD_begin 29 = .ok (.aload_n 0, 1) := by decide +kernel
theorem d_MD_begin_30 : decode b_MD_begin 30 = .ok (.dup, 1) := by decide +kernel
theorem d_MD_begin_31 : decode b_MD_begin 31 = .ok (.getfield 108, 3) := by decide +kernel
theorem d_MD_begin_34 : decode b_MD_begin 34 = .ok (.iconst 1, 1) := by decide +kernel
theorem d_MD_begin_35 : decode b_MD_begin 35 = .ok (.iadd, 1) := by decide +kernel
theorem d_MD_begin_36 : decode b_MD_begin 36 = .ok (.putfield 108, 3) := by decide +kernel
theorem d_MD_begin_39 : decode b_MD_begin 39 = .ok (.aload_n 0, 1) := by decide +kernel
theorem d_MD_begin_40 : decode b_MD_begin 40 = .ok (.aload_n 0, 1) := by decide +kernel
theorem d_MD_begin_41 : decode b_MD_begin 41 = .ok (.getfield 108, 3) := by decide +kernel
theorem d_MD_begin_44 : decode b_MD_begin 44 = .ok (.putfield 120, 3) := by decide +kernel
theorem d_MD_begin_47 : decode b_MD_begin 47 = .ok (.aload_n 0, 1) := by decide +kernel
theorem d_MD_begin_48 : decode b_MD_begin 48 = .ok (.aload_n 0, 1) := by decide +kernel
theorem d_MD_begin_49 : decode b_MD_begin 49 = .ok (.getfield 105, 3) := by decide +kernel
theorem d_MD_begin_52 : decode b_MD_begin 52 = .ok (.putfield 132, 3) := by decide +kernel
theorem d_MD_begin_55 : decode b_MD_begin 55 = .ok (.goto 30, 3) := by decide +kernel
theorem d_MD_begin_58 : decode b_MD_begin 58 = .ok (.aload_n 0, 1) := by decide +kernel
theorem d_MD_begin_59 : decode b_MD_begin 59 = .ok (.aload_n 0, 1) := by decide +kernel
theorem d_MD_begin_60 : decode b_MD_begin 60 = .ok (.getfield 41, 3) := by decide +kernel
theorem d_MD_begin_63 : decode b_MD_begin 63 = .ok (.iload_n 1, 1) := by decide +kernel
theorem d_MD_begin_64 : decode b_MD_begin 64 = .ok (.iaload, 1) := by decide +kernel
theorem d_MD_begin_65 : decode b_MD_begin 65 = .ok (.putfield 120, 3) := by decide +kernel
theorem d_MD_begin_68 : decode b_MD_begin 68 = .ok (.aload_n 0, 1) := by decide +kernel
theorem d_MD_begin_69 : decode b_MD_begin 69 = .ok (.aload_n 0, 1) := by decide +kernel
theorem d_MD_begin_70 : decode b_MD_begin 70 = .ok (.getfield 44, 3) := by decide +kernel
theorem d_MD_begin_73 : decode b_MD_begin 73 = .ok (.iload_n 1, 1) := by decide +kernel
theorem d_MD_begin_74 : decode b_MD_begin 74 = .ok (.iaload, 1) := by decide +kernel
theorem d_MD_begin_75 : decode b_MD_begin 75 = .ok (.putfield 132, 3) := by decide +kernel
theorem d_MD_begin_78 : decode b_MD_begin 78 = .ok (.aload_n 0, 1) := by decide +kernel
theorem d_MD_begin_79 : decode b_MD_begin 79 = .ok (.getfield 41, 3) := by decide +kernel
theorem d_MD_begin_82 : decode b_MD_begin 82 = .ok (.iload_n 1, 1) := by decide +kernel
theorem d_MD_begin_83 : decode b_MD_begin 83 = .ok (.iconst 0, 1) := by decide +kernel
theorem d_MD_begin_84 : decode b_MD_begin 84 = .ok (.iastore, 1) := by decide +kernel
theorem d_MD_begin_85 : decode b_MD_begin 85 = .ok (.aload_n 0, 1) := by decide +kernel
theorem d_MD_begin_86 : decode b_MD_begin 86 = .ok (.iload_n 1, 1) := by decide +kernel
theorem d_MD_begin_87 : decode b_MD_begin 87 = .ok (.putfield 47, 3) := by decide +kernel
theorem d_MD_begin_90 : decode b_MD_begin 90 = .ok (.aload_n 0, 1) := by decide +kernel
theorem d_MD_begin_91 : decode b_MD_begin 91 = .ok (.aload_n 0, 1) := by decide +kernel
theorem d_MD_begin_92 : decode b_MD_begin 92 = .ok (.getfield 105, 3) := by decide +kernel
theorem d_MD_begin_95 : decode b_MD_begin 95 = .ok (.aload_n 0, 1) := by decide +kernel
theorem d_MD_begin_96 : decode b_MD_begin 96 = .ok (.getfield 20, 3) := by decide +kernel
theorem d_MD_begin_99 : decode b_MD_begin 99 = .ok (.iload_n 1, 1) := by decide +kernel
theorem d_MD_begin_100 : decode b_MD_begin 100 = .ok (.iaload, 1) := by decide +kernel
theorem d_MD_begin_101 : decode b_MD_begin 101 = .ok (.iadd, 1) := by decide +kernel
theorem d_MD_begin_102 : decode b_MD_begin 102 = .ok (.putfield 135, 3) := by decide +kernel
theorem d_MD_begin_105 : decode b_MD_begin 105 = .ok (.iconst 1, 1) := by decide +kernel
theorem d_MD_begin_106 : decode b_MD_begin 106 = .ok (.ireturn, 1) := by decide +kernel
theorem d_MD_run_0 : decode b_MD_run 0 = .ok (.aload_n 0, 1) := by decide +kernel
theorem d_MD_run_1 : decode b_MD_run 1 = .ok (.aload_n 0, 1) := by decide +kernel
theorem d_MD_run_2 : decode b_MD_run 2 = .ok (.getfield 57, 3) := by decide +kernel
theorem d_MD_run_5 : decode b_MD_run 5 = .ok (.ifCond .ne 7, 3) := by decide +kernel
theorem d_MD_run_8 : decode b_MD_run 8 = .ok (.iconst 1, 1) := by decide +kernel
theorem d_MD_run_9 : decode b_MD_run 9 = .ok (.goto 4, 3) := by decide +kernel
theorem d_MD_run_12 : decode b_MD_run 12 = .ok (.iconst 0, 1) := by decide +kernel
theorem d_MD_run_13 : decode b_MD_run 13 = .ok (.aload_n 0, 1) := by decide +kernel
theorem d_MD_run_14 : decode b_MD_run 14 = .ok (.getfield 57, 3) := by decide +kernel
theorem d_MD_run_17 : decode b_MD_run 17 = .ok (.ifCond .eq 18, 3) := by decide +kernel
theorem d_MD_run_20 : decode b_MD_run 20 = .ok (.iload_n 1, 1) := by decide +kernel
theorem d_MD_run_21 : decode b_MD_run 21 = .ok (.iconst 0, 1) := by decide +kernel
theorem d_MD_run_22 : decode b_MD_run 22 = .ok (.sipush 5000, 3) := by decide +kernel
theorem d_MD_run_25 : decode b_MD_run 25 = .ok (.invokestatic 61, 3) := by decide +kernel
theorem d_MD_run_28 : decode b_MD_run 28 = .ok (.ifCond .ne 7, 3) := by decide +kernel
theorem d_MD_run_31 : decode b_MD_run 31 = .ok (.iconst 1, 1) := by decide +kernel
theorem d_MD_run_32 : decode b_MD_run 32 = .ok (.goto 4, 3) := by decide +kernel
theorem d_MD_run_35 : decode b_MD_run 35 = .ok (.iconst 0, 1) := by decide +kernel
theorem d_MD_run_36 : decode b_MD_run 36 = .ok (.invokevirtual 65, 3) := by decide +kernel
theorem d_MD_run_39 : decode b_MD_run 39 = .ok (.ifCond .eq 5, 3) := by decide +kernel
theorem d_MD_run_42 : decode b_MD_run 42 = .ok (.iconst 0, 1) := by decide +kernel
theorem d_MD_run_43 : decode b_MD_run 43 = .ok (.ireturn, 1) := by decide +kernel
theorem d_MD_run_44 : decode b_MD_run 44 = .ok (.iconst 0, 1) := by decide +kernel
theorem d_MD_run_45 : decode b_MD_run 45 = .ok (.istore_n 2, 1) := by decide +kernel
theorem d_MD_run_46 : decode b_MD_run 46 = .ok (.iconst 0, 1) := by decide +kernel
theorem d_MD_run_47 : decode b_MD_run 47 = .ok (.istore_n 3, 1) := by decide +kernel
theorem d_MD_run_48 : decode b_MD_run 48 = .ok (.iload_n 3, 1) := by decide +kernel
theorem d_MD_run_49 : decode b_MD_run 49 = .ok (.iload_n 1, 1) := by decide +kernel
theorem d_MD_run_50 : decode b_MD_run 50 = .ok (.if_icmp .ge 90, 3) := by decide +kernel
theorem d_MD_run_53 : decode b_MD_run 53 = .ok (.aload_n 0, 1) := by decide +kernel
theorem d_MD_run_54 : decode b_MD_run 54 = .ok (.getfield 47, 3) := by decide +kernel
theorem d_MD_run_57 : decode b_MD_run 57 = .ok (.ifCond .lt 18, 3) := by decide +kernel
theorem d_MD_run_60 : decode b_MD_run 60 = .ok (.aload_n 0, 1) := by decide +kernel
theorem d_MD_run_61 : decode b_MD_run 61 = .ok (.getfield 105, 3) := by decide +kernel
theorem d_MD_run_64 : decode b_MD_run 64 = .ok (.aload_n 0, 1) := by decide +kernel
theorem d_MD_run_65 : decode b_MD_run 65 = .ok (.getfield 135, 3) := by decide +kernel
theorem d_MD_run_68 : decode b_MD_run 68 = .ok (.if_icmp .ne 7, 3) := by decide +kernel
theorem d_MD_run_71 : decode b_MD_run 71 = .ok (.aload_n 0, 1) := by decide +kernel
theorem d_MD_run_72 : decode b_MD_run 72 = .ok (.invokevirtual 138, 3) := by decide +kernel
theorem d_MD_run_75 : decode b_MD_run 75 = .ok (.iconst 0, 1) := by decide +kernel
theorem d_MD_run_76 : decode b_MD_run 76 = .ok (.istore 4, 2) := by decide +kernel
theorem d_MD_run_78 : decode b_MD_run 78 = .ok (.iload 4, 2) := by decide +kernel
theorem d_MD_run_80 : decode b_MD_run 80 = .ok (.aload_n 0, 1) := by decide +kernel
theorem d_MD_run_81 : decode b_MD_run 81 = .ok (.getfield 7, 3) := by decide +kernel
theorem d_MD_run_84 : decode b_MD_run 84 = .ok (.if_icmp .gt 40, 3) := by decide +kernel
theorem d_MD_run_87 : decode b_MD_run 87 = .ok (.aload_n 0, 1) := by decide +kernel
theorem d_MD_run_88 : decode b_MD_run 88 = .ok (.getfield 38, 3) := by decide +kernel
theorem d_MD_run_91 : decode b_MD_run 91 = .ok (.iload 4, 2) := by decide +kernel
theorem d_MD_run_93 : decode b_MD_run 93 = .ok (.iaload, 1) := by decide +kernel
theorem d_MD_run_94 : decode b_MD_run 94 = .ok (.aload_n 0, 1) := by decide +kernel
theorem d_MD_run_95 : decode b_MD_run 95 = .ok (.getfield 105, 3) := by decide +kernel
theorem d_MD_run_98 : decode b_MD_run 98 = .ok (.aload_n 0, 1) := by decide +kernel
theorem d_MD_run_99 : decode b_MD_run 99 = .ok (.getfield 102, 3) := by decide +kernel
theorem d_MD_run_102 : decode b_MD_run 102 = .ok (.irem, 1) := by decide +kernel
theorem d_MD_run_103 : decode b_MD_run 103 = .ok (.if_icmp .ne 15, 3) := by decide +kernel
theorem d_MD_run_106 : decode b_MD_run 106 = .ok (.aload_n 0, 1) := by decide +kernel
theorem d_MD_run_107 : decode b_MD_run 107 = .ok (.iload 4, 2) := by decide +kernel
theorem d_MD_run_109 : decode b_MD_run 109 = .ok (.invokevirtual 141, 3) := by decide +kernel
theorem d_MD_run_112 : decode b_MD_run 112 = .ok (.ifCond .eq 6, 3) := by decide +kernel
theorem d_MD_run_115 : decode b_MD_run 115 = .ok (.iinc 2 1, 3) := by decide +kernel
theorem d_MD_run_118 : decode b_MD_run 118 = .ok (.iinc 4 1, 3) := by decide +kernel
theorem d_MD_run_121 : decode b_MD_run 121 = .ok (.goto (-43), 3) := by decide +kernel
theorem d_MD_run_124 : decode b_MD_run 124 = .ok (.aload_n 0, 1) := by decide +kernel
theorem d_MD_run_125 : decode b_MD_run 125 = .ok (.dup, 1) := by decide +kernel
theorem d_MD_run_126 : decode b_MD_run 126 = .ok (.getfield 105, 3) := by decide +kernel
theorem d_MD_run_129 : decode b_MD_run 129 = .ok (.iconst 1, 1) := by decide +kernel
theorem d_MD_run_130 : decode b_MD_run 130 = .ok (.iadd, 1) := by decide +kernel
theorem d_MD_run_131 : decode b_MD_run 131 = .ok (.putfield 105, 3) := by decide +kernel
theorem d_MD_run_134 : decode b_MD_run 134 = .ok (.iinc 3 1, 3) := by decide +kernel
theorem d_MD_run_137 : decode b_MD_run 137 = .ok (.goto (-89), 3) := by decide +kernel
theorem d_MD_run_140 : decode b_MD_run 140 = .ok (.iload_n 2, 1) := by decide +kernel
theorem d_MD_run_141 : decode b_MD_run 141 = .ok (.ireturn, 1) := by decide +kernel
theorem d_MD_stop_0 : decode b_MD_stop 0 = .ok (.aload_n 0, 1) := by decide +kernel
theorem d_MD_stop_1 : decode b_MD_stop 1 = .ok (.aload_n 0, 1) := by decide +kernel
theorem d_MD_stop_2 : decode b_MD_stop 2 = .ok (.getfield 57, 3) := by decide +kernel
theorem d_MD_stop_5 : decode b_MD_stop 5 = .ok (.ifCond .ne 7, 3) := by decide +kernel
theorem d_MD_stop_8 : decode b_MD_stop 8 = .ok (.iconst 1, 1) := by decide +kernel
theorem d_MD_stop_9 : decode b_MD_stop 9 = .ok (.goto 4, 3) := by decide +kernel
theorem d_MD_stop_12 : decode b_MD_stop 12 = .ok (.iconst 0, 1) := by decide +kernel
theorem d_MD_stop_13 : decode b_MD_stop 13 = .ok (.iconst 0, 1) := by decide +kernel
theorem d_MD_stop_14 : decode b_MD_stop 14 = .ok (.invokevirtual 65, 3) := by decide +kernel
theorem d_MD_stop_17 : decode b_MD_stop 17 = .ok (.ifCond .ne 8, 3) := by decide +kernel
theorem d_MD_stop_20 : decode b_MD_stop 20 = .ok (.aload_n 0, 1) := by decide +kernel
theorem d_MD_stop_21 : decode b_MD_stop 21 = .ok (.iload_n 1, 1) := by decide +kernel
theorem d_MD_stop_22 : decode b_MD_stop 22 = .ok (.putfield 117, 3) := by decide +kernel
theorem d_MD_stop_25 : decode b_MD_stop 25 = .ok (.return_, 1) := by decide +kernel
theorem d_MD_tank_0 : decode b_MD_tank 0 = .ok (.aload_n 0, 1) := by decide +kernel
theorem d_MD_tank_1 : decode b_MD_tank 1 = .ok (.aload_n 0, 1) := by decide +kernel
theorem d_MD_tank_2 : decode b_MD_tank 2 = .ok (.getfield 57, 3) := by decide +kernel
theorem d_MD_tank_5 : decode b_MD_tank 5 = .ok (.ifCond .ne 7, 3) := by decide +kernel
theorem d_MD_tank_8 : decode b_MD_tank 8 = .ok (.iconst 1, 1) := by decide +kernel
theorem d_MD_tank_9 : decode b_MD_tank 9 = .ok (.goto 4, 3) := by decide +kernel
theorem d_MD_tank_12 : decode b_MD_tank 12 = .ok (.iconst 0, 1) := by decide +kernel
theorem d_MD_tank_13 : decode b_MD_tank 13 = .ok (.aload_n 0, 1) := by decide +kernel
theorem d_MD_tank_14 : decode b_MD_tank 14 = .ok (.getfield 57, 3) := by decide +kernel
theorem d_MD_tank_17 : decode b_MD_tank 17 = .ok (.ifCond .eq 19, 3) := by decide +kernel
theorem d_MD_tank_20 : decode b_MD_tank 20 = .ok (.iload_n 1, 1) := by decide +kernel
theorem d_MD_tank_21 : decode b_MD_tank 21 = .ok (.iconst 1, 1) := by decide +kernel
theorem d_MD_tank_22 : decode b_MD_tank 22 = .ok (.aload_n 0, 1) := by decide +kernel
theorem d_MD_tank_23 : decode b_MD_tank 23 = .ok (.getfield 7, 3) := by decide +kernel
theorem d_MD_tank_26 : decode b_MD_tank 26 = .ok (.invokestatic 61, 3) := by decide +kernel
theorem d_MD_tank_29 : decode b_MD_tank 29 = .ok (.ifCond .ne 7, 3) := by decide +kernel
theorem d_MD_tank_32 : decode b_MD_tank 32 = .ok (.iconst 1, 1) := by decide +kernel
theorem d_MD_tank_33 : decode b_MD_tank 33 = .ok (.goto 4, 3) := by decide +kernel
theorem d_MD_tank_36 : decode b_MD_tank 36 = .ok (.iconst 0, 1) := by decide +kernel
theorem d_MD_tank_37 : decode b_MD_tank 37 = .ok (.invokevirtual 65, 3) := by decide +kernel
theorem d_MD_tank_40 : decode b_MD_tank 40 = .ok (.ifCond .eq 7, 3) := by decide +kernel
theorem d_MD_tank_43 : decode b_MD_tank 43 = .ok (.iconst 0, 1) := by decide +kernel
theorem d_MD_tank_44 : decode b_MD_tank 44 = .ok (.goto 9, 3) := by decide +kernel
theorem d_MD_tank_47 : decode b_MD_tank 47 = .ok (.aload_n 0, 1) := by decide +kernel
theorem d_MD_tank_48 : decode b_MD_tank 48 = .ok (.getfield 41, 3) := by decide +kernel
theorem d_MD_tank_51 : decode b_MD_tank 51 = .ok (.iload_n 1, 1) := by decide +kernel
theorem d_MD_tank_52 : decode b_MD_tank 52 = .ok (.iaload, 1) := by decide +kernel
theorem d_MD_tank_53 : decode b_MD_tank 53 = .ok (.ireturn, 1) := by decide +kernel
theorem d_MD_state_0 : decode b_MD_state 0 = .ok (.aload_n 0, 1) := by decide +kernel
theorem d_MD_state_1 : decode b_MD_state 1 = .ok (.aload_n 0, 1) := by decide +kernel
theorem d_MD_state_2 : decode b_MD_state 2 = .ok (.getfield 57, 3) := by decide +kernel
theorem d_MD_state_5 : decode b_MD_state 5 = .ok (.ifCond .ne 7, 3) := by decide +kernel
theorem d_MD_state_8 : decode b_MD_state 8 = .ok (.iconst 1, 1) := by decide +kernel
theorem d_MD_state_9 : decode b_MD_state 9 = .ok (.goto 4, 3) := by decide +kernel
theorem d_MD_state_12 : decode b_MD_state 12 = .ok (.iconst 0, 1) := by decide +kernel
theorem d_MD_state_13 : decode b_MD_state 13 = .ok (.aload_n 0, 1) := by decide +kernel
theorem d_MD_state_14 : decode b_MD_state 14 = .ok (.getfield 57, 3) := by decide +kernel
theorem d_MD_state_17 : decode b_MD_state 17 = .ok (.ifCond .eq 17, 3) := by decide +kernel
theorem d_MD_state_20 : decode b_MD_state 20 = .ok (.iload_n 1, 1) := by decide +kernel
theorem d_MD_state_21 : decode b_MD_state 21 = .ok (.iconst 0, 1) := by decide +kernel
theorem d_MD_state_22 : decode b_MD_state 22 = .ok (.bipush 6, 2) := by decide +kernel
theorem d_MD_state_24 : decode b_MD_state 24 = .ok (.invokestatic 61, 3) := by decide +kernel
theorem d_MD_state_27 : decode b_MD_state 27 = .ok (.ifCond .ne 7, 3) := by decide +kernel
theorem d_MD_state_30 : decode b_MD_state 30 = .ok (.iconst 1, 1) := by decide +kernel
theorem d_MD_state_31 : decode b_MD_state 31 = .ok (.goto 4, 3) := by decide +kernel
theorem d_MD_state_34 : decode b_MD_state 34 = .ok (.iconst 0, 1) := by decide +kernel
theorem d_MD_state_35 : decode b_MD_state 35 = .ok (.invokevirtual 65, 3) := by decide +kernel
theorem d_MD_state_38 : decode b_MD_state 38 = .ok (.ifCond .eq 5, 3) := by decide +kernel
theorem d_MD_state_41 : decode b_MD_state 41 = .ok (.iconst 0, 1) := by decide +kernel
theorem d_MD_state_42 : decode b_MD_state 42 = .ok (.ireturn, 1) := by decide +kernel
theorem d_MD_state_43 : decode b_MD_state 43 = .ok (.iload_n 1, 1) := by decide +kernel
theorem d_MD_state_44 : decode b_MD_state 44 = .ok (.tableswitch 111 0 5 #[40, 45, 50, 55, 60, 65], 40) := by decide +kernel
theorem d_MD_state_84 : decode b_MD_state 84 = .ok (.aload_n 0, 1) := by decide +kernel
theorem d_MD_state_85 : decode b_MD_state 85 = .ok (.getfield 105, 3) := by decide +kernel
theorem d_MD_state_88 : decode b_MD_state 88 = .ok (.ireturn, 1) := by decide +kernel
theorem d_MD_state_89 : decode b_MD_state 89 = .ok (.aload_n 0, 1) := by decide +kernel
theorem d_MD_state_90 : decode b_MD_state 90 = .ok (.getfield 108, 3) := by decide +kernel
theorem d_MD_state_93 : decode b_MD_state 93 = .ok (.ireturn, 1) := by decide +kernel
theorem d_MD_state_94 : decode b_MD_state 94 = .ok (.aload_n 0, 1) := by decide +kernel
theorem d_MD_state_95 : decode b_MD_state 95 = .ok (.getfield 111, 3) := by decide +kernel
theorem d_MD_state_98 : decode b_MD_state 98 = .ok (.ireturn, 1) := by decide +kernel
theorem d_MD_state_99 : decode b_MD_state 99 = .ok (.aload_n 0, 1) := by decide +kernel
theorem d_MD_state_100 : decode b_MD_state 100 = .ok (.getfield 120, 3) := by decide +kernel
theorem d_MD_state_103 : decode b_MD_state 103 = .ok (.ireturn, 1) := by decide +kernel
theorem d_MD_state_104 : decode b_MD_state 104 = .ok (.aload_n 0, 1) := by decide +kernel
theorem d_MD_state_105 : decode b_MD_state 105 = .ok (.getfield 47, 3) := by decide +kernel
theorem d_MD_state_108 : decode b_MD_state 108 = .ok (.ireturn, 1) := by decide +kernel
theorem d_MD_state_109 : decode b_MD_state 109 = .ok (.aload_n 0, 1) := by decide +kernel
theorem d_MD_state_110 : decode b_MD_state 110 = .ok (.getfield 120, 3) := by decide +kernel
theorem d_MD_state_113 : decode b_MD_state 113 = .ok (.istore_n 2, 1) := by decide +kernel
theorem d_MD_state_114 : decode b_MD_state 114 = .ok (.iconst 1, 1) := by decide +kernel
theorem d_MD_state_115 : decode b_MD_state 115 = .ok (.istore_n 3, 1) := by decide +kernel
theorem d_MD_state_116 : decode b_MD_state 116 = .ok (.iload_n 3, 1) := by decide +kernel
theorem d_MD_state_117 : decode b_MD_state 117 = .ok (.aload_n 0, 1) := by decide +kernel
theorem d_MD_state_118 : decode b_MD_state 118 = .ok (.getfield 7, 3) := by decide +kernel
theorem d_MD_state_121 : decode b_MD_state 121 = .ok (.if_icmp .gt 24, 3) := by decide +kernel
theorem d_MD_state_124 : decode b_MD_state 124 = .ok (.aload_n 0, 1) := by decide +kernel
theorem d_MD_state_125 : decode b_MD_state 125 = .ok (.getfield 41, 3) := by decide +kernel
theorem d_MD_state_128 : decode b_MD_state 128 = .ok (.iload_n 3, 1) := by decide +kernel
theorem d_MD_state_129 : decode b_MD_state 129 = .ok (.iaload, 1) := by decide +kernel
theorem d_MD_state_130 : decode b_MD_state 130 = .ok (.ifCond .le 7, 3) := by decide +kernel
theorem d_MD_state_133 : decode b_MD_state 133 = .ok (.iconst 1, 1) := by decide +kernel
theorem d_MD_state_134 : decode b_MD_state 134 = .ok (.goto 4, 3) := by decide +kernel
theorem d_MD_state_137 : decode b_MD_state 137 = .ok (.iload_n 2, 1) := by decide +kernel
theorem d_MD_state_138 : decode b_MD_state 138 = .ok (.istore_n 2, 1) := by decide +kernel
theorem d_MD_state_139 : decode b_MD_state 139 = .ok (.iinc 3 1, 3) := by decide +kernel
theorem d_MD_state_142 : decode b_MD_state 142 = .ok (.goto (-26), 3) := by decide +kernel
theorem d_MD_state_145 : decode b_MD_state 145 = .ok (.iload_n 2, 1) := by decide +kernel
theorem d_MD_state_146 : decode b_MD_state 146 = .ok (.ifCond .ne 7, 3) := by decide +kernel
theorem d_MD_state_149 : decode b_MD_state 149 = .ok (.iconst 1, 1) := by decide +kernel
theorem d_MD_state_150 : decode b_MD_state 150 = .ok (.goto 4, 3) := by decide +kernel
theorem d_MD_state_153 : decode b_MD_state 153 = .ok (.iconst 0, 1) := by decide +kernel
theorem d_MD_state_154 : decode b_MD_state 154 = .ok (.ireturn, 1) := by decide +kernel
theorem d_MD_state_155 : decode b_MD_state 155 = .ok (.aload_n 0, 1) := by decide +kernel
theorem d_MD_state_156 : decode b_MD_state 156 = .ok (.getfield 114, 3) := by decide +kernel
theorem d_MD_state_159 : decode b_MD_state 159 = .ok (.ireturn, 1) := by decide +kernel
