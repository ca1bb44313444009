abbrev b_LY_init : ByteArray := prog_2_method_1_code
abbrev y_LY_init : MethodName := ⟨R_LY, "<init>", "()V"⟩
abbrev w_LY_init : List Cond := .code y_LY_init b_LY_init 1 none :: tb0
theorem yd_LY_init : y_LY_init.cls ≠ "java/lang/invoke/MethodHandle" ∧ y_LY_init.cls ≠ "java/lang/invoke/VarHandle" ∧ (parseMethodDescriptor y_LY_init.desc).map (fun d => d.parameters.length) = some 0 := by decide +kernel
theorem d_LY_init_0 : decode b_LY_init 0 = .ok (.aload_n 0, 1) := by decide +kernel
theorem d_LY_init_1 : decode b_LY_init 1 = .ok (.invokespecial 3, 3) := by decide +kernel
theorem d_LY_init_4 : decode b_LY_init 4 = .ok (.aload_n 0, 1) := by decide +kernel
theorem d_LY_init_5 : decode b_LY_init 5 = .ok (.bipush 6, 2) := by decide +kernel
theorem d_LY_init_7 : decode b_LY_init 7 = .ok (.newarray .int, 2) := by decide +kernel
theorem d_LY_init_9 : decode b_LY_init 9 = .ok (.putfield 9, 3) := by decide +kernel
theorem d_LY_init_12 : decode b_LY_init 12 = .ok (.aload_n 0, 1) := by decide +kernel
theorem d_LY_init_13 : decode b_LY_init 13 = .ok (.bipush 6, 2) := by decide +kernel
theorem d_LY_init_15 : decode b_LY_init 15 = .ok (.newarray .int, 2) := by decide +kernel
theorem d_LY_init_17 : decode b_LY_init 17 = .ok (.putfield 15, 3) := by decide +kernel
theorem d_LY_init_20 : decode b_LY_init 20 = .ok (.aload_n 0, 1) := by decide +kernel
theorem d_LY_init_21 : decode b_LY_init 21 = .ok (.bipush 6, 2) := by decide +kernel
theorem d_LY_init_23 : decode b_LY_init 23 = .ok (.newarray .int, 2) := by decide +kernel
theorem d_LY_init_25 : decode b_LY_init 25 = .ok (.putfield 18, 3) := by decide +kernel
theorem d_LY_init_28 : decode b_LY_init 28 = .ok (.aload_n 0, 1) := by decide +kernel
theorem d_LY_init_29 : decode b_LY_init 29 = .ok (.bipush 7, 2) := by decide +kernel
theorem d_LY_init_31 : decode b_LY_init 31 = .ok (.bipush 7, 2) := by decide +kernel
theorem d_LY_init_33 : decode b_LY_init 33 = .ok (.multianewarray 21 2, 4) := by decide +kernel
theorem d_LY_init_37 : decode b_LY_init 37 = .ok (.putfield 23, 3) := by decide +kernel
theorem d_LY_init_40 : decode b_LY_init 40 = .ok (.aload_n 0, 1) := by decide +kernel
theorem d_LY_init_41 : decode b_LY_init 41 = .ok (.iconst 1, 1) := by decide +kernel
theorem d_LY_init_42 : decode b_LY_init 42 = .ok (.invokevirtual 26, 3) := by decide +kernel
theorem d_LY_init_45 : decode b_LY_init 45 = .ok (.return_, 1) := by decide +kernel
abbrev b_OR_init : ByteArray := prog_3_method_1_code
abbrev y_OR_init : MethodName := ⟨R_OR, "<init>", "()V"⟩
abbrev w_OR_init : List Cond := .code y_OR_init b_OR_init 1 none :: tb0
theorem yd_OR_init : y_OR_init.cls ≠ "java/lang/invoke/MethodHandle" ∧ y_OR_init.cls ≠ "java/lang/invoke/VarHandle" ∧ (parseMethodDescriptor y_OR_init.desc).map (fun d => d.parameters.length) = some 0 := by decide +kernel
theorem d_OR_init_0 : decode b_OR_init 0 = .ok (.aload_n 0, 1) := by decide +kernel
theorem d_OR_init_1 : decode b_OR_init 1 = .ok (.invokespecial 3, 3) := by decide +kernel
theorem d_OR_init_4 : decode b_OR_init 4 = .ok (.aload_n 0, 1) := by decide +kernel
theorem d_OR_init_5 : decode b_OR_init 5 = .ok (.bipush 6, 2) := by decide +kernel
theorem d_OR_init_7 : decode b_OR_init 7 = .ok (.newarray .int, 2) := by decide +kernel
theorem d_OR_init_9 : decode b_OR_init 9 = .ok (.putfield 9, 3) := by decide +kernel
theorem d_OR_init_12 : decode b_OR_init 12 = .ok (.aload_n 0, 1) := by decide +kernel
theorem d_OR_init_13 : decode b_OR_init 13 = .ok (.bipush 6, 2) := by decide +kernel
theorem d_OR_init_15 : decode b_OR_init 15 = .ok (.newarray .int, 2) := by decide +kernel
theorem d_OR_init_17 : decode b_OR_init 17 = .ok (.putfield 15, 3) := by decide +kernel
theorem d_OR_init_20 : decode b_OR_init 20 = .ok (.return_, 1) := by decide +kernel
abbrev b_TM_init : ByteArray := prog_5_method_1_code
abbrev y_TM_init : MethodName := ⟨R_TM, "<init>", "(LHoistPlanner$Layout;)V"⟩
abbrev w_TM_init : List Cond := .code y_TM_init b_TM_init 2 none :: tb0
theorem yd_TM_init : y_TM_init.cls ≠ "java/lang/invoke/MethodHandle" ∧ y_TM_init.cls ≠ "java/lang/invoke/VarHandle" ∧ (parseMethodDescriptor y_TM_init.desc).map (fun d => d.parameters.length) = some 1 := by decide +kernel
theorem d_TM_init_0 : decode b_TM_init 0 = .ok (.aload_n 0, 1) := by decide +kernel
theorem d_TM_init_1 : decode b_TM_init 1 = .ok (.invokespecial 3, 3) := by decide +kernel
theorem d_TM_init_4 : decode b_TM_init 4 = .ok (.aload_n 0, 1) := by decide +kernel
theorem d_TM_init_5 : decode b_TM_init 5 = .ok (.bipush 16, 2) := by decide +kernel
theorem d_TM_init_7 : decode b_TM_init 7 = .ok (.newarray .int, 2) := by decide +kernel
theorem d_TM_init_9 : decode b_TM_init 9 = .ok (.putfield 9, 3) := by decide +kernel
theorem d_TM_init_12 : decode b_TM_init 12 = .ok (.aload_n 0, 1) := by decide +kernel
theorem d_TM_init_13 : decode b_TM_init 13 = .ok (.bipush 16, 2) := by decide +kernel
theorem d_TM_init_15 : decode b_TM_init 15 = .ok (.newarray .int, 2) := by decide +kernel
theorem d_TM_init_17 : decode b_TM_init 17 = .ok (.putfield 15, 3) := by decide +kernel
theorem d_TM_init_20 : decode b_TM_init 20 = .ok (.aload_n 0, 1) := by decide +kernel
theorem d_TM_init_21 : decode b_TM_init 21 = .ok (.bipush 16, 2) := by decide +kernel
theorem d_TM_init_23 : decode b_TM_init 23 = .ok (.newarray .int, 2) := by decide +kernel
theorem d_TM_init_25 : decode b_TM_init 25 = .ok (.putfield 18, 3) := by decide +kernel
theorem d_TM_init_28 : decode b_TM_init 28 = .ok (.aload_n 0, 1) := by decide +kernel
theorem d_TM_init_29 : decode b_TM_init 29 = .ok (.bipush 16, 2) := by decide +kernel
theorem d_TM_init_31 : decode b_TM_init 31 = .ok (.newarray .int, 2) := by decide +kernel
theorem d_TM_init_33 : decode b_TM_init 33 = .ok (.putfield 21, 3) := by decide +kernel
theorem d_TM_init_36 : decode b_TM_init 36 = .ok (.aload_n 0, 1) := by decide +kernel
theorem d_TM_init_37 : decode b_TM_init 37 = .ok (.bipush 6, 2) := by decide +kernel
theorem d_TM_init_39 : decode b_TM_init 39 = .ok (.newarray .int, 2) := by decide +kernel
theorem d_TM_init_41 : decode b_TM_init 41 = .ok (.putfield 24, 3) := by decide +kernel
theorem d_TM_init_44 : decode b_TM_init 44 = .ok (.aload_n 0, 1) := by decide +kernel
theorem d_TM_init_45 : decode b_TM_init 45 = .ok (.bipush 6, 2) := by decide +kernel
theorem d_TM_init_47 : decode b_TM_init 47 = .ok (.newarray .int, 2) := by decide +kernel
theorem d_TM_init_49 : decode b_TM_init 49 = .ok (.putfield 27, 3) := by decide +kernel
theorem d_TM_init_52 : decode b_TM_init 52 = .ok (.aload_n 0, 1) := by decide +kernel
theorem d_TM_init_53 : decode b_TM_init 53 = .ok (.aload_n 1, 1) := by decide +kernel
theorem d_TM_init_54 : decode b_TM_init 54 = .ok (.putfield 30, 3) := by decide +kernel
theorem d_TM_init_57 : decode b_TM_init 57 = .ok (.return_, 1) := by decide +kernel
abbrev b_PL_init : ByteArray := prog_4_method_1_code
abbrev y_PL_init : MethodName := ⟨R_PL, "<init>", "()V"⟩
abbrev w_PL_init : List Cond := .code y_PL_init b_PL_init 1 none :: tb0
theorem yd_PL_init : y_PL_init.cls ≠ "java/lang/invoke/MethodHandle" ∧ y_PL_init.cls ≠ "java/lang/invoke/VarHandle" ∧ (parseMethodDescriptor y_PL_init.desc).map (fun d => d.parameters.length) = some 0 := by decide +kernel
theorem d_PL_init_0 : decode b_PL_init 0 = .ok (.aload_n 0, 1) := by decide +kernel
theorem d_PL_init_1 : decode b_PL_init 1 = .ok (.invokespecial 3, 3) := by decide +kernel
theorem d_PL_init_4 : decode b_PL_init 4 = .ok (.aload_n 0, 1) := by decide +kernel
theorem d_PL_init_5 : decode b_PL_init 5 = .ok (.new 9, 3) := by decide +kernel
theorem d_PL_init_8 : decode b_PL_init 8 = .ok (.dup, 1) := by decide +kernel
theorem d_PL_init_9 : decode b_PL_init 9 = .ok (.invokespecial 11, 3) := by decide +kernel
theorem d_PL_init_12 : decode b_PL_init 12 = .ok (.putfield 12, 3) := by decide +kernel
theorem d_PL_init_15 : decode b_PL_init 15 = .ok (.aload_n 0, 1) := by decide +kernel
theorem d_PL_init_16 : decode b_PL_init 16 = .ok (.bipush 6, 2) := by decide +kernel
theorem d_PL_init_18 : decode b_PL_init 18 = .ok (.newarray .int, 2) := by decide +kernel
theorem d_PL_init_20 : decode b_PL_init 20 = .ok (.putfield 18, 3) := by decide +kernel
theorem d_PL_init_23 : decode b_PL_init 23 = .ok (.return_, 1) := by decide +kernel
abbrev b_WK_init : ByteArray := prog_6_method_1_code
abbrev y_WK_init : MethodName := ⟨R_WK, "<init>", "(LHoistPlanner$Layout;LHoistPlanner$Plan;)V"⟩
abbrev w_WK_init : List Cond := .code y_WK_init b_WK_init 3 none :: tb0
theorem yd_WK_init : y_WK_init.cls ≠ "java/lang/invoke/MethodHandle" ∧ y_WK_init.cls ≠ "java/lang/invoke/VarHandle" ∧ (parseMethodDescriptor y_WK_init.desc).map (fun d => d.parameters.length) = some 2 := by decide +kernel
theorem d_WK_init_0 : decode b_WK_init 0 = .ok (.aload_n 0, 1) := by decide +kernel
theorem d_WK_init_1 : decode b_WK_init 1 = .ok (.invokespecial 3, 3) := by decide +kernel
theorem d_WK_init_4 : decode b_WK_init 4 = .ok (.aload_n 0, 1) := by decide +kernel
theorem d_WK_init_5 : decode b_WK_init 5 = .ok (.bipush 6, 2) := by decide +kernel
theorem d_WK_init_7 : decode b_WK_init 7 = .ok (.newarray .int, 2) := by decide +kernel
theorem d_WK_init_9 : decode b_WK_init 9 = .ok (.putfield 9, 3) := by decide +kernel
theorem d_WK_init_12 : decode b_WK_init 12 = .ok (.aload_n 0, 1) := by decide +kernel
theorem d_WK_init_13 : decode b_WK_init 13 = .ok (.bipush 6, 2) := by decide +kernel
theorem d_WK_init_15 : decode b_WK_init 15 = .ok (.newarray .int, 2) := by decide +kernel
theorem d_WK_init_17 : decode b_WK_init 17 = .ok (.putfield 15, 3) := by decide +kernel
theorem d_WK_init_20 : decode b_WK_init 20 = .ok (.aload_n 0, 1) := by decide +kernel
theorem d_WK_init_21 : decode b_WK_init 21 = .ok (.aload_n 1, 1) := by decide +kernel
theorem d_WK_init_22 : decode b_WK_init 22 = .ok (.putfield 18, 3) := by decide +kernel
theorem d_WK_init_25 : decode b_WK_init 25 = .ok (.aload_n 0, 1) := by decide +kernel
theorem d_WK_init_26 : decode b_WK_init 26 = .ok (.aload_n 2, 1) := by decide +kernel
theorem d_WK_init_27 : decode b_WK_init 27 = .ok (.putfield 22, 3) := by decide +kernel
theorem d_WK_init_30 : decode b_WK_init 30 = .ok (.aload_n 0, 1) := by decide +kernel
theorem d_WK_init_31 : decode b_WK_init 31 = .ok (.invokevirtual 26, 3) := by decide +kernel
theorem d_WK_init_34 : decode b_WK_init 34 = .ok (.return_, 1) := by decide +kernel
abbrev b_HP_init : ByteArray := prog_1_method_1_code
abbrev y_HP_init : MethodName := ⟨R_HP, "<init>", "()V"⟩
abbrev w_HP_init : List Cond := .code y_HP_init b_HP_init 1 none :: tb0
theorem yd_HP_init : y_HP_init.cls ≠ "java/lang/invoke/MethodHandle" ∧ y_HP_init.cls ≠ "java/lang/invoke/VarHandle" ∧ (parseMethodDescriptor y_HP_init.desc).map (fun d => d.parameters.length) = some 0 := by decide +kernel
theorem d_HP_init_0 : decode b_HP_init 0 = .ok (.aload_n 0, 1) := by decide +kernel
theorem d_HP_init_1 : decode b_HP_init 1 = .ok (.invokespecial 3, 3) := by decide +kernel
theorem d_HP_init_4 : decode b_HP_init 4 = .ok (.aload_n 0, 1) := by decide +kernel
theorem d_HP_init_5 : decode b_HP_init 5 = .ok (.new 9, 3) := by decide +kernel
theorem d_HP_init_8 : decode b_HP_init 8 = .ok (.dup, 1) := by decide +kernel
theorem d_HP_init_9 : decode b_HP_init 9 = .ok (.invokespecial 11, 3) := by decide +kernel
theorem d_HP_init_12 : decode b_HP_init 12 = .ok (.putfield 12, 3) := by decide +kernel
theorem d_HP_init_15 : decode b_HP_init 15 = .ok (.aload_n 0, 1) := by decide +kernel
theorem d_HP_init_16 : decode b_HP_init 16 = .ok (.new 16, 3) := by decide +kernel
theorem d_HP_init_19 : decode b_HP_init 19 = .ok (.dup, 1) := by decide +kernel
theorem d_HP_init_20 : decode b_HP_init 20 = .ok (.invokespecial 18, 3) := by decide +kernel
theorem d_HP_init_23 : decode b_HP_init 23 = .ok (.putfield 19, 3) := by decide +kernel
theorem d_HP_init_26 : decode b_HP_init 26 = .ok (.aload_n 0, 1) := by decide +kernel
theorem d_HP_init_27 : decode b_HP_init 27 = .ok (.new 23, 3) := by decide +kernel
theorem d_HP_init_30 : decode b_HP_init 30 = .ok (.dup, 1) := by decide +kernel
theorem d_HP_init_31 : decode b_HP_init 31 = .ok (.aload_n 0, 1) := by decide +kernel
theorem d_HP_init_32 : decode b_HP_init 32 = .ok (.getfield 12, 3) := by decide +kernel
theorem d_HP_init_35 : decode b_HP_init 35 = .ok (.invokespecial 25, 3) := by decide +kernel
theorem d_HP_init_38 : decode b_HP_init 38 = .ok (.putfield 28, 3) := by decide +kernel
theorem d_HP_init_41 : decode b_HP_init 41 = .ok (.aload_n 0, 1) := by decide +kernel
theorem d_HP_init_42 : decode b_HP_init 42 = .ok (.new 32, 3) := by decide +kernel
theorem d_HP_init_45 : decode b_HP_init 45 = .ok (.dup, 1) := by decide +kernel
theorem d_HP_init_46 : decode b_HP_init 46 = .ok (.invokespecial 34, 3) := by decide +kernel
theorem d_HP_init_49 : decode b_HP_init 49 = .ok (.putfield 35, 3) := by decide +kernel
theorem d_HP_init_52 : decode b_HP_init 52 = .ok (.aload_n 0, 1) := by decide +kernel
theorem d_HP_init_53 : decode b_HP_init 53 = .ok (.new 39, 3) := by decide +kernel
theorem d_HP_init_56 : decode b_HP_init 56 = .ok (.dup, 1) := by decide +kernel
theorem d_HP_init_57 : decode b_HP_init 57 = .ok (.aload_n 0, 1) := by decide +kernel
theorem d_HP_init_58 : decode b_HP_init 58 = .ok (.getfield 12, 3) := by decide +kernel
theorem d_HP_init_61 : decode b_HP_init 61 = .ok (.aload_n 0, 1) := by decide +kernel
theorem d_HP_init_62 : decode b_HP_init 62 = .ok (.getfield 35, 3) := by decide +kernel
theorem d_HP_init_65 : decode b_HP_init 65 = .ok (.invokespecial 41, 3) := by decide +kernel
theorem d_HP_init_68 : decode b_HP_init 68 = .ok (.putfield 44, 3) := by decide +kernel
theorem d_HP_init_71 : decode b_HP_init 71 = .ok (.aload_n 0, 1) := by decide +kernel
theorem d_HP_init_72 : decode b_HP_init 72 = .ok (.iconst 0, 1) := by decide +kernel
theorem d_HP_init_73 : decode b_HP_init 73 = .ok (.putfield 48, 3) := by decide +kernel
theorem d_HP_init_76 : decode b_HP_init 76 = .ok (.return_, 1) := by decide +kernel
abbrev b_MD_init : ByteArray := prog_8_method_1_code
abbrev y_MD_init : MethodName := ⟨R_MD, "<init>", "()V"⟩
abbrev w_MD_init : List Cond := .code y_MD_init b_MD_init 1 none :: tb0
theorem yd_MD_init : y_MD_init.cls ≠ "java/lang/invoke/MethodHandle" ∧ y_MD_init.cls ≠ "java/lang/invoke/VarHandle" ∧ (parseMethodDescriptor y_MD_init.desc).map (fun d => d.parameters.length) = some 0 := by decide +kernel
theorem d_MD_init_0 : decode b_MD_init 0 = .ok (.aload_n 0, 1) := by decide +kernel
theorem d_MD_init_1 : decode b_MD_init 1 = .ok (.invokespecial 1, 3) := by decide +kernel
theorem d_MD_init_4 : decode b_MD_init 4 = .ok (.aload_n 0, 1) := by decide +kernel
theorem d_MD_init_5 : decode b_MD_init 5 = .ok (.iconst 1, 1) := by decide +kernel
theorem d_MD_init_6 : decode b_MD_init 6 = .ok (.putfield 7, 3) := by decide +kernel
theorem d_MD_init_9 : decode b_MD_init 9 = .ok (.aload_n 0, 1) := by decide +kernel
theorem d_MD_init_10 : decode b_MD_init 10 = .ok (.bipush 6, 2) := by decide +kernel
theorem d_MD_init_12 : decode b_MD_init 12 = .ok (.newarray .int, 2) := by decide +kernel
theorem d_MD_init_14 : decode b_MD_init 14 = .ok (.putfield 13, 3) := by decide +kernel
theorem d_MD_init_17 : decode b_MD_init 17 = .ok (.aload_n 0, 1) := by decide +kernel
theorem d_MD_init_18 : decode b_MD_init 18 = .ok (.bipush 6, 2) := by decide +kernel
theorem d_MD_init_20 : decode b_MD_init 20 = .ok (.newarray .int, 2) := by decide +kernel
theorem d_MD_init_22 : decode b_MD_init 22 = .ok (.putfield 17, 3) := by decide +kernel
theorem d_MD_init_25 : decode b_MD_init 25 = .ok (.aload_n 0, 1) := by decide +kernel
theorem d_MD_init_26 : decode b_MD_init 26 = .ok (.bipush 6, 2) := by decide +kernel
theorem d_MD_init_28 : decode b_MD_init 28 = .ok (.newarray .int, 2) := by decide +kernel
theorem d_MD_init_30 : decode b_MD_init 30 = .ok (.putfield 20, 3) := by decide +kernel
theorem d_MD_init_33 : decode b_MD_init 33 = .ok (.aload_n 0, 1) := by decide +kernel
theorem d_MD_init_34 : decode b_MD_init 34 = .ok (.bipush 49, 2) := by decide +kernel
theorem d_MD_init_36 : decode b_MD_init 36 = .ok (.newarray .int, 2) := by decide +kernel
theorem d_MD_init_38 : decode b_MD_init 38 = .ok (.putfield 23, 3) := by decide +kernel
theorem d_MD_init_41 : decode b_MD_init 41 = .ok (.aload_n 0, 1) := by decide +kernel
theorem d_MD_init_42 : decode b_MD_init 42 = .ok (.bipush 6, 2) := by decide +kernel
theorem d_MD_init_44 : decode b_MD_init 44 = .ok (.newarray .int, 2) := by decide +kernel
theorem d_MD_init_46 : decode b_MD_init 46 = .ok (.putfield 26, 3) := by decide +kernel
theorem d_MD_init_49 : decode b_MD_init 49 = .ok (.aload_n 0, 1) := by decide +kernel
theorem d_MD_init_50 : decode b_MD_init 50 = .ok (.bipush 6, 2) := by decide +kernel
theorem d_MD_init_52 : decode b_MD_init 52 = .ok (.newarray .int, 2) := by decide +kernel
theorem d_MD_init_54 : decode b_MD_init 54 = .ok (.putfield 29, 3) := by decide +kernel
theorem d_MD_init_57 : decode b_MD_init 57 = .ok (.aload_n 0, 1) := by decide +kernel
theorem d_MD_init_58 : decode b_MD_init 58 = .ok (.bipush 6, 2) := by decide +kernel
theorem d_MD_init_60 : decode b_MD_init 60 = .ok (.newarray .int, 2) := by decide +kernel
theorem d_MD_init_62 : decode b_MD_init 62 = .ok (.putfield 32, 3) := by decide +kernel
theorem d_MD_init_65 : decode b_MD_init 65 = .ok (.aload_n 0, 1) := by decide +kernel
theorem d_MD_init_66 : decode b_MD_init 66 = .ok (.bipush 6, 2) := by decide +kernel
theorem d_MD_init_68 : decode b_MD_init 68 = .ok (.newarray .int, 2) := by decide +kernel
theorem d_MD_init_70 : decode b_MD_init 70 = .ok (.putfield 35, 3) := by decide +kernel
theorem d_MD_init_73 : decode b_MD_init 73 = .ok (.aload_n 0, 1) := by decide +kernel
theorem d_MD_init_74 : decode b_MD_init 74 = .ok (.bipush 6, 2) := by decide +kernel
theorem d_MD_init_76 : decode b_MD_init 76 = .ok (.newarray .int, 2) := by decide +kernel
theorem d_MD_init_78 : decode b_MD_init 78 = .ok (.putfield 38, 3) := by decide +kernel
theorem d_MD_init_81 : decode b_MD_init 81 = .ok (.aload_n 0, 1) := by decide +kernel
theorem d_MD_init_82 : decode b_MD_init 82 = .ok (.bipush 7, 2) := by decide +kernel
theorem d_MD_init_84 : decode b_MD_init 84 = .ok (.newarray .int, 2) := by decide +kernel
theorem d_MD_init_86 : decode b_MD_init 86 = .ok (.putfield 41, 3) := by decide +kernel
theorem d_MD_init_89 : decode b_MD_init 89 = .ok (.aload_n 0, 1) := by decide +kernel
theorem d_MD_init_90 : decode b_MD_init 90 = .ok (.bipush 7, 2) := by decide +kernel
theorem d_MD_init_92 : decode b_MD_init 92 = .ok (.newarray .int, 2) := by decide +kernel
theorem d_MD_init_94 : decode b_MD_init 94 = .ok (.putfield 44, 3) := by decide +kernel
theorem d_MD_init_97 : decode b_MD_init 97 = .ok (.aload_n 0, 1) := by decide +kernel
theorem d_MD_init_98 : decode b_MD_init 98 = .ok (.iconst (-1), 1) := by decide +kernel
theorem d_MD_init_99 : decode b_MD_init 99 = .ok (.putfield 47, 3) := by decide +kernel
theorem d_MD_init_102 : decode b_MD_init 102 = .ok (.aload_n 0, 1) := by decide +kernel
theorem d_MD_init_103 : decode b_MD_init 103 = .ok (.iconst 1, 1) := by decide +kernel
theorem d_MD_init_104 : decode b_MD_init 104 = .ok (.invokevirtual 50, 3) := by decide +kernel
theorem d_MD_init_107 : decode b_MD_init 107 = .ok (.return_, 1) := by decide +kernel
theorem tx_nPL_11 : Cond.methodLinkNest R_PL 11 y_OR_init "HoistPlanner" ∈ tx0 := tx_t 126 (by decide +kernel) rfl
theorem tx_nHP_18 : Cond.methodLinkNest R_HP 18 y_OR_init "HoistPlanner" ∈ tx0 := tx_t 69 (by decide +kernel) rfl
theorem tx_nHP_34 : Cond.methodLinkNest R_HP 34 y_PL_init "HoistPlanner" ∈ tx0 := tx_t 121 (by decide +kernel) rfl
theorem tw_386 : (Cond.methodLink R_LY 3 objectInit : Cond) ∈ tb0 := tb_t 28 (by decide +kernel) (by decide +kernel)
theorem tw_387 : (Cond.instanceMethod objectInit : Cond) ∈ tb0 := tb_t 21 (by decide +kernel) (by decide +kernel)
theorem tw_388 : (Cond.code objectInit ⟨#[0xb1]⟩ 1 none : Cond) ∈ tb0 := tb_t 22 (by decide +kernel) (by decide +kernel)
theorem tw_389 : (Cond.arrayClass .int : Cond) ∈ tb0 := tb_t 66 (by decide +kernel) (by decide +kernel)
theorem tw_390 : (Cond.classLink R_LY 21 "[[I" : Cond) ∈ tb0 := tb_t 29 (by decide +kernel) (by decide +kernel)
theorem tw_391 : (Cond.methodLink R_LY 26 y_LY_reset : Cond) ∈ tb0 := tb_t 31 (by decide +kernel) (by decide +kernel)
theorem tw_392 : (Cond.methodLink R_OR 3 objectInit : Cond) ∈ tb0 := tb_t 72 (by decide +kernel) (by decide +kernel)
theorem tw_393 : (Cond.methodLink R_TM 3 objectInit : Cond) ∈ tb0 := tb_t 92 (by decide +kernel) (by decide +kernel)
theorem tw_394 : (Cond.methodLink R_PL 3 objectInit : Cond) ∈ tb0 := tb_t 124 (by decide +kernel) (by decide +kernel)
theorem tw_395 : (Cond.classLink R_PL 9 R_OR : Cond) ∈ tb0 := tb_t 125 (by decide +kernel) (by decide +kernel)
theorem tw_396 : (Cond.instantiable R_OR 3 : Cond) ∈ tb0 := tb_t 68 (by decide +kernel) (by decide +kernel)
theorem tw_397 : (Cond.instanceMethod y_OR_init : Cond) ∈ tb0 := tb_t 70 (by decide +kernel) (by decide +kernel)
theorem tw_398 : (Cond.code y_OR_init b_OR_init 1 none : Cond) ∈ tb0 := tb_t 71 (by decide +kernel) (by decide +kernel)
theorem tw_399 : (Cond.methodLink R_WK 3 objectInit : Cond) ∈ tb0 := tb_t 148 (by decide +kernel) (by decide +kernel)
theorem tw_400 : (Cond.methodLink R_WK 26 y_WK_reset : Cond) ∈ tb0 := tb_t 149 (by decide +kernel) (by decide +kernel)
theorem tw_401 : (Cond.methodLink R_HP 3 objectInit : Cond) ∈ tb0 := tb_t 20 (by decide +kernel) (by decide +kernel)
theorem tw_402 : (Cond.classLink R_HP 9 R_LY : Cond) ∈ tb0 := tb_t 23 (by decide +kernel) (by decide +kernel)
theorem tw_403 : (Cond.instantiable R_LY 5 : Cond) ∈ tb0 := tb_t 24 (by decide +kernel) (by decide +kernel)
theorem tw_404 : (Cond.instanceMethod y_LY_init : Cond) ∈ tb0 := tb_t 26 (by decide +kernel) (by decide +kernel)
theorem tw_405 : (Cond.code y_LY_init b_LY_init 1 none : Cond) ∈ tb0 := tb_t 27 (by decide +kernel) (by decide +kernel)
theorem tw_406 : (Cond.methodLink R_HP 11 y_LY_init : Cond) ∈ tb0 := tb_t 25 (by decide +kernel) (by decide +kernel)
theorem tw_407 : (Cond.classLink R_HP 16 R_OR : Cond) ∈ tb0 := tb_t 67 (by decide +kernel) (by decide +kernel)
theorem tw_408 : (Cond.classLink R_HP 23 R_TM : Cond) ∈ tb0 := tb_t 87 (by decide +kernel) (by decide +kernel)
theorem tw_409 : (Cond.instantiable R_TM 8 : Cond) ∈ tb0 := tb_t 88 (by decide +kernel) (by decide +kernel)
theorem tw_410 : (Cond.instanceMethod y_TM_init : Cond) ∈ tb0 := tb_t 90 (by decide +kernel) (by decide +kernel)
theorem tw_411 : (Cond.code y_TM_init b_TM_init 2 none : Cond) ∈ tb0 := tb_t 91 (by decide +kernel) (by decide +kernel)
theorem tw_412 : (Cond.methodLink R_HP 25 y_TM_init : Cond) ∈ tb0 := tb_t 89 (by decide +kernel) (by decide +kernel)
theorem tw_413 : (Cond.classLink R_HP 32 R_PL : Cond) ∈ tb0 := tb_t 119 (by decide +kernel) (by decide +kernel)
theorem tw_414 : (Cond.instantiable R_PL 3 : Cond) ∈ tb0 := tb_t 120 (by decide +kernel) (by decide +kernel)
theorem tw_415 : (Cond.instanceMethod y_PL_init : Cond) ∈ tb0 := tb_t 122 (by decide +kernel) (by decide +kernel)
theorem tw_416 : (Cond.code y_PL_init b_PL_init 1 none : Cond) ∈ tb0 := tb_t 123 (by decide +kernel) (by decide +kernel)
theorem tw_417 : (Cond.classLink R_HP 39 R_WK : Cond) ∈ tb0 := tb_t 143 (by decide +kernel) (by decide +kernel)
theorem tw_418 : (Cond.instantiable R_WK 15 : Cond) ∈ tb0 := tb_t 144 (by decide +kernel) (by decide +kernel)
theorem tw_419 : (Cond.instanceMethod y_WK_init : Cond) ∈ tb0 := tb_t 146 (by decide +kernel) (by decide +kernel)
theorem tw_420 : (Cond.code y_WK_init b_WK_init 3 none : Cond) ∈ tb0 := tb_t 147 (by decide +kernel) (by decide +kernel)
theorem tw_421 : (Cond.methodLink R_HP 41 y_WK_init : Cond) ∈ tb0 := tb_t 145 (by decide +kernel) (by decide +kernel)
theorem tw_422 : (Cond.methodLink R_MD 1 objectInit : Cond) ∈ tb0 := tb_t 547 (by decide +kernel) (by decide +kernel)
