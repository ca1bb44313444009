abbrev b_LW_line : ByteArray := method_3_code
abbrev y_LW_line : MethodName := ⟨R_LW, "line", "(LHoistPlanner;I)I"⟩
abbrev w_LW_line : List Cond := .codeWith y_LW_line b_LW_line 3 (some .int) [(0, 5, 8, 13)] :: tb0
theorem yd_LW_line : y_LW_line.cls ≠ "java/lang/invoke/MethodHandle" ∧ y_LW_line.cls ≠ "java/lang/invoke/VarHandle" ∧ (parseMethodDescriptor y_LW_line.desc).map (fun d => d.parameters.length) = some 2 := by decide +kernel
abbrev b_LW_soak : ByteArray := method_4_code
abbrev y_LW_soak : MethodName := ⟨R_LW, "soak", "(LHoistPlanner;III)I"⟩
abbrev w_LW_soak : List Cond := .codeWith y_LW_soak b_LW_soak 5 (some .int) [(0, 7, 10, 13)] :: tb0
theorem yd_LW_soak : y_LW_soak.cls ≠ "java/lang/invoke/MethodHandle" ∧ y_LW_soak.cls ≠ "java/lang/invoke/VarHandle" ∧ (parseMethodDescriptor y_LW_soak.desc).map (fun d => d.parameters.length) = some 4 := by decide +kernel
abbrev b_LW_loaded : ByteArray := method_5_code
abbrev y_LW_loaded : MethodName := ⟨R_LW, "loaded", "(LHoistPlanner;II)I"⟩
abbrev w_LW_loaded : List Cond := .codeWith y_LW_loaded b_LW_loaded 4 (some .int) [(0, 6, 9, 13)] :: tb0
theorem yd_LW_loaded : y_LW_loaded.cls ≠ "java/lang/invoke/MethodHandle" ∧ y_LW_loaded.cls ≠ "java/lang/invoke/VarHandle" ∧ (parseMethodDescriptor y_LW_loaded.desc).map (fun d => d.parameters.length) = some 3 := by decide +kernel
abbrev b_LW_empty : ByteArray := method_6_code
abbrev y_LW_empty : MethodName := ⟨R_LW, "empty", "(LHoistPlanner;III)I"⟩
abbrev w_LW_empty : List Cond := .codeWith y_LW_empty b_LW_empty 5 (some .int) [(0, 7, 10, 13)] :: tb0
theorem yd_LW_empty : y_LW_empty.cls ≠ "java/lang/invoke/MethodHandle" ∧ y_LW_empty.cls ≠ "java/lang/invoke/VarHandle" ∧ (parseMethodDescriptor y_LW_empty.desc).map (fun d => d.parameters.length) = some 4 := by decide +kernel
abbrev b_LW_solve : ByteArray := method_7_code
abbrev y_LW_solve : MethodName := ⟨R_LW, "solve", "(LHoistPlanner;[J)I"⟩
abbrev w_LW_solve : List Cond := .codeWith y_LW_solve b_LW_solve 3 (some .int) [(0, 8, 11, 30)] :: tb0
theorem yd_LW_solve : y_LW_solve.cls ≠ "java/lang/invoke/MethodHandle" ∧ y_LW_solve.cls ≠ "java/lang/invoke/VarHandle" ∧ (parseMethodDescriptor y_LW_solve.desc).map (fun d => d.parameters.length) = some 2 := by decide +kernel
abbrev b_LW_least : ByteArray := method_8_code
abbrev y_LW_least : MethodName := ⟨R_LW, "least", "(LHoistPlanner;I[J)I"⟩
abbrev w_LW_least : List Cond := .codeWith y_LW_least b_LW_least 4 (some .int) [(0, 9, 12, 30), (0, 9, 15, 13)] :: tb0
theorem yd_LW_least : y_LW_least.cls ≠ "java/lang/invoke/MethodHandle" ∧ y_LW_least.cls ≠ "java/lang/invoke/VarHandle" ∧ (parseMethodDescriptor y_LW_least.desc).map (fun d => d.parameters.length) = some 3 := by decide +kernel
abbrev b_LW_plan : ByteArray := method_9_code
abbrev y_LW_plan : MethodName := ⟨R_LW, "plan", "(LHoistPlanner;II[J)I"⟩
abbrev w_LW_plan : List Cond := .codeWith y_LW_plan b_LW_plan 5 (some .int) [(0, 10, 13, 30), (0, 10, 17, 13)] :: tb0
theorem yd_LW_plan : y_LW_plan.cls ≠ "java/lang/invoke/MethodHandle" ∧ y_LW_plan.cls ≠ "java/lang/invoke/VarHandle" ∧ (parseMethodDescriptor y_LW_plan.desc).map (fun d => d.parameters.length) = some 4 := by decide +kernel
abbrev b_LW_run : ByteArray := method_10_code
abbrev y_LW_run : MethodName := ⟨R_LW, "run", "(LHoistPlanner;I[J)I"⟩
abbrev w_LW_run : List Cond := .codeWith y_LW_run b_LW_run 4 (some .int) [(0, 9, 12, 30), (0, 9, 15, 13)] :: tb0
theorem yd_LW_run : y_LW_run.cls ≠ "java/lang/invoke/MethodHandle" ∧ y_LW_run.cls ≠ "java/lang/invoke/VarHandle" ∧ (parseMethodDescriptor y_LW_run.desc).map (fun d => d.parameters.length) = some 3 := by decide +kernel
abbrev b_LW_stop : ByteArray := method_11_code
abbrev y_LW_stop : MethodName := ⟨R_LW, "stop", "(LHoistPlanner;Z)I"⟩
abbrev w_LW_stop : List Cond := .codeWith y_LW_stop b_LW_stop 3 (some .int) [(0, 5, 8, 30)] :: tb0
theorem yd_LW_stop : y_LW_stop.cls ≠ "java/lang/invoke/MethodHandle" ∧ y_LW_stop.cls ≠ "java/lang/invoke/VarHandle" ∧ (parseMethodDescriptor y_LW_stop.desc).map (fun d => d.parameters.length) = some 2 := by decide +kernel
abbrev b_LW_tank : ByteArray := method_12_code
abbrev y_LW_tank : MethodName := ⟨R_LW, "tank", "(LHoistPlanner;I[J)I"⟩
abbrev w_LW_tank : List Cond := .codeWith y_LW_tank b_LW_tank 4 (some .int) [(0, 9, 12, 30), (0, 9, 15, 13)] :: tb0
theorem yd_LW_tank : y_LW_tank.cls ≠ "java/lang/invoke/MethodHandle" ∧ y_LW_tank.cls ≠ "java/lang/invoke/VarHandle" ∧ (parseMethodDescriptor y_LW_tank.desc).map (fun d => d.parameters.length) = some 3 := by decide +kernel
abbrev b_LW_state : ByteArray := method_13_code
abbrev y_LW_state : MethodName := ⟨R_LW, "state", "(LHoistPlanner;I[J)I"⟩
abbrev w_LW_state : List Cond := .codeWith y_LW_state b_LW_state 4 (some .int) [(0, 9, 12, 30), (0, 9, 15, 13)] :: tb0
theorem yd_LW_state : y_LW_state.cls ≠ "java/lang/invoke/MethodHandle" ∧ y_LW_state.cls ≠ "java/lang/invoke/VarHandle" ∧ (parseMethodDescriptor y_LW_state.desc).map (fun d => d.parameters.length) = some 3 := by decide +kernel
theorem tw_340 : (Cond.methodLink R_LW 7 y_HP_line : Cond) ∈ tb0 := tb_t 251 (by decide +kernel) (by decide +kernel)
theorem tw_341 : (Cond.instanceMethod y_HP_line : Cond) ∈ tb0 := tb_t 252 (by decide +kernel) (by decide +kernel)
theorem tw_342 : (Cond.selects R_HP y_HP_line y_HP_line : Cond) ∈ tb0 := tb_t 253 (by decide +kernel) (by decide +kernel)
theorem tw_343 : (Cond.code y_HP_line b_HP_line 2 none : Cond) ∈ tb0 := tb_t 254 (by decide +kernel) (by decide +kernel)
theorem tw_344 : (Cond.classLink R_LW 13 "java/lang/IllegalArgumentException" : Cond) ∈ tb0 := tb_t 250 (by decide +kernel) (by decide +kernel)
theorem tw_345 : (Cond.methodLink R_LW 15 y_HP_soak : Cond) ∈ tb0 := tb_t 327 (by decide +kernel) (by decide +kernel)
theorem tw_346 : (Cond.instanceMethod y_HP_soak : Cond) ∈ tb0 := tb_t 328 (by decide +kernel) (by decide +kernel)
theorem tw_347 : (Cond.selects R_HP y_HP_soak y_HP_soak : Cond) ∈ tb0 := tb_t 329 (by decide +kernel) (by decide +kernel)
theorem tw_348 : (Cond.code y_HP_soak b_HP_soak 4 none : Cond) ∈ tb0 := tb_t 330 (by decide +kernel) (by decide +kernel)
theorem tw_349 : (Cond.methodLink R_LW 19 y_HP_loaded : Cond) ∈ tb0 := tb_t 338 (by decide +kernel) (by decide +kernel)
theorem tw_350 : (Cond.instanceMethod y_HP_loaded : Cond) ∈ tb0 := tb_t 339 (by decide +kernel) (by decide +kernel)
theorem tw_351 : (Cond.selects R_HP y_HP_loaded y_HP_loaded : Cond) ∈ tb0 := tb_t 340 (by decide +kernel) (by decide +kernel)
theorem tw_352 : (Cond.code y_HP_loaded b_HP_loaded 3 none : Cond) ∈ tb0 := tb_t 341 (by decide +kernel) (by decide +kernel)
theorem tw_353 : (Cond.methodLink R_LW 23 y_HP_empty : Cond) ∈ tb0 := tb_t 349 (by decide +kernel) (by decide +kernel)
theorem tw_354 : (Cond.instanceMethod y_HP_empty : Cond) ∈ tb0 := tb_t 350 (by decide +kernel) (by decide +kernel)
theorem tw_355 : (Cond.selects R_HP y_HP_empty y_HP_empty : Cond) ∈ tb0 := tb_t 351 (by decide +kernel) (by decide +kernel)
theorem tw_356 : (Cond.code y_HP_empty b_HP_empty 4 none : Cond) ∈ tb0 := tb_t 352 (by decide +kernel) (by decide +kernel)
theorem tw_357 : (Cond.methodLink R_LW 26 y_HP_solve : Cond) ∈ tb0 := tb_t 361 (by decide +kernel) (by decide +kernel)
theorem tw_358 : (Cond.instanceMethod y_HP_solve : Cond) ∈ tb0 := tb_t 362 (by decide +kernel) (by decide +kernel)
theorem tw_359 : (Cond.selects R_HP y_HP_solve y_HP_solve : Cond) ∈ tb0 := tb_t 363 (by decide +kernel) (by decide +kernel)
theorem tw_360 : (Cond.code y_HP_solve b_HP_solve 2 (some .int) : Cond) ∈ tb0 := tb_t 364 (by decide +kernel) (by decide +kernel)
theorem tw_361 : (Cond.classLink R_LW 30 "java/lang/IllegalStateException" : Cond) ∈ tb0 := tb_t 360 (by decide +kernel) (by decide +kernel)
theorem tw_362 : (Cond.methodLink R_LW 32 y_HP_least : Cond) ∈ tb0 := tb_t 461 (by decide +kernel) (by decide +kernel)
theorem tw_363 : (Cond.instanceMethod y_HP_least : Cond) ∈ tb0 := tb_t 462 (by decide +kernel) (by decide +kernel)
theorem tw_364 : (Cond.selects R_HP y_HP_least y_HP_least : Cond) ∈ tb0 := tb_t 463 (by decide +kernel) (by decide +kernel)
theorem tw_365 : (Cond.code y_HP_least b_HP_least 2 (some .int) : Cond) ∈ tb0 := tb_t 464 (by decide +kernel) (by decide +kernel)
theorem tw_366 : (Cond.methodLink R_LW 36 y_HP_plan : Cond) ∈ tb0 := tb_t 473 (by decide +kernel) (by decide +kernel)
theorem tw_367 : (Cond.instanceMethod y_HP_plan : Cond) ∈ tb0 := tb_t 474 (by decide +kernel) (by decide +kernel)
theorem tw_368 : (Cond.selects R_HP y_HP_plan y_HP_plan : Cond) ∈ tb0 := tb_t 475 (by decide +kernel) (by decide +kernel)
theorem tw_369 : (Cond.code y_HP_plan b_HP_plan 3 (some .int) : Cond) ∈ tb0 := tb_t 476 (by decide +kernel) (by decide +kernel)
theorem tw_370 : (Cond.methodLink R_LW 40 y_HP_run : Cond) ∈ tb0 := tb_t 493 (by decide +kernel) (by decide +kernel)
theorem tw_371 : (Cond.instanceMethod y_HP_run : Cond) ∈ tb0 := tb_t 494 (by decide +kernel) (by decide +kernel)
theorem tw_372 : (Cond.selects R_HP y_HP_run y_HP_run : Cond) ∈ tb0 := tb_t 495 (by decide +kernel) (by decide +kernel)
theorem tw_373 : (Cond.code y_HP_run b_HP_run 4 (some .int) : Cond) ∈ tb0 := tb_t 496 (by decide +kernel) (by decide +kernel)
theorem tw_374 : (Cond.methodLink R_LW 43 y_HP_stop : Cond) ∈ tb0 := tb_t 520 (by decide +kernel) (by decide +kernel)
theorem tw_375 : (Cond.instanceMethod y_HP_stop : Cond) ∈ tb0 := tb_t 521 (by decide +kernel) (by decide +kernel)
theorem tw_376 : (Cond.selects R_HP y_HP_stop y_HP_stop : Cond) ∈ tb0 := tb_t 522 (by decide +kernel) (by decide +kernel)
theorem tw_377 : (Cond.code y_HP_stop b_HP_stop 2 none : Cond) ∈ tb0 := tb_t 523 (by decide +kernel) (by decide +kernel)
theorem tw_378 : (Cond.methodLink R_LW 47 y_HP_tank : Cond) ∈ tb0 := tb_t 527 (by decide +kernel) (by decide +kernel)
theorem tw_379 : (Cond.instanceMethod y_HP_tank : Cond) ∈ tb0 := tb_t 528 (by decide +kernel) (by decide +kernel)
theorem tw_380 : (Cond.selects R_HP y_HP_tank y_HP_tank : Cond) ∈ tb0 := tb_t 529 (by decide +kernel) (by decide +kernel)
theorem tw_381 : (Cond.code y_HP_tank b_HP_tank 2 (some .int) : Cond) ∈ tb0 := tb_t 530 (by decide +kernel) (by decide +kernel)
theorem tw_382 : (Cond.methodLink R_LW 50 y_HP_state : Cond) ∈ tb0 := tb_t 534 (by decide +kernel) (by decide +kernel)
theorem tw_383 : (Cond.instanceMethod y_HP_state : Cond) ∈ tb0 := tb_t 535 (by decide +kernel) (by decide +kernel)
theorem tw_384 : (Cond.selects R_HP y_HP_state y_HP_state : Cond) ∈ tb0 := tb_t 536 (by decide +kernel) (by decide +kernel)
theorem tw_385 : (Cond.code y_HP_state b_HP_state 2 (some .int) : Cond) ∈ tb0 := tb_t 537 (by decide +kernel) (by decide +kernel)
theorem tx_c2 : Cond.castable "java/lang/IllegalArgumentException" "java/lang/IllegalArgumentException" ∈ tx0 := tx_t 263 (by decide +kernel) rfl
theorem tx_c1 : Cond.castable "java/lang/IllegalStateException" "java/lang/IllegalStateException" ∈ tx0 := tx_t 371 (by decide +kernel) rfl
theorem d_LW_line_0 : decode b_LW_line 0 = .ok (.aload_n 0, 1) := by decide +kernel
theorem d_LW_line_1 : decode b_LW_line 1 = .ok (.iload_n 1, 1) := by decide +kernel
theorem d_LW_line_2 : decode b_LW_line 2 = .ok (.invokevirtual 7, 3) := by decide +kernel
theorem d_LW_line_5 : decode b_LW_line 5 = .ok (.goto 6, 3) := by decide +kernel
theorem d_LW_line_8 : decode b_LW_line 8 = .ok (.astore_n 2, 1) := by decide +kernel
theorem d_LW_line_9 : decode b_LW_line 9 = .ok (.iconst 1, 1) := by decide +kernel
theorem d_LW_line_10 : decode b_LW_line 10 = .ok (.ireturn, 1) := by decide +kernel
theorem d_LW_line_11 : decode b_LW_line 11 = .ok (.iconst 0, 1) := by decide +kernel
theorem d_LW_line_12 : decode b_LW_line 12 = .ok (.ireturn, 1) := by decide +kernel
theorem d_LW_soak_0 : decode b_LW_soak 0 = .ok (.aload_n 0, 1) := by decide +kernel
theorem d_LW_soak_1 : decode b_LW_soak 1 = .ok (.iload_n 1, 1) := by decide +kernel
theorem d_LW_soak_2 : decode b_LW_soak 2 = .ok (.iload_n 2, 1) := by decide +kernel
theorem d_LW_soak_3 : decode b_LW_soak 3 = .ok (.iload_n 3, 1) := by decide +kernel
theorem d_LW_soak_4 : decode b_LW_soak 4 = .ok (.invokevirtual 15, 3) := by decide +kernel
theorem d_LW_soak_7 : decode b_LW_soak 7 = .ok (.goto 7, 3) := by decide +kernel
theorem d_LW_soak_10 : decode b_LW_soak 10 = .ok (.astore 4, 2) := by decide +kernel
theorem d_LW_soak_12 : decode b_LW_soak 12 = .ok (.iconst 1, 1) := by decide +kernel
theorem d_LW_soak_13 : decode b_LW_soak 13 = .ok (.ireturn, 1) := by decide +kernel
theorem d_LW_soak_14 : decode b_LW_soak 14 = .ok (.iconst 0, 1) := by decide +kernel
theorem d_LW_soak_15 : decode b_LW_soak 15 = .ok (.ireturn, 1) := by decide +kernel
theorem d_LW_loaded_0 : decode b_LW_loaded 0 = .ok (.aload_n 0, 1) := by decide +kernel
theorem d_LW_loaded_1 : decode b_LW_loaded 1 = .ok (.iload_n 1, 1) := by decide +kernel
theorem d_LW_loaded_2 : decode b_LW_loaded 2 = .ok (.iload_n 2, 1) := by decide +kernel
theorem d_LW_loaded_3 : decode b_LW_loaded 3 = .ok (.invokevirtual 19, 3) := by decide +kernel
theorem d_LW_loaded_6 : decode b_LW_loaded 6 = .ok (.goto 6, 3) := by decide +kernel
theorem d_LW_loaded_9 : decode b_LW_loaded 9 = .ok (.astore_n 3, 1) := by decide +kernel
theorem d_LW_loaded_10 : decode b_LW_loaded 10 = .ok (.iconst 1, 1) := by decide +kernel
theorem d_LW_loaded_11 : decode b_LW_loaded 11 = .ok (.ireturn, 1) := by decide +kernel
theorem d_LW_loaded_12 : decode b_LW_loaded 12 = .ok (.iconst 0, 1) := by decide +kernel
theorem d_LW_loaded_13 : decode b_LW_loaded 13 = .ok (.ireturn, 1) := by decide +kernel
theorem d_LW_empty_0 : decode b_LW_empty 0 = .ok (.aload_n 0, 1) := by decide +kernel
theorem d_LW_empty_1 : decode b_LW_empty 1 = .ok (.iload_n 1, 1) := by decide +kernel
theorem d_LW_empty_2 : decode b_LW_empty 2 = .ok (.iload_n 2, 1) := by decide +kernel
theorem d_LW_empty_3 : decode b_LW_empty 3 = .ok (.iload_n 3, 1) := by decide +kernel
theorem d_LW_empty_4 : decode b_LW_empty 4 = .ok (.invokevirtual 23, 3) := by decide +kernel
theorem d_LW_empty_7 : decode b_LW_empty 7 = .ok (.goto 7, 3) := by decide +kernel
theorem d_LW_empty_10 : decode b_LW_empty 10 = .ok (.astore 4, 2) := by decide +kernel
theorem d_LW_empty_12 : decode b_LW_empty 12 = .ok (.iconst 1, 1) := by decide +kernel
theorem d_LW_empty_13 : decode b_LW_empty 13 = .ok (.ireturn, 1) := by decide +kernel
theorem d_LW_empty_14 : decode b_LW_empty 14 = .ok (.iconst 0, 1) := by decide +kernel
theorem d_LW_empty_15 : decode b_LW_empty 15 = .ok (.ireturn, 1) := by decide +kernel
theorem d_LW_solve_0 : decode b_LW_solve 0 = .ok (.aload_n 1, 1) := by decide +kernel
theorem d_LW_solve_1 : decode b_LW_solve 1 = .ok (.iconst 0, 1) := by decide +kernel
theorem d_LW_solve_2 : decode b_LW_solve 2 = .ok (.aload_n 0, 1) := by decide +kernel
theorem d_LW_solve_3 : decode b_LW_solve 3 = .ok (.invokevirtual 26, 3) := by decide +kernel
theorem d_LW_solve_6 : decode b_LW_solve 6 = .ok (.i2l, 1) := by decide +kernel
theorem d_LW_solve_7 : decode b_LW_solve 7 = .ok (.lastore, 1) := by decide +kernel
theorem d_LW_solve_8 : decode b_LW_solve 8 = .ok (.goto 6, 3) := by decide +kernel
theorem d_LW_solve_11 : decode b_LW_solve 11 = .ok (.astore_n 2, 1) := by decide +kernel
theorem d_LW_solve_12 : decode b_LW_solve 12 = .ok (.iconst 1, 1) := by decide +kernel
theorem d_LW_solve_13 : decode b_LW_solve 13 = .ok (.ireturn, 1) := by decide +kernel
theorem d_LW_solve_14 : decode b_LW_solve 14 = .ok (.iconst 0, 1) := by decide +kernel
theorem d_LW_solve_15 : decode b_LW_solve 15 = .ok (.ireturn, 1) := by decide +kernel
theorem d_LW_least_0 : decode b_LW_least 0 = .ok (.aload_n 2, 1) := by decide +kernel
theorem d_LW_least_1 : decode b_LW_least 1 = .ok (.iconst 0, 1) := by decide +kernel
theorem d_LW_least_2 : decode b_LW_least 2 = .ok (.aload_n 0, 1) := by decide +kernel
theorem d_LW_least_3 : decode b_LW_least 3 = .ok (.iload_n 1, 1) := by decide +kernel
theorem d_LW_least_4 : decode b_LW_least 4 = .ok (.invokevirtual 32, 3) := by decide +kernel
theorem d_LW_least_7 : decode b_LW_least 7 = .ok (.i2l, 1) := by decide +kernel
theorem d_LW_least_8 : decode b_LW_least 8 = .ok (.lastore, 1) := by decide +kernel
theorem d_LW_least_9 : decode b_LW_least 9 = .ok (.goto 9, 3) := by decide +kernel
theorem d_LW_least_12 : decode b_LW_least 12 = .ok (.astore_n 3, 1) := by decide +kernel
theorem d_LW_least_13 : decode b_LW_least 13 = .ok (.iconst 1, 1) := by decide +kernel
theorem d_LW_least_14 : decode b_LW_least 14 = .ok (.ireturn, 1) := by decide +kernel
theorem d_LW_least_15 : decode b_LW_least 15 = .ok (.astore_n 3, 1) := by decide +kernel
theorem d_LW_least_16 : decode b_LW_least 16 = .ok (.iconst 2, 1) := by decide +kernel
theorem d_LW_least_17 : decode b_LW_least 17 = .ok (.ireturn, 1) := by decide +kernel
theorem d_LW_least_18 : decode b_LW_least 18 = .ok (.iconst 0, 1) := by decide +kernel
theorem d_LW_least_19 : decode b_LW_least 19 = .ok (.ireturn, 1) := by decide +kernel
theorem d_LW_plan_0 : decode b_LW_plan 0 = .ok (.aload_n 3, 1) := by decide +kernel
theorem d_LW_plan_1 : decode b_LW_plan 1 = .ok (.iconst 0, 1) := by decide +kernel
theorem d_LW_plan_2 : decode b_LW_plan 2 = .ok (.aload_n 0, 1) := by decide +kernel
theorem d_LW_plan_3 : decode b_LW_plan 3 = .ok (.iload_n 1, 1) := by decide +kernel
theorem d_LW_plan_4 : decode b_LW_plan 4 = .ok (.iload_n 2, 1) := by decide +kernel
theorem d_LW_plan_5 : decode b_LW_plan 5 = .ok (.invokevirtual 36, 3) := by decide +kernel
theorem d_LW_plan_8 : decode b_LW_plan 8 = .ok (.i2l, 1) := by decide +kernel
theorem d_LW_plan_9 : decode b_LW_plan 9 = .ok (.lastore, 1) := by decide +kernel
theorem d_LW_plan_10 : decode b_LW_plan 10 = .ok (.goto 11, 3) := by decide +kernel
theorem d_LW_plan_13 : decode b_LW_plan 13 = .ok (.astore 4, 2) := by decide +kernel
theorem d_LW_plan_15 : decode b_LW_plan 15 = .ok (.iconst 1, 1) := by decide +kernel
theorem d_LW_plan_16 : decode b_LW_plan 16 = .ok (.ireturn, 1) := by decide +kernel
theorem d_LW_plan_17 : decode b_LW_plan 17 = .ok (.astore 4, 2) := by decide +kernel
theorem d_LW_plan_19 : decode b_LW_plan 19 = .ok (.iconst 2, 1) := by decide +kernel
theorem d_LW_plan_20 : decode b_LW_plan 20 = .ok (.ireturn, 1) := by decide +kernel
theorem d_LW_plan_21 : decode b_LW_plan 21 = .ok (.iconst 0, 1) := by decide +kernel
theorem d_LW_plan_22 : decode b_LW_plan 22 = .ok (.ireturn, 1) := by decide +kernel
theorem d_LW_run_0 : decode b_LW_run 0 = .ok (.aload_n 2, 1) := by decide +kernel
theorem d_LW_run_1 : decode b_LW_run 1 = .ok (.iconst 0, 1) := by decide +kernel
theorem d_LW_run_2 : decode b_LW_run 2 = .ok (.aload_n 0, 1) := by decide +kernel
theorem d_LW_run_3 : decode b_LW_run 3 = .ok (.iload_n 1, 1) := by decide +kernel
theorem d_LW_run_4 : decode b_LW_run 4 = .ok (.invokevirtual 40, 3) := by decide +kernel
theorem d_LW_run_7 : decode b_LW_run 7 = .ok (.i2l, 1) := by decide +kernel
theorem d_LW_run_8 : decode b_LW_run 8 = .ok (.lastore, 1) := by decide +kernel
theorem d_LW_run_9 : decode b_LW_run 9 = .ok (.goto 9, 3) := by decide +kernel
theorem d_LW_run_12 : decode b_LW_run 12 = .ok (.astore_n 3, 1) := by decide +kernel
theorem d_LW_run_13 : decode b_LW_run 13 = .ok (.iconst 1, 1) := by decide +kernel
theorem d_LW_run_14 : decode b_LW_run 14 = .ok (.ireturn, 1) := by decide +kernel
theorem d_LW_run_15 : decode b_LW_run 15 = .ok (.astore_n 3, 1) := by decide +kernel
theorem d_LW_run_16 : decode b_LW_run 16 = .ok (.iconst 2, 1) := by decide +kernel
theorem d_LW_run_17 : decode b_LW_run 17 = .ok (.ireturn, 1) := by decide +kernel
theorem d_LW_run_18 : decode b_LW_run 18 = .ok (.iconst 0, 1) := by decide +kernel
theorem d_LW_run_19 : decode b_LW_run 19 = .ok (.ireturn, 1) := by decide +kernel
theorem d_LW_stop_0 : decode b_LW_stop 0 = .ok (.aload_n 0, 1) := by decide +kernel
theorem d_LW_stop_1 : decode b_LW_stop 1 = .ok (.iload_n 1, 1) := by decide +kernel
theorem d_LW_stop_2 : decode b_LW_stop 2 = .ok (.invokevirtual 43, 3) := by decide +kernel
theorem d_LW_stop_5 : decode b_LW_stop 5 = .ok (.goto 6, 3) := by decide +kernel
theorem d_LW_stop_8 : decode b_LW_stop 8 = .ok (.astore_n 2, 1) := by decide +kernel
theorem d_LW_stop_9 : decode b_LW_stop 9 = .ok (.iconst 1, 1) := by decide +kernel
theorem d_LW_stop_10 : decode b_LW_stop 10 = .ok (.ireturn, 1) := by decide +kernel
theorem d_LW_stop_11 : decode b_LW_stop 11 = .ok (.iconst 0, 1) := by decide +kernel
theorem d_LW_stop_12 : decode b_LW_stop 12 = .ok (.ireturn, 1) := by decide +kernel
theorem d_LW_tank_0 : decode b_LW_tank 0 = .ok (.aload_n 2, 1) := by decide +kernel
theorem d_LW_tank_1 : decode b_LW_tank 1 = .ok (.iconst 0, 1) := by decide +kernel
theorem d_LW_tank_2 : decode b_LW_tank 2 = .ok (.aload_n 0, 1) := by decide +kernel
theorem d_LW_tank_3 : decode b_LW_tank 3 = .ok (.iload_n 1, 1) := by decide +kernel
theorem d_LW_tank_4 : decode b_LW_tank 4 = .ok (.invokevirtual 47, 3) := by decide +kernel
theorem d_LW_tank_7 : decode b_LW_tank 7 = .ok (.i2l, 1) := by decide +kernel
theorem d_LW_tank_8 : decode b_LW_tank 8 = .ok (.lastore, 1) := by decide +kernel
theorem d_LW_tank_9 : decode b_LW_tank 9 = .ok (.goto 9, 3) := by decide +kernel
theorem d_LW_tank_12 : decode b_LW_tank 12 = .ok (.astore_n 3, 1) := by decide +kernel
theorem d_LW_tank_13 : decode b_LW_tank 13 = .ok (.iconst 1, 1) := by decide +kernel
theorem d_LW_tank_14 : decode b_LW_tank 14 = .ok (.ireturn, 1) := by decide +kernel
theorem d_LW_tank_15 : decode b_LW_tank 15 = .ok (.astore_n 3, 1) := by decide +kernel
theorem d_LW_tank_16 : decode b_LW_tank 16 = .ok (.iconst 2, 1) := by decide +kernel
theorem d_LW_tank_17 : decode b_LW_tank 17 = .ok (.ireturn, 1) := by decide +kernel
theorem d_LW_tank_18 : decode b_LW_tank 18 = .ok (.iconst 0, 1) := by decide +kernel
theorem d_LW_tank_19 : decode b_LW_tank 19 = .ok (.ireturn, 1) := by decide +kernel
theorem d_LW_state_0 : decode b_LW_state 0 = .ok (.aload_n 2, 1) := by decide +kernel
theorem d_LW_state_1 : decode b_LW_state 1 = .ok (.iconst 0, 1) := by decide +kernel
theorem d_LW_state_2 : decode b_LW_state 2 = .ok (.aload_n 0, 1) := by decide +kernel
theorem d_LW_state_3 : decode b_LW_state 3 = .ok (.iload_n 1, 1) := by decide +kernel
theorem d_LW_state_4 : decode b_LW_state 4 = .ok (.invokevirtual 50, 3) := by decide +kernel
theorem d_LW_state_7 : decode b_LW_state 7 = .ok (.i2l, 1) := by decide +kernel
theorem d_LW_state_8 : decode b_LW_state 8 = .ok (.lastore, 1) := by decide +kernel
theorem d_LW_state_9 : decode b_LW_state 9 = .ok (.goto 9, 3) := by decide +kernel
theorem d_LW_state_12 : decode b_LW_state 12 = .ok (.astore_n 3, 1) := by decide +kernel
theorem d_LW_state_13 : decode b_LW_state 13 = .ok (.iconst 1, 1) := by decide +kernel
theorem d_LW_state_14 : decode b_LW_state 14 = .ok (.ireturn, 1) := by decide +kernel
theorem d_LW_state_15 : decode b_LW_state 15 = .ok (.astore_n 3, 1) := by decide +kernel
theorem d_LW_state_16 : decode b_LW_state 16 = .ok (.iconst 2, 1) := by decide +kernel
theorem d_LW_state_17 : decode b_LW_state 17 = .ok (.ireturn, 1) := by decide +kernel
theorem d_LW_state_18 : decode b_LW_state 18 = .ok (.iconst 0, 1) := by decide +kernel
theorem d_LW_state_19 : decode b_LW_state 19 = .ok (.ireturn, 1) := by decide +kernel
def fn_LW_line (z : Nat) (a1 : Int32) (v_p0_planned : Int32) (v_p0_layout_tanks : Int32) (f_p0_layout_low : Nat → Int32) (f_p0_layout_high : Nat → Int32) (f_p0_layout_loadedSeconds : Nat → Int32) (f_p0_layout_emptySeconds : Nat → Nat → Int32) : Option (Int32 × Int32 × Int32 × (Nat → Int32) × (Nat → Int32) × (Nat → Int32) × (Nat → Nat → Int32)) :=
  ox_cl (fn_HP_line z a1 v_p0_planned v_p0_layout_tanks f_p0_layout_low f_p0_layout_high f_p0_layout_loadedSeconds f_p0_layout_emptySeconds) fun (x1, s1_v_planned, s1_v_layout_tanks, s1_f_layout_low, s1_f_layout_high, s1_f_layout_loadedSeconds, s1_f_layout_emptySeconds) =>
  if ¬ x1 = 0 then
    if x1 = 2 then
      some (1, s1_v_planned, s1_v_layout_tanks, s1_f_layout_low, s1_f_layout_high, s1_f_layout_loadedSeconds, s1_f_layout_emptySeconds)
    else
    none
  else
  some (0, s1_v_planned, s1_v_layout_tanks, s1_f_layout_low, s1_f_layout_high, s1_f_layout_loadedSeconds, s1_f_layout_emptySeconds)

def fn_LW_soak (a1 : Int32) (a2 : Int32) (a3 : Int32) (v_p0_planned : Int32) (v_p0_layout_tanks : Int32) (f_p0_layout_low : Nat → Int32) (f_p0_layout_high : Nat → Int32) : Option (Int32 × Int32 × (Nat → Int32) × (Nat → Int32)) :=
  ox_cl (fn_HP_soak a1 a2 a3 v_p0_planned v_p0_layout_tanks f_p0_layout_low f_p0_layout_high) fun (x1, s1_v_planned, s1_f_layout_low, s1_f_layout_high) =>
  if ¬ x1 = 0 then
    if x1 = 2 then
      some (1, s1_v_planned, s1_f_layout_low, s1_f_layout_high)
    else
    none
  else
  some (0, s1_v_planned, s1_f_layout_low, s1_f_layout_high)

def fn_LW_loaded (a1 : Int32) (a2 : Int32) (v_p0_planned : Int32) (v_p0_layout_tanks : Int32) (f_p0_layout_loadedSeconds : Nat → Int32) : Option (Int32 × Int32 × (Nat → Int32)) :=
  ox_cl (fn_HP_loaded a1 a2 v_p0_planned v_p0_layout_tanks f_p0_layout_loadedSeconds) fun (x1, s1_v_planned, s1_f_layout_loadedSeconds) =>
  if ¬ x1 = 0 then
    if x1 = 2 then
      some (1, s1_v_planned, s1_f_layout_loadedSeconds)
    else
    none
  else
  some (0, s1_v_planned, s1_f_layout_loadedSeconds)

def fn_LW_empty (a1 : Int32) (a2 : Int32) (a3 : Int32) (v_p0_planned : Int32) (v_p0_layout_tanks : Int32) (f_p0_layout_emptySeconds : Nat → Nat → Int32) : Option (Int32 × Int32 × (Nat → Nat → Int32)) :=
  ox_cl (fn_HP_empty a1 a2 a3 v_p0_planned v_p0_layout_tanks f_p0_layout_emptySeconds) fun (x1, s1_v_planned, s1_f_layout_emptySeconds) =>
  if ¬ x1 = 0 then
    if x1 = 2 then
      some (1, s1_v_planned, s1_f_layout_emptySeconds)
    else
    none
  else
  some (0, s1_v_planned, s1_f_layout_emptySeconds)

def fn_LW_solve (z : Nat) (v_p0_planned : Int32) (v_p0_layout_tanks : Int32) (v_p0_tried_count : Int32) (v_p0_timing_rules : Int32) (v_p0_found_cycle : Int32) (v_p0_found_order_count : Int32) (v_p0_works_second : Int32) (v_p0_works_cycleSecond : Int32) (v_p0_works_nextRank : Int32) (v_p0_works_entryStopped : Int32) (v_p0_works_entered : Int32) (v_p0_works_done : Int32) (v_p0_works_lastStay : Int32) (v_p0_works_hoistCarrier : Int32) (v_p0_works_hoistMove : Int32) (v_p0_works_hoistEntry : Int32) (v_p0_works_hoistEnd : Int32) (f_p0_layout_loadedSeconds : Nat → Int32) (f_p0_tried_moves : Nat → Int32) (f_p0_tried_rank : Nat → Int32) (f_p0_timing_before : Nat → Int32) (f_p0_timing_after : Nat → Int32) (f_p0_timing_seconds : Nat → Int32) (f_p0_timing_turns : Nat → Int32) (f_p0_layout_low : Nat → Int32) (f_p0_layout_high : Nat → Int32) (f_p0_timing_times : Nat → Int32) (f_p0_timing_cause : Nat → Int32) (f_p0_found_order_moves : Nat → Int32) (f_p0_found_order_rank : Nat → Int32) (f_p0_found_times : Nat → Int32) (f_p0_works_carriers : Nat → Int32) (f_p0_works_entries : Nat → Int32) (f_p1 : Nat → Int64) (f_p0_layout_emptySeconds : Nat → Nat → Int32) : Option (Int32 × Int32 × Int32 × Int32 × Int32 × Int32 × Int32 × Int32 × Int32 × Int32 × Int32 × Int32 × Int32 × Int32 × Int32 × Int32 × Int32 × (Nat → Int32) × (Nat → Int32) × (Nat → Int32) × (Nat → Int32) × (Nat → Int32) × (Nat → Int32) × (Nat → Int32) × (Nat → Int32) × (Nat → Int32) × (Nat → Int32) × (Nat → Int32) × (Nat → Int32) × (Nat → Int32) × (Nat → Int64)) :=
  ox_cl (fn_HP_solve z v_p0_planned v_p0_layout_tanks v_p0_tried_count v_p0_timing_rules v_p0_found_cycle v_p0_found_order_count v_p0_works_second v_p0_works_cycleSecond v_p0_works_nextRank v_p0_works_entryStopped v_p0_works_entered v_p0_works_done v_p0_works_lastStay v_p0_works_hoistCarrier v_p0_works_hoistMove v_p0_works_hoistEntry v_p0_works_hoistEnd f_p0_layout_loadedSeconds f_p0_tried_moves f_p0_tried_rank f_p0_timing_before f_p0_timing_after f_p0_timing_seconds f_p0_timing_turns f_p0_layout_low f_p0_layout_high f_p0_timing_times f_p0_timing_cause f_p0_found_order_moves f_p0_found_order_rank f_p0_found_times f_p0_works_carriers f_p0_works_entries f_p0_layout_emptySeconds) fun (x1, r1, s1_v_planned, s1_v_tried_count, s1_v_timing_rules, s1_v_found_cycle, s1_v_found_order_count, s1_v_works_second, s1_v_works_cycleSecond, s1_v_works_nextRank, s1_v_works_entryStopped, s1_v_works_entered, s1_v_works_done, s1_v_works_lastStay, s1_v_works_hoistCarrier, s1_v_works_hoistMove, s1_v_works_hoistEntry, s1_v_works_hoistEnd, s1_f_tried_moves, s1_f_tried_rank, s1_f_timing_before, s1_f_timing_after, s1_f_timing_seconds, s1_f_timing_turns, s1_f_timing_times, s1_f_timing_cause, s1_f_found_order_moves, s1_f_found_order_rank, s1_f_found_times, s1_f_works_carriers, s1_f_works_entries) =>
  if ¬ x1 = 0 then
    if x1 = 1 then
      some (1, s1_v_planned, s1_v_tried_count, s1_v_timing_rules, s1_v_found_cycle, s1_v_found_order_count, s1_v_works_second, s1_v_works_cycleSecond, s1_v_works_nextRank, s1_v_works_entryStopped, s1_v_works_entered, s1_v_works_done, s1_v_works_lastStay, s1_v_works_hoistCarrier, s1_v_works_hoistMove, s1_v_works_hoistEntry, s1_v_works_hoistEnd, s1_f_tried_moves, s1_f_tried_rank, s1_f_timing_before, s1_f_timing_after, s1_f_timing_seconds, s1_f_timing_turns, s1_f_timing_times, s1_f_timing_cause, s1_f_found_order_moves, s1_f_found_order_rank, s1_f_found_times, s1_f_works_carriers, s1_f_works_entries, f_p1)
    else
    none
  else
  some (0, s1_v_planned, s1_v_tried_count, s1_v_timing_rules, s1_v_found_cycle, s1_v_found_order_count, s1_v_works_second, s1_v_works_cycleSecond, s1_v_works_nextRank, s1_v_works_entryStopped, s1_v_works_entered, s1_v_works_done, s1_v_works_lastStay, s1_v_works_hoistCarrier, s1_v_works_hoistMove, s1_v_works_hoistEntry, s1_v_works_hoistEnd, s1_f_tried_moves, s1_f_tried_rank, s1_f_timing_before, s1_f_timing_after, s1_f_timing_seconds, s1_f_timing_turns, s1_f_timing_times, s1_f_timing_cause, s1_f_found_order_moves, s1_f_found_order_rank, s1_f_found_times, s1_f_works_carriers, s1_f_works_entries, (vp_updL f_p1 0 r1.toInt64))

def fn_LW_least (z : Nat) (a1 : Int32) (v_p0_layout_tanks : Int32) (v_p0_tried_count : Int32) (v_p0_timing_rules : Int32) (f_p0_layout_loadedSeconds : Nat → Int32) (f_p0_tried_rank : Nat → Int32) (f_p0_tried_moves : Nat → Int32) (f_p0_timing_before : Nat → Int32) (f_p0_timing_after : Nat → Int32) (f_p0_timing_seconds : Nat → Int32) (f_p0_timing_turns : Nat → Int32) (f_p0_layout_low : Nat → Int32) (f_p0_layout_high : Nat → Int32) (f_p0_timing_times : Nat → Int32) (f_p0_timing_cause : Nat → Int32) (f_p2 : Nat → Int64) (f_p0_layout_emptySeconds : Nat → Nat → Int32) : Option (Int32 × Int32 × Int32 × (Nat → Int32) × (Nat → Int32) × (Nat → Int32) × (Nat → Int32) × (Nat → Int32) × (Nat → Int32) × (Nat → Int32) × (Nat → Int32) × (Nat → Int64)) :=
  ox_cl (fn_HP_least z a1 v_p0_layout_tanks v_p0_tried_count v_p0_timing_rules f_p0_layout_loadedSeconds f_p0_tried_rank f_p0_tried_moves f_p0_timing_before f_p0_timing_after f_p0_timing_seconds f_p0_timing_turns f_p0_layout_low f_p0_layout_high f_p0_timing_times f_p0_timing_cause f_p0_layout_emptySeconds) fun (x1, r1, s1_v_tried_count, s1_v_timing_rules, s1_f_tried_rank, s1_f_tried_moves, s1_f_timing_before, s1_f_timing_after, s1_f_timing_seconds, s1_f_timing_turns, s1_f_timing_times, s1_f_timing_cause) =>
  if ¬ x1 = 0 then
    if x1 = 1 then
      some (1, s1_v_tried_count, s1_v_timing_rules, s1_f_tried_rank, s1_f_tried_moves, s1_f_timing_before, s1_f_timing_after, s1_f_timing_seconds, s1_f_timing_turns, s1_f_timing_times, s1_f_timing_cause, f_p2)
    else
    if x1 = 2 then
      some (2, s1_v_tried_count, s1_v_timing_rules, s1_f_tried_rank, s1_f_tried_moves, s1_f_timing_before, s1_f_timing_after, s1_f_timing_seconds, s1_f_timing_turns, s1_f_timing_times, s1_f_timing_cause, f_p2)
    else
    none
  else
  some (0, s1_v_tried_count, s1_v_timing_rules, s1_f_tried_rank, s1_f_tried_moves, s1_f_timing_before, s1_f_timing_after, s1_f_timing_seconds, s1_f_timing_turns, s1_f_timing_times, s1_f_timing_cause, (vp_updL f_p2 0 r1.toInt64))

def fn_LW_plan (z : Nat) (a1 : Int32) (a2 : Int32) (v_p0_planned : Int32) (v_p0_layout_tanks : Int32) (v_p0_found_cycle : Int32) (v_p0_found_order_count : Int32) (f_p0_found_order_moves : Nat → Int32) (f_p0_found_times : Nat → Int32) (f_p0_layout_loadedSeconds : Nat → Int32) (f_p0_found_order_rank : Nat → Int32) (f_p3 : Nat → Int64) : Option (Int32 × (Nat → Int64)) :=
  ox_cl (fn_HP_plan z a1 a2 v_p0_planned v_p0_layout_tanks v_p0_found_cycle v_p0_found_order_count f_p0_found_order_moves f_p0_found_times f_p0_layout_loadedSeconds f_p0_found_order_rank) fun (x1, r1) =>
  if ¬ x1 = 0 then
    if x1 = 1 then
      some (1, f_p3)
    else
    if x1 = 2 then
      some (2, f_p3)
    else
    none
  else
  some (0, (vp_updL f_p3 0 r1.toInt64))

def fn_LW_run (z : Nat) (a1 : Int32) (v_p0_planned : Int32) (v_p0_works_second : Int32) (v_p0_works_cycleSecond : Int32) (v_p0_works_nextRank : Int32) (v_p0_works_entryStopped : Int32) (v_p0_works_entered : Int32) (v_p0_works_done : Int32) (v_p0_works_lastStay : Int32) (v_p0_works_hoistCarrier : Int32) (v_p0_works_hoistMove : Int32) (v_p0_works_hoistEntry : Int32) (v_p0_works_hoistEnd : Int32) (v_p0_found_cycle : Int32) (v_p0_layout_tanks : Int32) (f_p0_found_order_moves : Nat → Int32) (f_p0_found_times : Nat → Int32) (f_p0_works_carriers : Nat → Int32) (f_p0_works_entries : Nat → Int32) (f_p0_layout_loadedSeconds : Nat → Int32) (f_p2 : Nat → Int64) : Option (Int32 × Int32 × Int32 × Int32 × Int32 × Int32 × Int32 × Int32 × Int32 × Int32 × Int32 × (Nat → Int32) × (Nat → Int32) × (Nat → Int64)) :=
  ox_cl (fn_HP_run z a1 v_p0_planned v_p0_works_second v_p0_works_cycleSecond v_p0_works_nextRank v_p0_works_entryStopped v_p0_works_entered v_p0_works_done v_p0_works_lastStay v_p0_works_hoistCarrier v_p0_works_hoistMove v_p0_works_hoistEntry v_p0_works_hoistEnd v_p0_found_cycle v_p0_layout_tanks f_p0_found_order_moves f_p0_found_times f_p0_works_carriers f_p0_works_entries f_p0_layout_loadedSeconds) fun (x1, r1, s1_v_works_second, s1_v_works_cycleSecond, s1_v_works_nextRank, s1_v_works_entered, s1_v_works_done, s1_v_works_lastStay, s1_v_works_hoistCarrier, s1_v_works_hoistMove, s1_v_works_hoistEntry, s1_v_works_hoistEnd, s1_f_works_carriers, s1_f_works_entries) =>
  if ¬ x1 = 0 then
    if x1 = 1 then
      some (1, s1_v_works_second, s1_v_works_cycleSecond, s1_v_works_nextRank, s1_v_works_entered, s1_v_works_done, s1_v_works_lastStay, s1_v_works_hoistCarrier, s1_v_works_hoistMove, s1_v_works_hoistEntry, s1_v_works_hoistEnd, s1_f_works_carriers, s1_f_works_entries, f_p2)
    else
    if x1 = 2 then
      some (2, s1_v_works_second, s1_v_works_cycleSecond, s1_v_works_nextRank, s1_v_works_entered, s1_v_works_done, s1_v_works_lastStay, s1_v_works_hoistCarrier, s1_v_works_hoistMove, s1_v_works_hoistEntry, s1_v_works_hoistEnd, s1_f_works_carriers, s1_f_works_entries, f_p2)
    else
    none
  else
  some (0, s1_v_works_second, s1_v_works_cycleSecond, s1_v_works_nextRank, s1_v_works_entered, s1_v_works_done, s1_v_works_lastStay, s1_v_works_hoistCarrier, s1_v_works_hoistMove, s1_v_works_hoistEntry, s1_v_works_hoistEnd, s1_f_works_carriers, s1_f_works_entries, (vp_updL f_p2 0 r1.toInt64))

def fn_LW_stop (a1 : Int32) (v_p0_planned : Int32) (v_p0_works_entryStopped : Int32) : Option (Int32 × Int32) :=
  ox_cl (fn_HP_stop a1 v_p0_planned v_p0_works_entryStopped) fun (x1, s1_v_works_entryStopped) =>
  if ¬ x1 = 0 then
    if x1 = 1 then
      some (1, s1_v_works_entryStopped)
    else
    none
  else
  some (0, s1_v_works_entryStopped)

def fn_LW_tank (a1 : Int32) (v_p0_planned : Int32) (v_p0_layout_tanks : Int32) (f_p0_works_carriers : Nat → Int32) (f_p2 : Nat → Int64) : Option (Int32 × (Nat → Int64)) :=
  ox_cl (fn_HP_tank a1 v_p0_planned v_p0_layout_tanks f_p0_works_carriers) fun (x1, r1) =>
  if ¬ x1 = 0 then
    if x1 = 1 then
      some (1, f_p2)
    else
    if x1 = 2 then
      some (2, f_p2)
    else
    none
  else
  some (0, (vp_updL f_p2 0 r1.toInt64))

def fn_LW_state (z : Nat) (a1 : Int32) (v_p0_planned : Int32) (v_p0_works_second : Int32) (v_p0_works_entered : Int32) (v_p0_works_done : Int32) (v_p0_works_lastStay : Int32) (v_p0_works_hoistCarrier : Int32) (v_p0_works_hoistMove : Int32) (v_p0_layout_tanks : Int32) (f_p0_works_carriers : Nat → Int32) (f_p2 : Nat → Int64) : Option (Int32 × (Nat → Int64)) :=
  ox_cl (fn_HP_state z a1 v_p0_planned v_p0_works_second v_p0_works_entered v_p0_works_done v_p0_works_lastStay v_p0_works_hoistCarrier v_p0_works_hoistMove v_p0_layout_tanks f_p0_works_carriers) fun (x1, r1) =>
  if ¬ x1 = 0 then
    if x1 = 1 then
      some (1, f_p2)
    else
    if x1 = 2 then
      some (2, f_p2)
    else
    none
  else
  some (0, (vp_updL f_p2 0 r1.toInt64))
