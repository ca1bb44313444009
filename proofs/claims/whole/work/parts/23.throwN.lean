abbrev b_HP_require : ByteArray := prog_1_method_15_code
abbrev y_HP_require : MethodName := ⟨R_HP, "require", "(Z)V"⟩
abbrev w_HP_require : List Cond := .code y_HP_require b_HP_require 1 none :: tb0
theorem yd_HP_require : y_HP_require.cls ≠ "java/lang/invoke/MethodHandle" ∧ y_HP_require.cls ≠ "java/lang/invoke/VarHandle" ∧ (parseMethodDescriptor y_HP_require.desc).map (fun d => d.parameters.length) = some 1 := by decide +kernel
theorem yv_HP_require : y_HP_require.cls = R_HP ∧ y_HP_require.cls ≠ "java/lang/invoke/MethodHandle" ∧ y_HP_require.cls ≠ "java/lang/invoke/VarHandle" ∧ (parseMethodDescriptor y_HP_require.desc).map (fun d => d.parameters.length) = some 1 := ⟨rfl, yd_HP_require⟩
abbrev b_HP_requireReady : ByteArray := prog_1_method_16_code
abbrev y_HP_requireReady : MethodName := ⟨R_HP, "requireReady", "()V"⟩
abbrev w_HP_requireReady : List Cond := .code y_HP_requireReady b_HP_requireReady 1 none :: tb0
theorem yd_HP_requireReady : y_HP_requireReady.cls ≠ "java/lang/invoke/MethodHandle" ∧ y_HP_requireReady.cls ≠ "java/lang/invoke/VarHandle" ∧ (parseMethodDescriptor y_HP_requireReady.desc).map (fun d => d.parameters.length) = some 0 := by decide +kernel
theorem yv_HP_requireReady : y_HP_requireReady.cls = R_HP ∧ y_HP_requireReady.cls ≠ "java/lang/invoke/MethodHandle" ∧ y_HP_requireReady.cls ≠ "java/lang/invoke/VarHandle" ∧ (parseMethodDescriptor y_HP_requireReady.desc).map (fun d => d.parameters.length) = some 0 := ⟨rfl, yd_HP_requireReady⟩
abbrev b_HP_requirePlan : ByteArray := prog_1_method_17_code
abbrev y_HP_requirePlan : MethodName := ⟨R_HP, "requirePlan", "()V"⟩
abbrev w_HP_requirePlan : List Cond := .code y_HP_requirePlan b_HP_requirePlan 1 none :: tb0
theorem yd_HP_requirePlan : y_HP_requirePlan.cls ≠ "java/lang/invoke/MethodHandle" ∧ y_HP_requirePlan.cls ≠ "java/lang/invoke/VarHandle" ∧ (parseMethodDescriptor y_HP_requirePlan.desc).map (fun d => d.parameters.length) = some 0 := by decide +kernel
theorem yv_HP_requirePlan : y_HP_requirePlan.cls = R_HP ∧ y_HP_requirePlan.cls ≠ "java/lang/invoke/MethodHandle" ∧ y_HP_requirePlan.cls ≠ "java/lang/invoke/VarHandle" ∧ (parseMethodDescriptor y_HP_requirePlan.desc).map (fun d => d.parameters.length) = some 0 := ⟨rfl, yd_HP_requirePlan⟩
abbrev b_HP_line : ByteArray := prog_1_method_2_code
abbrev y_HP_line : MethodName := ⟨R_HP, "line", "(I)V"⟩
abbrev w_HP_line : List Cond := .code y_HP_line b_HP_line 2 none :: tb0
theorem yd_HP_line : y_HP_line.cls ≠ "java/lang/invoke/MethodHandle" ∧ y_HP_line.cls ≠ "java/lang/invoke/VarHandle" ∧ (parseMethodDescriptor y_HP_line.desc).map (fun d => d.parameters.length) = some 1 := by decide +kernel
theorem yv_HP_line : y_HP_line.cls = R_HP ∧ y_HP_line.cls ≠ "java/lang/invoke/MethodHandle" ∧ y_HP_line.cls ≠ "java/lang/invoke/VarHandle" ∧ (parseMethodDescriptor y_HP_line.desc).map (fun d => d.parameters.length) = some 1 := ⟨rfl, yd_HP_line⟩
abbrev b_HP_soak : ByteArray := prog_1_method_3_code
abbrev y_HP_soak : MethodName := ⟨R_HP, "soak", "(III)V"⟩
abbrev w_HP_soak : List Cond := .code y_HP_soak b_HP_soak 4 none :: tb0
theorem yd_HP_soak : y_HP_soak.cls ≠ "java/lang/invoke/MethodHandle" ∧ y_HP_soak.cls ≠ "java/lang/invoke/VarHandle" ∧ (parseMethodDescriptor y_HP_soak.desc).map (fun d => d.parameters.length) = some 3 := by decide +kernel
theorem yv_HP_soak : y_HP_soak.cls = R_HP ∧ y_HP_soak.cls ≠ "java/lang/invoke/MethodHandle" ∧ y_HP_soak.cls ≠ "java/lang/invoke/VarHandle" ∧ (parseMethodDescriptor y_HP_soak.desc).map (fun d => d.parameters.length) = some 3 := ⟨rfl, yd_HP_soak⟩
abbrev b_HP_loaded : ByteArray := prog_1_method_4_code
abbrev y_HP_loaded : MethodName := ⟨R_HP, "loaded", "(II)V"⟩
abbrev w_HP_loaded : List Cond := .code y_HP_loaded b_HP_loaded 3 none :: tb0
theorem yd_HP_loaded : y_HP_loaded.cls ≠ "java/lang/invoke/MethodHandle" ∧ y_HP_loaded.cls ≠ "java/lang/invoke/VarHandle" ∧ (parseMethodDescriptor y_HP_loaded.desc).map (fun d => d.parameters.length) = some 2 := by decide +kernel
theorem yv_HP_loaded : y_HP_loaded.cls = R_HP ∧ y_HP_loaded.cls ≠ "java/lang/invoke/MethodHandle" ∧ y_HP_loaded.cls ≠ "java/lang/invoke/VarHandle" ∧ (parseMethodDescriptor y_HP_loaded.desc).map (fun d => d.parameters.length) = some 2 := ⟨rfl, yd_HP_loaded⟩
abbrev b_HP_empty : ByteArray := prog_1_method_5_code
abbrev y_HP_empty : MethodName := ⟨R_HP, "empty", "(III)V"⟩
abbrev w_HP_empty : List Cond := .code y_HP_empty b_HP_empty 4 none :: tb0
theorem yd_HP_empty : y_HP_empty.cls ≠ "java/lang/invoke/MethodHandle" ∧ y_HP_empty.cls ≠ "java/lang/invoke/VarHandle" ∧ (parseMethodDescriptor y_HP_empty.desc).map (fun d => d.parameters.length) = some 3 := by decide +kernel
theorem yv_HP_empty : y_HP_empty.cls = R_HP ∧ y_HP_empty.cls ≠ "java/lang/invoke/MethodHandle" ∧ y_HP_empty.cls ≠ "java/lang/invoke/VarHandle" ∧ (parseMethodDescriptor y_HP_empty.desc).map (fun d => d.parameters.length) = some 3 := ⟨rfl, yd_HP_empty⟩
abbrev b_HP_solve : ByteArray := prog_1_method_7_code
abbrev y_HP_solve : MethodName := ⟨R_HP, "solve", "()I"⟩
abbrev w_HP_solve : List Cond := .code y_HP_solve b_HP_solve 2 (some .int) :: tb0
theorem yd_HP_solve : y_HP_solve.cls ≠ "java/lang/invoke/MethodHandle" ∧ y_HP_solve.cls ≠ "java/lang/invoke/VarHandle" ∧ (parseMethodDescriptor y_HP_solve.desc).map (fun d => d.parameters.length) = some 0 := by decide +kernel
theorem yv_HP_solve : y_HP_solve.cls = R_HP ∧ y_HP_solve.cls ≠ "java/lang/invoke/MethodHandle" ∧ y_HP_solve.cls ≠ "java/lang/invoke/VarHandle" ∧ (parseMethodDescriptor y_HP_solve.desc).map (fun d => d.parameters.length) = some 0 := ⟨rfl, yd_HP_solve⟩
abbrev b_HP_least : ByteArray := prog_1_method_8_code
abbrev y_HP_least : MethodName := ⟨R_HP, "least", "(I)I"⟩
abbrev w_HP_least : List Cond := .code y_HP_least b_HP_least 2 (some .int) :: tb0
theorem yd_HP_least : y_HP_least.cls ≠ "java/lang/invoke/MethodHandle" ∧ y_HP_least.cls ≠ "java/lang/invoke/VarHandle" ∧ (parseMethodDescriptor y_HP_least.desc).map (fun d => d.parameters.length) = some 1 := by decide +kernel
theorem yv_HP_least : y_HP_least.cls = R_HP ∧ y_HP_least.cls ≠ "java/lang/invoke/MethodHandle" ∧ y_HP_least.cls ≠ "java/lang/invoke/VarHandle" ∧ (parseMethodDescriptor y_HP_least.desc).map (fun d => d.parameters.length) = some 1 := ⟨rfl, yd_HP_least⟩
abbrev b_HP_plan : ByteArray := prog_1_method_9_code
abbrev y_HP_plan : MethodName := ⟨R_HP, "plan", "(II)I"⟩
abbrev w_HP_plan : List Cond := .code y_HP_plan b_HP_plan 3 (some .int) :: tb0
theorem yd_HP_plan : y_HP_plan.cls ≠ "java/lang/invoke/MethodHandle" ∧ y_HP_plan.cls ≠ "java/lang/invoke/VarHandle" ∧ (parseMethodDescriptor y_HP_plan.desc).map (fun d => d.parameters.length) = some 2 := by decide +kernel
theorem yv_HP_plan : y_HP_plan.cls = R_HP ∧ y_HP_plan.cls ≠ "java/lang/invoke/MethodHandle" ∧ y_HP_plan.cls ≠ "java/lang/invoke/VarHandle" ∧ (parseMethodDescriptor y_HP_plan.desc).map (fun d => d.parameters.length) = some 2 := ⟨rfl, yd_HP_plan⟩
abbrev b_HP_run : ByteArray := prog_1_method_10_code
abbrev y_HP_run : MethodName := ⟨R_HP, "run", "(I)I"⟩
abbrev w_HP_run : List Cond := .code y_HP_run b_HP_run 4 (some .int) :: tb0
theorem yd_HP_run : y_HP_run.cls ≠ "java/lang/invoke/MethodHandle" ∧ y_HP_run.cls ≠ "java/lang/invoke/VarHandle" ∧ (parseMethodDescriptor y_HP_run.desc).map (fun d => d.parameters.length) = some 1 := by decide +kernel
theorem yv_HP_run : y_HP_run.cls = R_HP ∧ y_HP_run.cls ≠ "java/lang/invoke/MethodHandle" ∧ y_HP_run.cls ≠ "java/lang/invoke/VarHandle" ∧ (parseMethodDescriptor y_HP_run.desc).map (fun d => d.parameters.length) = some 1 := ⟨rfl, yd_HP_run⟩
abbrev b_HP_stop : ByteArray := prog_1_method_11_code
abbrev y_HP_stop : MethodName := ⟨R_HP, "stop", "(Z)V"⟩
abbrev w_HP_stop : List Cond := .code y_HP_stop b_HP_stop 2 none :: tb0
theorem yd_HP_stop : y_HP_stop.cls ≠ "java/lang/invoke/MethodHandle" ∧ y_HP_stop.cls ≠ "java/lang/invoke/VarHandle" ∧ (parseMethodDescriptor y_HP_stop.desc).map (fun d => d.parameters.length) = some 1 := by decide +kernel
theorem yv_HP_stop : y_HP_stop.cls = R_HP ∧ y_HP_stop.cls ≠ "java/lang/invoke/MethodHandle" ∧ y_HP_stop.cls ≠ "java/lang/invoke/VarHandle" ∧ (parseMethodDescriptor y_HP_stop.desc).map (fun d => d.parameters.length) = some 1 := ⟨rfl, yd_HP_stop⟩
abbrev b_HP_tank : ByteArray := prog_1_method_12_code
abbrev y_HP_tank : MethodName := ⟨R_HP, "tank", "(I)I"⟩
abbrev w_HP_tank : List Cond := .code y_HP_tank b_HP_tank 2 (some .int) :: tb0
theorem yd_HP_tank : y_HP_tank.cls ≠ "java/lang/invoke/MethodHandle" ∧ y_HP_tank.cls ≠ "java/lang/invoke/VarHandle" ∧ (parseMethodDescriptor y_HP_tank.desc).map (fun d => d.parameters.length) = some 1 := by decide +kernel
theorem yv_HP_tank : y_HP_tank.cls = R_HP ∧ y_HP_tank.cls ≠ "java/lang/invoke/MethodHandle" ∧ y_HP_tank.cls ≠ "java/lang/invoke/VarHandle" ∧ (parseMethodDescriptor y_HP_tank.desc).map (fun d => d.parameters.length) = some 1 := ⟨rfl, yd_HP_tank⟩
abbrev b_HP_state : ByteArray := prog_1_method_13_code
abbrev y_HP_state : MethodName := ⟨R_HP, "state", "(I)I"⟩
abbrev w_HP_state : List Cond := .code y_HP_state b_HP_state 2 (some .int) :: tb0
theorem yd_HP_state : y_HP_state.cls ≠ "java/lang/invoke/MethodHandle" ∧ y_HP_state.cls ≠ "java/lang/invoke/VarHandle" ∧ (parseMethodDescriptor y_HP_state.desc).map (fun d => d.parameters.length) = some 1 := by decide +kernel
theorem yv_HP_state : y_HP_state.cls = R_HP ∧ y_HP_state.cls ≠ "java/lang/invoke/MethodHandle" ∧ y_HP_state.cls ≠ "java/lang/invoke/VarHandle" ∧ (parseMethodDescriptor y_HP_state.desc).map (fun d => d.parameters.length) = some 1 := ⟨rfl, yd_HP_state⟩
theorem tw_259 : (Cond.classLink R_HP 134 "java/lang/IllegalArgumentException" : Cond) ∈ tb0 := tb_t 261 (by decide +kernel) (by decide +kernel)
theorem tw_260 : (Cond.initialized "java/lang/IllegalArgumentException" : Cond) ∈ tb0 := tb_t 12 (by decide +kernel) (by decide +kernel)
theorem tw_261 : (Cond.classLink R_HP 168 "java/lang/IllegalStateException" : Cond) ∈ tb0 := tb_t 369 (by decide +kernel) (by decide +kernel)
theorem tw_262 : (Cond.initialized "java/lang/IllegalStateException" : Cond) ∈ tb0 := tb_t 13 (by decide +kernel) (by decide +kernel)
theorem tw_263 : (Cond.fieldLink R_HP 48 "HoistPlanner" "planned" "Z" : Cond) ∈ tb0 := tb_t 217 (by decide +kernel) (by decide +kernel)
theorem tw_264 : (Cond.methodLink R_HP 52 y_HP_isWithin : Cond) ∈ tb0 := tb_t 255 (by decide +kernel) (by decide +kernel)
theorem tw_265 : (Cond.static y_HP_isWithin : Cond) ∈ tb0 := tb_t 256 (by decide +kernel) (by decide +kernel)
theorem tw_266 : (Cond.initialized R_HP : Cond) ∈ tb0 := tb_t 1 (by decide +kernel) (by decide +kernel)
theorem tw_267 : (Cond.code y_HP_isWithin b_HP_isWithin 3 (some .boolean) : Cond) ∈ tb0 := tb_t 257 (by decide +kernel) (by decide +kernel)
theorem tw_268 : (Cond.methodLink R_HP 56 y_HP_require : Cond) ∈ tb0 := tb_t 258 (by decide +kernel) (by decide +kernel)
theorem tw_269 : (Cond.static y_HP_require : Cond) ∈ tb0 := tb_t 259 (by decide +kernel) (by decide +kernel)
theorem tw_270 : (Cond.code y_HP_require b_HP_require 1 none : Cond) ∈ tb0 := tb_t 260 (by decide +kernel) (by decide +kernel)
theorem tw_271 : (Cond.methodLink R_HP 60 y_LY_reset : Cond) ∈ tb0 := tb_t 323 (by decide +kernel) (by decide +kernel)
theorem tw_272 : (Cond.instanceMethod y_LY_reset : Cond) ∈ tb0 := tb_t 32 (by decide +kernel) (by decide +kernel)
theorem tw_273 : (Cond.selects R_LY y_LY_reset y_LY_reset : Cond) ∈ tb0 := tb_t 33 (by decide +kernel) (by decide +kernel)
theorem tw_274 : (Cond.code y_LY_reset b_LY_reset 3 none : Cond) ∈ tb0 := tb_t 34 (by decide +kernel) (by decide +kernel)
theorem tw_275 : (Cond.methodLink R_HP 64 y_LY_hasTank : Cond) ∈ tb0 := tb_t 331 (by decide +kernel) (by decide +kernel)
theorem tw_276 : (Cond.instanceMethod y_LY_hasTank : Cond) ∈ tb0 := tb_t 332 (by decide +kernel) (by decide +kernel)
theorem tw_277 : (Cond.selects R_LY y_LY_hasTank y_LY_hasTank : Cond) ∈ tb0 := tb_t 333 (by decide +kernel) (by decide +kernel)
theorem tw_278 : (Cond.code y_LY_hasTank b_LY_hasTank 2 (some .boolean) : Cond) ∈ tb0 := tb_t 334 (by decide +kernel) (by decide +kernel)
theorem tw_279 : (Cond.fieldLink R_HP 68 "HoistPlanner$Layout" "low" "[I" : Cond) ∈ tb0 := tb_t 42 (by decide +kernel) (by decide +kernel)
theorem tw_280 : (Cond.fieldLink R_HP 72 "HoistPlanner$Layout" "high" "[I" : Cond) ∈ tb0 := tb_t 45 (by decide +kernel) (by decide +kernel)
theorem tw_281 : (Cond.methodLink R_HP 75 y_LY_hasMove : Cond) ∈ tb0 := tb_t 342 (by decide +kernel) (by decide +kernel)
theorem tw_282 : (Cond.instanceMethod y_LY_hasMove : Cond) ∈ tb0 := tb_t 343 (by decide +kernel) (by decide +kernel)
theorem tw_283 : (Cond.selects R_LY y_LY_hasMove y_LY_hasMove : Cond) ∈ tb0 := tb_t 344 (by decide +kernel) (by decide +kernel)
theorem tw_284 : (Cond.code y_LY_hasMove b_LY_hasMove 2 (some .boolean) : Cond) ∈ tb0 := tb_t 345 (by decide +kernel) (by decide +kernel)
theorem tw_285 : (Cond.fieldLink R_HP 78 "HoistPlanner$Layout" "loadedSeconds" "[I" : Cond) ∈ tb0 := tb_t 50 (by decide +kernel) (by decide +kernel)
theorem tw_286 : (Cond.methodLink R_HP 81 y_LY_hasPlace : Cond) ∈ tb0 := tb_t 353 (by decide +kernel) (by decide +kernel)
theorem tw_287 : (Cond.instanceMethod y_LY_hasPlace : Cond) ∈ tb0 := tb_t 354 (by decide +kernel) (by decide +kernel)
theorem tw_288 : (Cond.selects R_LY y_LY_hasPlace y_LY_hasPlace : Cond) ∈ tb0 := tb_t 355 (by decide +kernel) (by decide +kernel)
theorem tw_289 : (Cond.code y_LY_hasPlace b_LY_hasPlace 2 (some .boolean) : Cond) ∈ tb0 := tb_t 356 (by decide +kernel) (by decide +kernel)
theorem tw_290 : (Cond.fieldLink R_HP 84 "HoistPlanner$Layout" "emptySeconds" "[[I" : Cond) ∈ tb0 := tb_t 54 (by decide +kernel) (by decide +kernel)
theorem tw_291 : (Cond.methodLink R_HP 92 y_HP_requireReady : Cond) ∈ tb0 := tb_t 365 (by decide +kernel) (by decide +kernel)
theorem tw_292 : (Cond.instanceMethod y_HP_requireReady : Cond) ∈ tb0 := tb_t 367 (by decide +kernel) (by decide +kernel)
theorem tw_293 : (Cond.selects R_HP y_HP_requireReady y_HP_requireReady : Cond) ∈ tb0 := tb_s 4 (by decide +kernel) (by decide +kernel)
theorem tw_294 : (Cond.code y_HP_requireReady b_HP_requireReady 1 none : Cond) ∈ tb0 := tb_t 368 (by decide +kernel) (by decide +kernel)
theorem tw_295 : (Cond.methodLink R_HP 95 y_HP_findPlan : Cond) ∈ tb0 := tb_t 384 (by decide +kernel) (by decide +kernel)
theorem tw_296 : (Cond.instanceMethod y_HP_findPlan : Cond) ∈ tb0 := tb_t 386 (by decide +kernel) (by decide +kernel)
theorem tw_297 : (Cond.selects R_HP y_HP_findPlan y_HP_findPlan : Cond) ∈ tb0 := tb_s 5 (by decide +kernel) (by decide +kernel)
theorem tw_298 : (Cond.code y_HP_findPlan b_HP_findPlan 5 (some .int) : Cond) ∈ tb0 := tb_t 387 (by decide +kernel) (by decide +kernel)
theorem tw_299 : (Cond.fieldLink R_HP 44 "HoistPlanner" "works" "LHoistPlanner$Works;" : Cond) ∈ tb0 := tb_t 216 (by decide +kernel) (by decide +kernel)
theorem tw_300 : (Cond.methodLink R_HP 98 y_WK_reset : Cond) ∈ tb0 := tb_t 457 (by decide +kernel) (by decide +kernel)
theorem tw_301 : (Cond.instanceMethod y_WK_reset : Cond) ∈ tb0 := tb_t 150 (by decide +kernel) (by decide +kernel)
theorem tw_302 : (Cond.selects R_WK y_WK_reset y_WK_reset : Cond) ∈ tb0 := tb_t 151 (by decide +kernel) (by decide +kernel)
theorem tw_303 : (Cond.code y_WK_reset b_WK_reset 1 none : Cond) ∈ tb0 := tb_t 152 (by decide +kernel) (by decide +kernel)
theorem tw_304 : (Cond.methodLink R_HP 104 y_OR_read : Cond) ∈ tb0 := tb_t 465 (by decide +kernel) (by decide +kernel)
theorem tw_305 : (Cond.instanceMethod y_OR_read : Cond) ∈ tb0 := tb_t 466 (by decide +kernel) (by decide +kernel)
theorem tw_306 : (Cond.selects R_OR y_OR_read y_OR_read : Cond) ∈ tb0 := tb_t 467 (by decide +kernel) (by decide +kernel)
theorem tw_307 : (Cond.code y_OR_read b_OR_read 6 (some .boolean) : Cond) ∈ tb0 := tb_t 468 (by decide +kernel) (by decide +kernel)
theorem tw_308 : (Cond.methodLink R_HP 112 y_HP_requirePlan : Cond) ∈ tb0 := tb_t 477 (by decide +kernel) (by decide +kernel)
theorem tw_309 : (Cond.instanceMethod y_HP_requirePlan : Cond) ∈ tb0 := tb_t 479 (by decide +kernel) (by decide +kernel)
theorem tw_310 : (Cond.selects R_HP y_HP_requirePlan y_HP_requirePlan : Cond) ∈ tb0 := tb_s 16 (by decide +kernel) (by decide +kernel)
theorem tw_311 : (Cond.code y_HP_requirePlan b_HP_requirePlan 1 none : Cond) ∈ tb0 := tb_t 480 (by decide +kernel) (by decide +kernel)
theorem tw_312 : (Cond.fieldLink R_HP 115 "HoistPlanner$Plan" "order" "LHoistPlanner$Order;" : Cond) ∈ tb0 := tb_t 129 (by decide +kernel) (by decide +kernel)
theorem tw_313 : (Cond.fieldLink R_HP 118 "HoistPlanner$Order" "moves" "[I" : Cond) ∈ tb0 := tb_t 78 (by decide +kernel) (by decide +kernel)
theorem tw_314 : (Cond.fieldLink R_HP 121 "HoistPlanner$Plan" "times" "[I" : Cond) ∈ tb0 := tb_t 132 (by decide +kernel) (by decide +kernel)
theorem tw_315 : (Cond.methodLink R_HP 124 y_PL_soakSeconds : Cond) ∈ tb0 := tb_t 481 (by decide +kernel) (by decide +kernel)
theorem tw_316 : (Cond.instanceMethod y_PL_soakSeconds : Cond) ∈ tb0 := tb_t 482 (by decide +kernel) (by decide +kernel)
theorem tw_317 : (Cond.selects R_PL y_PL_soakSeconds y_PL_soakSeconds : Cond) ∈ tb0 := tb_t 483 (by decide +kernel) (by decide +kernel)
theorem tw_318 : (Cond.code y_PL_soakSeconds b_PL_soakSeconds 4 (some .int) : Cond) ∈ tb0 := tb_t 484 (by decide +kernel) (by decide +kernel)
theorem tw_319 : (Cond.fieldLink R_HP 128 "HoistPlanner$Plan" "cycle" "I" : Cond) ∈ tb0 := tb_t 135 (by decide +kernel) (by decide +kernel)
theorem tw_320 : (Cond.methodLink R_HP 131 y_OR_number : Cond) ∈ tb0 := tb_t 486 (by decide +kernel) (by decide +kernel)
theorem tw_321 : (Cond.instanceMethod y_OR_number : Cond) ∈ tb0 := tb_t 487 (by decide +kernel) (by decide +kernel)
theorem tw_322 : (Cond.selects R_OR y_OR_number y_OR_number : Cond) ∈ tb0 := tb_t 488 (by decide +kernel) (by decide +kernel)
theorem tw_323 : (Cond.code y_OR_number b_OR_number 3 (some .int) : Cond) ∈ tb0 := tb_t 489 (by decide +kernel) (by decide +kernel)
theorem tw_324 : (Cond.methodLink R_HP 137 y_WK_passSecond : Cond) ∈ tb0 := tb_t 497 (by decide +kernel) (by decide +kernel)
theorem tw_325 : (Cond.instanceMethod y_WK_passSecond : Cond) ∈ tb0 := tb_t 498 (by decide +kernel) (by decide +kernel)
theorem tw_326 : (Cond.selects R_WK y_WK_passSecond y_WK_passSecond : Cond) ∈ tb0 := tb_t 499 (by decide +kernel) (by decide +kernel)
theorem tw_327 : (Cond.code y_WK_passSecond b_WK_passSecond 3 (some .boolean) : Cond) ∈ tb0 := tb_t 500 (by decide +kernel) (by decide +kernel)
theorem tw_328 : (Cond.fieldLink R_HP 141 "HoistPlanner$Works" "entryStopped" "Z" : Cond) ∈ tb0 := tb_t 165 (by decide +kernel) (by decide +kernel)
theorem tw_329 : (Cond.fieldLink R_HP 144 "HoistPlanner$Works" "carriers" "[I" : Cond) ∈ tb0 := tb_t 179 (by decide +kernel) (by decide +kernel)
theorem tw_330 : (Cond.fieldLink R_HP 147 "HoistPlanner$Works" "second" "I" : Cond) ∈ tb0 := tb_t 161 (by decide +kernel) (by decide +kernel)
theorem tw_331 : (Cond.fieldLink R_HP 150 "HoistPlanner$Works" "entered" "I" : Cond) ∈ tb0 := tb_t 167 (by decide +kernel) (by decide +kernel)
theorem tw_332 : (Cond.fieldLink R_HP 153 "HoistPlanner$Works" "done" "I" : Cond) ∈ tb0 := tb_t 169 (by decide +kernel) (by decide +kernel)
theorem tw_333 : (Cond.fieldLink R_HP 156 "HoistPlanner$Works" "hoistCarrier" "I" : Cond) ∈ tb0 := tb_t 173 (by decide +kernel) (by decide +kernel)
theorem tw_334 : (Cond.fieldLink R_HP 159 "HoistPlanner$Works" "hoistMove" "I" : Cond) ∈ tb0 := tb_t 175 (by decide +kernel) (by decide +kernel)
theorem tw_335 : (Cond.methodLink R_HP 162 y_WK_isDrained : Cond) ∈ tb0 := tb_t 538 (by decide +kernel) (by decide +kernel)
theorem tw_336 : (Cond.instanceMethod y_WK_isDrained : Cond) ∈ tb0 := tb_t 539 (by decide +kernel) (by decide +kernel)
theorem tw_337 : (Cond.selects R_WK y_WK_isDrained y_WK_isDrained : Cond) ∈ tb0 := tb_t 540 (by decide +kernel) (by decide +kernel)
theorem tw_338 : (Cond.code y_WK_isDrained b_WK_isDrained 2 (some .boolean) : Cond) ∈ tb0 := tb_t 541 (by decide +kernel) (by decide +kernel)
theorem tw_339 : (Cond.fieldLink R_HP 165 "HoistPlanner$Works" "lastStay" "I" : Cond) ∈ tb0 := tb_t 171 (by decide +kernel) (by decide +kernel)
theorem d_HP_require_0 : decode b_HP_require 0 = .ok (.iload_n 0, 1) := by decide +kernel
theorem d_HP_require_1 : decode b_HP_require 1 = .ok (.ifCond .ne 11, 3) := by decide +kernel
theorem d_HP_require_4 : decode b_HP_require 4 = .ok (.new 134, 3) := by decide +kernel
theorem d_HP_require_7 : decode b_HP_require 7 = .ok (.dup, 1) := by decide +kernel
theorem d_HP_require_8 : decode b_HP_require 8 = .ok (.invokespecial 136, 3) := by decide +kernel
theorem d_HP_require_11 : decode b_HP_require 11 = .ok (.athrow, 1) := by decide +kernel
theorem d_HP_require_12 : decode b_HP_require 12 = .ok (.return_, 1) := by decide +kernel
theorem d_HP_requireReady_0 : decode b_HP_requireReady 0 = .ok (.aload_n 0, 1) := by decide +kernel
theorem d_HP_requireReady_1 : decode b_HP_requireReady 1 = .ok (.getfield 12, 3) := by decide +kernel
theorem d_HP_requireReady_4 : decode b_HP_requireReady 4 = .ok (.invokevirtual 88, 3) := by decide +kernel
theorem d_HP_requireReady_7 : decode b_HP_requireReady 7 = .ok (.ifCond .eq 11, 3) := by decide +kernel
theorem d_HP_requireReady_10 : decode b_HP_requireReady 10 = .ok (.new 168, 3) := by decide +kernel
theorem d_HP_requireReady_13 : decode b_HP_requireReady 13 = .ok (.dup, 1) := by decide +kernel
theorem d_HP_requireReady_14 : decode b_HP_requireReady 14 = .ok (.invokespecial 170, 3) := by decide +kernel
theorem d_HP_requireReady_17 : decode b_HP_requireReady 17 = .ok (.athrow, 1) := by decide +kernel
theorem d_HP_requireReady_18 : decode b_HP_requireReady 18 = .ok (.return_, 1) := by decide +kernel
theorem d_HP_requirePlan_0 : decode b_HP_requirePlan 0 = .ok (.aload_n 0, 1) := by decide +kernel
theorem d_HP_requirePlan_1 : decode b_HP_requirePlan 1 = .ok (.getfield 48, 3) := by decide +kernel
theorem d_HP_requirePlan_4 : decode b_HP_requirePlan 4 = .ok (.ifCond .ne 11, 3) := by decide +kernel
theorem d_HP_requirePlan_7 : decode b_HP_requirePlan 7 = .ok (.new 168, 3) := by decide +kernel
theorem d_HP_requirePlan_10 : decode b_HP_requirePlan 10 = .ok (.dup, 1) := by decide +kernel
theorem d_HP_requirePlan_11 : decode b_HP_requirePlan 11 = .ok (.invokespecial 170, 3) := by decide +kernel
theorem d_HP_requirePlan_14 : decode b_HP_requirePlan 14 = .ok (.athrow, 1) := by decide +kernel
theorem d_HP_requirePlan_15 : decode b_HP_requirePlan 15 = .ok (.return_, 1) := by decide +kernel
theorem d_HP_line_0 : decode b_HP_line 0 = .ok (.iload_n 1, 1) := by decide +kernel
theorem d_HP_line_1 : decode b_HP_line 1 = .ok (.iconst 1, 1) := by decide +kernel
theorem d_HP_line_2 : decode b_HP_line 2 = .ok (.iconst 5, 1) := by decide +kernel
theorem d_HP_line_3 : decode b_HP_line 3 = .ok (.invokestatic 52, 3) := by decide +kernel
theorem d_HP_line_6 : decode b_HP_line 6 = .ok (.invokestatic 56, 3) := by decide +kernel
theorem d_HP_line_9 : decode b_HP_line 9 = .ok (.aload_n 0, 1) := by decide +kernel
theorem d_HP_line_10 : decode b_HP_line 10 = .ok (.getfield 12, 3) := by decide +kernel
theorem d_HP_line_13 : decode b_HP_line 13 = .ok (.iload_n 1, 1) := by decide +kernel
theorem d_HP_line_14 : decode b_HP_line 14 = .ok (.invokevirtual 60, 3) := by decide +kernel
theorem d_HP_line_17 : decode b_HP_line 17 = .ok (.aload_n 0, 1) := by decide +kernel
theorem d_HP_line_18 : decode b_HP_line 18 = .ok (.iconst 0, 1) := by decide +kernel
theorem d_HP_line_19 : decode b_HP_line 19 = .ok (.putfield 48, 3) := by decide +kernel
theorem d_HP_line_22 : decode b_HP_line 22 = .ok (.return_, 1) := by decide +kernel
theorem d_HP_soak_0 : decode b_HP_soak 0 = .ok (.aload_n 0, 1) := by decide +kernel
theorem d_HP_soak_1 : decode b_HP_soak 1 = .ok (.getfield 12, 3) := by decide +kernel
theorem d_HP_soak_4 : decode b_HP_soak 4 = .ok (.iload_n 1, 1) := by decide +kernel
theorem d_HP_soak_5 : decode b_HP_soak 5 = .ok (.invokevirtual 64, 3) := by decide +kernel
theorem d_HP_soak_8 : decode b_HP_soak 8 = .ok (.invokestatic 56, 3) := by decide +kernel
theorem d_HP_soak_11 : decode b_HP_soak 11 = .ok (.iconst 0, 1) := by decide +kernel
theorem d_HP_soak_12 : decode b_HP_soak 12 = .ok (.iload_n 2, 1) := by decide +kernel
theorem d_HP_soak_13 : decode b_HP_soak 13 = .ok (.if_icmp .gt 19, 3) := by decide +kernel
theorem d_HP_soak_16 : decode b_HP_soak 16 = .ok (.iload_n 2, 1) := by decide +kernel
theorem d_HP_soak_17 : decode b_HP_soak 17 = .ok (.iload_n 3, 1) := by decide +kernel
theorem d_HP_soak_18 : decode b_HP_soak 18 = .ok (.if_icmp .gt 14, 3) := by decide +kernel
theorem d_HP_soak_21 : decode b_HP_soak 21 = .ok (.iload_n 3, 1) := by decide +kernel
theorem d_HP_soak_22 : decode b_HP_soak 22 = .ok (.sipush 500, 3) := by decide +kernel
theorem d_HP_soak_25 : decode b_HP_soak 25 = .ok (.if_icmp .gt 7, 3) := by decide +kernel
theorem d_HP_soak_28 : decode b_HP_soak 28 = .ok (.iconst 1, 1) := by decide +kernel
theorem d_HP_soak_29 : decode b_HP_soak 29 = .ok (.goto 4, 3) := by decide +kernel
theorem d_HP_soak_32 : decode b_HP_soak 32 = .ok (.iconst 0, 1) := by decide +kernel
theorem d_HP_soak_33 : decode b_HP_soak 33 = .ok (.invokestatic 56, 3) := by decide +kernel
theorem d_HP_soak_36 : decode b_HP_soak 36 = .ok (.aload_n 0, 1) := by decide +kernel
theorem d_HP_soak_37 : decode b_HP_soak 37 = .ok (.getfield 12, 3) := by decide +kernel
theorem d_HP_soak_40 : decode b_HP_soak 40 = .ok (.getfield 68, 3) := by decide +kernel
theorem d_HP_soak_43 : decode b_HP_soak 43 = .ok (.iload_n 1, 1) := by decide +kernel
theorem d_HP_soak_44 : decode b_HP_soak 44 = .ok (.iload_n 2, 1) := by decide +kernel
theorem d_HP_soak_45 : decode b_HP_soak 45 = .ok (.iastore, 1) := by decide +kernel
theorem d_HP_soak_46 : decode b_HP_soak 46 = .ok (.aload_n 0, 1) := by decide +kernel
theorem d_HP_soak_47 : decode b_HP_soak 47 = .ok (.getfield 12, 3) := by decide +kernel
theorem d_HP_soak_50 : decode b_HP_soak 50 = .ok (.getfield 72, 3) := by decide +kernel
theorem d_HP_soak_53 : decode b_HP_soak 53 = .ok (.iload_n 1, 1) := by decide +kernel
theorem d_HP_soak_54 : decode b_HP_soak 54 = .ok (.iload_n 3, 1) := by decide +kernel
theorem d_HP_soak_55 : decode b_HP_soak 55 = .ok (.iastore, 1) := by decide +kernel
theorem d_HP_soak_56 : decode b_HP_soak 56 = .ok (.aload_n 0, 1) := by decide +kernel
theorem d_HP_soak_57 : decode b_HP_soak 57 = .ok (.iconst 0, 1) := by decide +kernel
theorem d_HP_soak_58 : decode b_HP_soak 58 = .ok (.putfield 48, 3) := by decide +kernel
theorem d_HP_soak_61 : decode b_HP_soak 61 = .ok (.return_, 1) := by decide +kernel
theorem d_HP_loaded_0 : decode b_HP_loaded 0 = .ok (.aload_n 0, 1) := by decide +kernel
theorem d_HP_loaded_1 : decode b_HP_loaded 1 = .ok (.getfield 12, 3) := by decide +kernel
theorem d_HP_loaded_4 : decode b_HP_loaded 4 = .ok (.iload_n 1, 1) := by decide +kernel
theorem d_HP_loaded_5 : decode b_HP_loaded 5 = .ok (.invokevirtual 75, 3) := by decide +kernel
theorem d_HP_loaded_8 : decode b_HP_loaded 8 = .ok (.invokestatic 56, 3) := by decide +kernel
theorem d_HP_loaded_11 : decode b_HP_loaded 11 = .ok (.iload_n 2, 1) := by decide +kernel
theorem d_HP_loaded_12 : decode b_HP_loaded 12 = .ok (.iconst 1, 1) := by decide +kernel
theorem d_HP_loaded_13 : decode b_HP_loaded 13 = .ok (.bipush 100, 2) := by decide +kernel
theorem d_HP_loaded_15 : decode b_HP_loaded 15 = .ok (.invokestatic 52, 3) := by decide +kernel
theorem d_HP_loaded_18 : decode b_HP_loaded 18 = .ok (.invokestatic 56, 3) := by decide +kernel
theorem d_HP_loaded_21 : decode b_HP_loaded 21 = .ok (.aload_n 0, 1) := by decide +kernel
theorem d_HP_loaded_22 : decode b_HP_loaded 22 = .ok (.getfield 12, 3) := by decide +kernel
theorem d_HP_loaded_25 : decode b_HP_loaded 25 = .ok (.getfield 78, 3) := by decide +kernel
theorem d_HP_loaded_28 : decode b_HP_loaded 28 = .ok (.iload_n 1, 1) := by decide +kernel
theorem d_HP_loaded_29 : decode b_HP_loaded 29 = .ok (.iload_n 2, 1) := by decide +kernel
theorem d_HP_loaded_30 : decode b_HP_loaded 30 = .ok (.iastore, 1) := by decide +kernel
theorem d_HP_loaded_31 : decode b_HP_loaded 31 = .ok (.aload_n 0, 1) := by decide +kernel
theorem d_HP_loaded_32 : decode b_HP_loaded 32 = .ok (.iconst 0, 1) := by decide +kernel
theorem d_HP_loaded_33 : decode b_HP_loaded 33 = .ok (.putfield 48, 3) := by decide +kernel
theorem d_HP_loaded_36 : decode b_HP_loaded 36 = .ok (.return_, 1) := by decide +kernel
theorem d_HP_empty_0 : decode b_HP_empty 0 = .ok (.aload_n 0, 1) := by decide +kernel
theorem d_HP_empty_1 : decode b_HP_empty 1 = .ok (.getfield 12, 3) := by decide +kernel
theorem d_HP_empty_4 : decode b_HP_empty 4 = .ok (.iload_n 1, 1) := by decide +kernel
theorem d_HP_empty_5 : decode b_HP_empty 5 = .ok (.invokevirtual 81, 3) := by decide +kernel
theorem d_HP_empty_8 : decode b_HP_empty 8 = .ok (.ifCond .eq 23, 3) := by decide +kernel
theorem d_HP_empty_11 : decode b_HP_empty 11 = .ok (.aload_n 0, 1) := by decide +kernel
theorem d_HP_empty_12 : decode b_HP_empty 12 = .ok (.getfield 12, 3) := by decide +kernel
theorem d_HP_empty_15 : decode b_HP_empty 15 = .ok (.iload_n 2, 1) := by decide +kernel
theorem d_HP_empty_16 : decode b_HP_empty 16 = .ok (.invokevirtual 81, 3) := by decide +kernel
theorem d_HP_empty_19 : decode b_HP_empty 19 = .ok (.ifCond .eq 12, 3) := by decide +kernel
theorem d_HP_empty_22 : decode b_HP_empty 22 = .ok (.iload_n 1, 1) := by decide +kernel
theorem d_HP_empty_23 : decode b_HP_empty 23 = .ok (.iload_n 2, 1) := by decide +kernel
theorem d_HP_empty_24 : decode b_HP_empty 24 = .ok (.if_icmp .eq 7, 3) := by decide +kernel
theorem d_HP_empty_27 : decode b_HP_empty 27 = .ok (.iconst 1, 1) := by decide +kernel
theorem d_HP_empty_28 : decode b_HP_empty 28 = .ok (.goto 4, 3) := by decide +kernel
theorem d_HP_empty_31 : decode b_HP_empty 31 = .ok (.iconst 0, 1) := by decide +kernel
theorem d_HP_empty_32 : decode b_HP_empty 32 = .ok (.invokestatic 56, 3) := by decide +kernel
theorem d_HP_empty_35 : decode b_HP_empty 35 = .ok (.iload_n 3, 1) := by decide +kernel
theorem d_HP_empty_36 : decode b_HP_empty 36 = .ok (.iconst 0, 1) := by decide +kernel
theorem d_HP_empty_37 : decode b_HP_empty 37 = .ok (.bipush 100, 2) := by decide +kernel
theorem d_HP_empty_39 : decode b_HP_empty 39 = .ok (.invokestatic 52, 3) := by decide +kernel
theorem d_HP_empty_42 : decode b_HP_empty 42 = .ok (.invokestatic 56, 3) := by decide +kernel
theorem d_HP_empty_45 : decode b_HP_empty 45 = .ok (.aload_n 0, 1) := by decide +kernel
theorem d_HP_empty_46 : decode b_HP_empty 46 = .ok (.getfield 12, 3) := by decide +kernel
theorem d_HP_empty_49 : decode b_HP_empty 49 = .ok (.getfield 84, 3) := by decide +kernel
theorem d_HP_empty_52 : decode b_HP_empty 52 = .ok (.iload_n 1, 1) := by decide +kernel
theorem d_HP_empty_53 : decode b_HP_empty 53 = .ok (.aaload, 1) := by decide +kernel
theorem d_HP_empty_54 : decode b_HP_empty 54 = .ok (.iload_n 2, 1) := by decide +kernel
theorem d_HP_empty_55 : decode b_HP_empty 55 = .ok (.iload_n 3, 1) := by decide +kernel
theorem d_HP_empty_56 : decode b_HP_empty 56 = .ok (.iastore, 1) := by decide +kernel
theorem d_HP_empty_57 : decode b_HP_empty 57 = .ok (.aload_n 0, 1) := by decide +kernel
theorem d_HP_empty_58 : decode b_HP_empty 58 = .ok (.iconst 0, 1) := by decide +kernel
theorem d_HP_empty_59 : decode b_HP_empty 59 = .ok (.putfield 48, 3) := by decide +kernel
theorem d_HP_empty_62 : decode b_HP_empty 62 = .ok (.return_, 1) := by decide +kernel
theorem d_HP_solve_0 : decode b_HP_solve 0 = .ok (.aload_n 0, 1) := by decide +kernel
theorem d_HP_solve_1 : decode b_HP_solve 1 = .ok (.invokevirtual 92, 3) := by decide +kernel
theorem d_HP_solve_4 : decode b_HP_solve 4 = .ok (.aload_n 0, 1) := by decide +kernel
theorem d_HP_solve_5 : decode b_HP_solve 5 = .ok (.invokevirtual 95, 3) := by decide +kernel
theorem d_HP_solve_8 : decode b_HP_solve 8 = .ok (.istore_n 1, 1) := by decide +kernel
theorem d_HP_solve_9 : decode b_HP_solve 9 = .ok (.aload_n 0, 1) := by decide +kernel
theorem d_HP_solve_10 : decode b_HP_solve 10 = .ok (.iload_n 1, 1) := by decide +kernel
theorem d_HP_solve_11 : decode b_HP_solve 11 = .ok (.iconst (-1), 1) := by decide +kernel
theorem d_HP_solve_12 : decode b_HP_solve 12 = .ok (.if_icmp .eq 7, 3) := by decide +kernel
theorem d_HP_solve_15 : decode b_HP_solve 15 = .ok (.iconst 1, 1) := by decide +kernel
theorem d_HP_solve_16 : decode b_HP_solve 16 = .ok (.goto 4, 3) := by decide +kernel
theorem d_HP_solve_19 : decode b_HP_solve 19 = .ok (.iconst 0, 1) := by decide +kernel
theorem d_HP_solve_20 : decode b_HP_solve 20 = .ok (.putfield 48, 3) := by decide +kernel
theorem d_HP_solve_23 : decode b_HP_solve 23 = .ok (.aload_n 0, 1) := by decide +kernel
theorem d_HP_solve_24 : decode b_HP_solve 24 = .ok (.getfield 44, 3) := by decide +kernel
theorem d_HP_solve_27 : decode b_HP_solve 27 = .ok (.invokevirtual 98, 3) := by decide +kernel
theorem d_HP_solve_30 : decode b_HP_solve 30 = .ok (.iload_n 1, 1) := by decide +kernel
theorem d_HP_solve_31 : decode b_HP_solve 31 = .ok (.ireturn, 1) := by decide +kernel
theorem d_HP_least_0 : decode b_HP_least 0 = .ok (.aload_n 0, 1) := by decide +kernel
theorem d_HP_least_1 : decode b_HP_least 1 = .ok (.invokevirtual 92, 3) := by decide +kernel
theorem d_HP_least_4 : decode b_HP_least 4 = .ok (.aload_n 0, 1) := by decide +kernel
theorem d_HP_least_5 : decode b_HP_least 5 = .ok (.getfield 19, 3) := by decide +kernel
theorem d_HP_least_8 : decode b_HP_least 8 = .ok (.iload_n 1, 1) := by decide +kernel
theorem d_HP_least_9 : decode b_HP_least 9 = .ok (.aload_n 0, 1) := by decide +kernel
theorem d_HP_least_10 : decode b_HP_least 10 = .ok (.getfield 12, 3) := by decide +kernel
theorem d_HP_least_13 : decode b_HP_least 13 = .ok (.getfield 100, 3) := by decide +kernel
theorem d_HP_least_16 : decode b_HP_least 16 = .ok (.invokevirtual 104, 3) := by decide +kernel
theorem d_HP_least_19 : decode b_HP_least 19 = .ok (.invokestatic 56, 3) := by decide +kernel
theorem d_HP_least_22 : decode b_HP_least 22 = .ok (.aload_n 0, 1) := by decide +kernel
theorem d_HP_least_23 : decode b_HP_least 23 = .ok (.getfield 28, 3) := by decide +kernel
theorem d_HP_least_26 : decode b_HP_least 26 = .ok (.aload_n 0, 1) := by decide +kernel
theorem d_HP_least_27 : decode b_HP_least 27 = .ok (.getfield 19, 3) := by decide +kernel
theorem d_HP_least_30 : decode b_HP_least 30 = .ok (.sipush 2000, 3) := by decide +kernel
theorem d_HP_least_33 : decode b_HP_least 33 = .ok (.invokevirtual 108, 3) := by decide +kernel
theorem d_HP_least_36 : decode b_HP_least 36 = .ok (.ireturn, 1) := by decide +kernel
theorem d_HP_plan_0 : decode b_HP_plan 0 = .ok (.aload_n 0, 1) := by decide +kernel
theorem d_HP_plan_1 : decode b_HP_plan 1 = .ok (.invokevirtual 112, 3) := by decide +kernel
theorem d_HP_plan_4 : decode b_HP_plan 4 = .ok (.iload_n 2, 1) := by decide +kernel
theorem d_HP_plan_5 : decode b_HP_plan 5 = .ok (.tableswitch 123 0 4 #[35, 59, 80, 104, 112], 35) := by decide +kernel
theorem d_HP_plan_40 : decode b_HP_plan 40 = .ok (.aload_n 0, 1) := by decide +kernel
theorem d_HP_plan_41 : decode b_HP_plan 41 = .ok (.getfield 12, 3) := by decide +kernel
theorem d_HP_plan_44 : decode b_HP_plan 44 = .ok (.iload_n 1, 1) := by decide +kernel
theorem d_HP_plan_45 : decode b_HP_plan 45 = .ok (.invokevirtual 75, 3) := by decide +kernel
theorem d_HP_plan_48 : decode b_HP_plan 48 = .ok (.invokestatic 56, 3) := by decide +kernel
theorem d_HP_plan_51 : decode b_HP_plan 51 = .ok (.aload_n 0, 1) := by decide +kernel
theorem d_HP_plan_52 : decode b_HP_plan 52 = .ok (.getfield 35, 3) := by decide +kernel
theorem d_HP_plan_55 : decode b_HP_plan 55 = .ok (.getfield 115, 3) := by decide +kernel
theorem d_HP_plan_58 : decode b_HP_plan 58 = .ok (.getfield 118, 3) := by decide +kernel
theorem d_HP_plan_61 : decode b_HP_plan 61 = .ok (.iload_n 1, 1) := by decide +kernel
theorem d_HP_plan_62 : decode b_HP_plan 62 = .ok (.iaload, 1) := by decide +kernel
theorem d_HP_plan_63 : decode b_HP_plan 63 = .ok (.ireturn, 1) := by decide +kernel
theorem d_HP_plan_64 : decode b_HP_plan 64 = .ok (.aload_n 0, 1) := by decide +kernel
theorem d_HP_plan_65 : decode b_HP_plan 65 = .ok (.getfield 12, 3) := by decide +kernel
theorem d_HP_plan_68 : decode b_HP_plan 68 = .ok (.iload_n 1, 1) := by decide +kernel
theorem d_HP_plan_69 : decode b_HP_plan 69 = .ok (.invokevirtual 75, 3) := by decide +kernel
theorem d_HP_plan_72 : decode b_HP_plan 72 = .ok (.invokestatic 56, 3) := by decide +kernel
theorem d_HP_plan_75 : decode b_HP_plan 75 = .ok (.aload_n 0, 1) := by decide +kernel
theorem d_HP_plan_76 : decode b_HP_plan 76 = .ok (.getfield 35, 3) := by decide +kernel
theorem d_HP_plan_79 : decode b_HP_plan 79 = .ok (.getfield 121, 3) := by decide +kernel
theorem d_HP_plan_82 : decode b_HP_plan 82 = .ok (.iload_n 1, 1) := by decide +kernel
theorem d_HP_plan_83 : decode b_HP_plan 83 = .ok (.iaload, 1) := by decide +kernel
theorem d_HP_plan_84 : decode b_HP_plan 84 = .ok (.ireturn, 1) := by decide +kernel
theorem d_HP_plan_85 : decode b_HP_plan 85 = .ok (.aload_n 0, 1) := by decide +kernel
theorem d_HP_plan_86 : decode b_HP_plan 86 = .ok (.getfield 12, 3) := by decide +kernel
theorem d_HP_plan_89 : decode b_HP_plan 89 = .ok (.iload_n 1, 1) := by decide +kernel
theorem d_HP_plan_90 : decode b_HP_plan 90 = .ok (.invokevirtual 64, 3) := by decide +kernel
theorem d_HP_plan_93 : decode b_HP_plan 93 = .ok (.invokestatic 56, 3) := by decide +kernel
theorem d_HP_plan_96 : decode b_HP_plan 96 = .ok (.aload_n 0, 1) := by decide +kernel
theorem d_HP_plan_97 : decode b_HP_plan 97 = .ok (.getfield 35, 3) := by decide +kernel
theorem d_HP_plan_100 : decode b_HP_plan 100 = .ok (.iload_n 1, 1) := by decide +kernel
theorem d_HP_plan_101 : decode b_HP_plan 101 = .ok (.aload_n 0, 1) := by decide +kernel
theorem d_HP_plan_102 : decode b_HP_plan 102 = .ok (.getfield 12, 3) := by decide +kernel
theorem d_HP_plan_105 : decode b_HP_plan 105 = .ok (.invokevirtual 124, 3) := by decide +kernel
theorem d_HP_plan_108 : decode b_HP_plan 108 = .ok (.ireturn, 1) := by decide +kernel
theorem d_HP_plan_109 : decode b_HP_plan 109 = .ok (.aload_n 0, 1) := by decide +kernel
theorem d_HP_plan_110 : decode b_HP_plan 110 = .ok (.getfield 35, 3) := by decide +kernel
theorem d_HP_plan_113 : decode b_HP_plan 113 = .ok (.getfield 128, 3) := by decide +kernel
theorem d_HP_plan_116 : decode b_HP_plan 116 = .ok (.ireturn, 1) := by decide +kernel
theorem d_HP_plan_117 : decode b_HP_plan 117 = .ok (.aload_n 0, 1) := by decide +kernel
theorem d_HP_plan_118 : decode b_HP_plan 118 = .ok (.getfield 35, 3) := by decide +kernel
theorem d_HP_plan_121 : decode b_HP_plan 121 = .ok (.getfield 115, 3) := by decide +kernel
theorem d_HP_plan_124 : decode b_HP_plan 124 = .ok (.invokevirtual 131, 3) := by decide +kernel
theorem d_HP_plan_127 : decode b_HP_plan 127 = .ok (.ireturn, 1) := by decide +kernel
theorem d_HP_plan_128 : decode b_HP_plan 128 = .ok (.new 134, 3) := by decide +kernel
theorem d_HP_plan_131 : decode b_HP_plan 131 = .ok (.dup, 1) := by decide +kernel
theorem d_HP_plan_132 : decode b_HP_plan 132 = .ok (.invokespecial 136, 3) := by decide +kernel
theorem d_HP_plan_135 : decode b_HP_plan 135 = .ok (.athrow, 1) := by decide +kernel
theorem d_HP_run_0 : decode b_HP_run 0 = .ok (.aload_n 0, 1) := by decide +kernel
theorem d_HP_run_1 : decode b_HP_run 1 = .ok (.invokevirtual 112, 3) := by decide +kernel
theorem d_HP_run_4 : decode b_HP_run 4 = .ok (.iload_n 1, 1) := by decide +kernel
theorem d_HP_run_5 : decode b_HP_run 5 = .ok (.iconst 0, 1) := by decide +kernel
theorem d_HP_run_6 : decode b_HP_run 6 = .ok (.sipush 5000, 3) := by decide +kernel
theorem d_HP_run_9 : decode b_HP_run 9 = .ok (.invokestatic 52, 3) := by decide +kernel
theorem d_HP_run_12 : decode b_HP_run 12 = .ok (.invokestatic 56, 3) := by decide +kernel
theorem d_HP_run_15 : decode b_HP_run 15 = .ok (.iconst 0, 1) := by decide +kernel
theorem d_HP_run_16 : decode b_HP_run 16 = .ok (.istore_n 2, 1) := by decide +kernel
theorem d_HP_run_17 : decode b_HP_run 17 = .ok (.iconst 0, 1) := by decide +kernel
theorem d_HP_run_18 : decode b_HP_run 18 = .ok (.istore_n 3, 1) := by decide +kernel
theorem d_HP_run_19 : decode b_HP_run 19 = .ok (.iload_n 3, 1) := by decide +kernel
theorem d_HP_run_20 : decode b_HP_run 20 = .ok (.iload_n 1, 1) := by decide +kernel
theorem d_HP_run_21 : decode b_HP_run 21 = .ok (.if_icmp .ge 22, 3) := by decide +kernel
theorem d_HP_run_24 : decode b_HP_run 24 = .ok (.aload_n 0, 1) := by decide +kernel
theorem d_HP_run_25 : decode b_HP_run 25 = .ok (.getfield 44, 3) := by decide +kernel
theorem d_HP_run_28 : decode b_HP_run 28 = .ok (.invokevirtual 137, 3) := by decide +kernel
theorem d_HP_run_31 : decode b_HP_run 31 = .ok (.ifCond .eq 6, 3) := by decide +kernel
theorem d_HP_run_34 : decode b_HP_run 34 = .ok (.iinc 2 1, 3) := by decide +kernel
theorem d_HP_run_37 : decode b_HP_run 37 = .ok (.iinc 3 1, 3) := by decide +kernel
theorem d_HP_run_40 : decode b_HP_run 40 = .ok (.goto (-21), 3) := by decide +kernel
theorem d_HP_run_43 : decode b_HP_run 43 = .ok (.iload_n 2, 1) := by decide +kernel
theorem d_HP_run_44 : decode b_HP_run 44 = .ok (.ireturn, 1) := by decide +kernel
theorem d_HP_stop_0 : decode b_HP_stop 0 = .ok (.aload_n 0, 1) := by decide +kernel
theorem d_HP_stop_1 : decode b_HP_stop 1 = .ok (.invokevirtual 112, 3) := by decide +kernel
theorem d_HP_stop_4 : decode b_HP_stop 4 = .ok (.aload_n 0, 1) := by decide +kernel
theorem d_HP_stop_5 : decode b_HP_stop 5 = .ok (.getfield 44, 3) := by decide +kernel
theorem d_HP_stop_8 : decode b_HP_stop 8 = .ok (.iload_n 1, 1) := by decide +kernel
theorem d_HP_stop_9 : decode b_HP_stop 9 = .ok (.putfield 141, 3) := by decide +kernel
theorem d_HP_stop_12 : decode b_HP_stop 12 = .ok (.return_, 1) := by decide +kernel
theorem d_HP_tank_0 : decode b_HP_tank 0 = .ok (.aload_n 0, 1) := by decide +kernel
theorem d_HP_tank_1 : decode b_HP_tank 1 = .ok (.invokevirtual 112, 3) := by decide +kernel
theorem d_HP_tank_4 : decode b_HP_tank 4 = .ok (.aload_n 0, 1) := by decide +kernel
theorem d_HP_tank_5 : decode b_HP_tank 5 = .ok (.getfield 12, 3) := by decide +kernel
theorem d_HP_tank_8 : decode b_HP_tank 8 = .ok (.iload_n 1, 1) := by decide +kernel
theorem d_HP_tank_9 : decode b_HP_tank 9 = .ok (.invokevirtual 64, 3) := by decide +kernel
theorem d_HP_tank_12 : decode b_HP_tank 12 = .ok (.invokestatic 56, 3) := by decide +kernel
theorem d_HP_tank_15 : decode b_HP_tank 15 = .ok (.aload_n 0, 1) := by decide +kernel
theorem d_HP_tank_16 : decode b_HP_tank 16 = .ok (.getfield 44, 3) := by decide +kernel
theorem d_HP_tank_19 : decode b_HP_tank 19 = .ok (.getfield 144, 3) := by decide +kernel
theorem d_HP_tank_22 : decode b_HP_tank 22 = .ok (.iload_n 1, 1) := by decide +kernel
theorem d_HP_tank_23 : decode b_HP_tank 23 = .ok (.iaload, 1) := by decide +kernel
theorem d_HP_tank_24 : decode b_HP_tank 24 = .ok (.ireturn, 1) := by decide +kernel
theorem d_HP_state_0 : decode b_HP_state 0 = .ok (.aload_n 0, 1) := by decide +kernel
theorem d_HP_state_1 : decode b_HP_state 1 = .ok (.invokevirtual 112, 3) := by decide +kernel
theorem d_HP_state_4 : decode b_HP_state 4 = .ok (.iload_n 1, 1) := by decide +kernel
theorem d_HP_state_5 : decode b_HP_state 5 = .ok (.tableswitch 107 0 6 #[43, 51, 59, 67, 75, 83, 99], 43) := by decide +kernel
theorem d_HP_state_48 : decode b_HP_state 48 = .ok (.aload_n 0, 1) := by decide +kernel
theorem d_HP_state_49 : decode b_HP_state 49 = .ok (.getfield 44, 3) := by decide +kernel
theorem d_HP_state_52 : decode b_HP_state 52 = .ok (.getfield 147, 3) := by decide +kernel
theorem d_HP_state_55 : decode b_HP_state 55 = .ok (.ireturn, 1) := by decide +kernel
theorem d_HP_state_56 : decode b_HP_state 56 = .ok (.aload_n 0, 1) := by decide +kernel
theorem d_HP_state_57 : decode b_HP_state 57 = .ok (.getfield 44, 3) := by decide +kernel
theorem d_HP_state_60 : decode b_HP_state 60 = .ok (.getfield 150, 3) := by decide +kernel
theorem d_HP_state_63 : decode b_HP_state 63 = .ok (.ireturn, 1) := by decide +kernel
theorem d_HP_state_64 : decode b_HP_state 64 = .ok (.aload_n 0, 1) := by decide +kernel
theorem d_HP_state_65 : decode b_HP_state 65 = .ok (.getfield 44, 3) := by decide +kernel
theorem d_HP_state_68 : decode b_HP_state 68 = .ok (.getfield 153, 3) := by decide +kernel
theorem d_HP_state_71 : decode b_HP_state 71 = .ok (.ireturn, 1) := by decide +kernel
theorem d_HP_state_72 : decode b_HP_state 72 = .ok (.aload_n 0, 1) := by decide +kernel
theorem d_HP_state_73 : decode b_HP_state 73 = .ok (.getfield 44, 3) := by decide +kernel
theorem d_HP_state_76 : decode b_HP_state 76 = .ok (.getfield 156, 3) := by decide +kernel
theorem d_HP_state_79 : decode b_HP_state 79 = .ok (.ireturn, 1) := by decide +kernel
theorem d_HP_state_80 : decode b_HP_state 80 = .ok (.aload_n 0, 1) := by decide +kernel
theorem d_HP_state_81 : decode b_HP_state 81 = .ok (.getfield 44, 3) := by decide +kernel
theorem d_HP_state_84 : decode b_HP_state 84 = .ok (.getfield 159, 3) := by decide +kernel
theorem d_HP_state_87 : decode b_HP_state 87 = .ok (.ireturn, 1) := by decide +kernel
theorem d_HP_state_88 : decode b_HP_state 88 = .ok (.aload_n 0, 1) := by decide +kernel
theorem d_HP_state_89 : decode b_HP_state 89 = .ok (.getfield 44, 3) := by decide +kernel
theorem d_HP_state_92 : decode b_HP_state 92 = .ok (.invokevirtual 162, 3) := by decide +kernel
theorem d_HP_state_95 : decode b_HP_state 95 = .ok (.ifCond .eq 7, 3) := by decide +kernel
theorem d_HP_state_98 : decode b_HP_state 98 = .ok (.iconst 1, 1) := by decide +kernel
theorem d_HP_state_99 : decode b_HP_state 99 = .ok (.goto 4, 3) := by decide +kernel
theorem d_HP_state_102 : decode b_HP_state 102 = .ok (.iconst 0, 1) := by decide +kernel
theorem d_HP_state_103 : decode b_HP_state 103 = .ok (.ireturn, 1) := by decide +kernel
theorem d_HP_state_104 : decode b_HP_state 104 = .ok (.aload_n 0, 1) := by decide +kernel
theorem d_HP_state_105 : decode b_HP_state 105 = .ok (.getfield 44, 3) := by decide +kernel
theorem d_HP_state_108 : decode b_HP_state 108 = .ok (.getfield 165, 3) := by decide +kernel
theorem d_HP_state_111 : decode b_HP_state 111 = .ok (.ireturn, 1) := by decide +kernel
theorem d_HP_state_112 : decode b_HP_state 112 = .ok (.new 134, 3) := by decide +kernel
theorem d_HP_state_115 : decode b_HP_state 115 = .ok (.dup, 1) := by decide +kernel
theorem d_HP_state_116 : decode b_HP_state 116 = .ok (.invokespecial 136, 3) := by decide +kernel
theorem d_HP_state_119 : decode b_HP_state 119 = .ok (.athrow, 1) := by decide +kernel
theorem hq_ats {own cls : String} {ic : Nat} {args : Array Value} {s : State} (h : (Bundle.ownAtoms0 own ic cls ["java/lang/RuntimeException", "java/lang/Exception"]).all (fun w => decide (w ∈ tb0) || (decide (w ∈ tx0) || (decide (w = .laysStatic Bundle.tN "UNASSIGNED_STACK" Bundle.steD) || (decide (w = .laysStatic Bundle.tN "SUPPRESSED_SENTINEL" Bundle.listD) || (decide (w = .isRef (.static Bundle.tN "UNASSIGNED_STACK" Bundle.steD)) || decide (w = .isRef (.static Bundle.tN "SUPPRESSED_SENTINEL" Bundle.listD))))))) = true) (hts : ∀ w ∈ tb0, w.before args s = true) (hG : hq_G s s.heap) : ∀ w ∈ Bundle.ownAtoms0 own ic cls ["java/lang/RuntimeException", "java/lang/Exception"], w.before args s = true := by
  intro w hw
  have h1 := List.all_eq_true.mp h w hw
  simp only [Bool.or_eq_true, decide_eq_true_eq] at h1
  rcases h1 with h1 | h1 | rfl | rfl | rfl | rfl
  · exact hts w h1
  · exact va_Nw.use (tx_on (List.mem_filter.mp h1).2) (hG.1 w h1)
  · exact hG.2.1.lays
  · exact hG.2.2.lays
  · exact hG.2.1.ref
  · exact hG.2.2.ref
theorem hq_atIAE {args : Array Value} {s : State} (hts : ∀ w ∈ tb0, w.before args s = true) (hG : hq_G s s.heap) : ∀ w ∈ Bundle.ownAtoms0 R_HP 136 "java/lang/IllegalArgumentException" ["java/lang/RuntimeException", "java/lang/Exception"], w.before args s = true := hq_ats (by decide +kernel) hts hG
theorem hq_atISE {args : Array Value} {s : State} (hts : ∀ w ∈ tb0, w.before args s = true) (hG : hq_G s s.heap) : ∀ w ∈ Bundle.ownAtoms0 R_HP 170 "java/lang/IllegalStateException" ["java/lang/RuntimeException", "java/lang/Exception"], w.before args s = true := hq_ats (by decide +kernel) hts hG
def fn_HP_require (a0 : Int32) : Option (Nat) :=
  if ¬ a0 = 0 then
    some 0
  else
    some 2

def fn_HP_requireReady (z : Nat) (v_layout_tanks : Int32) (f_layout_loadedSeconds : Nat → Int32) (f_layout_emptySeconds : Nat → Nat → Int32) : Option (Nat) :=
  ox_cl (fn_LY_fault z v_layout_tanks f_layout_loadedSeconds f_layout_emptySeconds) fun r1 =>
  if r1 = 0 then
    some 0
  else
    some 1

def fn_HP_requirePlan (v_planned : Int32) : Option (Nat) :=
  if ¬ v_planned = 0 then
    some 0
  else
    some 1

def fn_HP_line (z : Nat) (a1 : Int32) (v_planned : Int32) (v_layout_tanks : Int32) (f_layout_low : Nat → Int32) (f_layout_high : Nat → Int32) (f_layout_loadedSeconds : Nat → Int32) (f_layout_emptySeconds : Nat → Nat → Int32) : Option (Nat × Int32 × Int32 × (Nat → Int32) × (Nat → Int32) × (Nat → Int32) × (Nat → Nat → Int32)) :=
  ox_cl (fn_HP_isWithin a1 1 5) fun r1 =>
  ox_cl (fn_HP_require r1) fun x2 =>
  if ¬ x2 = 0 then some (x2, v_planned, v_layout_tanks, f_layout_low, f_layout_high, f_layout_loadedSeconds, f_layout_emptySeconds) else
  ox_cl (fn_LY_reset z a1 v_layout_tanks f_layout_low f_layout_high f_layout_loadedSeconds f_layout_emptySeconds) fun (s3_v_tanks, s3_f_low, s3_f_high, s3_f_loadedSeconds, s3_f_emptySeconds) =>
  some (0, 0, s3_v_tanks, s3_f_low, s3_f_high, s3_f_loadedSeconds, s3_f_emptySeconds)

def fn_HP_soak (a1 : Int32) (a2 : Int32) (a3 : Int32) (v_planned : Int32) (v_layout_tanks : Int32) (f_layout_low : Nat → Int32) (f_layout_high : Nat → Int32) : Option (Nat × Int32 × (Nat → Int32) × (Nat → Int32)) :=
  ox_cl (fn_LY_hasTank a1 v_layout_tanks) fun r1 =>
  ox_cl (fn_HP_require r1) fun x2 =>
  if ¬ x2 = 0 then some (x2, v_planned, f_layout_low, f_layout_high) else
  if a2 < 0 then
    ox_cl (fn_HP_require 0) fun x4 =>
    if ¬ x4 = 0 then some (x4, v_planned, f_layout_low, f_layout_high) else
    ox_gd a1 6 (
    ox_gd a1 6 (
    some (0, 0, (upd f_layout_low a1.toNatClampNeg a2), (upd f_layout_high a1.toNatClampNeg a3))))
  else
    if a3 < a2 then
      ox_cl (fn_HP_require 0) fun x6 =>
      if ¬ x6 = 0 then some (x6, v_planned, f_layout_low, f_layout_high) else
      ox_gd a1 6 (
      ox_gd a1 6 (
      some (0, 0, (upd f_layout_low a1.toNatClampNeg a2), (upd f_layout_high a1.toNatClampNeg a3))))
    else
      if 500 < a3 then
        ox_cl (fn_HP_require 0) fun x8 =>
        if ¬ x8 = 0 then some (x8, v_planned, f_layout_low, f_layout_high) else
        ox_gd a1 6 (
        ox_gd a1 6 (
        some (0, 0, (upd f_layout_low a1.toNatClampNeg a2), (upd f_layout_high a1.toNatClampNeg a3))))
      else
        ox_cl (fn_HP_require 1) fun x9 =>
        if ¬ x9 = 0 then some (x9, v_planned, f_layout_low, f_layout_high) else
        ox_gd a1 6 (
        ox_gd a1 6 (
        some (0, 0, (upd f_layout_low a1.toNatClampNeg a2), (upd f_layout_high a1.toNatClampNeg a3))))

def fn_HP_loaded (a1 : Int32) (a2 : Int32) (v_planned : Int32) (v_layout_tanks : Int32) (f_layout_loadedSeconds : Nat → Int32) : Option (Nat × Int32 × (Nat → Int32)) :=
  ox_cl (fn_LY_hasMove a1 v_layout_tanks) fun r1 =>
  ox_cl (fn_HP_require r1) fun x2 =>
  if ¬ x2 = 0 then some (x2, v_planned, f_layout_loadedSeconds) else
  ox_cl (fn_HP_isWithin a2 1 100) fun r3 =>
  ox_cl (fn_HP_require r3) fun x4 =>
  if ¬ x4 = 0 then some (x4, v_planned, f_layout_loadedSeconds) else
  ox_gd a1 6 (
  some (0, 0, (upd f_layout_loadedSeconds a1.toNatClampNeg a2)))

def fn_HP_empty (a1 : Int32) (a2 : Int32) (a3 : Int32) (v_planned : Int32) (v_layout_tanks : Int32) (f_layout_emptySeconds : Nat → Nat → Int32) : Option (Nat × Int32 × (Nat → Nat → Int32)) :=
  ox_cl (fn_LY_hasPlace a1 v_layout_tanks) fun r1 =>
  if r1 = 0 then
    ox_cl (fn_HP_require 0) fun x3 =>
    if ¬ x3 = 0 then some (x3, v_planned, f_layout_emptySeconds) else
    ox_cl (fn_HP_isWithin a3 0 100) fun r4 =>
    ox_cl (fn_HP_require r4) fun x5 =>
    if ¬ x5 = 0 then some (x5, v_planned, f_layout_emptySeconds) else
    ox_gd a1 7 (
    ox_gd a2 7 (
    some (0, 0, (va_up f_layout_emptySeconds a1.toNatClampNeg (upd (f_layout_emptySeconds a1.toNatClampNeg) a2.toNatClampNeg a3)))))
  else
    ox_cl (fn_LY_hasPlace a2 v_layout_tanks) fun r6 =>
    if r6 = 0 then
      ox_cl (fn_HP_require 0) fun x8 =>
      if ¬ x8 = 0 then some (x8, v_planned, f_layout_emptySeconds) else
      ox_cl (fn_HP_isWithin a3 0 100) fun r9 =>
      ox_cl (fn_HP_require r9) fun x10 =>
      if ¬ x10 = 0 then some (x10, v_planned, f_layout_emptySeconds) else
      ox_gd a1 7 (
      ox_gd a2 7 (
      some (0, 0, (va_up f_layout_emptySeconds a1.toNatClampNeg (upd (f_layout_emptySeconds a1.toNatClampNeg) a2.toNatClampNeg a3)))))
    else
      if a1 = a2 then
        ox_cl (fn_HP_require 0) fun x12 =>
        if ¬ x12 = 0 then some (x12, v_planned, f_layout_emptySeconds) else
        ox_cl (fn_HP_isWithin a3 0 100) fun r13 =>
        ox_cl (fn_HP_require r13) fun x14 =>
        if ¬ x14 = 0 then some (x14, v_planned, f_layout_emptySeconds) else
        ox_gd a1 7 (
        ox_gd a2 7 (
        some (0, 0, (va_up f_layout_emptySeconds a1.toNatClampNeg (upd (f_layout_emptySeconds a1.toNatClampNeg) a2.toNatClampNeg a3)))))
      else
        ox_cl (fn_HP_require 1) fun x15 =>
        if ¬ x15 = 0 then some (x15, v_planned, f_layout_emptySeconds) else
        ox_cl (fn_HP_isWithin a3 0 100) fun r16 =>
        ox_cl (fn_HP_require r16) fun x17 =>
        if ¬ x17 = 0 then some (x17, v_planned, f_layout_emptySeconds) else
        ox_gd a1 7 (
        ox_gd a2 7 (
        some (0, 0, (va_up f_layout_emptySeconds a1.toNatClampNeg (upd (f_layout_emptySeconds a1.toNatClampNeg) a2.toNatClampNeg a3)))))

def fn_HP_solve (z : Nat) (v_planned : Int32) (v_layout_tanks : Int32) (v_tried_count : Int32) (v_timing_rules : Int32) (v_found_cycle : Int32) (v_found_order_count : Int32) (v_works_second : Int32) (v_works_cycleSecond : Int32) (v_works_nextRank : Int32) (v_works_entryStopped : Int32) (v_works_entered : Int32) (v_works_done : Int32) (v_works_lastStay : Int32) (v_works_hoistCarrier : Int32) (v_works_hoistMove : Int32) (v_works_hoistEntry : Int32) (v_works_hoistEnd : Int32) (f_layout_loadedSeconds : Nat → Int32) (f_tried_moves : Nat → Int32) (f_tried_rank : Nat → Int32) (f_timing_before : Nat → Int32) (f_timing_after : Nat → Int32) (f_timing_seconds : Nat → Int32) (f_timing_turns : Nat → Int32) (f_layout_low : Nat → Int32) (f_layout_high : Nat → Int32) (f_timing_times : Nat → Int32) (f_timing_cause : Nat → Int32) (f_found_order_moves : Nat → Int32) (f_found_order_rank : Nat → Int32) (f_found_times : Nat → Int32) (f_works_carriers : Nat → Int32) (f_works_entries : Nat → Int32) (f_layout_emptySeconds : Nat → Nat → Int32) : Option (Nat × Int32 × Int32 × Int32 × Int32 × Int32 × Int32 × Int32 × Int32 × Int32 × Int32 × Int32 × Int32 × Int32 × Int32 × Int32 × Int32 × Int32 × (Nat → Int32) × (Nat → Int32) × (Nat → Int32) × (Nat → Int32) × (Nat → Int32) × (Nat → Int32) × (Nat → Int32) × (Nat → Int32) × (Nat → Int32) × (Nat → Int32) × (Nat → Int32) × (Nat → Int32) × (Nat → Int32)) :=
  ox_cl (fn_HP_requireReady z v_layout_tanks f_layout_loadedSeconds f_layout_emptySeconds) fun x1 =>
  if ¬ x1 = 0 then some (x1, 0, v_planned, v_tried_count, v_timing_rules, v_found_cycle, v_found_order_count, v_works_second, v_works_cycleSecond, v_works_nextRank, v_works_entryStopped, v_works_entered, v_works_done, v_works_lastStay, v_works_hoistCarrier, v_works_hoistMove, v_works_hoistEntry, v_works_hoistEnd, f_tried_moves, f_tried_rank, f_timing_before, f_timing_after, f_timing_seconds, f_timing_turns, f_timing_times, f_timing_cause, f_found_order_moves, f_found_order_rank, f_found_times, f_works_carriers, f_works_entries) else
  ox_cl (fn_HP_findPlan z v_layout_tanks v_tried_count v_timing_rules v_found_cycle v_found_order_count f_tried_moves f_tried_rank f_layout_loadedSeconds f_timing_before f_timing_after f_timing_seconds f_timing_turns f_layout_low f_layout_high f_timing_times f_timing_cause f_found_order_moves f_found_order_rank f_found_times f_layout_emptySeconds) fun (r2, s2_v_tried_count, s2_v_timing_rules, s2_v_found_cycle, s2_v_found_order_count, s2_f_tried_moves, s2_f_tried_rank, s2_f_timing_before, s2_f_timing_after, s2_f_timing_seconds, s2_f_timing_turns, s2_f_timing_times, s2_f_timing_cause, s2_f_found_order_moves, s2_f_found_order_rank, s2_f_found_times) =>
  if r2 = (-1) then
    ox_cl (fn_WK_reset z v_works_second v_works_cycleSecond v_works_nextRank v_works_entryStopped v_works_entered v_works_done v_works_lastStay v_works_hoistCarrier v_works_hoistMove v_works_hoistEntry v_works_hoistEnd f_works_carriers f_works_entries) fun (s4_v_second, s4_v_cycleSecond, s4_v_nextRank, s4_v_entryStopped, s4_v_entered, s4_v_done, s4_v_lastStay, s4_v_hoistCarrier, s4_v_hoistMove, s4_v_hoistEntry, s4_v_hoistEnd, s4_f_carriers, s4_f_entries) =>
    some (0, r2, 0, s2_v_tried_count, s2_v_timing_rules, s2_v_found_cycle, s2_v_found_order_count, s4_v_second, s4_v_cycleSecond, s4_v_nextRank, s4_v_entryStopped, s4_v_entered, s4_v_done, s4_v_lastStay, s4_v_hoistCarrier, s4_v_hoistMove, s4_v_hoistEntry, s4_v_hoistEnd, s2_f_tried_moves, s2_f_tried_rank, s2_f_timing_before, s2_f_timing_after, s2_f_timing_seconds, s2_f_timing_turns, s2_f_timing_times, s2_f_timing_cause, s2_f_found_order_moves, s2_f_found_order_rank, s2_f_found_times, s4_f_carriers, s4_f_entries)
  else
    ox_cl (fn_WK_reset z v_works_second v_works_cycleSecond v_works_nextRank v_works_entryStopped v_works_entered v_works_done v_works_lastStay v_works_hoistCarrier v_works_hoistMove v_works_hoistEntry v_works_hoistEnd f_works_carriers f_works_entries) fun (s5_v_second, s5_v_cycleSecond, s5_v_nextRank, s5_v_entryStopped, s5_v_entered, s5_v_done, s5_v_lastStay, s5_v_hoistCarrier, s5_v_hoistMove, s5_v_hoistEntry, s5_v_hoistEnd, s5_f_carriers, s5_f_entries) =>
    some (0, r2, 1, s2_v_tried_count, s2_v_timing_rules, s2_v_found_cycle, s2_v_found_order_count, s5_v_second, s5_v_cycleSecond, s5_v_nextRank, s5_v_entryStopped, s5_v_entered, s5_v_done, s5_v_lastStay, s5_v_hoistCarrier, s5_v_hoistMove, s5_v_hoistEntry, s5_v_hoistEnd, s2_f_tried_moves, s2_f_tried_rank, s2_f_timing_before, s2_f_timing_after, s2_f_timing_seconds, s2_f_timing_turns, s2_f_timing_times, s2_f_timing_cause, s2_f_found_order_moves, s2_f_found_order_rank, s2_f_found_times, s5_f_carriers, s5_f_entries)

def fn_HP_least (z : Nat) (a1 : Int32) (v_layout_tanks : Int32) (v_tried_count : Int32) (v_timing_rules : Int32) (f_layout_loadedSeconds : Nat → Int32) (f_tried_rank : Nat → Int32) (f_tried_moves : Nat → Int32) (f_timing_before : Nat → Int32) (f_timing_after : Nat → Int32) (f_timing_seconds : Nat → Int32) (f_timing_turns : Nat → Int32) (f_layout_low : Nat → Int32) (f_layout_high : Nat → Int32) (f_timing_times : Nat → Int32) (f_timing_cause : Nat → Int32) (f_layout_emptySeconds : Nat → Nat → Int32) : Option (Nat × Int32 × Int32 × Int32 × (Nat → Int32) × (Nat → Int32) × (Nat → Int32) × (Nat → Int32) × (Nat → Int32) × (Nat → Int32) × (Nat → Int32) × (Nat → Int32)) :=
  ox_cl (fn_HP_requireReady z v_layout_tanks f_layout_loadedSeconds f_layout_emptySeconds) fun x1 =>
  if ¬ x1 = 0 then some (x1, 0, v_tried_count, v_timing_rules, f_tried_rank, f_tried_moves, f_timing_before, f_timing_after, f_timing_seconds, f_timing_turns, f_timing_times, f_timing_cause) else
  ox_cl (fn_OR_read z a1 v_layout_tanks v_tried_count f_tried_rank f_tried_moves) fun (r2, s2_v_count, s2_f_rank, s2_f_moves) =>
  ox_cl (fn_HP_require r2) fun x3 =>
  if ¬ x3 = 0 then some (x3, 0, s2_v_count, v_timing_rules, s2_f_rank, s2_f_moves, f_timing_before, f_timing_after, f_timing_seconds, f_timing_turns, f_timing_times, f_timing_cause) else
  ox_cl (fn_TM_leastCycle z 2000 v_timing_rules s2_v_count s2_f_moves f_layout_loadedSeconds f_timing_before f_timing_after f_timing_seconds f_timing_turns s2_f_rank f_layout_low f_layout_high f_timing_times f_timing_cause f_layout_emptySeconds) fun (r4, s4_v_rules, s4_f_before, s4_f_after, s4_f_seconds, s4_f_turns, s4_f_times, s4_f_cause) =>
  some (0, r4, s2_v_count, s4_v_rules, s2_f_rank, s2_f_moves, s4_f_before, s4_f_after, s4_f_seconds, s4_f_turns, s4_f_times, s4_f_cause)

def fn_HP_plan (z : Nat) (a1 : Int32) (a2 : Int32) (v_planned : Int32) (v_layout_tanks : Int32) (v_found_cycle : Int32) (v_found_order_count : Int32) (f_found_order_moves : Nat → Int32) (f_found_times : Nat → Int32) (f_layout_loadedSeconds : Nat → Int32) (f_found_order_rank : Nat → Int32) : Option (Nat × Int32) :=
  ox_cl (fn_HP_requirePlan v_planned) fun x1 =>
  if ¬ x1 = 0 then some (x1, 0) else
  if a2 = 0 then
    ox_cl (fn_LY_hasMove a1 v_layout_tanks) fun r2 =>
    ox_cl (fn_HP_require r2) fun x3 =>
    if ¬ x3 = 0 then some (x3, 0) else
    ox_gd a1 6 (
    some (0, (f_found_order_moves a1.toNatClampNeg)))
  else
  if a2 = 1 then
    ox_cl (fn_LY_hasMove a1 v_layout_tanks) fun r4 =>
    ox_cl (fn_HP_require r4) fun x5 =>
    if ¬ x5 = 0 then some (x5, 0) else
    ox_gd a1 6 (
    some (0, (f_found_times a1.toNatClampNeg)))
  else
  if a2 = 2 then
    ox_cl (fn_LY_hasTank a1 v_layout_tanks) fun r6 =>
    ox_cl (fn_HP_require r6) fun x7 =>
    if ¬ x7 = 0 then some (x7, 0) else
    ox_cl (fn_PL_soakSeconds a1 v_found_cycle f_found_times f_layout_loadedSeconds f_found_order_rank) fun r8 =>
    some (0, r8)
  else
  if a2 = 3 then
    some (0, v_found_cycle)
  else
  if a2 = 4 then
    ox_cl (fn_OR_number z v_found_order_count f_found_order_moves) fun r9 =>
    some (0, r9)
  else
    some (2, 0)

def st_HP_run (v_planned : Int32) (v_works_entryStopped : Int32) (v_found_cycle : Int32) (v_layout_tanks : Int32) (f_found_order_moves : Nat → Int32) (f_found_times : Nat → Int32) (f_layout_loadedSeconds : Nat → Int32) (rec : Nat → Int32 → Int32 → Int32 → Int32 → Int32 → Int32 → Int32 → Int32 → Int32 → Int32 → Int32 → Int32 → Int32 → (Nat → Int32) → (Nat → Int32) → Option (Nat × Int32 × Int32 × Int32 × Int32 × Int32 × Int32 × Int32 × Int32 × Int32 × Int32 × Int32 × (Nat → Int32) × (Nat → Int32))) (lbl : Nat) (i1 : Int32) (i2 : Int32) (i3 : Int32) (v_works_second : Int32) (v_works_cycleSecond : Int32) (v_works_nextRank : Int32) (v_works_entered : Int32) (v_works_done : Int32) (v_works_lastStay : Int32) (v_works_hoistCarrier : Int32) (v_works_hoistMove : Int32) (v_works_hoistEntry : Int32) (v_works_hoistEnd : Int32) (f_works_carriers : Nat → Int32) (f_works_entries : Nat → Int32) : Option (Nat × Int32 × Int32 × Int32 × Int32 × Int32 × Int32 × Int32 × Int32 × Int32 × Int32 × Int32 × (Nat → Int32) × (Nat → Int32)) :=
  match lbl with
  | _ =>
    if i1 ≤ i3 then
      some (0, i2, v_works_second, v_works_cycleSecond, v_works_nextRank, v_works_entered, v_works_done, v_works_lastStay, v_works_hoistCarrier, v_works_hoistMove, v_works_hoistEntry, v_works_hoistEnd, f_works_carriers, f_works_entries)
    else
      ox_cl (fn_WK_passSecond v_works_second v_works_cycleSecond v_works_nextRank v_works_entryStopped v_works_entered v_works_done v_works_lastStay v_works_hoistCarrier v_works_hoistMove v_works_hoistEntry v_works_hoistEnd v_found_cycle v_layout_tanks f_found_order_moves f_found_times f_works_carriers f_works_entries f_layout_loadedSeconds) fun (r5, s5_v_second, s5_v_cycleSecond, s5_v_nextRank, s5_v_entered, s5_v_done, s5_v_lastStay, s5_v_hoistCarrier, s5_v_hoistMove, s5_v_hoistEntry, s5_v_hoistEnd, s5_f_carriers, s5_f_entries) =>
      if r5 = 0 then
        rec 0 i1 i2 (i3 + 1) s5_v_second s5_v_cycleSecond s5_v_nextRank s5_v_entered s5_v_done s5_v_lastStay s5_v_hoistCarrier s5_v_hoistMove s5_v_hoistEntry s5_v_hoistEnd s5_f_carriers s5_f_entries
      else
        rec 0 i1 (i2 + 1) (i3 + 1) s5_v_second s5_v_cycleSecond s5_v_nextRank s5_v_entered s5_v_done s5_v_lastStay s5_v_hoistCarrier s5_v_hoistMove s5_v_hoistEntry s5_v_hoistEnd s5_f_carriers s5_f_entries
def lp_HP_run (v_planned : Int32) (v_works_entryStopped : Int32) (v_found_cycle : Int32) (v_layout_tanks : Int32) (f_found_order_moves : Nat → Int32) (f_found_times : Nat → Int32) (f_layout_loadedSeconds : Nat → Int32) : Nat → Nat → Int32 → Int32 → Int32 → Int32 → Int32 → Int32 → Int32 → Int32 → Int32 → Int32 → Int32 → Int32 → Int32 → (Nat → Int32) → (Nat → Int32) → Option (Nat × Int32 × Int32 × Int32 × Int32 × Int32 × Int32 × Int32 × Int32 × Int32 × Int32 × Int32 × (Nat → Int32) × (Nat → Int32))
  | 0 => fun _ _ _ _ _ _ _ _ _ _ _ _ _ _ _ _ => none
  | fu+1 => st_HP_run v_planned v_works_entryStopped v_found_cycle v_layout_tanks f_found_order_moves f_found_times f_layout_loadedSeconds (lp_HP_run v_planned v_works_entryStopped v_found_cycle v_layout_tanks f_found_order_moves f_found_times f_layout_loadedSeconds fu)
def fn_HP_run (z : Nat) (a1 : Int32) (v_planned : Int32) (v_works_second : Int32) (v_works_cycleSecond : Int32) (v_works_nextRank : Int32) (v_works_entryStopped : Int32) (v_works_entered : Int32) (v_works_done : Int32) (v_works_lastStay : Int32) (v_works_hoistCarrier : Int32) (v_works_hoistMove : Int32) (v_works_hoistEntry : Int32) (v_works_hoistEnd : Int32) (v_found_cycle : Int32) (v_layout_tanks : Int32) (f_found_order_moves : Nat → Int32) (f_found_times : Nat → Int32) (f_works_carriers : Nat → Int32) (f_works_entries : Nat → Int32) (f_layout_loadedSeconds : Nat → Int32) : Option (Nat × Int32 × Int32 × Int32 × Int32 × Int32 × Int32 × Int32 × Int32 × Int32 × Int32 × Int32 × (Nat → Int32) × (Nat → Int32)) :=
  ox_cl (fn_HP_requirePlan v_planned) fun x1 =>
  if ¬ x1 = 0 then some (x1, 0, v_works_second, v_works_cycleSecond, v_works_nextRank, v_works_entered, v_works_done, v_works_lastStay, v_works_hoistCarrier, v_works_hoistMove, v_works_hoistEntry, v_works_hoistEnd, f_works_carriers, f_works_entries) else
  ox_cl (fn_HP_isWithin a1 0 5000) fun r2 =>
  ox_cl (fn_HP_require r2) fun x3 =>
  if ¬ x3 = 0 then some (x3, 0, v_works_second, v_works_cycleSecond, v_works_nextRank, v_works_entered, v_works_done, v_works_lastStay, v_works_hoistCarrier, v_works_hoistMove, v_works_hoistEntry, v_works_hoistEnd, f_works_carriers, f_works_entries) else
  lp_HP_run v_planned v_works_entryStopped v_found_cycle v_layout_tanks f_found_order_moves f_found_times f_layout_loadedSeconds z 0 a1 0 0 v_works_second v_works_cycleSecond v_works_nextRank v_works_entered v_works_done v_works_lastStay v_works_hoistCarrier v_works_hoistMove v_works_hoistEntry v_works_hoistEnd f_works_carriers f_works_entries

def fn_HP_stop (a1 : Int32) (v_planned : Int32) (v_works_entryStopped : Int32) : Option (Nat × Int32) :=
  ox_cl (fn_HP_requirePlan v_planned) fun x1 =>
  if ¬ x1 = 0 then some (x1, v_works_entryStopped) else
  ox_bg a1 (
  some (0, a1))

def fn_HP_tank (a1 : Int32) (v_planned : Int32) (v_layout_tanks : Int32) (f_works_carriers : Nat → Int32) : Option (Nat × Int32) :=
  ox_cl (fn_HP_requirePlan v_planned) fun x1 =>
  if ¬ x1 = 0 then some (x1, 0) else
  ox_cl (fn_LY_hasTank a1 v_layout_tanks) fun r2 =>
  ox_cl (fn_HP_require r2) fun x3 =>
  if ¬ x3 = 0 then some (x3, 0) else
  ox_gd a1 6 (
  some (0, (f_works_carriers a1.toNatClampNeg)))

def fn_HP_state (z : Nat) (a1 : Int32) (v_planned : Int32) (v_works_second : Int32) (v_works_entered : Int32) (v_works_done : Int32) (v_works_lastStay : Int32) (v_works_hoistCarrier : Int32) (v_works_hoistMove : Int32) (v_layout_tanks : Int32) (f_works_carriers : Nat → Int32) : Option (Nat × Int32) :=
  ox_cl (fn_HP_requirePlan v_planned) fun x1 =>
  if ¬ x1 = 0 then some (x1, 0) else
  if a1 = 0 then
    some (0, v_works_second)
  else
  if a1 = 1 then
    some (0, v_works_entered)
  else
  if a1 = 2 then
    some (0, v_works_done)
  else
  if a1 = 3 then
    some (0, v_works_hoistCarrier)
  else
  if a1 = 4 then
    some (0, v_works_hoistMove)
  else
  if a1 = 5 then
    ox_cl (fn_WK_isDrained z v_works_hoistCarrier v_layout_tanks f_works_carriers) fun r2 =>
    if r2 = 0 then
      some (0, 0)
    else
      some (0, 1)
  else
  if a1 = 6 then
    some (0, v_works_lastStay)
  else
    some (2, 0)
