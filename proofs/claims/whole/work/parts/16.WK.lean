abbrev wd_WK_freeHoist (q_this : Nat) (q_layout : Nat) (q_plan : Nat) (q_carriers : Nat) (q_entries : Nat) (v_second : Int32) (v_cycleSecond : Int32) (v_nextRank : Int32) (v_entryStopped : Int32) (v_entered : Int32) (v_done : Int32) (v_lastStay : Int32) (v_hoistCarrier : Int32) (v_hoistMove : Int32) (v_hoistEntry : Int32) (v_hoistEnd : Int32) : va_W := [(q_this, .inr (4, [.ref q_layout, .ref q_plan, .int v_second, .int v_cycleSecond, .int v_nextRank, .int v_entryStopped, .int v_entered, .int v_done, .int v_lastStay, .int v_hoistCarrier, .int v_hoistMove, .int v_hoistEntry, .int v_hoistEnd, .ref q_carriers, .ref q_entries]))]
set_option maxHeartbeats 4000000 in
set_option maxRecDepth 100000 in
theorem c_WK_freeHoist (l : Launch) (dC : Nat → ClassId) (dI : Nat → Nat → Nat) (q_this : Nat) (q_layout : Nat) (q_plan : Nat) (q_carriers : Nat) (q_entries : Nat) (sz : Nat) (v_second : Int32) (v_cycleSecond : Int32) (v_nextRank : Int32) (v_entryStopped : Int32) (v_entered : Int32) (v_done : Int32) (v_lastStay : Int32) (v_hoistCarrier : Int32) (v_hoistMove : Int32) (v_hoistEntry : Int32) (v_hoistEnd : Int32) (n_v_hoistCarrier : Int32) (n_v_hoistMove : Int32) (hF : fn_WK_freeHoist v_hoistCarrier v_hoistMove = some (n_v_hoistCarrier, n_v_hoistMove)) : Met l y_WK_freeHoist w_WK_freeHoist ({ frames := 0, cells := 0, slots := 0, locals := 0 }) (hq_Pc (dC, dI) vwCl [] (wd_WK_freeHoist q_this q_layout q_plan q_carriers q_entries v_second v_cycleSecond v_nextRank v_entryStopped v_entered v_done v_lastStay v_hoistCarrier v_hoistMove v_hoistEntry v_hoistEnd) sz [.ref q_this]) (hq_Qv (dC, dI) vwCl [] (wd_WK_freeHoist q_this q_layout q_plan q_carriers q_entries v_second v_cycleSecond v_nextRank v_entryStopped v_entered v_done v_lastStay n_v_hoistCarrier n_v_hoistMove v_hoistEntry v_hoistEnd) (va_A (wd_WK_freeHoist q_this q_layout q_plan q_carriers q_entries v_second v_cycleSecond v_nextRank v_entryStopped v_entered v_done v_lastStay v_hoistCarrier v_hoistMove v_hoistEntry v_hoistEnd) sz)) 0 0 (va_A (wd_WK_freeHoist q_this q_layout q_plan q_carriers q_entries v_second v_cycleSecond v_nextRank v_entryStopped v_entered v_done v_lastStay v_hoistCarrier v_hoistMove v_hoistEntry v_hoistEnd) sz) := by
  refine hq_met (Qc := (hq_Qv (dC, dI) vwCl [] (wd_WK_freeHoist q_this q_layout q_plan q_carriers q_entries v_second v_cycleSecond v_nextRank v_entryStopped v_entered v_done v_lastStay n_v_hoistCarrier n_v_hoistMove v_hoistEntry v_hoistEnd))) (cc := b_WK_freeHoist) (maxL := 1) (ret := none) (by decide) rfl (Nat.le_of_ble_eq_true rfl) ?_
  intro p e s m args below meth c A ls hx hb hr hml hts hown hlocks hnm hP hD hK hA hS hl
  have hts : ∀ w ∈ tb0, w.before args s = true := fun w h => hts w (List.mem_cons_of_mem _ h)
  have hown : s.vm.findClass R_WK = some m.cls := hown
  have hl : lv_has ls 1 [(0, .ref q_this)] := hl
  unfold fn_WK_freeHoist at hF
  refine lv_aload_n hx hb d_WK_freeHoist_0 rfl (lv_at hl 0 rfl) ?_
  refine lv_iconst (v := 0) hx hb d_WK_freeHoist_1 (by decide) ?_
  refine va_put (D := (dC, dI)) (ci := 4) (v := .int 0) (ty := .int) (C := R_WK) (T := F_WK) (N := 15) hx hb hts uw_WK t_WK t_WK_ok n_WK hown hK hP hD hS 0 rfl rfl 9 (by decide) (hts _ tw_97) (fun _ h9 => h9) rfl (by decide +kernel) rfl rfl (Nat.le_of_ble_eq_true rfl) d_WK_freeHoist_2 (fun H locs hP hD hS => ?_)
  have hP : va_P (dC, dI) vwCl (wd_WK_freeHoist q_this q_layout q_plan q_carriers q_entries v_second v_cycleSecond v_nextRank v_entryStopped v_entered v_done v_lastStay 0 v_hoistMove v_hoistEntry v_hoistEnd) H := hP
  have hD : va_D A (wd_WK_freeHoist q_this q_layout q_plan q_carriers q_entries v_second v_cycleSecond v_nextRank v_entryStopped v_entered v_done v_lastStay 0 v_hoistMove v_hoistEntry v_hoistEnd) := hD
  refine lv_aload_n hx hb d_WK_freeHoist_5 rfl (lv_at hl 0 rfl) ?_
  refine lv_iconst (v := (-1)) hx hb d_WK_freeHoist_6 (by decide) ?_
  refine va_put (D := (dC, dI)) (ci := 4) (v := .int (-1)) (ty := .int) (C := R_WK) (T := F_WK) (N := 15) hx hb hts uw_WK t_WK t_WK_ok n_WK hown hK hP hD hS 0 rfl rfl 10 (by decide) (hts _ tw_98) (fun _ h9 => h9) rfl (by decide +kernel) rfl rfl (Nat.le_of_ble_eq_true rfl) d_WK_freeHoist_7 (fun H locs hP hD hS => ?_)
  have hP : va_P (dC, dI) vwCl (wd_WK_freeHoist q_this q_layout q_plan q_carriers q_entries v_second v_cycleSecond v_nextRank v_entryStopped v_entered v_done v_lastStay 0 (-1) v_hoistEntry v_hoistEnd) H := hP
  have hD : va_D A (wd_WK_freeHoist q_this q_layout q_plan q_carriers q_entries v_second v_cycleSecond v_nextRank v_entryStopped v_entered v_done v_lastStay 0 (-1) v_hoistEntry v_hoistEnd) := hD
  cases hF
  exact hq_vret hx hb hr hlocks hP hD hK hS d_WK_freeHoist_10
abbrev wd_WK_reset (q_this : Nat) (q_layout : Nat) (q_plan : Nat) (q_carriers : Nat) (q_entries : Nat) (cI : ClassId) (v_second : Int32) (v_cycleSecond : Int32) (v_nextRank : Int32) (v_entryStopped : Int32) (v_entered : Int32) (v_done : Int32) (v_lastStay : Int32) (v_hoistCarrier : Int32) (v_hoistMove : Int32) (v_hoistEntry : Int32) (v_hoistEnd : Int32) (f_carriers : Nat → Int32) (f_entries : Nat → Int32) : va_W := [(q_this, .inr (4, [.ref q_layout, .ref q_plan, .int v_second, .int v_cycleSecond, .int v_nextRank, .int v_entryStopped, .int v_entered, .int v_done, .int v_lastStay, .int v_hoistCarrier, .int v_hoistMove, .int v_hoistEntry, .int v_hoistEnd, .ref q_carriers, .ref q_entries])), (q_carriers, .inl (cI, 6, .inl f_carriers)), (q_entries, .inl (cI, 6, .inl f_entries))]
set_option maxHeartbeats 4000000 in
set_option maxRecDepth 100000 in
theorem c_WK_reset (l : Launch) (dC : Nat → ClassId) (dI : Nat → Nat → Nat) (q_this : Nat) (q_layout : Nat) (q_plan : Nat) (q_carriers : Nat) (q_entries : Nat) (cI : ClassId) (sz : Nat) (z : Nat) (v_second : Int32) (v_cycleSecond : Int32) (v_nextRank : Int32) (v_entryStopped : Int32) (v_entered : Int32) (v_done : Int32) (v_lastStay : Int32) (v_hoistCarrier : Int32) (v_hoistMove : Int32) (v_hoistEntry : Int32) (v_hoistEnd : Int32) (f_carriers : Nat → Int32) (f_entries : Nat → Int32) (n_v_second : Int32) (n_v_cycleSecond : Int32) (n_v_nextRank : Int32) (n_v_entryStopped : Int32) (n_v_entered : Int32) (n_v_done : Int32) (n_v_lastStay : Int32) (n_v_hoistCarrier : Int32) (n_v_hoistMove : Int32) (n_v_hoistEntry : Int32) (n_v_hoistEnd : Int32) (n_f_carriers : Nat → Int32) (n_f_entries : Nat → Int32) (hF : fn_WK_reset z v_second v_cycleSecond v_nextRank v_entryStopped v_entered v_done v_lastStay v_hoistCarrier v_hoistMove v_hoistEntry v_hoistEnd f_carriers f_entries = some (n_v_second, n_v_cycleSecond, n_v_nextRank, n_v_entryStopped, n_v_entered, n_v_done, n_v_lastStay, n_v_hoistCarrier, n_v_hoistMove, n_v_hoistEntry, n_v_hoistEnd, n_f_carriers, n_f_entries)) : Met l y_WK_reset w_WK_reset ({ frames := 1, cells := 0, slots := 0, locals := 23 }) (hq_Pc (dC, dI) vwCl [(cI, .int)] (wd_WK_reset q_this q_layout q_plan q_carriers q_entries cI v_second v_cycleSecond v_nextRank v_entryStopped v_entered v_done v_lastStay v_hoistCarrier v_hoistMove v_hoistEntry v_hoistEnd f_carriers f_entries) sz [.ref q_this]) (hq_Qv (dC, dI) vwCl [(cI, .int)] (wd_WK_reset q_this q_layout q_plan q_carriers q_entries cI n_v_second n_v_cycleSecond n_v_nextRank n_v_entryStopped n_v_entered n_v_done n_v_lastStay n_v_hoistCarrier n_v_hoistMove n_v_hoistEntry n_v_hoistEnd n_f_carriers n_f_entries) (va_A (wd_WK_reset q_this q_layout q_plan q_carriers q_entries cI v_second v_cycleSecond v_nextRank v_entryStopped v_entered v_done v_lastStay v_hoistCarrier v_hoistMove v_hoistEntry v_hoistEnd f_carriers f_entries) sz)) 0 0 (va_A (wd_WK_reset q_this q_layout q_plan q_carriers q_entries cI v_second v_cycleSecond v_nextRank v_entryStopped v_entered v_done v_lastStay v_hoistCarrier v_hoistMove v_hoistEntry v_hoistEnd f_carriers f_entries) sz) := by
  refine hq_met (Qc := (hq_Qv (dC, dI) vwCl [(cI, .int)] (wd_WK_reset q_this q_layout q_plan q_carriers q_entries cI n_v_second n_v_cycleSecond n_v_nextRank n_v_entryStopped n_v_entered n_v_done n_v_lastStay n_v_hoistCarrier n_v_hoistMove n_v_hoistEntry n_v_hoistEnd n_f_carriers n_f_entries))) (cc := b_WK_reset) (maxL := 1) (ret := none) (by decide) rfl (Nat.le_of_ble_eq_true rfl) ?_
  intro p e s m args below meth c A ls hx hb hr hml hts hown hlocks hnm hP hD hK hA hS hl
  have hts : ∀ w ∈ tb0, w.before args s = true := fun w h => hts w (List.mem_cons_of_mem _ h)
  have hown : s.vm.findClass R_WK = some m.cls := hown
  have hl : lv_has ls 1 [(0, .ref q_this)] := hl
  unfold fn_WK_reset at hF
  refine lv_aload_n hx hb d_WK_reset_0 rfl (lv_at hl 0 rfl) ?_
  refine lv_iconst (v := 0) hx hb d_WK_reset_1 (by decide) ?_
  refine va_put (D := (dC, dI)) (ci := 4) (v := .int 0) (ty := .int) (C := R_WK) (T := F_WK) (N := 15) hx hb hts uw_WK t_WK t_WK_ok n_WK hown hK hP hD hS 0 rfl rfl 2 (by decide) (hts _ tw_99) (fun _ h9 => h9) rfl (by decide +kernel) rfl rfl (Nat.le_of_ble_eq_true rfl) d_WK_reset_2 (fun H locs hP hD hS => ?_)
  have hP : va_P (dC, dI) vwCl (wd_WK_reset q_this q_layout q_plan q_carriers q_entries cI 0 v_cycleSecond v_nextRank v_entryStopped v_entered v_done v_lastStay v_hoistCarrier v_hoistMove v_hoistEntry v_hoistEnd f_carriers f_entries) H := hP
  have hD : va_D A (wd_WK_reset q_this q_layout q_plan q_carriers q_entries cI 0 v_cycleSecond v_nextRank v_entryStopped v_entered v_done v_lastStay v_hoistCarrier v_hoistMove v_hoistEntry v_hoistEnd f_carriers f_entries) := hD
  refine lv_aload_n hx hb d_WK_reset_5 rfl (lv_at hl 0 rfl) ?_
  refine lv_iconst (v := 0) hx hb d_WK_reset_6 (by decide) ?_
  refine va_put (D := (dC, dI)) (ci := 4) (v := .int 0) (ty := .int) (C := R_WK) (T := F_WK) (N := 15) hx hb hts uw_WK t_WK t_WK_ok n_WK hown hK hP hD hS 0 rfl rfl 3 (by decide) (hts _ tw_100) (fun _ h9 => h9) rfl (by decide +kernel) rfl rfl (Nat.le_of_ble_eq_true rfl) d_WK_reset_7 (fun H locs hP hD hS => ?_)
  have hP : va_P (dC, dI) vwCl (wd_WK_reset q_this q_layout q_plan q_carriers q_entries cI 0 0 v_nextRank v_entryStopped v_entered v_done v_lastStay v_hoistCarrier v_hoistMove v_hoistEntry v_hoistEnd f_carriers f_entries) H := hP
  have hD : va_D A (wd_WK_reset q_this q_layout q_plan q_carriers q_entries cI 0 0 v_nextRank v_entryStopped v_entered v_done v_lastStay v_hoistCarrier v_hoistMove v_hoistEntry v_hoistEnd f_carriers f_entries) := hD
  refine lv_aload_n hx hb d_WK_reset_10 rfl (lv_at hl 0 rfl) ?_
  refine lv_iconst (v := 0) hx hb d_WK_reset_11 (by decide) ?_
  refine va_put (D := (dC, dI)) (ci := 4) (v := .int 0) (ty := .int) (C := R_WK) (T := F_WK) (N := 15) hx hb hts uw_WK t_WK t_WK_ok n_WK hown hK hP hD hS 0 rfl rfl 4 (by decide) (hts _ tw_101) (fun _ h9 => h9) rfl (by decide +kernel) rfl rfl (Nat.le_of_ble_eq_true rfl) d_WK_reset_12 (fun H locs hP hD hS => ?_)
  have hP : va_P (dC, dI) vwCl (wd_WK_reset q_this q_layout q_plan q_carriers q_entries cI 0 0 0 v_entryStopped v_entered v_done v_lastStay v_hoistCarrier v_hoistMove v_hoistEntry v_hoistEnd f_carriers f_entries) H := hP
  have hD : va_D A (wd_WK_reset q_this q_layout q_plan q_carriers q_entries cI 0 0 0 v_entryStopped v_entered v_done v_lastStay v_hoistCarrier v_hoistMove v_hoistEntry v_hoistEnd f_carriers f_entries) := hD
  refine lv_aload_n hx hb d_WK_reset_15 rfl (lv_at hl 0 rfl) ?_
  refine lv_iconst (v := 0) hx hb d_WK_reset_16 (by decide) ?_
  refine va_put (D := (dC, dI)) (ci := 4) (v := .int 0) (ty := .boolean) (C := R_WK) (T := F_WK) (N := 15) hx hb hts uw_WK t_WK t_WK_ok n_WK hown hK hP hD hS 0 rfl rfl 5 (by decide) (hts _ tw_102) (fun _ h9 => h9) rfl (by decide +kernel) rfl rfl (Nat.le_of_ble_eq_true rfl) d_WK_reset_17 (fun H locs hP hD hS => ?_)
  have hP : va_P (dC, dI) vwCl (wd_WK_reset q_this q_layout q_plan q_carriers q_entries cI 0 0 0 0 v_entered v_done v_lastStay v_hoistCarrier v_hoistMove v_hoistEntry v_hoistEnd f_carriers f_entries) H := hP
  have hD : va_D A (wd_WK_reset q_this q_layout q_plan q_carriers q_entries cI 0 0 0 0 v_entered v_done v_lastStay v_hoistCarrier v_hoistMove v_hoistEntry v_hoistEnd f_carriers f_entries) := hD
  refine lv_aload_n hx hb d_WK_reset_20 rfl (lv_at hl 0 rfl) ?_
  refine lv_iconst (v := 0) hx hb d_WK_reset_21 (by decide) ?_
  refine va_put (D := (dC, dI)) (ci := 4) (v := .int 0) (ty := .int) (C := R_WK) (T := F_WK) (N := 15) hx hb hts uw_WK t_WK t_WK_ok n_WK hown hK hP hD hS 0 rfl rfl 6 (by decide) (hts _ tw_103) (fun _ h9 => h9) rfl (by decide +kernel) rfl rfl (Nat.le_of_ble_eq_true rfl) d_WK_reset_22 (fun H locs hP hD hS => ?_)
  have hP : va_P (dC, dI) vwCl (wd_WK_reset q_this q_layout q_plan q_carriers q_entries cI 0 0 0 0 0 v_done v_lastStay v_hoistCarrier v_hoistMove v_hoistEntry v_hoistEnd f_carriers f_entries) H := hP
  have hD : va_D A (wd_WK_reset q_this q_layout q_plan q_carriers q_entries cI 0 0 0 0 0 v_done v_lastStay v_hoistCarrier v_hoistMove v_hoistEntry v_hoistEnd f_carriers f_entries) := hD
  refine lv_aload_n hx hb d_WK_reset_25 rfl (lv_at hl 0 rfl) ?_
  refine lv_iconst (v := 0) hx hb d_WK_reset_26 (by decide) ?_
  refine va_put (D := (dC, dI)) (ci := 4) (v := .int 0) (ty := .int) (C := R_WK) (T := F_WK) (N := 15) hx hb hts uw_WK t_WK t_WK_ok n_WK hown hK hP hD hS 0 rfl rfl 7 (by decide) (hts _ tw_104) (fun _ h9 => h9) rfl (by decide +kernel) rfl rfl (Nat.le_of_ble_eq_true rfl) d_WK_reset_27 (fun H locs hP hD hS => ?_)
  have hP : va_P (dC, dI) vwCl (wd_WK_reset q_this q_layout q_plan q_carriers q_entries cI 0 0 0 0 0 0 v_lastStay v_hoistCarrier v_hoistMove v_hoistEntry v_hoistEnd f_carriers f_entries) H := hP
  have hD : va_D A (wd_WK_reset q_this q_layout q_plan q_carriers q_entries cI 0 0 0 0 0 0 v_lastStay v_hoistCarrier v_hoistMove v_hoistEntry v_hoistEnd f_carriers f_entries) := hD
  refine lv_aload_n hx hb d_WK_reset_30 rfl (lv_at hl 0 rfl) ?_
  refine lv_iconst (v := 0) hx hb d_WK_reset_31 (by decide) ?_
  refine va_put (D := (dC, dI)) (ci := 4) (v := .int 0) (ty := .int) (C := R_WK) (T := F_WK) (N := 15) hx hb hts uw_WK t_WK t_WK_ok n_WK hown hK hP hD hS 0 rfl rfl 8 (by decide) (hts _ tw_105) (fun _ h9 => h9) rfl (by decide +kernel) rfl rfl (Nat.le_of_ble_eq_true rfl) d_WK_reset_32 (fun H locs hP hD hS => ?_)
  have hP : va_P (dC, dI) vwCl (wd_WK_reset q_this q_layout q_plan q_carriers q_entries cI 0 0 0 0 0 0 0 v_hoistCarrier v_hoistMove v_hoistEntry v_hoistEnd f_carriers f_entries) H := hP
  have hD : va_D A (wd_WK_reset q_this q_layout q_plan q_carriers q_entries cI 0 0 0 0 0 0 0 v_hoistCarrier v_hoistMove v_hoistEntry v_hoistEnd f_carriers f_entries) := hD
  refine lv_aload_n hx hb d_WK_reset_35 rfl (lv_at hl 0 rfl) ?_
  refine lv_iconst (v := 0) hx hb d_WK_reset_36 (by decide) ?_
  refine va_put (D := (dC, dI)) (ci := 4) (v := .int 0) (ty := .int) (C := R_WK) (T := F_WK) (N := 15) hx hb hts uw_WK t_WK t_WK_ok n_WK hown hK hP hD hS 0 rfl rfl 11 (by decide) (hts _ tw_106) (fun _ h9 => h9) rfl (by decide +kernel) rfl rfl (Nat.le_of_ble_eq_true rfl) d_WK_reset_37 (fun H locs hP hD hS => ?_)
  have hP : va_P (dC, dI) vwCl (wd_WK_reset q_this q_layout q_plan q_carriers q_entries cI 0 0 0 0 0 0 0 v_hoistCarrier v_hoistMove 0 v_hoistEnd f_carriers f_entries) H := hP
  have hD : va_D A (wd_WK_reset q_this q_layout q_plan q_carriers q_entries cI 0 0 0 0 0 0 0 v_hoistCarrier v_hoistMove 0 v_hoistEnd f_carriers f_entries) := hD
  refine lv_aload_n hx hb d_WK_reset_40 rfl (lv_at hl 0 rfl) ?_
  refine lv_iconst (v := 0) hx hb d_WK_reset_41 (by decide) ?_
  refine va_put (D := (dC, dI)) (ci := 4) (v := .int 0) (ty := .int) (C := R_WK) (T := F_WK) (N := 15) hx hb hts uw_WK t_WK t_WK_ok n_WK hown hK hP hD hS 0 rfl rfl 12 (by decide) (hts _ tw_107) (fun _ h9 => h9) rfl (by decide +kernel) rfl rfl (Nat.le_of_ble_eq_true rfl) d_WK_reset_42 (fun H locs hP hD hS => ?_)
  have hP : va_P (dC, dI) vwCl (wd_WK_reset q_this q_layout q_plan q_carriers q_entries cI 0 0 0 0 0 0 0 v_hoistCarrier v_hoistMove 0 0 f_carriers f_entries) H := hP
  have hD : va_D A (wd_WK_reset q_this q_layout q_plan q_carriers q_entries cI 0 0 0 0 0 0 0 v_hoistCarrier v_hoistMove 0 0 f_carriers f_entries) := hD
  refine lv_aload_n hx hb d_WK_reset_45 rfl (lv_at hl 0 rfl) ?_
  obtain ⟨⟨s1_v_hoistCarrier, s1_v_hoistMove⟩, hc1, hF⟩ := ox_clS hF
  refine hq_cv (ws' := (wd_WK_reset q_this q_layout q_plan q_carriers q_entries cI 0 0 0 0 0 0 0 s1_v_hoistCarrier s1_v_hoistMove 0 0 f_carriers f_entries)) (hq_rV (As := []) (rest := []) ⟨hx, hb, hml, hown, hts⟩ (c_WK_freeHoist l dC dI q_this q_layout q_plan q_carriers q_entries _ 0 0 0 0 0 0 0 v_hoistCarrier v_hoistMove 0 0 s1_v_hoistCarrier s1_v_hoistMove hc1) (cwV 0 hts (hq_gV tw_108 tw_109 tw_110 tw_111 tw_112) rfl rfl rfl yv_WK_freeHoist ⟨Nat.le_of_ble_eq_true rfl, Nat.le_of_ble_eq_true rfl⟩) hP hD hK [] rfl 0 rfl rfl [0] rfl rfl rfl hl.1 rfl (Nat.le_of_ble_eq_true rfl) d_WK_reset_46 ⟨Nat.zero_le _, Nat.zero_le _⟩) hP hD hS hA [0] [1, 2] [2, 0, 1] rfl rfl rfl (by decide) rfl rfl (fun H locs hP hD hS => ?_)
  refine lv_aload_n hx hb d_WK_reset_49 rfl (lv_at hl 0 rfl) ?_
  refine va_get (D := (dC, dI)) (ci := 4) (v := .ref q_carriers) (C := R_WK) (T := F_WK) (N := 15) hx hb hts uw_WK hown hK hP 0 rfl rfl 13 (by decide) (hts _ tw_113) (fun _ h9 => h9) rfl d_WK_reset_50 ?_
  refine lv_iconst (v := 0) hx hb d_WK_reset_53 (by decide) ?_
  obtain ⟨s2_f_p0, hc2, hF⟩ := ox_clS hF
  refine hq_cv (ws' := (wd_WK_reset q_this q_layout q_plan q_carriers q_entries cI 0 0 0 0 0 0 0 s1_v_hoistCarrier s1_v_hoistMove 0 0 s2_f_p0 f_entries)) (hq_rS (As := [.ref q_carriers, .int 0]) (rest := []) ⟨hx, hb, hml, hown, hts⟩ (c_AR_fill l dC dI q_carriers cI 6 _ z 0 f_carriers s2_f_p0 hc2) ⟨callB_of 2 hts (hq_g1 tw_5) rfl rfl rfl (hts _ tw_4) (hts _ tw_114) yd_AR_fill ⟨Nat.le_of_ble_eq_true rfl, Nat.le_of_ble_eq_true rfl⟩, hts _ tw_3⟩ hP hD hK [0] rfl [1] rfl rfl rfl hl.1 rfl (Nat.le_of_ble_eq_true rfl) d_WK_reset_54 ⟨Nat.zero_le _, Nat.zero_le _⟩) hP hD hS hA [1] [0, 2] [0, 2, 1] rfl rfl rfl (by decide) rfl rfl (fun H locs hP hD hS => ?_)
  refine lv_aload_n hx hb d_WK_reset_57 rfl (lv_at hl 0 rfl) ?_
  refine va_get (D := (dC, dI)) (ci := 4) (v := .ref q_entries) (C := R_WK) (T := F_WK) (N := 15) hx hb hts uw_WK hown hK hP 0 rfl rfl 14 (by decide) (hts _ tw_115) (fun _ h9 => h9) rfl d_WK_reset_58 ?_
  refine lv_iconst (v := 0) hx hb d_WK_reset_61 (by decide) ?_
  obtain ⟨s3_f_p0, hc3, hF⟩ := ox_clS hF
  refine hq_cv (ws' := (wd_WK_reset q_this q_layout q_plan q_carriers q_entries cI 0 0 0 0 0 0 0 s1_v_hoistCarrier s1_v_hoistMove 0 0 s2_f_p0 s3_f_p0)) (hq_rS (As := [.ref q_entries, .int 0]) (rest := []) ⟨hx, hb, hml, hown, hts⟩ (c_AR_fill l dC dI q_entries cI 6 _ z 0 f_entries s3_f_p0 hc3) ⟨callB_of 2 hts (hq_g1 tw_5) rfl rfl rfl (hts _ tw_4) (hts _ tw_114) yd_AR_fill ⟨Nat.le_of_ble_eq_true rfl, Nat.le_of_ble_eq_true rfl⟩, hts _ tw_3⟩ hP hD hK [0] rfl [2] rfl rfl rfl hl.1 rfl (Nat.le_of_ble_eq_true rfl) d_WK_reset_62 ⟨Nat.zero_le _, Nat.zero_le _⟩) hP hD hS hA [2] [0, 1] [0, 1, 2] rfl rfl rfl (by decide) rfl rfl (fun H locs hP hD hS => ?_)
  cases hF
  exact hq_vret hx hb hr hlocks hP hD hK hS d_WK_reset_65
abbrev wd_WK_endMove (q_this : Nat) (q_layout : Nat) (q_plan : Nat) (q_carriers : Nat) (q_entries : Nat) (q_layout_low : Nat) (q_layout_high : Nat) (q_layout_loadedSeconds : Nat) (q_layout_emptySeconds : Nat) (cI : ClassId) (v_second : Int32) (v_cycleSecond : Int32) (v_nextRank : Int32) (v_entryStopped : Int32) (v_entered : Int32) (v_done : Int32) (v_lastStay : Int32) (v_hoistCarrier : Int32) (v_hoistMove : Int32) (v_hoistEntry : Int32) (v_hoistEnd : Int32) (v_layout_tanks : Int32) (f_carriers : Nat → Int32) (f_entries : Nat → Int32) : va_W := [(q_this, .inr (4, [.ref q_layout, .ref q_plan, .int v_second, .int v_cycleSecond, .int v_nextRank, .int v_entryStopped, .int v_entered, .int v_done, .int v_lastStay, .int v_hoistCarrier, .int v_hoistMove, .int v_hoistEntry, .int v_hoistEnd, .ref q_carriers, .ref q_entries])), (q_layout, .inr (0, [.int v_layout_tanks, .ref q_layout_low, .ref q_layout_high, .ref q_layout_loadedSeconds, .ref q_layout_emptySeconds])), (q_carriers, .inl (cI, 6, .inl f_carriers)), (q_entries, .inl (cI, 6, .inl f_entries))]
set_option maxHeartbeats 4000000 in
set_option maxRecDepth 100000 in
theorem c_WK_endMove (l : Launch) (dC : Nat → ClassId) (dI : Nat → Nat → Nat) (q_this : Nat) (q_layout : Nat) (q_plan : Nat) (q_carriers : Nat) (q_entries : Nat) (q_layout_low : Nat) (q_layout_high : Nat) (q_layout_loadedSeconds : Nat) (q_layout_emptySeconds : Nat) (cI : ClassId) (sz : Nat) (v_second : Int32) (v_cycleSecond : Int32) (v_nextRank : Int32) (v_entryStopped : Int32) (v_entered : Int32) (v_done : Int32) (v_lastStay : Int32) (v_hoistCarrier : Int32) (v_hoistMove : Int32) (v_hoistEntry : Int32) (v_hoistEnd : Int32) (v_layout_tanks : Int32) (f_carriers : Nat → Int32) (f_entries : Nat → Int32) (n_v_done : Int32) (n_v_lastStay : Int32) (n_v_hoistCarrier : Int32) (n_v_hoistMove : Int32) (n_f_carriers : Nat → Int32) (n_f_entries : Nat → Int32) (hF : fn_WK_endMove v_second v_done v_lastStay v_hoistCarrier v_hoistMove v_hoistEntry v_layout_tanks f_carriers f_entries = some (n_v_done, n_v_lastStay, n_v_hoistCarrier, n_v_hoistMove, n_f_carriers, n_f_entries)) : Met l y_WK_endMove w_WK_endMove ({ frames := 1, cells := 0, slots := 0, locals := 20 }) (hq_Pc (dC, dI) vwCl [(cI, .int)] (wd_WK_endMove q_this q_layout q_plan q_carriers q_entries q_layout_low q_layout_high q_layout_loadedSeconds q_layout_emptySeconds cI v_second v_cycleSecond v_nextRank v_entryStopped v_entered v_done v_lastStay v_hoistCarrier v_hoistMove v_hoistEntry v_hoistEnd v_layout_tanks f_carriers f_entries) sz [.ref q_this]) (hq_Qv (dC, dI) vwCl [(cI, .int)] (wd_WK_endMove q_this q_layout q_plan q_carriers q_entries q_layout_low q_layout_high q_layout_loadedSeconds q_layout_emptySeconds cI v_second v_cycleSecond v_nextRank v_entryStopped v_entered n_v_done n_v_lastStay n_v_hoistCarrier n_v_hoistMove v_hoistEntry v_hoistEnd v_layout_tanks n_f_carriers n_f_entries) (va_A (wd_WK_endMove q_this q_layout q_plan q_carriers q_entries q_layout_low q_layout_high q_layout_loadedSeconds q_layout_emptySeconds cI v_second v_cycleSecond v_nextRank v_entryStopped v_entered v_done v_lastStay v_hoistCarrier v_hoistMove v_hoistEntry v_hoistEnd v_layout_tanks f_carriers f_entries) sz)) 0 0 (va_A (wd_WK_endMove q_this q_layout q_plan q_carriers q_entries q_layout_low q_layout_high q_layout_loadedSeconds q_layout_emptySeconds cI v_second v_cycleSecond v_nextRank v_entryStopped v_entered v_done v_lastStay v_hoistCarrier v_hoistMove v_hoistEntry v_hoistEnd v_layout_tanks f_carriers f_entries) sz) := by
  refine hq_met (Qc := (hq_Qv (dC, dI) vwCl [(cI, .int)] (wd_WK_endMove q_this q_layout q_plan q_carriers q_entries q_layout_low q_layout_high q_layout_loadedSeconds q_layout_emptySeconds cI v_second v_cycleSecond v_nextRank v_entryStopped v_entered n_v_done n_v_lastStay n_v_hoistCarrier n_v_hoistMove v_hoistEntry v_hoistEnd v_layout_tanks n_f_carriers n_f_entries))) (cc := b_WK_endMove) (maxL := 1) (ret := none) (by decide) rfl (Nat.le_of_ble_eq_true rfl) ?_
  intro p e s m args below meth c A ls hx hb hr hml hts hown hlocks hnm hP hD hK hA hS hl
  have hts : ∀ w ∈ tb0, w.before args s = true := fun w h => hts w (List.mem_cons_of_mem _ h)
  have hown : s.vm.findClass R_WK = some m.cls := hown
  have hl : lv_has ls 1 [(0, .ref q_this)] := hl
  unfold fn_WK_endMove at hF
  refine lv_aload_n hx hb d_WK_endMove_0 rfl (lv_at hl 0 rfl) ?_
  refine va_get (D := (dC, dI)) (ci := 4) (v := .int v_hoistMove) (C := R_WK) (T := F_WK) (N := 15) hx hb hts uw_WK hown hK hP 0 rfl rfl 10 (by decide) (hts _ tw_98) (fun _ h9 => h9) rfl d_WK_endMove_1 ?_
  refine lv_aload_n hx hb d_WK_endMove_4 rfl (lv_at hl 0 rfl) ?_
  refine va_get (D := (dC, dI)) (ci := 4) (v := .ref q_layout) (C := R_WK) (T := F_WK) (N := 15) hx hb hts uw_WK hown hK hP 0 rfl rfl 0 (by decide) (hts _ tw_116) (fun _ h9 => h9) rfl d_WK_endMove_5 ?_
  refine va_get (D := (dC, dI)) (ci := 0) (v := .int v_layout_tanks) (C := R_LY) (T := F_LY) (N := 5) hx hb hts uw_LY hown hK hP 1 rfl rfl 0 (by decide) (hts _ tw_117) (fun _ h9 => h9) rfl d_WK_endMove_8 ?_
  refine lv_icmp_ne (tgt := 40) hx hb d_WK_endMove_11 (by decide) (fun hb1 => ?_) (fun hb1 => ?_)
  · have hF := ox_t hF hb1
    refine lv_aload_n hx hb d_WK_endMove_40 rfl (lv_at hl 0 rfl) ?_
    refine va_get (D := (dC, dI)) (ci := 4) (v := .ref q_carriers) (C := R_WK) (T := F_WK) (N := 15) hx hb hts uw_WK hown hK hP 0 rfl rfl 13 (by decide) (hts _ tw_113) (fun _ h9 => h9) rfl d_WK_endMove_41 ?_
    refine lv_aload_n hx hb d_WK_endMove_44 rfl (lv_at hl 0 rfl) ?_
    refine va_get (D := (dC, dI)) (ci := 4) (v := .int v_hoistMove) (C := R_WK) (T := F_WK) (N := 15) hx hb hts uw_WK hown hK hP 0 rfl rfl 10 (by decide) (hts _ tw_98) (fun _ h9 => h9) rfl d_WK_endMove_45 ?_
    refine lv_iconst (v := 1) hx hb d_WK_endMove_48 (by decide) ?_
    refine lv_iadd hx hb d_WK_endMove_49 ?_
    refine lv_aload_n hx hb d_WK_endMove_50 rfl (lv_at hl 0 rfl) ?_
    refine va_get (D := (dC, dI)) (ci := 4) (v := .int v_hoistCarrier) (C := R_WK) (T := F_WK) (N := 15) hx hb hts uw_WK hown hK hP 0 rfl rfl 9 (by decide) (hts _ tw_97) (fun _ h9 => h9) rfl d_WK_endMove_51 ?_
    obtain ⟨hin, hF⟩ := ox_gdS hF
    refine va_iast hx hb hK hP hD hS 2 0 rfl rfl hin d_WK_endMove_54 (fun H locs hP hD hS => ?_)
    have hP : va_P (dC, dI) vwCl (wd_WK_endMove q_this q_layout q_plan q_carriers q_entries q_layout_low q_layout_high q_layout_loadedSeconds q_layout_emptySeconds cI v_second v_cycleSecond v_nextRank v_entryStopped v_entered v_done v_lastStay v_hoistCarrier v_hoistMove v_hoistEntry v_hoistEnd v_layout_tanks (upd f_carriers (v_hoistMove + 1).toNatClampNeg v_hoistCarrier) f_entries) H := hP
    have hD : va_D A (wd_WK_endMove q_this q_layout q_plan q_carriers q_entries q_layout_low q_layout_high q_layout_loadedSeconds q_layout_emptySeconds cI v_second v_cycleSecond v_nextRank v_entryStopped v_entered v_done v_lastStay v_hoistCarrier v_hoistMove v_hoistEntry v_hoistEnd v_layout_tanks (upd f_carriers (v_hoistMove + 1).toNatClampNeg v_hoistCarrier) f_entries) := hD
    refine lv_aload_n hx hb d_WK_endMove_55 rfl (lv_at hl 0 rfl) ?_
    refine va_get (D := (dC, dI)) (ci := 4) (v := .ref q_entries) (C := R_WK) (T := F_WK) (N := 15) hx hb hts uw_WK hown hK hP 0 rfl rfl 14 (by decide) (hts _ tw_115) (fun _ h9 => h9) rfl d_WK_endMove_56 ?_
    refine lv_aload_n hx hb d_WK_endMove_59 rfl (lv_at hl 0 rfl) ?_
    refine va_get (D := (dC, dI)) (ci := 4) (v := .int v_hoistMove) (C := R_WK) (T := F_WK) (N := 15) hx hb hts uw_WK hown hK hP 0 rfl rfl 10 (by decide) (hts _ tw_98) (fun _ h9 => h9) rfl d_WK_endMove_60 ?_
    refine lv_iconst (v := 1) hx hb d_WK_endMove_63 (by decide) ?_
    refine lv_iadd hx hb d_WK_endMove_64 ?_
    refine lv_aload_n hx hb d_WK_endMove_65 rfl (lv_at hl 0 rfl) ?_
    refine va_get (D := (dC, dI)) (ci := 4) (v := .int v_hoistEntry) (C := R_WK) (T := F_WK) (N := 15) hx hb hts uw_WK hown hK hP 0 rfl rfl 11 (by decide) (hts _ tw_106) (fun _ h9 => h9) rfl d_WK_endMove_66 ?_
    obtain ⟨hin, hF⟩ := ox_gdS hF
    refine va_iast hx hb hK hP hD hS 3 0 rfl rfl hin d_WK_endMove_69 (fun H locs hP hD hS => ?_)
    have hP : va_P (dC, dI) vwCl (wd_WK_endMove q_this q_layout q_plan q_carriers q_entries q_layout_low q_layout_high q_layout_loadedSeconds q_layout_emptySeconds cI v_second v_cycleSecond v_nextRank v_entryStopped v_entered v_done v_lastStay v_hoistCarrier v_hoistMove v_hoistEntry v_hoistEnd v_layout_tanks (upd f_carriers (v_hoistMove + 1).toNatClampNeg v_hoistCarrier) (upd f_entries (v_hoistMove + 1).toNatClampNeg v_hoistEntry)) H := hP
    have hD : va_D A (wd_WK_endMove q_this q_layout q_plan q_carriers q_entries q_layout_low q_layout_high q_layout_loadedSeconds q_layout_emptySeconds cI v_second v_cycleSecond v_nextRank v_entryStopped v_entered v_done v_lastStay v_hoistCarrier v_hoistMove v_hoistEntry v_hoistEnd v_layout_tanks (upd f_carriers (v_hoistMove + 1).toNatClampNeg v_hoistCarrier) (upd f_entries (v_hoistMove + 1).toNatClampNeg v_hoistEntry)) := hD
    refine lv_aload_n hx hb d_WK_endMove_70 rfl (lv_at hl 0 rfl) ?_
    obtain ⟨⟨s2_v_hoistCarrier, s2_v_hoistMove⟩, hc2, hF⟩ := ox_clS hF
    refine hq_cv (ws' := (wd_WK_endMove q_this q_layout q_plan q_carriers q_entries q_layout_low q_layout_high q_layout_loadedSeconds q_layout_emptySeconds cI v_second v_cycleSecond v_nextRank v_entryStopped v_entered v_done v_lastStay s2_v_hoistCarrier s2_v_hoistMove v_hoistEntry v_hoistEnd v_layout_tanks (upd f_carriers (v_hoistMove + 1).toNatClampNeg v_hoistCarrier) (upd f_entries (v_hoistMove + 1).toNatClampNeg v_hoistEntry))) (hq_rV (As := []) (rest := []) ⟨hx, hb, hml, hown, hts⟩ (c_WK_freeHoist l dC dI q_this q_layout q_plan q_carriers q_entries _ v_second v_cycleSecond v_nextRank v_entryStopped v_entered v_done v_lastStay v_hoistCarrier v_hoistMove v_hoistEntry v_hoistEnd s2_v_hoistCarrier s2_v_hoistMove hc2) (cwV 0 hts (hq_gV tw_108 tw_109 tw_110 tw_111 tw_112) rfl rfl rfl yv_WK_freeHoist ⟨Nat.le_of_ble_eq_true rfl, Nat.le_of_ble_eq_true rfl⟩) hP hD hK [] rfl 0 rfl rfl [0] rfl rfl rfl hl.1 rfl (Nat.le_of_ble_eq_true rfl) d_WK_endMove_71 ⟨Nat.zero_le _, Nat.zero_le _⟩) hP hD hS hA [0] [1, 2, 3] [3, 0, 1, 2] rfl rfl rfl (by decide) rfl rfl (fun H locs hP hD hS => ?_)
    cases hF
    exact hq_vret hx hb hr hlocks hP hD hK hS d_WK_endMove_74
  · have hF := ox_fn hF hb1
    refine lv_aload_n hx hb d_WK_endMove_14 rfl (lv_at hl 0 rfl) ?_
    refine lv_dup hx hb d_WK_endMove_15 rfl ?_
    refine va_get (D := (dC, dI)) (ci := 4) (v := .int v_done) (C := R_WK) (T := F_WK) (N := 15) hx hb hts uw_WK hown hK hP 0 rfl rfl 7 (by decide) (hts _ tw_104) (fun _ h9 => h9) rfl d_WK_endMove_16 ?_
    refine lv_iconst (v := 1) hx hb d_WK_endMove_19 (by decide) ?_
    refine lv_iadd hx hb d_WK_endMove_20 ?_
    refine va_put (D := (dC, dI)) (ci := 4) (v := .int (v_done + 1)) (ty := .int) (C := R_WK) (T := F_WK) (N := 15) hx hb hts uw_WK t_WK t_WK_ok n_WK hown hK hP hD hS 0 rfl rfl 7 (by decide) (hts _ tw_104) (fun _ h9 => h9) rfl (by decide +kernel) rfl rfl (Nat.le_of_ble_eq_true rfl) d_WK_endMove_21 (fun H locs hP hD hS => ?_)
    have hP : va_P (dC, dI) vwCl (wd_WK_endMove q_this q_layout q_plan q_carriers q_entries q_layout_low q_layout_high q_layout_loadedSeconds q_layout_emptySeconds cI v_second v_cycleSecond v_nextRank v_entryStopped v_entered (v_done + 1) v_lastStay v_hoistCarrier v_hoistMove v_hoistEntry v_hoistEnd v_layout_tanks f_carriers f_entries) H := hP
    have hD : va_D A (wd_WK_endMove q_this q_layout q_plan q_carriers q_entries q_layout_low q_layout_high q_layout_loadedSeconds q_layout_emptySeconds cI v_second v_cycleSecond v_nextRank v_entryStopped v_entered (v_done + 1) v_lastStay v_hoistCarrier v_hoistMove v_hoistEntry v_hoistEnd v_layout_tanks f_carriers f_entries) := hD
    refine lv_aload_n hx hb d_WK_endMove_24 rfl (lv_at hl 0 rfl) ?_
    refine lv_aload_n hx hb d_WK_endMove_25 rfl (lv_at hl 0 rfl) ?_
    refine va_get (D := (dC, dI)) (ci := 4) (v := .int v_second) (C := R_WK) (T := F_WK) (N := 15) hx hb hts uw_WK hown hK hP 0 rfl rfl 2 (by decide) (hts _ tw_99) (fun _ h9 => h9) rfl d_WK_endMove_26 ?_
    refine lv_aload_n hx hb d_WK_endMove_29 rfl (lv_at hl 0 rfl) ?_
    refine va_get (D := (dC, dI)) (ci := 4) (v := .int v_hoistEntry) (C := R_WK) (T := F_WK) (N := 15) hx hb hts uw_WK hown hK hP 0 rfl rfl 11 (by decide) (hts _ tw_106) (fun _ h9 => h9) rfl d_WK_endMove_30 ?_
    refine lv_isub hx hb d_WK_endMove_33 ?_
    refine va_put (D := (dC, dI)) (ci := 4) (v := .int (v_second - v_hoistEntry)) (ty := .int) (C := R_WK) (T := F_WK) (N := 15) hx hb hts uw_WK t_WK t_WK_ok n_WK hown hK hP hD hS 0 rfl rfl 8 (by decide) (hts _ tw_105) (fun _ h9 => h9) rfl (by decide +kernel) rfl rfl (Nat.le_of_ble_eq_true rfl) d_WK_endMove_34 (fun H locs hP hD hS => ?_)
    have hP : va_P (dC, dI) vwCl (wd_WK_endMove q_this q_layout q_plan q_carriers q_entries q_layout_low q_layout_high q_layout_loadedSeconds q_layout_emptySeconds cI v_second v_cycleSecond v_nextRank v_entryStopped v_entered (v_done + 1) (v_second - v_hoistEntry) v_hoistCarrier v_hoistMove v_hoistEntry v_hoistEnd v_layout_tanks f_carriers f_entries) H := hP
    have hD : va_D A (wd_WK_endMove q_this q_layout q_plan q_carriers q_entries q_layout_low q_layout_high q_layout_loadedSeconds q_layout_emptySeconds cI v_second v_cycleSecond v_nextRank v_entryStopped v_entered (v_done + 1) (v_second - v_hoistEntry) v_hoistCarrier v_hoistMove v_hoistEntry v_hoistEnd v_layout_tanks f_carriers f_entries) := hD
    refine lv_goto (tgt := 70) hx hb d_WK_endMove_37 (by decide) ?_
    refine lv_aload_n hx hb d_WK_endMove_70 rfl (lv_at hl 0 rfl) ?_
    obtain ⟨⟨s3_v_hoistCarrier, s3_v_hoistMove⟩, hc3, hF⟩ := ox_clS hF
    refine hq_cv (ws' := (wd_WK_endMove q_this q_layout q_plan q_carriers q_entries q_layout_low q_layout_high q_layout_loadedSeconds q_layout_emptySeconds cI v_second v_cycleSecond v_nextRank v_entryStopped v_entered (v_done + 1) (v_second - v_hoistEntry) s3_v_hoistCarrier s3_v_hoistMove v_hoistEntry v_hoistEnd v_layout_tanks f_carriers f_entries)) (hq_rV (As := []) (rest := []) ⟨hx, hb, hml, hown, hts⟩ (c_WK_freeHoist l dC dI q_this q_layout q_plan q_carriers q_entries _ v_second v_cycleSecond v_nextRank v_entryStopped v_entered (v_done + 1) (v_second - v_hoistEntry) v_hoistCarrier v_hoistMove v_hoistEntry v_hoistEnd s3_v_hoistCarrier s3_v_hoistMove hc3) (cwV 0 hts (hq_gV tw_108 tw_109 tw_110 tw_111 tw_112) rfl rfl rfl yv_WK_freeHoist ⟨Nat.le_of_ble_eq_true rfl, Nat.le_of_ble_eq_true rfl⟩) hP hD hK [] rfl 0 rfl rfl [0] rfl rfl rfl hl.1 rfl (Nat.le_of_ble_eq_true rfl) d_WK_endMove_71 ⟨Nat.zero_le _, Nat.zero_le _⟩) hP hD hS hA [0] [1, 2, 3] [3, 0, 1, 2] rfl rfl rfl (by decide) rfl rfl (fun H locs hP hD hS => ?_)
    cases hF
    exact hq_vret hx hb hr hlocks hP hD hK hS d_WK_endMove_74
abbrev wd_WK_takeNext (q_this : Nat) (q_layout : Nat) (q_plan : Nat) (q_carriers : Nat) (q_entries : Nat) (v_second : Int32) (v_cycleSecond : Int32) (v_nextRank : Int32) (v_entryStopped : Int32) (v_entered : Int32) (v_done : Int32) (v_lastStay : Int32) (v_hoistCarrier : Int32) (v_hoistMove : Int32) (v_hoistEntry : Int32) (v_hoistEnd : Int32) : va_W := [(q_this, .inr (4, [.ref q_layout, .ref q_plan, .int v_second, .int v_cycleSecond, .int v_nextRank, .int v_entryStopped, .int v_entered, .int v_done, .int v_lastStay, .int v_hoistCarrier, .int v_hoistMove, .int v_hoistEntry, .int v_hoistEnd, .ref q_carriers, .ref q_entries]))]
set_option maxHeartbeats 4000000 in
set_option maxRecDepth 100000 in
theorem c_WK_takeNext (l : Launch) (dC : Nat → ClassId) (dI : Nat → Nat → Nat) (q_this : Nat) (q_layout : Nat) (q_plan : Nat) (q_carriers : Nat) (q_entries : Nat) (sz : Nat) (v_second : Int32) (v_cycleSecond : Int32) (v_nextRank : Int32) (v_entryStopped : Int32) (v_entered : Int32) (v_done : Int32) (v_lastStay : Int32) (v_hoistCarrier : Int32) (v_hoistMove : Int32) (v_hoistEntry : Int32) (v_hoistEnd : Int32) (rr : Int32) (n_v_entered : Int32) (n_v_hoistCarrier : Int32) (n_v_hoistEntry : Int32) (hF : fn_WK_takeNext v_second v_entryStopped v_entered v_hoistCarrier v_hoistEntry = some (rr, n_v_entered, n_v_hoistCarrier, n_v_hoistEntry)) : Met l y_WK_takeNext w_WK_takeNext ({ frames := 0, cells := 0, slots := 0, locals := 0 }) (hq_Pc (dC, dI) vwCl [] (wd_WK_takeNext q_this q_layout q_plan q_carriers q_entries v_second v_cycleSecond v_nextRank v_entryStopped v_entered v_done v_lastStay v_hoistCarrier v_hoistMove v_hoistEntry v_hoistEnd) sz [.ref q_this]) (hq_Qi (dC, dI) vwCl [] (wd_WK_takeNext q_this q_layout q_plan q_carriers q_entries v_second v_cycleSecond v_nextRank v_entryStopped n_v_entered v_done v_lastStay n_v_hoistCarrier v_hoistMove n_v_hoistEntry v_hoistEnd) rr (va_A (wd_WK_takeNext q_this q_layout q_plan q_carriers q_entries v_second v_cycleSecond v_nextRank v_entryStopped v_entered v_done v_lastStay v_hoistCarrier v_hoistMove v_hoistEntry v_hoistEnd) sz)) 0 0 (va_A (wd_WK_takeNext q_this q_layout q_plan q_carriers q_entries v_second v_cycleSecond v_nextRank v_entryStopped v_entered v_done v_lastStay v_hoistCarrier v_hoistMove v_hoistEntry v_hoistEnd) sz) := by
  refine hq_met (Qc := (hq_Qi (dC, dI) vwCl [] (wd_WK_takeNext q_this q_layout q_plan q_carriers q_entries v_second v_cycleSecond v_nextRank v_entryStopped n_v_entered v_done v_lastStay n_v_hoistCarrier v_hoistMove n_v_hoistEntry v_hoistEnd) rr)) (cc := b_WK_takeNext) (maxL := 1) (ret := some .boolean) (by decide) rfl (Nat.le_of_ble_eq_true rfl) ?_
  intro p e s m args below meth c A ls hx hb hr hml hts hown hlocks hnm hP hD hK hA hS hl
  have hts : ∀ w ∈ tb0, w.before args s = true := fun w h => hts w (List.mem_cons_of_mem _ h)
  have hown : s.vm.findClass R_WK = some m.cls := hown
  have hl : lv_has ls 1 [(0, .ref q_this)] := hl
  unfold fn_WK_takeNext at hF
  refine lv_aload_n hx hb d_WK_takeNext_0 rfl (lv_at hl 0 rfl) ?_
  refine va_get (D := (dC, dI)) (ci := 4) (v := .int v_entryStopped) (C := R_WK) (T := F_WK) (N := 15) hx hb hts uw_WK hown hK hP 0 rfl rfl 5 (by decide) (hts _ tw_102) (fun _ h9 => h9) rfl d_WK_takeNext_1 ?_
  refine lv_if_eq (tgt := 9) hx hb d_WK_takeNext_4 (by decide) (fun hb1 => ?_) (fun hb1 => ?_)
  · have hF := ox_t hF hb1
    refine lv_aload_n hx hb d_WK_takeNext_9 rfl (lv_at hl 0 rfl) ?_
    refine lv_dup hx hb d_WK_takeNext_10 rfl ?_
    refine va_get (D := (dC, dI)) (ci := 4) (v := .int v_entered) (C := R_WK) (T := F_WK) (N := 15) hx hb hts uw_WK hown hK hP 0 rfl rfl 6 (by decide) (hts _ tw_103) (fun _ h9 => h9) rfl d_WK_takeNext_11 ?_
    refine lv_iconst (v := 1) hx hb d_WK_takeNext_14 (by decide) ?_
    refine lv_iadd hx hb d_WK_takeNext_15 ?_
    refine va_put (D := (dC, dI)) (ci := 4) (v := .int (v_entered + 1)) (ty := .int) (C := R_WK) (T := F_WK) (N := 15) hx hb hts uw_WK t_WK t_WK_ok n_WK hown hK hP hD hS 0 rfl rfl 6 (by decide) (hts _ tw_103) (fun _ h9 => h9) rfl (by decide +kernel) rfl rfl (Nat.le_of_ble_eq_true rfl) d_WK_takeNext_16 (fun H locs hP hD hS => ?_)
    have hP : va_P (dC, dI) vwCl (wd_WK_takeNext q_this q_layout q_plan q_carriers q_entries v_second v_cycleSecond v_nextRank v_entryStopped (v_entered + 1) v_done v_lastStay v_hoistCarrier v_hoistMove v_hoistEntry v_hoistEnd) H := hP
    have hD : va_D A (wd_WK_takeNext q_this q_layout q_plan q_carriers q_entries v_second v_cycleSecond v_nextRank v_entryStopped (v_entered + 1) v_done v_lastStay v_hoistCarrier v_hoistMove v_hoistEntry v_hoistEnd) := hD
    refine lv_aload_n hx hb d_WK_takeNext_19 rfl (lv_at hl 0 rfl) ?_
    refine lv_aload_n hx hb d_WK_takeNext_20 rfl (lv_at hl 0 rfl) ?_
    refine va_get (D := (dC, dI)) (ci := 4) (v := .int (v_entered + 1)) (C := R_WK) (T := F_WK) (N := 15) hx hb hts uw_WK hown hK hP 0 rfl rfl 6 (by decide) (hts _ tw_103) (fun _ h9 => h9) rfl d_WK_takeNext_21 ?_
    refine va_put (D := (dC, dI)) (ci := 4) (v := .int (v_entered + 1)) (ty := .int) (C := R_WK) (T := F_WK) (N := 15) hx hb hts uw_WK t_WK t_WK_ok n_WK hown hK hP hD hS 0 rfl rfl 9 (by decide) (hts _ tw_97) (fun _ h9 => h9) rfl (by decide +kernel) rfl rfl (Nat.le_of_ble_eq_true rfl) d_WK_takeNext_24 (fun H locs hP hD hS => ?_)
    have hP : va_P (dC, dI) vwCl (wd_WK_takeNext q_this q_layout q_plan q_carriers q_entries v_second v_cycleSecond v_nextRank v_entryStopped (v_entered + 1) v_done v_lastStay (v_entered + 1) v_hoistMove v_hoistEntry v_hoistEnd) H := hP
    have hD : va_D A (wd_WK_takeNext q_this q_layout q_plan q_carriers q_entries v_second v_cycleSecond v_nextRank v_entryStopped (v_entered + 1) v_done v_lastStay (v_entered + 1) v_hoistMove v_hoistEntry v_hoistEnd) := hD
    refine lv_aload_n hx hb d_WK_takeNext_27 rfl (lv_at hl 0 rfl) ?_
    refine lv_aload_n hx hb d_WK_takeNext_28 rfl (lv_at hl 0 rfl) ?_
    refine va_get (D := (dC, dI)) (ci := 4) (v := .int v_second) (C := R_WK) (T := F_WK) (N := 15) hx hb hts uw_WK hown hK hP 0 rfl rfl 2 (by decide) (hts _ tw_99) (fun _ h9 => h9) rfl d_WK_takeNext_29 ?_
    refine va_put (D := (dC, dI)) (ci := 4) (v := .int v_second) (ty := .int) (C := R_WK) (T := F_WK) (N := 15) hx hb hts uw_WK t_WK t_WK_ok n_WK hown hK hP hD hS 0 rfl rfl 11 (by decide) (hts _ tw_106) (fun _ h9 => h9) rfl (by decide +kernel) rfl rfl (Nat.le_of_ble_eq_true rfl) d_WK_takeNext_32 (fun H locs hP hD hS => ?_)
    have hP : va_P (dC, dI) vwCl (wd_WK_takeNext q_this q_layout q_plan q_carriers q_entries v_second v_cycleSecond v_nextRank v_entryStopped (v_entered + 1) v_done v_lastStay (v_entered + 1) v_hoistMove v_second v_hoistEnd) H := hP
    have hD : va_D A (wd_WK_takeNext q_this q_layout q_plan q_carriers q_entries v_second v_cycleSecond v_nextRank v_entryStopped (v_entered + 1) v_done v_lastStay (v_entered + 1) v_hoistMove v_second v_hoistEnd) := hD
    refine lv_iconst (v := 1) hx hb d_WK_takeNext_35 (by decide) ?_
    cases hF
    exact hq_zret hx hb hr (by decide) hlocks hP hD hK hS d_WK_takeNext_36
  · have hF := ox_f hF hb1
    refine lv_iconst (v := 0) hx hb d_WK_takeNext_7 (by decide) ?_
    cases hF
    exact hq_zret hx hb hr (by decide) hlocks hP hD hK hS d_WK_takeNext_8
abbrev wd_WK_takeFromTank (q_this : Nat) (q_layout : Nat) (q_plan : Nat) (q_carriers : Nat) (q_entries : Nat) (cI : ClassId) (v_second : Int32) (v_cycleSecond : Int32) (v_nextRank : Int32) (v_entryStopped : Int32) (v_entered : Int32) (v_done : Int32) (v_lastStay : Int32) (v_hoistCarrier : Int32) (v_hoistMove : Int32) (v_hoistEntry : Int32) (v_hoistEnd : Int32) (f_carriers : Nat → Int32) (f_entries : Nat → Int32) : va_W := [(q_this, .inr (4, [.ref q_layout, .ref q_plan, .int v_second, .int v_cycleSecond, .int v_nextRank, .int v_entryStopped, .int v_entered, .int v_done, .int v_lastStay, .int v_hoistCarrier, .int v_hoistMove, .int v_hoistEntry, .int v_hoistEnd, .ref q_carriers, .ref q_entries])), (q_carriers, .inl (cI, 6, .inl f_carriers)), (q_entries, .inl (cI, 6, .inl f_entries))]
set_option maxHeartbeats 4000000 in
set_option maxRecDepth 100000 in
theorem c_WK_takeFromTank (l : Launch) (dC : Nat → ClassId) (dI : Nat → Nat → Nat) (q_this : Nat) (q_layout : Nat) (q_plan : Nat) (q_carriers : Nat) (q_entries : Nat) (cI : ClassId) (sz : Nat) (a1 : Int32) (v_second : Int32) (v_cycleSecond : Int32) (v_nextRank : Int32) (v_entryStopped : Int32) (v_entered : Int32) (v_done : Int32) (v_lastStay : Int32) (v_hoistCarrier : Int32) (v_hoistMove : Int32) (v_hoistEntry : Int32) (v_hoistEnd : Int32) (f_carriers : Nat → Int32) (f_entries : Nat → Int32) (rr : Int32) (n_v_hoistCarrier : Int32) (n_v_hoistEntry : Int32) (n_f_carriers : Nat → Int32) (hF : fn_WK_takeFromTank a1 v_hoistCarrier v_hoistEntry f_carriers f_entries = some (rr, n_v_hoistCarrier, n_v_hoistEntry, n_f_carriers)) : Met l y_WK_takeFromTank w_WK_takeFromTank ({ frames := 0, cells := 0, slots := 0, locals := 0 }) (hq_Pc (dC, dI) vwCl [(cI, .int)] (wd_WK_takeFromTank q_this q_layout q_plan q_carriers q_entries cI v_second v_cycleSecond v_nextRank v_entryStopped v_entered v_done v_lastStay v_hoistCarrier v_hoistMove v_hoistEntry v_hoistEnd f_carriers f_entries) sz [.ref q_this, .int a1]) (hq_Qi (dC, dI) vwCl [(cI, .int)] (wd_WK_takeFromTank q_this q_layout q_plan q_carriers q_entries cI v_second v_cycleSecond v_nextRank v_entryStopped v_entered v_done v_lastStay n_v_hoistCarrier v_hoistMove n_v_hoistEntry v_hoistEnd n_f_carriers f_entries) rr (va_A (wd_WK_takeFromTank q_this q_layout q_plan q_carriers q_entries cI v_second v_cycleSecond v_nextRank v_entryStopped v_entered v_done v_lastStay v_hoistCarrier v_hoistMove v_hoistEntry v_hoistEnd f_carriers f_entries) sz)) 0 0 (va_A (wd_WK_takeFromTank q_this q_layout q_plan q_carriers q_entries cI v_second v_cycleSecond v_nextRank v_entryStopped v_entered v_done v_lastStay v_hoistCarrier v_hoistMove v_hoistEntry v_hoistEnd f_carriers f_entries) sz) := by
  refine hq_met (Qc := (hq_Qi (dC, dI) vwCl [(cI, .int)] (wd_WK_takeFromTank q_this q_layout q_plan q_carriers q_entries cI v_second v_cycleSecond v_nextRank v_entryStopped v_entered v_done v_lastStay n_v_hoistCarrier v_hoistMove n_v_hoistEntry v_hoistEnd n_f_carriers f_entries) rr)) (cc := b_WK_takeFromTank) (maxL := 2) (ret := some .boolean) (by decide) rfl (Nat.le_of_ble_eq_true rfl) ?_
  intro p e s m args below meth c A ls hx hb hr hml hts hown hlocks hnm hP hD hK hA hS hl
  have hts : ∀ w ∈ tb0, w.before args s = true := fun w h => hts w (List.mem_cons_of_mem _ h)
  have hown : s.vm.findClass R_WK = some m.cls := hown
  have hl : lv_has ls 2 [(0, .ref q_this), (1, .int a1)] := hl
  unfold fn_WK_takeFromTank at hF
  refine lv_aload_n hx hb d_WK_takeFromTank_0 rfl (lv_at hl 0 rfl) ?_
  refine va_get (D := (dC, dI)) (ci := 4) (v := .ref q_carriers) (C := R_WK) (T := F_WK) (N := 15) hx hb hts uw_WK hown hK hP 0 rfl rfl 13 (by decide) (hts _ tw_113) (fun _ h9 => h9) rfl d_WK_takeFromTank_1 ?_
  refine lv_iload_n hx hb d_WK_takeFromTank_4 rfl (lv_at hl 1 rfl) ?_
  obtain ⟨hin, hF⟩ := ox_gdS hF
  refine va_iald hx hb hK hP 1 0 rfl rfl hin d_WK_takeFromTank_5 ?_
  refine lv_if_ne (tgt := 11) hx hb d_WK_takeFromTank_6 (by decide) (fun hb1 => ?_) (fun hb1 => ?_)
  · have hF := ox_t hF hb1
    refine lv_aload_n hx hb d_WK_takeFromTank_11 rfl (lv_at hl 0 rfl) ?_
    refine lv_aload_n hx hb d_WK_takeFromTank_12 rfl (lv_at hl 0 rfl) ?_
    refine va_get (D := (dC, dI)) (ci := 4) (v := .ref q_carriers) (C := R_WK) (T := F_WK) (N := 15) hx hb hts uw_WK hown hK hP 0 rfl rfl 13 (by decide) (hts _ tw_113) (fun _ h9 => h9) rfl d_WK_takeFromTank_13 ?_
    refine lv_iload_n hx hb d_WK_takeFromTank_16 rfl (lv_at hl 1 rfl) ?_
    obtain ⟨hin, hF⟩ := ox_gdS hF
    refine va_iald hx hb hK hP 1 0 rfl rfl hin d_WK_takeFromTank_17 ?_
    refine va_put (D := (dC, dI)) (ci := 4) (v := .int (f_carriers a1.toNatClampNeg)) (ty := .int) (C := R_WK) (T := F_WK) (N := 15) hx hb hts uw_WK t_WK t_WK_ok n_WK hown hK hP hD hS 0 rfl rfl 9 (by decide) (hts _ tw_97) (fun _ h9 => h9) rfl (by decide +kernel) rfl rfl (Nat.le_of_ble_eq_true rfl) d_WK_takeFromTank_18 (fun H locs hP hD hS => ?_)
    have hP : va_P (dC, dI) vwCl (wd_WK_takeFromTank q_this q_layout q_plan q_carriers q_entries cI v_second v_cycleSecond v_nextRank v_entryStopped v_entered v_done v_lastStay (f_carriers a1.toNatClampNeg) v_hoistMove v_hoistEntry v_hoistEnd f_carriers f_entries) H := hP
    have hD : va_D A (wd_WK_takeFromTank q_this q_layout q_plan q_carriers q_entries cI v_second v_cycleSecond v_nextRank v_entryStopped v_entered v_done v_lastStay (f_carriers a1.toNatClampNeg) v_hoistMove v_hoistEntry v_hoistEnd f_carriers f_entries) := hD
    refine lv_aload_n hx hb d_WK_takeFromTank_21 rfl (lv_at hl 0 rfl) ?_
    refine lv_aload_n hx hb d_WK_takeFromTank_22 rfl (lv_at hl 0 rfl) ?_
    refine va_get (D := (dC, dI)) (ci := 4) (v := .ref q_entries) (C := R_WK) (T := F_WK) (N := 15) hx hb hts uw_WK hown hK hP 0 rfl rfl 14 (by decide) (hts _ tw_115) (fun _ h9 => h9) rfl d_WK_takeFromTank_23 ?_
    refine lv_iload_n hx hb d_WK_takeFromTank_26 rfl (lv_at hl 1 rfl) ?_
    obtain ⟨hin, hF⟩ := ox_gdS hF
    refine va_iald hx hb hK hP 2 0 rfl rfl hin d_WK_takeFromTank_27 ?_
    refine va_put (D := (dC, dI)) (ci := 4) (v := .int (f_entries a1.toNatClampNeg)) (ty := .int) (C := R_WK) (T := F_WK) (N := 15) hx hb hts uw_WK t_WK t_WK_ok n_WK hown hK hP hD hS 0 rfl rfl 11 (by decide) (hts _ tw_106) (fun _ h9 => h9) rfl (by decide +kernel) rfl rfl (Nat.le_of_ble_eq_true rfl) d_WK_takeFromTank_28 (fun H locs hP hD hS => ?_)
    have hP : va_P (dC, dI) vwCl (wd_WK_takeFromTank q_this q_layout q_plan q_carriers q_entries cI v_second v_cycleSecond v_nextRank v_entryStopped v_entered v_done v_lastStay (f_carriers a1.toNatClampNeg) v_hoistMove (f_entries a1.toNatClampNeg) v_hoistEnd f_carriers f_entries) H := hP
    have hD : va_D A (wd_WK_takeFromTank q_this q_layout q_plan q_carriers q_entries cI v_second v_cycleSecond v_nextRank v_entryStopped v_entered v_done v_lastStay (f_carriers a1.toNatClampNeg) v_hoistMove (f_entries a1.toNatClampNeg) v_hoistEnd f_carriers f_entries) := hD
    refine lv_aload_n hx hb d_WK_takeFromTank_31 rfl (lv_at hl 0 rfl) ?_
    refine va_get (D := (dC, dI)) (ci := 4) (v := .ref q_carriers) (C := R_WK) (T := F_WK) (N := 15) hx hb hts uw_WK hown hK hP 0 rfl rfl 13 (by decide) (hts _ tw_113) (fun _ h9 => h9) rfl d_WK_takeFromTank_32 ?_
    refine lv_iload_n hx hb d_WK_takeFromTank_35 rfl (lv_at hl 1 rfl) ?_
    refine lv_iconst (v := 0) hx hb d_WK_takeFromTank_36 (by decide) ?_
    obtain ⟨hin, hF⟩ := ox_gdS hF
    refine va_iast hx hb hK hP hD hS 1 0 rfl rfl hin d_WK_takeFromTank_37 (fun H locs hP hD hS => ?_)
    have hP : va_P (dC, dI) vwCl (wd_WK_takeFromTank q_this q_layout q_plan q_carriers q_entries cI v_second v_cycleSecond v_nextRank v_entryStopped v_entered v_done v_lastStay (f_carriers a1.toNatClampNeg) v_hoistMove (f_entries a1.toNatClampNeg) v_hoistEnd (upd f_carriers a1.toNatClampNeg 0) f_entries) H := hP
    have hD : va_D A (wd_WK_takeFromTank q_this q_layout q_plan q_carriers q_entries cI v_second v_cycleSecond v_nextRank v_entryStopped v_entered v_done v_lastStay (f_carriers a1.toNatClampNeg) v_hoistMove (f_entries a1.toNatClampNeg) v_hoistEnd (upd f_carriers a1.toNatClampNeg 0) f_entries) := hD
    refine lv_iconst (v := 1) hx hb d_WK_takeFromTank_38 (by decide) ?_
    cases hF
    exact hq_zret hx hb hr (by decide) hlocks hP hD hK hS d_WK_takeFromTank_39
  · have hF := ox_fn hF hb1
    refine lv_iconst (v := 0) hx hb d_WK_takeFromTank_9 (by decide) ?_
    cases hF
    exact hq_zret hx hb hr (by decide) hlocks hP hD hK hS d_WK_takeFromTank_10
abbrev wd_WK_beginMove (q_this : Nat) (q_layout : Nat) (q_plan : Nat) (q_carriers : Nat) (q_entries : Nat) (q_layout_low : Nat) (q_layout_high : Nat) (q_layout_loadedSeconds : Nat) (q_layout_emptySeconds : Nat) (cI : ClassId) (v_second : Int32) (v_cycleSecond : Int32) (v_nextRank : Int32) (v_entryStopped : Int32) (v_entered : Int32) (v_done : Int32) (v_lastStay : Int32) (v_hoistCarrier : Int32) (v_hoistMove : Int32) (v_hoistEntry : Int32) (v_hoistEnd : Int32) (v_layout_tanks : Int32) (f_carriers : Nat → Int32) (f_entries : Nat → Int32) (f_layout_loadedSeconds : Nat → Int32) : va_W := [(q_this, .inr (4, [.ref q_layout, .ref q_plan, .int v_second, .int v_cycleSecond, .int v_nextRank, .int v_entryStopped, .int v_entered, .int v_done, .int v_lastStay, .int v_hoistCarrier, .int v_hoistMove, .int v_hoistEntry, .int v_hoistEnd, .ref q_carriers, .ref q_entries])), (q_layout, .inr (0, [.int v_layout_tanks, .ref q_layout_low, .ref q_layout_high, .ref q_layout_loadedSeconds, .ref q_layout_emptySeconds])), (q_carriers, .inl (cI, 6, .inl f_carriers)), (q_entries, .inl (cI, 6, .inl f_entries)), (q_layout_loadedSeconds, .inl (cI, 6, .inl f_layout_loadedSeconds))]
set_option maxHeartbeats 4000000 in
set_option maxRecDepth 100000 in
theorem c_WK_beginMove (l : Launch) (dC : Nat → ClassId) (dI : Nat → Nat → Nat) (q_this : Nat) (q_layout : Nat) (q_plan : Nat) (q_carriers : Nat) (q_entries : Nat) (q_layout_low : Nat) (q_layout_high : Nat) (q_layout_loadedSeconds : Nat) (q_layout_emptySeconds : Nat) (cI : ClassId) (sz : Nat) (a1 : Int32) (v_second : Int32) (v_cycleSecond : Int32) (v_nextRank : Int32) (v_entryStopped : Int32) (v_entered : Int32) (v_done : Int32) (v_lastStay : Int32) (v_hoistCarrier : Int32) (v_hoistMove : Int32) (v_hoistEntry : Int32) (v_hoistEnd : Int32) (v_layout_tanks : Int32) (f_carriers : Nat → Int32) (f_entries : Nat → Int32) (f_layout_loadedSeconds : Nat → Int32) (rr : Int32) (n_v_entered : Int32) (n_v_hoistCarrier : Int32) (n_v_hoistMove : Int32) (n_v_hoistEntry : Int32) (n_v_hoistEnd : Int32) (n_f_carriers : Nat → Int32) (hF : fn_WK_beginMove a1 v_second v_entryStopped v_entered v_hoistCarrier v_hoistMove v_hoistEntry v_hoistEnd f_carriers f_entries f_layout_loadedSeconds = some (rr, n_v_entered, n_v_hoistCarrier, n_v_hoistMove, n_v_hoistEntry, n_v_hoistEnd, n_f_carriers)) : Met l y_WK_beginMove w_WK_beginMove ({ frames := 1, cells := 0, slots := 0, locals := 21 }) (hq_Pc (dC, dI) vwCl [(cI, .int)] (wd_WK_beginMove q_this q_layout q_plan q_carriers q_entries q_layout_low q_layout_high q_layout_loadedSeconds q_layout_emptySeconds cI v_second v_cycleSecond v_nextRank v_entryStopped v_entered v_done v_lastStay v_hoistCarrier v_hoistMove v_hoistEntry v_hoistEnd v_layout_tanks f_carriers f_entries f_layout_loadedSeconds) sz [.ref q_this, .int a1]) (hq_Qi (dC, dI) vwCl [(cI, .int)] (wd_WK_beginMove q_this q_layout q_plan q_carriers q_entries q_layout_low q_layout_high q_layout_loadedSeconds q_layout_emptySeconds cI v_second v_cycleSecond v_nextRank v_entryStopped n_v_entered v_done v_lastStay n_v_hoistCarrier n_v_hoistMove n_v_hoistEntry n_v_hoistEnd v_layout_tanks n_f_carriers f_entries f_layout_loadedSeconds) rr (va_A (wd_WK_beginMove q_this q_layout q_plan q_carriers q_entries q_layout_low q_layout_high q_layout_loadedSeconds q_layout_emptySeconds cI v_second v_cycleSecond v_nextRank v_entryStopped v_entered v_done v_lastStay v_hoistCarrier v_hoistMove v_hoistEntry v_hoistEnd v_layout_tanks f_carriers f_entries f_layout_loadedSeconds) sz)) 0 0 (va_A (wd_WK_beginMove q_this q_layout q_plan q_carriers q_entries q_layout_low q_layout_high q_layout_loadedSeconds q_layout_emptySeconds cI v_second v_cycleSecond v_nextRank v_entryStopped v_entered v_done v_lastStay v_hoistCarrier v_hoistMove v_hoistEntry v_hoistEnd v_layout_tanks f_carriers f_entries f_layout_loadedSeconds) sz) := by
  refine hq_met (Qc := (hq_Qi (dC, dI) vwCl [(cI, .int)] (wd_WK_beginMove q_this q_layout q_plan q_carriers q_entries q_layout_low q_layout_high q_layout_loadedSeconds q_layout_emptySeconds cI v_second v_cycleSecond v_nextRank v_entryStopped n_v_entered v_done v_lastStay n_v_hoistCarrier n_v_hoistMove n_v_hoistEntry n_v_hoistEnd v_layout_tanks n_f_carriers f_entries f_layout_loadedSeconds) rr)) (cc := b_WK_beginMove) (maxL := 3) (ret := some .boolean) (by decide) rfl (Nat.le_of_ble_eq_true rfl) ?_
  intro p e s m args below meth c A ls hx hb hr hml hts hown hlocks hnm hP hD hK hA hS hl
  have hts : ∀ w ∈ tb0, w.before args s = true := fun w h => hts w (List.mem_cons_of_mem _ h)
  have hown : s.vm.findClass R_WK = some m.cls := hown
  have hl : lv_has ls 3 [(0, .ref q_this), (1, .int a1)] := hl
  unfold fn_WK_beginMove at hF
  refine lv_iload_n hx hb d_WK_beginMove_0 rfl (lv_at hl 1 rfl) ?_
  refine lv_if_ne (tgt := 11) hx hb d_WK_beginMove_1 (by decide) (fun hb1 => ?_) (fun hb1 => ?_)
  · have hF := ox_t hF hb1
    refine lv_aload_n hx hb d_WK_beginMove_11 rfl (lv_at hl 0 rfl) ?_
    refine lv_iload_n hx hb d_WK_beginMove_12 rfl (lv_at hl 1 rfl) ?_
    obtain ⟨⟨r2, s2_v_hoistCarrier, s2_v_hoistEntry, s2_f_carriers⟩, hc2, hF⟩ := ox_clS hF
    refine hq_ci (ws' := (wd_WK_beginMove q_this q_layout q_plan q_carriers q_entries q_layout_low q_layout_high q_layout_loadedSeconds q_layout_emptySeconds cI v_second v_cycleSecond v_nextRank v_entryStopped v_entered v_done v_lastStay s2_v_hoistCarrier v_hoistMove s2_v_hoistEntry v_hoistEnd v_layout_tanks s2_f_carriers f_entries f_layout_loadedSeconds)) (hq_rV (As := [.int a1]) (rest := []) ⟨hx, hb, hml, hown, hts⟩ (c_WK_takeFromTank l dC dI q_this q_layout q_plan q_carriers q_entries cI _ a1 v_second v_cycleSecond v_nextRank v_entryStopped v_entered v_done v_lastStay v_hoistCarrier v_hoistMove v_hoistEntry v_hoistEnd f_carriers f_entries r2 s2_v_hoistCarrier s2_v_hoistEntry s2_f_carriers hc2) (cwV 1 hts (hq_gV tw_118 tw_119 tw_120 tw_111 tw_121) rfl rfl rfl yv_WK_takeFromTank ⟨Nat.le_of_ble_eq_true rfl, Nat.le_of_ble_eq_true rfl⟩) hP hD hK [0] rfl 0 rfl rfl [0, 2, 3] rfl rfl rfl hl.1 rfl (Nat.le_of_ble_eq_true rfl) d_WK_beginMove_13 ⟨Nat.zero_le _, Nat.zero_le _⟩) hP hD hS hA [0, 2, 3] [1, 4] [2, 0, 3, 4, 1] rfl rfl rfl (by decide) rfl rfl (fun H locs hP hD hS => ?_)
    refine lv_istore_n (lv' := [(2, .int r2), (0, .ref q_this), (1, .int a1)]) hx hb d_WK_beginMove_16 rfl hl (by decide) rfl (fun ls hl => ?_)
    refine lv_iload_n hx hb d_WK_beginMove_17 rfl (lv_at hl 0 rfl) ?_
    refine lv_if_eq (tgt := 44) hx hb d_WK_beginMove_18 (by decide) (fun hb3 => ?_) (fun hb3 => ?_)
    · have hF := ox_t hF hb3
      refine lv_iload_n hx hb d_WK_beginMove_44 rfl (lv_at hl 0 rfl) ?_
      obtain ⟨hbg, hF⟩ := ox_bgS hF
      cases hF
      exact hq_zret hx hb hr hbg hlocks hP hD hK hS d_WK_beginMove_45
    · have hF := ox_f hF hb3
      refine lv_aload_n hx hb d_WK_beginMove_21 rfl (lv_at hl 1 rfl) ?_
      refine lv_iload_n hx hb d_WK_beginMove_22 rfl (lv_at hl 2 rfl) ?_
      refine va_put (D := (dC, dI)) (ci := 4) (v := .int a1) (ty := .int) (C := R_WK) (T := F_WK) (N := 15) hx hb hts uw_WK t_WK t_WK_ok n_WK hown hK hP hD hS 0 rfl rfl 10 (by decide) (hts _ tw_98) (fun _ h9 => h9) rfl (by decide +kernel) rfl rfl (Nat.le_of_ble_eq_true rfl) d_WK_beginMove_23 (fun H locs hP hD hS => ?_)
      have hP : va_P (dC, dI) vwCl (wd_WK_beginMove q_this q_layout q_plan q_carriers q_entries q_layout_low q_layout_high q_layout_loadedSeconds q_layout_emptySeconds cI v_second v_cycleSecond v_nextRank v_entryStopped v_entered v_done v_lastStay s2_v_hoistCarrier a1 s2_v_hoistEntry v_hoistEnd v_layout_tanks s2_f_carriers f_entries f_layout_loadedSeconds) H := hP
      have hD : va_D A (wd_WK_beginMove q_this q_layout q_plan q_carriers q_entries q_layout_low q_layout_high q_layout_loadedSeconds q_layout_emptySeconds cI v_second v_cycleSecond v_nextRank v_entryStopped v_entered v_done v_lastStay s2_v_hoistCarrier a1 s2_v_hoistEntry v_hoistEnd v_layout_tanks s2_f_carriers f_entries f_layout_loadedSeconds) := hD
      refine lv_aload_n hx hb d_WK_beginMove_26 rfl (lv_at hl 1 rfl) ?_
      refine lv_aload_n hx hb d_WK_beginMove_27 rfl (lv_at hl 1 rfl) ?_
      refine va_get (D := (dC, dI)) (ci := 4) (v := .int v_second) (C := R_WK) (T := F_WK) (N := 15) hx hb hts uw_WK hown hK hP 0 rfl rfl 2 (by decide) (hts _ tw_99) (fun _ h9 => h9) rfl d_WK_beginMove_28 ?_
      refine lv_aload_n hx hb d_WK_beginMove_31 rfl (lv_at hl 1 rfl) ?_
      refine va_get (D := (dC, dI)) (ci := 4) (v := .ref q_layout) (C := R_WK) (T := F_WK) (N := 15) hx hb hts uw_WK hown hK hP 0 rfl rfl 0 (by decide) (hts _ tw_116) (fun _ h9 => h9) rfl d_WK_beginMove_32 ?_
      refine va_get (D := (dC, dI)) (ci := 0) (v := .ref q_layout_loadedSeconds) (C := R_LY) (T := F_LY) (N := 5) hx hb hts uw_LY hown hK hP 1 rfl rfl 3 (by decide) (hts _ tw_122) (fun _ h9 => h9) rfl d_WK_beginMove_35 ?_
      refine lv_iload_n hx hb d_WK_beginMove_38 rfl (lv_at hl 2 rfl) ?_
      obtain ⟨hin, hF⟩ := ox_gdS hF
      refine va_iald hx hb hK hP 4 0 rfl rfl hin d_WK_beginMove_39 ?_
      refine lv_iadd hx hb d_WK_beginMove_40 ?_
      refine va_put (D := (dC, dI)) (ci := 4) (v := .int (v_second + (f_layout_loadedSeconds a1.toNatClampNeg))) (ty := .int) (C := R_WK) (T := F_WK) (N := 15) hx hb hts uw_WK t_WK t_WK_ok n_WK hown hK hP hD hS 0 rfl rfl 12 (by decide) (hts _ tw_107) (fun _ h9 => h9) rfl (by decide +kernel) rfl rfl (Nat.le_of_ble_eq_true rfl) d_WK_beginMove_41 (fun H locs hP hD hS => ?_)
      have hP : va_P (dC, dI) vwCl (wd_WK_beginMove q_this q_layout q_plan q_carriers q_entries q_layout_low q_layout_high q_layout_loadedSeconds q_layout_emptySeconds cI v_second v_cycleSecond v_nextRank v_entryStopped v_entered v_done v_lastStay s2_v_hoistCarrier a1 s2_v_hoistEntry (v_second + (f_layout_loadedSeconds a1.toNatClampNeg)) v_layout_tanks s2_f_carriers f_entries f_layout_loadedSeconds) H := hP
      have hD : va_D A (wd_WK_beginMove q_this q_layout q_plan q_carriers q_entries q_layout_low q_layout_high q_layout_loadedSeconds q_layout_emptySeconds cI v_second v_cycleSecond v_nextRank v_entryStopped v_entered v_done v_lastStay s2_v_hoistCarrier a1 s2_v_hoistEntry (v_second + (f_layout_loadedSeconds a1.toNatClampNeg)) v_layout_tanks s2_f_carriers f_entries f_layout_loadedSeconds) := hD
      refine lv_iload_n hx hb d_WK_beginMove_44 rfl (lv_at hl 0 rfl) ?_
      obtain ⟨hbg, hF⟩ := ox_bgS hF
      cases hF
      exact hq_zret hx hb hr hbg hlocks hP hD hK hS d_WK_beginMove_45
  · have hF := ox_fn hF hb1
    refine lv_aload_n hx hb d_WK_beginMove_4 rfl (lv_at hl 0 rfl) ?_
    obtain ⟨⟨r4, s4_v_entered, s4_v_hoistCarrier, s4_v_hoistEntry⟩, hc4, hF⟩ := ox_clS hF
    refine hq_ci (ws' := (wd_WK_beginMove q_this q_layout q_plan q_carriers q_entries q_layout_low q_layout_high q_layout_loadedSeconds q_layout_emptySeconds cI v_second v_cycleSecond v_nextRank v_entryStopped s4_v_entered v_done v_lastStay s4_v_hoistCarrier v_hoistMove s4_v_hoistEntry v_hoistEnd v_layout_tanks f_carriers f_entries f_layout_loadedSeconds)) (hq_rV (As := []) (rest := []) ⟨hx, hb, hml, hown, hts⟩ (c_WK_takeNext l dC dI q_this q_layout q_plan q_carriers q_entries _ v_second v_cycleSecond v_nextRank v_entryStopped v_entered v_done v_lastStay v_hoistCarrier v_hoistMove v_hoistEntry v_hoistEnd r4 s4_v_entered s4_v_hoistCarrier s4_v_hoistEntry hc4) (cwV 0 hts (hq_gV tw_123 tw_124 tw_125 tw_111 tw_126) rfl rfl rfl yv_WK_takeNext ⟨Nat.le_of_ble_eq_true rfl, Nat.le_of_ble_eq_true rfl⟩) hP hD hK [] rfl 0 rfl rfl [0] rfl rfl rfl hl.1 rfl (Nat.le_of_ble_eq_true rfl) d_WK_beginMove_5 ⟨Nat.zero_le _, Nat.zero_le _⟩) hP hD hS hA [0] [1, 2, 3, 4] [4, 0, 1, 2, 3] rfl rfl rfl (by decide) rfl rfl (fun H locs hP hD hS => ?_)
    refine lv_goto (tgt := 16) hx hb d_WK_beginMove_8 (by decide) ?_
    refine lv_istore_n (lv' := [(2, .int r4), (0, .ref q_this), (1, .int a1)]) hx hb d_WK_beginMove_16 rfl hl (by decide) rfl (fun ls hl => ?_)
    refine lv_iload_n hx hb d_WK_beginMove_17 rfl (lv_at hl 0 rfl) ?_
    refine lv_if_eq (tgt := 44) hx hb d_WK_beginMove_18 (by decide) (fun hb5 => ?_) (fun hb5 => ?_)
    · have hF := ox_t hF hb5
      refine lv_iload_n hx hb d_WK_beginMove_44 rfl (lv_at hl 0 rfl) ?_
      obtain ⟨hbg, hF⟩ := ox_bgS hF
      cases hF
      exact hq_zret hx hb hr hbg hlocks hP hD hK hS d_WK_beginMove_45
    · have hF := ox_f hF hb5
      refine lv_aload_n hx hb d_WK_beginMove_21 rfl (lv_at hl 1 rfl) ?_
      refine lv_iload_n hx hb d_WK_beginMove_22 rfl (lv_at hl 2 rfl) ?_
      refine va_put (D := (dC, dI)) (ci := 4) (v := .int a1) (ty := .int) (C := R_WK) (T := F_WK) (N := 15) hx hb hts uw_WK t_WK t_WK_ok n_WK hown hK hP hD hS 0 rfl rfl 10 (by decide) (hts _ tw_98) (fun _ h9 => h9) rfl (by decide +kernel) rfl rfl (Nat.le_of_ble_eq_true rfl) d_WK_beginMove_23 (fun H locs hP hD hS => ?_)
      have hP : va_P (dC, dI) vwCl (wd_WK_beginMove q_this q_layout q_plan q_carriers q_entries q_layout_low q_layout_high q_layout_loadedSeconds q_layout_emptySeconds cI v_second v_cycleSecond v_nextRank v_entryStopped s4_v_entered v_done v_lastStay s4_v_hoistCarrier a1 s4_v_hoistEntry v_hoistEnd v_layout_tanks f_carriers f_entries f_layout_loadedSeconds) H := hP
      have hD : va_D A (wd_WK_beginMove q_this q_layout q_plan q_carriers q_entries q_layout_low q_layout_high q_layout_loadedSeconds q_layout_emptySeconds cI v_second v_cycleSecond v_nextRank v_entryStopped s4_v_entered v_done v_lastStay s4_v_hoistCarrier a1 s4_v_hoistEntry v_hoistEnd v_layout_tanks f_carriers f_entries f_layout_loadedSeconds) := hD
      refine lv_aload_n hx hb d_WK_beginMove_26 rfl (lv_at hl 1 rfl) ?_
      refine lv_aload_n hx hb d_WK_beginMove_27 rfl (lv_at hl 1 rfl) ?_
      refine va_get (D := (dC, dI)) (ci := 4) (v := .int v_second) (C := R_WK) (T := F_WK) (N := 15) hx hb hts uw_WK hown hK hP 0 rfl rfl 2 (by decide) (hts _ tw_99) (fun _ h9 => h9) rfl d_WK_beginMove_28 ?_
      refine lv_aload_n hx hb d_WK_beginMove_31 rfl (lv_at hl 1 rfl) ?_
      refine va_get (D := (dC, dI)) (ci := 4) (v := .ref q_layout) (C := R_WK) (T := F_WK) (N := 15) hx hb hts uw_WK hown hK hP 0 rfl rfl 0 (by decide) (hts _ tw_116) (fun _ h9 => h9) rfl d_WK_beginMove_32 ?_
      refine va_get (D := (dC, dI)) (ci := 0) (v := .ref q_layout_loadedSeconds) (C := R_LY) (T := F_LY) (N := 5) hx hb hts uw_LY hown hK hP 1 rfl rfl 3 (by decide) (hts _ tw_122) (fun _ h9 => h9) rfl d_WK_beginMove_35 ?_
      refine lv_iload_n hx hb d_WK_beginMove_38 rfl (lv_at hl 2 rfl) ?_
      obtain ⟨hin, hF⟩ := ox_gdS hF
      refine va_iald hx hb hK hP 4 0 rfl rfl hin d_WK_beginMove_39 ?_
      refine lv_iadd hx hb d_WK_beginMove_40 ?_
      refine va_put (D := (dC, dI)) (ci := 4) (v := .int (v_second + (f_layout_loadedSeconds a1.toNatClampNeg))) (ty := .int) (C := R_WK) (T := F_WK) (N := 15) hx hb hts uw_WK t_WK t_WK_ok n_WK hown hK hP hD hS 0 rfl rfl 12 (by decide) (hts _ tw_107) (fun _ h9 => h9) rfl (by decide +kernel) rfl rfl (Nat.le_of_ble_eq_true rfl) d_WK_beginMove_41 (fun H locs hP hD hS => ?_)
      have hP : va_P (dC, dI) vwCl (wd_WK_beginMove q_this q_layout q_plan q_carriers q_entries q_layout_low q_layout_high q_layout_loadedSeconds q_layout_emptySeconds cI v_second v_cycleSecond v_nextRank v_entryStopped s4_v_entered v_done v_lastStay s4_v_hoistCarrier a1 s4_v_hoistEntry (v_second + (f_layout_loadedSeconds a1.toNatClampNeg)) v_layout_tanks f_carriers f_entries f_layout_loadedSeconds) H := hP
      have hD : va_D A (wd_WK_beginMove q_this q_layout q_plan q_carriers q_entries q_layout_low q_layout_high q_layout_loadedSeconds q_layout_emptySeconds cI v_second v_cycleSecond v_nextRank v_entryStopped s4_v_entered v_done v_lastStay s4_v_hoistCarrier a1 s4_v_hoistEntry (v_second + (f_layout_loadedSeconds a1.toNatClampNeg)) v_layout_tanks f_carriers f_entries f_layout_loadedSeconds) := hD
      refine lv_iload_n hx hb d_WK_beginMove_44 rfl (lv_at hl 0 rfl) ?_
      obtain ⟨hbg, hF⟩ := ox_bgS hF
      cases hF
      exact hq_zret hx hb hr hbg hlocks hP hD hK hS d_WK_beginMove_45
abbrev wd_WK_passSecond (q_this : Nat) (q_layout : Nat) (q_plan : Nat) (q_carriers : Nat) (q_entries : Nat) (q_plan_order : Nat) (q_plan_times : Nat) (q_plan_order_moves : Nat) (q_plan_order_rank : Nat) (q_layout_low : Nat) (q_layout_high : Nat) (q_layout_loadedSeconds : Nat) (q_layout_emptySeconds : Nat) (cI : ClassId) (v_second : Int32) (v_cycleSecond : Int32) (v_nextRank : Int32) (v_entryStopped : Int32) (v_entered : Int32) (v_done : Int32) (v_lastStay : Int32) (v_hoistCarrier : Int32) (v_hoistMove : Int32) (v_hoistEntry : Int32) (v_hoistEnd : Int32) (v_plan_cycle : Int32) (v_plan_order_count : Int32) (v_layout_tanks : Int32) (f_plan_order_moves : Nat → Int32) (f_plan_times : Nat → Int32) (f_carriers : Nat → Int32) (f_entries : Nat → Int32) (f_layout_loadedSeconds : Nat → Int32) : va_W := [(q_this, .inr (4, [.ref q_layout, .ref q_plan, .int v_second, .int v_cycleSecond, .int v_nextRank, .int v_entryStopped, .int v_entered, .int v_done, .int v_lastStay, .int v_hoistCarrier, .int v_hoistMove, .int v_hoistEntry, .int v_hoistEnd, .ref q_carriers, .ref q_entries])), (q_plan, .inr (2, [.ref q_plan_order, .ref q_plan_times, .int v_plan_cycle])), (q_plan_order, .inr (1, [.int v_plan_order_count, .ref q_plan_order_moves, .ref q_plan_order_rank])), (q_layout, .inr (0, [.int v_layout_tanks, .ref q_layout_low, .ref q_layout_high, .ref q_layout_loadedSeconds, .ref q_layout_emptySeconds])), (q_plan_order_moves, .inl (cI, 6, .inl f_plan_order_moves)), (q_plan_times, .inl (cI, 6, .inl f_plan_times)), (q_carriers, .inl (cI, 6, .inl f_carriers)), (q_entries, .inl (cI, 6, .inl f_entries)), (q_layout_loadedSeconds, .inl (cI, 6, .inl f_layout_loadedSeconds))]
set_option maxHeartbeats 4000000 in
set_option maxRecDepth 100000 in
theorem c_WK_passSecond (l : Launch) (dC : Nat → ClassId) (dI : Nat → Nat → Nat) (q_this : Nat) (q_layout : Nat) (q_plan : Nat) (q_carriers : Nat) (q_entries : Nat) (q_plan_order : Nat) (q_plan_times : Nat) (q_plan_order_moves : Nat) (q_plan_order_rank : Nat) (q_layout_low : Nat) (q_layout_high : Nat) (q_layout_loadedSeconds : Nat) (q_layout_emptySeconds : Nat) (cI : ClassId) (sz : Nat) (v_second : Int32) (v_cycleSecond : Int32) (v_nextRank : Int32) (v_entryStopped : Int32) (v_entered : Int32) (v_done : Int32) (v_lastStay : Int32) (v_hoistCarrier : Int32) (v_hoistMove : Int32) (v_hoistEntry : Int32) (v_hoistEnd : Int32) (v_plan_cycle : Int32) (v_plan_order_count : Int32) (v_layout_tanks : Int32) (f_plan_order_moves : Nat → Int32) (f_plan_times : Nat → Int32) (f_carriers : Nat → Int32) (f_entries : Nat → Int32) (f_layout_loadedSeconds : Nat → Int32) (rr : Int32) (n_v_second : Int32) (n_v_cycleSecond : Int32) (n_v_nextRank : Int32) (n_v_entered : Int32) (n_v_done : Int32) (n_v_lastStay : Int32) (n_v_hoistCarrier : Int32) (n_v_hoistMove : Int32) (n_v_hoistEntry : Int32) (n_v_hoistEnd : Int32) (n_f_carriers : Nat → Int32) (n_f_entries : Nat → Int32) (hF : fn_WK_passSecond v_second v_cycleSecond v_nextRank v_entryStopped v_entered v_done v_lastStay v_hoistCarrier v_hoistMove v_hoistEntry v_hoistEnd v_plan_cycle v_layout_tanks f_plan_order_moves f_plan_times f_carriers f_entries f_layout_loadedSeconds = some (rr, n_v_second, n_v_cycleSecond, n_v_nextRank, n_v_entered, n_v_done, n_v_lastStay, n_v_hoistCarrier, n_v_hoistMove, n_v_hoistEntry, n_v_hoistEnd, n_f_carriers, n_f_entries)) : Met l y_WK_passSecond w_WK_passSecond ({ frames := 2, cells := 0, slots := 0, locals := 43 }) (hq_Pc (dC, dI) vwCl [(cI, .int)] (wd_WK_passSecond q_this q_layout q_plan q_carriers q_entries q_plan_order q_plan_times q_plan_order_moves q_plan_order_rank q_layout_low q_layout_high q_layout_loadedSeconds q_layout_emptySeconds cI v_second v_cycleSecond v_nextRank v_entryStopped v_entered v_done v_lastStay v_hoistCarrier v_hoistMove v_hoistEntry v_hoistEnd v_plan_cycle v_plan_order_count v_layout_tanks f_plan_order_moves f_plan_times f_carriers f_entries f_layout_loadedSeconds) sz [.ref q_this]) (hq_Qi (dC, dI) vwCl [(cI, .int)] (wd_WK_passSecond q_this q_layout q_plan q_carriers q_entries q_plan_order q_plan_times q_plan_order_moves q_plan_order_rank q_layout_low q_layout_high q_layout_loadedSeconds q_layout_emptySeconds cI n_v_second n_v_cycleSecond n_v_nextRank v_entryStopped n_v_entered n_v_done n_v_lastStay n_v_hoistCarrier n_v_hoistMove n_v_hoistEntry n_v_hoistEnd v_plan_cycle v_plan_order_count v_layout_tanks f_plan_order_moves f_plan_times n_f_carriers n_f_entries f_layout_loadedSeconds) rr (va_A (wd_WK_passSecond q_this q_layout q_plan q_carriers q_entries q_plan_order q_plan_times q_plan_order_moves q_plan_order_rank q_layout_low q_layout_high q_layout_loadedSeconds q_layout_emptySeconds cI v_second v_cycleSecond v_nextRank v_entryStopped v_entered v_done v_lastStay v_hoistCarrier v_hoistMove v_hoistEntry v_hoistEnd v_plan_cycle v_plan_order_count v_layout_tanks f_plan_order_moves f_plan_times f_carriers f_entries f_layout_loadedSeconds) sz)) 0 0 (va_A (wd_WK_passSecond q_this q_layout q_plan q_carriers q_entries q_plan_order q_plan_times q_plan_order_moves q_plan_order_rank q_layout_low q_layout_high q_layout_loadedSeconds q_layout_emptySeconds cI v_second v_cycleSecond v_nextRank v_entryStopped v_entered v_done v_lastStay v_hoistCarrier v_hoistMove v_hoistEntry v_hoistEnd v_plan_cycle v_plan_order_count v_layout_tanks f_plan_order_moves f_plan_times f_carriers f_entries f_layout_loadedSeconds) sz) := by
  refine hq_met (Qc := (hq_Qi (dC, dI) vwCl [(cI, .int)] (wd_WK_passSecond q_this q_layout q_plan q_carriers q_entries q_plan_order q_plan_times q_plan_order_moves q_plan_order_rank q_layout_low q_layout_high q_layout_loadedSeconds q_layout_emptySeconds cI n_v_second n_v_cycleSecond n_v_nextRank v_entryStopped n_v_entered n_v_done n_v_lastStay n_v_hoistCarrier n_v_hoistMove n_v_hoistEntry n_v_hoistEnd v_plan_cycle v_plan_order_count v_layout_tanks f_plan_order_moves f_plan_times n_f_carriers n_f_entries f_layout_loadedSeconds) rr)) (cc := b_WK_passSecond) (maxL := 3) (ret := some .boolean) (by decide) rfl (Nat.le_of_ble_eq_true rfl) ?_
  intro p e s m args below meth c A ls hx hb hr hml hts hown hlocks hnm hP hD hK hA hS hl
  have hts : ∀ w ∈ tb0, w.before args s = true := fun w h => hts w (List.mem_cons_of_mem _ h)
  have hown : s.vm.findClass R_WK = some m.cls := hown
  have hl : lv_has ls 3 [(0, .ref q_this)] := hl
  unfold fn_WK_passSecond at hF
  refine lv_aload_n hx hb d_WK_passSecond_0 rfl (lv_at hl 0 rfl) ?_
  refine va_get (D := (dC, dI)) (ci := 4) (v := .int v_hoistMove) (C := R_WK) (T := F_WK) (N := 15) hx hb hts uw_WK hown hK hP 0 rfl rfl 10 (by decide) (hts _ tw_98) (fun _ h9 => h9) rfl d_WK_passSecond_1 ?_
  refine lv_iconst (v := (-1)) hx hb d_WK_passSecond_4 (by decide) ?_
  refine lv_icmp_eq (tgt := 23) hx hb d_WK_passSecond_5 (by decide) (fun hb1 => ?_) (fun hb1 => ?_)
  · have hF := ox_t hF hb1
    refine lv_iconst (v := 0) hx hb d_WK_passSecond_23 (by decide) ?_
    refine lv_istore_n (lv' := [(1, .int 0), (0, .ref q_this)]) hx hb d_WK_passSecond_24 rfl hl (by decide) rfl (fun ls hl => ?_)
    refine lv_aload_n hx hb d_WK_passSecond_25 rfl (lv_at hl 1 rfl) ?_
    refine va_get (D := (dC, dI)) (ci := 4) (v := .ref q_plan) (C := R_WK) (T := F_WK) (N := 15) hx hb hts uw_WK hown hK hP 0 rfl rfl 1 (by decide) (hts _ tw_127) (fun _ h9 => h9) rfl d_WK_passSecond_26 ?_
    refine va_get (D := (dC, dI)) (ci := 2) (v := .ref q_plan_order) (C := R_PL) (T := F_PL) (N := 3) hx hb hts uw_PL hown hK hP 1 rfl rfl 0 (by decide) (hts _ tw_128) (fun _ h9 => h9) rfl d_WK_passSecond_29 ?_
    refine va_get (D := (dC, dI)) (ci := 1) (v := .ref q_plan_order_moves) (C := R_OR) (T := F_OR) (N := 3) hx hb hts uw_OR hown hK hP 2 rfl rfl 1 (by decide) (hts _ tw_129) (fun _ h9 => h9) rfl d_WK_passSecond_32 ?_
    refine lv_aload_n hx hb d_WK_passSecond_35 rfl (lv_at hl 1 rfl) ?_
    refine va_get (D := (dC, dI)) (ci := 4) (v := .int v_nextRank) (C := R_WK) (T := F_WK) (N := 15) hx hb hts uw_WK hown hK hP 0 rfl rfl 4 (by decide) (hts _ tw_101) (fun _ h9 => h9) rfl d_WK_passSecond_36 ?_
    obtain ⟨hin, hF⟩ := ox_gdS hF
    refine va_iald hx hb hK hP 4 0 rfl rfl hin d_WK_passSecond_39 ?_
    refine lv_istore_n (lv' := [(2, .int (f_plan_order_moves v_nextRank.toNatClampNeg)), (1, .int 0), (0, .ref q_this)]) hx hb d_WK_passSecond_40 rfl hl (by decide) rfl (fun ls hl => ?_)
    refine lv_aload_n hx hb d_WK_passSecond_41 rfl (lv_at hl 2 rfl) ?_
    refine va_get (D := (dC, dI)) (ci := 4) (v := .ref q_plan) (C := R_WK) (T := F_WK) (N := 15) hx hb hts uw_WK hown hK hP 0 rfl rfl 1 (by decide) (hts _ tw_127) (fun _ h9 => h9) rfl d_WK_passSecond_42 ?_
    refine va_get (D := (dC, dI)) (ci := 2) (v := .ref q_plan_times) (C := R_PL) (T := F_PL) (N := 3) hx hb hts uw_PL hown hK hP 1 rfl rfl 1 (by decide) (hts _ tw_130) (fun _ h9 => h9) rfl d_WK_passSecond_45 ?_
    refine lv_iload_n hx hb d_WK_passSecond_48 rfl (lv_at hl 0 rfl) ?_
    obtain ⟨hin, hF⟩ := ox_gdS hF
    refine va_iald hx hb hK hP 5 0 rfl rfl hin d_WK_passSecond_49 ?_
    refine lv_aload_n hx hb d_WK_passSecond_50 rfl (lv_at hl 2 rfl) ?_
    refine va_get (D := (dC, dI)) (ci := 4) (v := .int v_cycleSecond) (C := R_WK) (T := F_WK) (N := 15) hx hb hts uw_WK hown hK hP 0 rfl rfl 3 (by decide) (hts _ tw_100) (fun _ h9 => h9) rfl d_WK_passSecond_51 ?_
    refine lv_icmp_ne (tgt := 91) hx hb d_WK_passSecond_54 (by decide) (fun hb2 => ?_) (fun hb2 => ?_)
    · have hF := ox_t hF hb2
      refine lv_aload_n hx hb d_WK_passSecond_91 rfl (lv_at hl 2 rfl) ?_
      refine lv_dup hx hb d_WK_passSecond_92 rfl ?_
      refine va_get (D := (dC, dI)) (ci := 4) (v := .int v_second) (C := R_WK) (T := F_WK) (N := 15) hx hb hts uw_WK hown hK hP 0 rfl rfl 2 (by decide) (hts _ tw_99) (fun _ h9 => h9) rfl d_WK_passSecond_93 ?_
      refine lv_iconst (v := 1) hx hb d_WK_passSecond_96 (by decide) ?_
      refine lv_iadd hx hb d_WK_passSecond_97 ?_
      refine va_put (D := (dC, dI)) (ci := 4) (v := .int (v_second + 1)) (ty := .int) (C := R_WK) (T := F_WK) (N := 15) hx hb hts uw_WK t_WK t_WK_ok n_WK hown hK hP hD hS 0 rfl rfl 2 (by decide) (hts _ tw_99) (fun _ h9 => h9) rfl (by decide +kernel) rfl rfl (Nat.le_of_ble_eq_true rfl) d_WK_passSecond_98 (fun H locs hP hD hS => ?_)
      have hP : va_P (dC, dI) vwCl (wd_WK_passSecond q_this q_layout q_plan q_carriers q_entries q_plan_order q_plan_times q_plan_order_moves q_plan_order_rank q_layout_low q_layout_high q_layout_loadedSeconds q_layout_emptySeconds cI (v_second + 1) v_cycleSecond v_nextRank v_entryStopped v_entered v_done v_lastStay v_hoistCarrier v_hoistMove v_hoistEntry v_hoistEnd v_plan_cycle v_plan_order_count v_layout_tanks f_plan_order_moves f_plan_times f_carriers f_entries f_layout_loadedSeconds) H := hP
      have hD : va_D A (wd_WK_passSecond q_this q_layout q_plan q_carriers q_entries q_plan_order q_plan_times q_plan_order_moves q_plan_order_rank q_layout_low q_layout_high q_layout_loadedSeconds q_layout_emptySeconds cI (v_second + 1) v_cycleSecond v_nextRank v_entryStopped v_entered v_done v_lastStay v_hoistCarrier v_hoistMove v_hoistEntry v_hoistEnd v_plan_cycle v_plan_order_count v_layout_tanks f_plan_order_moves f_plan_times f_carriers f_entries f_layout_loadedSeconds) := hD
      refine lv_aload_n hx hb d_WK_passSecond_101 rfl (lv_at hl 2 rfl) ?_
      refine lv_aload_n hx hb d_WK_passSecond_102 rfl (lv_at hl 2 rfl) ?_
      refine va_get (D := (dC, dI)) (ci := 4) (v := .int v_cycleSecond) (C := R_WK) (T := F_WK) (N := 15) hx hb hts uw_WK hown hK hP 0 rfl rfl 3 (by decide) (hts _ tw_100) (fun _ h9 => h9) rfl d_WK_passSecond_103 ?_
      refine lv_iconst (v := 1) hx hb d_WK_passSecond_106 (by decide) ?_
      refine lv_iadd hx hb d_WK_passSecond_107 ?_
      refine lv_aload_n hx hb d_WK_passSecond_108 rfl (lv_at hl 2 rfl) ?_
      refine va_get (D := (dC, dI)) (ci := 4) (v := .ref q_plan) (C := R_WK) (T := F_WK) (N := 15) hx hb hts uw_WK hown hK hP 0 rfl rfl 1 (by decide) (hts _ tw_127) (fun _ h9 => h9) rfl d_WK_passSecond_109 ?_
      refine va_get (D := (dC, dI)) (ci := 2) (v := .int v_plan_cycle) (C := R_PL) (T := F_PL) (N := 3) hx hb hts uw_PL hown hK hP 1 rfl rfl 2 (by decide) (hts _ tw_131) (fun _ h9 => h9) rfl d_WK_passSecond_112 ?_
      refine lv_icmp_ne (tgt := 122) hx hb d_WK_passSecond_115 (by decide) (fun hb3 => ?_) (fun hb3 => ?_)
      · have hF := ox_t hF hb3
        refine lv_aload_n hx hb d_WK_passSecond_122 rfl (lv_at hl 2 rfl) ?_
        refine va_get (D := (dC, dI)) (ci := 4) (v := .int v_cycleSecond) (C := R_WK) (T := F_WK) (N := 15) hx hb hts uw_WK hown hK hP 0 rfl rfl 3 (by decide) (hts _ tw_100) (fun _ h9 => h9) rfl d_WK_passSecond_123 ?_
        refine lv_iconst (v := 1) hx hb d_WK_passSecond_126 (by decide) ?_
        refine lv_iadd hx hb d_WK_passSecond_127 ?_
        refine va_put (D := (dC, dI)) (ci := 4) (v := .int (v_cycleSecond + 1)) (ty := .int) (C := R_WK) (T := F_WK) (N := 15) hx hb hts uw_WK t_WK t_WK_ok n_WK hown hK hP hD hS 0 rfl rfl 3 (by decide) (hts _ tw_100) (fun _ h9 => h9) rfl (by decide +kernel) rfl rfl (Nat.le_of_ble_eq_true rfl) d_WK_passSecond_128 (fun H locs hP hD hS => ?_)
        have hP : va_P (dC, dI) vwCl (wd_WK_passSecond q_this q_layout q_plan q_carriers q_entries q_plan_order q_plan_times q_plan_order_moves q_plan_order_rank q_layout_low q_layout_high q_layout_loadedSeconds q_layout_emptySeconds cI (v_second + 1) (v_cycleSecond + 1) v_nextRank v_entryStopped v_entered v_done v_lastStay v_hoistCarrier v_hoistMove v_hoistEntry v_hoistEnd v_plan_cycle v_plan_order_count v_layout_tanks f_plan_order_moves f_plan_times f_carriers f_entries f_layout_loadedSeconds) H := hP
        have hD : va_D A (wd_WK_passSecond q_this q_layout q_plan q_carriers q_entries q_plan_order q_plan_times q_plan_order_moves q_plan_order_rank q_layout_low q_layout_high q_layout_loadedSeconds q_layout_emptySeconds cI (v_second + 1) (v_cycleSecond + 1) v_nextRank v_entryStopped v_entered v_done v_lastStay v_hoistCarrier v_hoistMove v_hoistEntry v_hoistEnd v_plan_cycle v_plan_order_count v_layout_tanks f_plan_order_moves f_plan_times f_carriers f_entries f_layout_loadedSeconds) := hD
        refine lv_iload_n hx hb d_WK_passSecond_131 rfl (lv_at hl 1 rfl) ?_
        cases hF
        exact hq_zret hx hb hr (by decide) hlocks hP hD hK hS d_WK_passSecond_132
      · have hF := ox_fn hF hb3
        refine lv_iconst (v := 0) hx hb d_WK_passSecond_118 (by decide) ?_
        refine lv_goto (tgt := 128) hx hb d_WK_passSecond_119 (by decide) ?_
        refine va_put (D := (dC, dI)) (ci := 4) (v := .int 0) (ty := .int) (C := R_WK) (T := F_WK) (N := 15) hx hb hts uw_WK t_WK t_WK_ok n_WK hown hK hP hD hS 0 rfl rfl 3 (by decide) (hts _ tw_100) (fun _ h9 => h9) rfl (by decide +kernel) rfl rfl (Nat.le_of_ble_eq_true rfl) d_WK_passSecond_128 (fun H locs hP hD hS => ?_)
        have hP : va_P (dC, dI) vwCl (wd_WK_passSecond q_this q_layout q_plan q_carriers q_entries q_plan_order q_plan_times q_plan_order_moves q_plan_order_rank q_layout_low q_layout_high q_layout_loadedSeconds q_layout_emptySeconds cI (v_second + 1) 0 v_nextRank v_entryStopped v_entered v_done v_lastStay v_hoistCarrier v_hoistMove v_hoistEntry v_hoistEnd v_plan_cycle v_plan_order_count v_layout_tanks f_plan_order_moves f_plan_times f_carriers f_entries f_layout_loadedSeconds) H := hP
        have hD : va_D A (wd_WK_passSecond q_this q_layout q_plan q_carriers q_entries q_plan_order q_plan_times q_plan_order_moves q_plan_order_rank q_layout_low q_layout_high q_layout_loadedSeconds q_layout_emptySeconds cI (v_second + 1) 0 v_nextRank v_entryStopped v_entered v_done v_lastStay v_hoistCarrier v_hoistMove v_hoistEntry v_hoistEnd v_plan_cycle v_plan_order_count v_layout_tanks f_plan_order_moves f_plan_times f_carriers f_entries f_layout_loadedSeconds) := hD
        refine lv_iload_n hx hb d_WK_passSecond_131 rfl (lv_at hl 1 rfl) ?_
        cases hF
        exact hq_zret hx hb hr (by decide) hlocks hP hD hK hS d_WK_passSecond_132
    · have hF := ox_fn hF hb2
      refine lv_aload_n hx hb d_WK_passSecond_57 rfl (lv_at hl 2 rfl) ?_
      refine lv_iload_n hx hb d_WK_passSecond_58 rfl (lv_at hl 0 rfl) ?_
      obtain ⟨⟨r4, s4_v_entered, s4_v_hoistCarrier, s4_v_hoistMove, s4_v_hoistEntry, s4_v_hoistEnd, s4_f_carriers⟩, hc4, hF⟩ := ox_clS hF
      refine hq_ci (ws' := (wd_WK_passSecond q_this q_layout q_plan q_carriers q_entries q_plan_order q_plan_times q_plan_order_moves q_plan_order_rank q_layout_low q_layout_high q_layout_loadedSeconds q_layout_emptySeconds cI v_second v_cycleSecond v_nextRank v_entryStopped s4_v_entered v_done v_lastStay s4_v_hoistCarrier s4_v_hoistMove s4_v_hoistEntry s4_v_hoistEnd v_plan_cycle v_plan_order_count v_layout_tanks f_plan_order_moves f_plan_times s4_f_carriers f_entries f_layout_loadedSeconds)) (hq_rV (As := [.int (f_plan_order_moves v_nextRank.toNatClampNeg)]) (rest := []) ⟨hx, hb, hml, hown, hts⟩ (c_WK_beginMove l dC dI q_this q_layout q_plan q_carriers q_entries q_layout_low q_layout_high q_layout_loadedSeconds q_layout_emptySeconds cI _ (f_plan_order_moves v_nextRank.toNatClampNeg) v_second v_cycleSecond v_nextRank v_entryStopped v_entered v_done v_lastStay v_hoistCarrier v_hoistMove v_hoistEntry v_hoistEnd v_layout_tanks f_carriers f_entries f_layout_loadedSeconds r4 s4_v_entered s4_v_hoistCarrier s4_v_hoistMove s4_v_hoistEntry s4_v_hoistEnd s4_f_carriers hc4) (cwV 1 hts (hq_gV tw_132 tw_133 tw_134 tw_111 tw_135) rfl rfl rfl yv_WK_beginMove ⟨Nat.le_of_ble_eq_true rfl, Nat.le_of_ble_eq_true rfl⟩) hP hD hK [0] rfl 0 rfl rfl [0, 3, 6, 7, 8] rfl rfl rfl hl.1 rfl (Nat.le_of_ble_eq_true rfl) d_WK_passSecond_59 ⟨Nat.zero_le _, Nat.zero_le _⟩) hP hD hS hA [0, 3, 6, 7, 8] [1, 2, 4, 5] [4, 0, 1, 5, 2, 3, 6, 7, 8] rfl rfl rfl (by decide) rfl rfl (fun H locs hP hD hS => ?_)
      refine lv_istore_n (lv' := [(1, .int r4), (2, .int (f_plan_order_moves v_nextRank.toNatClampNeg)), (0, .ref q_this)]) hx hb d_WK_passSecond_62 rfl hl (by decide) rfl (fun ls hl => ?_)
      refine lv_aload_n hx hb d_WK_passSecond_63 rfl (lv_at hl 2 rfl) ?_
      refine lv_aload_n hx hb d_WK_passSecond_64 rfl (lv_at hl 2 rfl) ?_
      refine va_get (D := (dC, dI)) (ci := 4) (v := .int v_nextRank) (C := R_WK) (T := F_WK) (N := 15) hx hb hts uw_WK hown hK hP 0 rfl rfl 4 (by decide) (hts _ tw_101) (fun _ h9 => h9) rfl d_WK_passSecond_65 ?_
      refine lv_aload_n hx hb d_WK_passSecond_68 rfl (lv_at hl 2 rfl) ?_
      refine va_get (D := (dC, dI)) (ci := 4) (v := .ref q_layout) (C := R_WK) (T := F_WK) (N := 15) hx hb hts uw_WK hown hK hP 0 rfl rfl 0 (by decide) (hts _ tw_116) (fun _ h9 => h9) rfl d_WK_passSecond_69 ?_
      refine va_get (D := (dC, dI)) (ci := 0) (v := .int v_layout_tanks) (C := R_LY) (T := F_LY) (N := 5) hx hb hts uw_LY hown hK hP 3 rfl rfl 0 (by decide) (hts _ tw_117) (fun _ h9 => h9) rfl d_WK_passSecond_72 ?_
      refine lv_icmp_ne (tgt := 82) hx hb d_WK_passSecond_75 (by decide) (fun hb5 => ?_) (fun hb5 => ?_)
      · have hF := ox_t hF hb5
        refine lv_aload_n hx hb d_WK_passSecond_82 rfl (lv_at hl 2 rfl) ?_
        refine va_get (D := (dC, dI)) (ci := 4) (v := .int v_nextRank) (C := R_WK) (T := F_WK) (N := 15) hx hb hts uw_WK hown hK hP 0 rfl rfl 4 (by decide) (hts _ tw_101) (fun _ h9 => h9) rfl d_WK_passSecond_83 ?_
        refine lv_iconst (v := 1) hx hb d_WK_passSecond_86 (by decide) ?_
        refine lv_iadd hx hb d_WK_passSecond_87 ?_
        refine va_put (D := (dC, dI)) (ci := 4) (v := .int (v_nextRank + 1)) (ty := .int) (C := R_WK) (T := F_WK) (N := 15) hx hb hts uw_WK t_WK t_WK_ok n_WK hown hK hP hD hS 0 rfl rfl 4 (by decide) (hts _ tw_101) (fun _ h9 => h9) rfl (by decide +kernel) rfl rfl (Nat.le_of_ble_eq_true rfl) d_WK_passSecond_88 (fun H locs hP hD hS => ?_)
        have hP : va_P (dC, dI) vwCl (wd_WK_passSecond q_this q_layout q_plan q_carriers q_entries q_plan_order q_plan_times q_plan_order_moves q_plan_order_rank q_layout_low q_layout_high q_layout_loadedSeconds q_layout_emptySeconds cI v_second v_cycleSecond (v_nextRank + 1) v_entryStopped s4_v_entered v_done v_lastStay s4_v_hoistCarrier s4_v_hoistMove s4_v_hoistEntry s4_v_hoistEnd v_plan_cycle v_plan_order_count v_layout_tanks f_plan_order_moves f_plan_times s4_f_carriers f_entries f_layout_loadedSeconds) H := hP
        have hD : va_D A (wd_WK_passSecond q_this q_layout q_plan q_carriers q_entries q_plan_order q_plan_times q_plan_order_moves q_plan_order_rank q_layout_low q_layout_high q_layout_loadedSeconds q_layout_emptySeconds cI v_second v_cycleSecond (v_nextRank + 1) v_entryStopped s4_v_entered v_done v_lastStay s4_v_hoistCarrier s4_v_hoistMove s4_v_hoistEntry s4_v_hoistEnd v_plan_cycle v_plan_order_count v_layout_tanks f_plan_order_moves f_plan_times s4_f_carriers f_entries f_layout_loadedSeconds) := hD
        refine lv_aload_n hx hb d_WK_passSecond_91 rfl (lv_at hl 2 rfl) ?_
        refine lv_dup hx hb d_WK_passSecond_92 rfl ?_
        refine va_get (D := (dC, dI)) (ci := 4) (v := .int v_second) (C := R_WK) (T := F_WK) (N := 15) hx hb hts uw_WK hown hK hP 0 rfl rfl 2 (by decide) (hts _ tw_99) (fun _ h9 => h9) rfl d_WK_passSecond_93 ?_
        refine lv_iconst (v := 1) hx hb d_WK_passSecond_96 (by decide) ?_
        refine lv_iadd hx hb d_WK_passSecond_97 ?_
        refine va_put (D := (dC, dI)) (ci := 4) (v := .int (v_second + 1)) (ty := .int) (C := R_WK) (T := F_WK) (N := 15) hx hb hts uw_WK t_WK t_WK_ok n_WK hown hK hP hD hS 0 rfl rfl 2 (by decide) (hts _ tw_99) (fun _ h9 => h9) rfl (by decide +kernel) rfl rfl (Nat.le_of_ble_eq_true rfl) d_WK_passSecond_98 (fun H locs hP hD hS => ?_)
        have hP : va_P (dC, dI) vwCl (wd_WK_passSecond q_this q_layout q_plan q_carriers q_entries q_plan_order q_plan_times q_plan_order_moves q_plan_order_rank q_layout_low q_layout_high q_layout_loadedSeconds q_layout_emptySeconds cI (v_second + 1) v_cycleSecond (v_nextRank + 1) v_entryStopped s4_v_entered v_done v_lastStay s4_v_hoistCarrier s4_v_hoistMove s4_v_hoistEntry s4_v_hoistEnd v_plan_cycle v_plan_order_count v_layout_tanks f_plan_order_moves f_plan_times s4_f_carriers f_entries f_layout_loadedSeconds) H := hP
        have hD : va_D A (wd_WK_passSecond q_this q_layout q_plan q_carriers q_entries q_plan_order q_plan_times q_plan_order_moves q_plan_order_rank q_layout_low q_layout_high q_layout_loadedSeconds q_layout_emptySeconds cI (v_second + 1) v_cycleSecond (v_nextRank + 1) v_entryStopped s4_v_entered v_done v_lastStay s4_v_hoistCarrier s4_v_hoistMove s4_v_hoistEntry s4_v_hoistEnd v_plan_cycle v_plan_order_count v_layout_tanks f_plan_order_moves f_plan_times s4_f_carriers f_entries f_layout_loadedSeconds) := hD
        refine lv_aload_n hx hb d_WK_passSecond_101 rfl (lv_at hl 2 rfl) ?_
        refine lv_aload_n hx hb d_WK_passSecond_102 rfl (lv_at hl 2 rfl) ?_
        refine va_get (D := (dC, dI)) (ci := 4) (v := .int v_cycleSecond) (C := R_WK) (T := F_WK) (N := 15) hx hb hts uw_WK hown hK hP 0 rfl rfl 3 (by decide) (hts _ tw_100) (fun _ h9 => h9) rfl d_WK_passSecond_103 ?_
        refine lv_iconst (v := 1) hx hb d_WK_passSecond_106 (by decide) ?_
        refine lv_iadd hx hb d_WK_passSecond_107 ?_
        refine lv_aload_n hx hb d_WK_passSecond_108 rfl (lv_at hl 2 rfl) ?_
        refine va_get (D := (dC, dI)) (ci := 4) (v := .ref q_plan) (C := R_WK) (T := F_WK) (N := 15) hx hb hts uw_WK hown hK hP 0 rfl rfl 1 (by decide) (hts _ tw_127) (fun _ h9 => h9) rfl d_WK_passSecond_109 ?_
        refine va_get (D := (dC, dI)) (ci := 2) (v := .int v_plan_cycle) (C := R_PL) (T := F_PL) (N := 3) hx hb hts uw_PL hown hK hP 1 rfl rfl 2 (by decide) (hts _ tw_131) (fun _ h9 => h9) rfl d_WK_passSecond_112 ?_
        refine lv_icmp_ne (tgt := 122) hx hb d_WK_passSecond_115 (by decide) (fun hb6 => ?_) (fun hb6 => ?_)
        · have hF := ox_t hF hb6
          refine lv_aload_n hx hb d_WK_passSecond_122 rfl (lv_at hl 2 rfl) ?_
          refine va_get (D := (dC, dI)) (ci := 4) (v := .int v_cycleSecond) (C := R_WK) (T := F_WK) (N := 15) hx hb hts uw_WK hown hK hP 0 rfl rfl 3 (by decide) (hts _ tw_100) (fun _ h9 => h9) rfl d_WK_passSecond_123 ?_
          refine lv_iconst (v := 1) hx hb d_WK_passSecond_126 (by decide) ?_
          refine lv_iadd hx hb d_WK_passSecond_127 ?_
          refine va_put (D := (dC, dI)) (ci := 4) (v := .int (v_cycleSecond + 1)) (ty := .int) (C := R_WK) (T := F_WK) (N := 15) hx hb hts uw_WK t_WK t_WK_ok n_WK hown hK hP hD hS 0 rfl rfl 3 (by decide) (hts _ tw_100) (fun _ h9 => h9) rfl (by decide +kernel) rfl rfl (Nat.le_of_ble_eq_true rfl) d_WK_passSecond_128 (fun H locs hP hD hS => ?_)
          have hP : va_P (dC, dI) vwCl (wd_WK_passSecond q_this q_layout q_plan q_carriers q_entries q_plan_order q_plan_times q_plan_order_moves q_plan_order_rank q_layout_low q_layout_high q_layout_loadedSeconds q_layout_emptySeconds cI (v_second + 1) (v_cycleSecond + 1) (v_nextRank + 1) v_entryStopped s4_v_entered v_done v_lastStay s4_v_hoistCarrier s4_v_hoistMove s4_v_hoistEntry s4_v_hoistEnd v_plan_cycle v_plan_order_count v_layout_tanks f_plan_order_moves f_plan_times s4_f_carriers f_entries f_layout_loadedSeconds) H := hP
          have hD : va_D A (wd_WK_passSecond q_this q_layout q_plan q_carriers q_entries q_plan_order q_plan_times q_plan_order_moves q_plan_order_rank q_layout_low q_layout_high q_layout_loadedSeconds q_layout_emptySeconds cI (v_second + 1) (v_cycleSecond + 1) (v_nextRank + 1) v_entryStopped s4_v_entered v_done v_lastStay s4_v_hoistCarrier s4_v_hoistMove s4_v_hoistEntry s4_v_hoistEnd v_plan_cycle v_plan_order_count v_layout_tanks f_plan_order_moves f_plan_times s4_f_carriers f_entries f_layout_loadedSeconds) := hD
          refine lv_iload_n hx hb d_WK_passSecond_131 rfl (lv_at hl 0 rfl) ?_
          obtain ⟨hbg, hF⟩ := ox_bgS hF
          cases hF
          exact hq_zret hx hb hr hbg hlocks hP hD hK hS d_WK_passSecond_132
        · have hF := ox_fn hF hb6
          refine lv_iconst (v := 0) hx hb d_WK_passSecond_118 (by decide) ?_
          refine lv_goto (tgt := 128) hx hb d_WK_passSecond_119 (by decide) ?_
          refine va_put (D := (dC, dI)) (ci := 4) (v := .int 0) (ty := .int) (C := R_WK) (T := F_WK) (N := 15) hx hb hts uw_WK t_WK t_WK_ok n_WK hown hK hP hD hS 0 rfl rfl 3 (by decide) (hts _ tw_100) (fun _ h9 => h9) rfl (by decide +kernel) rfl rfl (Nat.le_of_ble_eq_true rfl) d_WK_passSecond_128 (fun H locs hP hD hS => ?_)
          have hP : va_P (dC, dI) vwCl (wd_WK_passSecond q_this q_layout q_plan q_carriers q_entries q_plan_order q_plan_times q_plan_order_moves q_plan_order_rank q_layout_low q_layout_high q_layout_loadedSeconds q_layout_emptySeconds cI (v_second + 1) 0 (v_nextRank + 1) v_entryStopped s4_v_entered v_done v_lastStay s4_v_hoistCarrier s4_v_hoistMove s4_v_hoistEntry s4_v_hoistEnd v_plan_cycle v_plan_order_count v_layout_tanks f_plan_order_moves f_plan_times s4_f_carriers f_entries f_layout_loadedSeconds) H := hP
          have hD : va_D A (wd_WK_passSecond q_this q_layout q_plan q_carriers q_entries q_plan_order q_plan_times q_plan_order_moves q_plan_order_rank q_layout_low q_layout_high q_layout_loadedSeconds q_layout_emptySeconds cI (v_second + 1) 0 (v_nextRank + 1) v_entryStopped s4_v_entered v_done v_lastStay s4_v_hoistCarrier s4_v_hoistMove s4_v_hoistEntry s4_v_hoistEnd v_plan_cycle v_plan_order_count v_layout_tanks f_plan_order_moves f_plan_times s4_f_carriers f_entries f_layout_loadedSeconds) := hD
          refine lv_iload_n hx hb d_WK_passSecond_131 rfl (lv_at hl 0 rfl) ?_
          obtain ⟨hbg, hF⟩ := ox_bgS hF
          cases hF
          exact hq_zret hx hb hr hbg hlocks hP hD hK hS d_WK_passSecond_132
      · have hF := ox_fn hF hb5
        refine lv_iconst (v := 0) hx hb d_WK_passSecond_78 (by decide) ?_
        refine lv_goto (tgt := 88) hx hb d_WK_passSecond_79 (by decide) ?_
        refine va_put (D := (dC, dI)) (ci := 4) (v := .int 0) (ty := .int) (C := R_WK) (T := F_WK) (N := 15) hx hb hts uw_WK t_WK t_WK_ok n_WK hown hK hP hD hS 0 rfl rfl 4 (by decide) (hts _ tw_101) (fun _ h9 => h9) rfl (by decide +kernel) rfl rfl (Nat.le_of_ble_eq_true rfl) d_WK_passSecond_88 (fun H locs hP hD hS => ?_)
        have hP : va_P (dC, dI) vwCl (wd_WK_passSecond q_this q_layout q_plan q_carriers q_entries q_plan_order q_plan_times q_plan_order_moves q_plan_order_rank q_layout_low q_layout_high q_layout_loadedSeconds q_layout_emptySeconds cI v_second v_cycleSecond 0 v_entryStopped s4_v_entered v_done v_lastStay s4_v_hoistCarrier s4_v_hoistMove s4_v_hoistEntry s4_v_hoistEnd v_plan_cycle v_plan_order_count v_layout_tanks f_plan_order_moves f_plan_times s4_f_carriers f_entries f_layout_loadedSeconds) H := hP
        have hD : va_D A (wd_WK_passSecond q_this q_layout q_plan q_carriers q_entries q_plan_order q_plan_times q_plan_order_moves q_plan_order_rank q_layout_low q_layout_high q_layout_loadedSeconds q_layout_emptySeconds cI v_second v_cycleSecond 0 v_entryStopped s4_v_entered v_done v_lastStay s4_v_hoistCarrier s4_v_hoistMove s4_v_hoistEntry s4_v_hoistEnd v_plan_cycle v_plan_order_count v_layout_tanks f_plan_order_moves f_plan_times s4_f_carriers f_entries f_layout_loadedSeconds) := hD
        refine lv_aload_n hx hb d_WK_passSecond_91 rfl (lv_at hl 2 rfl) ?_
        refine lv_dup hx hb d_WK_passSecond_92 rfl ?_
        refine va_get (D := (dC, dI)) (ci := 4) (v := .int v_second) (C := R_WK) (T := F_WK) (N := 15) hx hb hts uw_WK hown hK hP 0 rfl rfl 2 (by decide) (hts _ tw_99) (fun _ h9 => h9) rfl d_WK_passSecond_93 ?_
        refine lv_iconst (v := 1) hx hb d_WK_passSecond_96 (by decide) ?_
        refine lv_iadd hx hb d_WK_passSecond_97 ?_
        refine va_put (D := (dC, dI)) (ci := 4) (v := .int (v_second + 1)) (ty := .int) (C := R_WK) (T := F_WK) (N := 15) hx hb hts uw_WK t_WK t_WK_ok n_WK hown hK hP hD hS 0 rfl rfl 2 (by decide) (hts _ tw_99) (fun _ h9 => h9) rfl (by decide +kernel) rfl rfl (Nat.le_of_ble_eq_true rfl) d_WK_passSecond_98 (fun H locs hP hD hS => ?_)
        have hP : va_P (dC, dI) vwCl (wd_WK_passSecond q_this q_layout q_plan q_carriers q_entries q_plan_order q_plan_times q_plan_order_moves q_plan_order_rank q_layout_low q_layout_high q_layout_loadedSeconds q_layout_emptySeconds cI (v_second + 1) v_cycleSecond 0 v_entryStopped s4_v_entered v_done v_lastStay s4_v_hoistCarrier s4_v_hoistMove s4_v_hoistEntry s4_v_hoistEnd v_plan_cycle v_plan_order_count v_layout_tanks f_plan_order_moves f_plan_times s4_f_carriers f_entries f_layout_loadedSeconds) H := hP
        have hD : va_D A (wd_WK_passSecond q_this q_layout q_plan q_carriers q_entries q_plan_order q_plan_times q_plan_order_moves q_plan_order_rank q_layout_low q_layout_high q_layout_loadedSeconds q_layout_emptySeconds cI (v_second + 1) v_cycleSecond 0 v_entryStopped s4_v_entered v_done v_lastStay s4_v_hoistCarrier s4_v_hoistMove s4_v_hoistEntry s4_v_hoistEnd v_plan_cycle v_plan_order_count v_layout_tanks f_plan_order_moves f_plan_times s4_f_carriers f_entries f_layout_loadedSeconds) := hD
        refine lv_aload_n hx hb d_WK_passSecond_101 rfl (lv_at hl 2 rfl) ?_
        refine lv_aload_n hx hb d_WK_passSecond_102 rfl (lv_at hl 2 rfl) ?_
        refine va_get (D := (dC, dI)) (ci := 4) (v := .int v_cycleSecond) (C := R_WK) (T := F_WK) (N := 15) hx hb hts uw_WK hown hK hP 0 rfl rfl 3 (by decide) (hts _ tw_100) (fun _ h9 => h9) rfl d_WK_passSecond_103 ?_
        refine lv_iconst (v := 1) hx hb d_WK_passSecond_106 (by decide) ?_
        refine lv_iadd hx hb d_WK_passSecond_107 ?_
        refine lv_aload_n hx hb d_WK_passSecond_108 rfl (lv_at hl 2 rfl) ?_
        refine va_get (D := (dC, dI)) (ci := 4) (v := .ref q_plan) (C := R_WK) (T := F_WK) (N := 15) hx hb hts uw_WK hown hK hP 0 rfl rfl 1 (by decide) (hts _ tw_127) (fun _ h9 => h9) rfl d_WK_passSecond_109 ?_
        refine va_get (D := (dC, dI)) (ci := 2) (v := .int v_plan_cycle) (C := R_PL) (T := F_PL) (N := 3) hx hb hts uw_PL hown hK hP 1 rfl rfl 2 (by decide) (hts _ tw_131) (fun _ h9 => h9) rfl d_WK_passSecond_112 ?_
        refine lv_icmp_ne (tgt := 122) hx hb d_WK_passSecond_115 (by decide) (fun hb7 => ?_) (fun hb7 => ?_)
        · have hF := ox_t hF hb7
          refine lv_aload_n hx hb d_WK_passSecond_122 rfl (lv_at hl 2 rfl) ?_
          refine va_get (D := (dC, dI)) (ci := 4) (v := .int v_cycleSecond) (C := R_WK) (T := F_WK) (N := 15) hx hb hts uw_WK hown hK hP 0 rfl rfl 3 (by decide) (hts _ tw_100) (fun _ h9 => h9) rfl d_WK_passSecond_123 ?_
          refine lv_iconst (v := 1) hx hb d_WK_passSecond_126 (by decide) ?_
          refine lv_iadd hx hb d_WK_passSecond_127 ?_
          refine va_put (D := (dC, dI)) (ci := 4) (v := .int (v_cycleSecond + 1)) (ty := .int) (C := R_WK) (T := F_WK) (N := 15) hx hb hts uw_WK t_WK t_WK_ok n_WK hown hK hP hD hS 0 rfl rfl 3 (by decide) (hts _ tw_100) (fun _ h9 => h9) rfl (by decide +kernel) rfl rfl (Nat.le_of_ble_eq_true rfl) d_WK_passSecond_128 (fun H locs hP hD hS => ?_)
          have hP : va_P (dC, dI) vwCl (wd_WK_passSecond q_this q_layout q_plan q_carriers q_entries q_plan_order q_plan_times q_plan_order_moves q_plan_order_rank q_layout_low q_layout_high q_layout_loadedSeconds q_layout_emptySeconds cI (v_second + 1) (v_cycleSecond + 1) 0 v_entryStopped s4_v_entered v_done v_lastStay s4_v_hoistCarrier s4_v_hoistMove s4_v_hoistEntry s4_v_hoistEnd v_plan_cycle v_plan_order_count v_layout_tanks f_plan_order_moves f_plan_times s4_f_carriers f_entries f_layout_loadedSeconds) H := hP
          have hD : va_D A (wd_WK_passSecond q_this q_layout q_plan q_carriers q_entries q_plan_order q_plan_times q_plan_order_moves q_plan_order_rank q_layout_low q_layout_high q_layout_loadedSeconds q_layout_emptySeconds cI (v_second + 1) (v_cycleSecond + 1) 0 v_entryStopped s4_v_entered v_done v_lastStay s4_v_hoistCarrier s4_v_hoistMove s4_v_hoistEntry s4_v_hoistEnd v_plan_cycle v_plan_order_count v_layout_tanks f_plan_order_moves f_plan_times s4_f_carriers f_entries f_layout_loadedSeconds) := hD
          refine lv_iload_n hx hb d_WK_passSecond_131 rfl (lv_at hl 0 rfl) ?_
          obtain ⟨hbg, hF⟩ := ox_bgS hF
          cases hF
          exact hq_zret hx hb hr hbg hlocks hP hD hK hS d_WK_passSecond_132
        · have hF := ox_fn hF hb7
          refine lv_iconst (v := 0) hx hb d_WK_passSecond_118 (by decide) ?_
          refine lv_goto (tgt := 128) hx hb d_WK_passSecond_119 (by decide) ?_
          refine va_put (D := (dC, dI)) (ci := 4) (v := .int 0) (ty := .int) (C := R_WK) (T := F_WK) (N := 15) hx hb hts uw_WK t_WK t_WK_ok n_WK hown hK hP hD hS 0 rfl rfl 3 (by decide) (hts _ tw_100) (fun _ h9 => h9) rfl (by decide +kernel) rfl rfl (Nat.le_of_ble_eq_true rfl) d_WK_passSecond_128 (fun H locs hP hD hS => ?_)
          have hP : va_P (dC, dI) vwCl (wd_WK_passSecond q_this q_layout q_plan q_carriers q_entries q_plan_order q_plan_times q_plan_order_moves q_plan_order_rank q_layout_low q_layout_high q_layout_loadedSeconds q_layout_emptySeconds cI (v_second + 1) 0 0 v_entryStopped s4_v_entered v_done v_lastStay s4_v_hoistCarrier s4_v_hoistMove s4_v_hoistEntry s4_v_hoistEnd v_plan_cycle v_plan_order_count v_layout_tanks f_plan_order_moves f_plan_times s4_f_carriers f_entries f_layout_loadedSeconds) H := hP
          have hD : va_D A (wd_WK_passSecond q_this q_layout q_plan q_carriers q_entries q_plan_order q_plan_times q_plan_order_moves q_plan_order_rank q_layout_low q_layout_high q_layout_loadedSeconds q_layout_emptySeconds cI (v_second + 1) 0 0 v_entryStopped s4_v_entered v_done v_lastStay s4_v_hoistCarrier s4_v_hoistMove s4_v_hoistEntry s4_v_hoistEnd v_plan_cycle v_plan_order_count v_layout_tanks f_plan_order_moves f_plan_times s4_f_carriers f_entries f_layout_loadedSeconds) := hD
          refine lv_iload_n hx hb d_WK_passSecond_131 rfl (lv_at hl 0 rfl) ?_
          obtain ⟨hbg, hF⟩ := ox_bgS hF
          cases hF
          exact hq_zret hx hb hr hbg hlocks hP hD hK hS d_WK_passSecond_132
  · have hF := ox_f hF hb1
    refine lv_aload_n hx hb d_WK_passSecond_8 rfl (lv_at hl 0 rfl) ?_
    refine va_get (D := (dC, dI)) (ci := 4) (v := .int v_hoistEnd) (C := R_WK) (T := F_WK) (N := 15) hx hb hts uw_WK hown hK hP 0 rfl rfl 12 (by decide) (hts _ tw_107) (fun _ h9 => h9) rfl d_WK_passSecond_9 ?_
    refine lv_aload_n hx hb d_WK_passSecond_12 rfl (lv_at hl 0 rfl) ?_
    refine va_get (D := (dC, dI)) (ci := 4) (v := .int v_second) (C := R_WK) (T := F_WK) (N := 15) hx hb hts uw_WK hown hK hP 0 rfl rfl 2 (by decide) (hts _ tw_99) (fun _ h9 => h9) rfl d_WK_passSecond_13 ?_
    refine lv_icmp_ne (tgt := 23) hx hb d_WK_passSecond_16 (by decide) (fun hb8 => ?_) (fun hb8 => ?_)
    · have hF := ox_t hF hb8
      refine lv_iconst (v := 0) hx hb d_WK_passSecond_23 (by decide) ?_
      refine lv_istore_n (lv' := [(1, .int 0), (0, .ref q_this)]) hx hb d_WK_passSecond_24 rfl hl (by decide) rfl (fun ls hl => ?_)
      refine lv_aload_n hx hb d_WK_passSecond_25 rfl (lv_at hl 1 rfl) ?_
      refine va_get (D := (dC, dI)) (ci := 4) (v := .ref q_plan) (C := R_WK) (T := F_WK) (N := 15) hx hb hts uw_WK hown hK hP 0 rfl rfl 1 (by decide) (hts _ tw_127) (fun _ h9 => h9) rfl d_WK_passSecond_26 ?_
      refine va_get (D := (dC, dI)) (ci := 2) (v := .ref q_plan_order) (C := R_PL) (T := F_PL) (N := 3) hx hb hts uw_PL hown hK hP 1 rfl rfl 0 (by decide) (hts _ tw_128) (fun _ h9 => h9) rfl d_WK_passSecond_29 ?_
      refine va_get (D := (dC, dI)) (ci := 1) (v := .ref q_plan_order_moves) (C := R_OR) (T := F_OR) (N := 3) hx hb hts uw_OR hown hK hP 2 rfl rfl 1 (by decide) (hts _ tw_129) (fun _ h9 => h9) rfl d_WK_passSecond_32 ?_
      refine lv_aload_n hx hb d_WK_passSecond_35 rfl (lv_at hl 1 rfl) ?_
      refine va_get (D := (dC, dI)) (ci := 4) (v := .int v_nextRank) (C := R_WK) (T := F_WK) (N := 15) hx hb hts uw_WK hown hK hP 0 rfl rfl 4 (by decide) (hts _ tw_101) (fun _ h9 => h9) rfl d_WK_passSecond_36 ?_
      obtain ⟨hin, hF⟩ := ox_gdS hF
      refine va_iald hx hb hK hP 4 0 rfl rfl hin d_WK_passSecond_39 ?_
      refine lv_istore_n (lv' := [(2, .int (f_plan_order_moves v_nextRank.toNatClampNeg)), (1, .int 0), (0, .ref q_this)]) hx hb d_WK_passSecond_40 rfl hl (by decide) rfl (fun ls hl => ?_)
      refine lv_aload_n hx hb d_WK_passSecond_41 rfl (lv_at hl 2 rfl) ?_
      refine va_get (D := (dC, dI)) (ci := 4) (v := .ref q_plan) (C := R_WK) (T := F_WK) (N := 15) hx hb hts uw_WK hown hK hP 0 rfl rfl 1 (by decide) (hts _ tw_127) (fun _ h9 => h9) rfl d_WK_passSecond_42 ?_
      refine va_get (D := (dC, dI)) (ci := 2) (v := .ref q_plan_times) (C := R_PL) (T := F_PL) (N := 3) hx hb hts uw_PL hown hK hP 1 rfl rfl 1 (by decide) (hts _ tw_130) (fun _ h9 => h9) rfl d_WK_passSecond_45 ?_
      refine lv_iload_n hx hb d_WK_passSecond_48 rfl (lv_at hl 0 rfl) ?_
      obtain ⟨hin, hF⟩ := ox_gdS hF
      refine va_iald hx hb hK hP 5 0 rfl rfl hin d_WK_passSecond_49 ?_
      refine lv_aload_n hx hb d_WK_passSecond_50 rfl (lv_at hl 2 rfl) ?_
      refine va_get (D := (dC, dI)) (ci := 4) (v := .int v_cycleSecond) (C := R_WK) (T := F_WK) (N := 15) hx hb hts uw_WK hown hK hP 0 rfl rfl 3 (by decide) (hts _ tw_100) (fun _ h9 => h9) rfl d_WK_passSecond_51 ?_
      refine lv_icmp_ne (tgt := 91) hx hb d_WK_passSecond_54 (by decide) (fun hb9 => ?_) (fun hb9 => ?_)
      · have hF := ox_t hF hb9
        refine lv_aload_n hx hb d_WK_passSecond_91 rfl (lv_at hl 2 rfl) ?_
        refine lv_dup hx hb d_WK_passSecond_92 rfl ?_
        refine va_get (D := (dC, dI)) (ci := 4) (v := .int v_second) (C := R_WK) (T := F_WK) (N := 15) hx hb hts uw_WK hown hK hP 0 rfl rfl 2 (by decide) (hts _ tw_99) (fun _ h9 => h9) rfl d_WK_passSecond_93 ?_
        refine lv_iconst (v := 1) hx hb d_WK_passSecond_96 (by decide) ?_
        refine lv_iadd hx hb d_WK_passSecond_97 ?_
        refine va_put (D := (dC, dI)) (ci := 4) (v := .int (v_second + 1)) (ty := .int) (C := R_WK) (T := F_WK) (N := 15) hx hb hts uw_WK t_WK t_WK_ok n_WK hown hK hP hD hS 0 rfl rfl 2 (by decide) (hts _ tw_99) (fun _ h9 => h9) rfl (by decide +kernel) rfl rfl (Nat.le_of_ble_eq_true rfl) d_WK_passSecond_98 (fun H locs hP hD hS => ?_)
        have hP : va_P (dC, dI) vwCl (wd_WK_passSecond q_this q_layout q_plan q_carriers q_entries q_plan_order q_plan_times q_plan_order_moves q_plan_order_rank q_layout_low q_layout_high q_layout_loadedSeconds q_layout_emptySeconds cI (v_second + 1) v_cycleSecond v_nextRank v_entryStopped v_entered v_done v_lastStay v_hoistCarrier v_hoistMove v_hoistEntry v_hoistEnd v_plan_cycle v_plan_order_count v_layout_tanks f_plan_order_moves f_plan_times f_carriers f_entries f_layout_loadedSeconds) H := hP
        have hD : va_D A (wd_WK_passSecond q_this q_layout q_plan q_carriers q_entries q_plan_order q_plan_times q_plan_order_moves q_plan_order_rank q_layout_low q_layout_high q_layout_loadedSeconds q_layout_emptySeconds cI (v_second + 1) v_cycleSecond v_nextRank v_entryStopped v_entered v_done v_lastStay v_hoistCarrier v_hoistMove v_hoistEntry v_hoistEnd v_plan_cycle v_plan_order_count v_layout_tanks f_plan_order_moves f_plan_times f_carriers f_entries f_layout_loadedSeconds) := hD
        refine lv_aload_n hx hb d_WK_passSecond_101 rfl (lv_at hl 2 rfl) ?_
        refine lv_aload_n hx hb d_WK_passSecond_102 rfl (lv_at hl 2 rfl) ?_
        refine va_get (D := (dC, dI)) (ci := 4) (v := .int v_cycleSecond) (C := R_WK) (T := F_WK) (N := 15) hx hb hts uw_WK hown hK hP 0 rfl rfl 3 (by decide) (hts _ tw_100) (fun _ h9 => h9) rfl d_WK_passSecond_103 ?_
        refine lv_iconst (v := 1) hx hb d_WK_passSecond_106 (by decide) ?_
        refine lv_iadd hx hb d_WK_passSecond_107 ?_
        refine lv_aload_n hx hb d_WK_passSecond_108 rfl (lv_at hl 2 rfl) ?_
        refine va_get (D := (dC, dI)) (ci := 4) (v := .ref q_plan) (C := R_WK) (T := F_WK) (N := 15) hx hb hts uw_WK hown hK hP 0 rfl rfl 1 (by decide) (hts _ tw_127) (fun _ h9 => h9) rfl d_WK_passSecond_109 ?_
        refine va_get (D := (dC, dI)) (ci := 2) (v := .int v_plan_cycle) (C := R_PL) (T := F_PL) (N := 3) hx hb hts uw_PL hown hK hP 1 rfl rfl 2 (by decide) (hts _ tw_131) (fun _ h9 => h9) rfl d_WK_passSecond_112 ?_
        refine lv_icmp_ne (tgt := 122) hx hb d_WK_passSecond_115 (by decide) (fun hb10 => ?_) (fun hb10 => ?_)
        · have hF := ox_t hF hb10
          refine lv_aload_n hx hb d_WK_passSecond_122 rfl (lv_at hl 2 rfl) ?_
          refine va_get (D := (dC, dI)) (ci := 4) (v := .int v_cycleSecond) (C := R_WK) (T := F_WK) (N := 15) hx hb hts uw_WK hown hK hP 0 rfl rfl 3 (by decide) (hts _ tw_100) (fun _ h9 => h9) rfl d_WK_passSecond_123 ?_
          refine lv_iconst (v := 1) hx hb d_WK_passSecond_126 (by decide) ?_
          refine lv_iadd hx hb d_WK_passSecond_127 ?_
          refine va_put (D := (dC, dI)) (ci := 4) (v := .int (v_cycleSecond + 1)) (ty := .int) (C := R_WK) (T := F_WK) (N := 15) hx hb hts uw_WK t_WK t_WK_ok n_WK hown hK hP hD hS 0 rfl rfl 3 (by decide) (hts _ tw_100) (fun _ h9 => h9) rfl (by decide +kernel) rfl rfl (Nat.le_of_ble_eq_true rfl) d_WK_passSecond_128 (fun H locs hP hD hS => ?_)
          have hP : va_P (dC, dI) vwCl (wd_WK_passSecond q_this q_layout q_plan q_carriers q_entries q_plan_order q_plan_times q_plan_order_moves q_plan_order_rank q_layout_low q_layout_high q_layout_loadedSeconds q_layout_emptySeconds cI (v_second + 1) (v_cycleSecond + 1) v_nextRank v_entryStopped v_entered v_done v_lastStay v_hoistCarrier v_hoistMove v_hoistEntry v_hoistEnd v_plan_cycle v_plan_order_count v_layout_tanks f_plan_order_moves f_plan_times f_carriers f_entries f_layout_loadedSeconds) H := hP
          have hD : va_D A (wd_WK_passSecond q_this q_layout q_plan q_carriers q_entries q_plan_order q_plan_times q_plan_order_moves q_plan_order_rank q_layout_low q_layout_high q_layout_loadedSeconds q_layout_emptySeconds cI (v_second + 1) (v_cycleSecond + 1) v_nextRank v_entryStopped v_entered v_done v_lastStay v_hoistCarrier v_hoistMove v_hoistEntry v_hoistEnd v_plan_cycle v_plan_order_count v_layout_tanks f_plan_order_moves f_plan_times f_carriers f_entries f_layout_loadedSeconds) := hD
          refine lv_iload_n hx hb d_WK_passSecond_131 rfl (lv_at hl 1 rfl) ?_
          cases hF
          exact hq_zret hx hb hr (by decide) hlocks hP hD hK hS d_WK_passSecond_132
        · have hF := ox_fn hF hb10
          refine lv_iconst (v := 0) hx hb d_WK_passSecond_118 (by decide) ?_
          refine lv_goto (tgt := 128) hx hb d_WK_passSecond_119 (by decide) ?_
          refine va_put (D := (dC, dI)) (ci := 4) (v := .int 0) (ty := .int) (C := R_WK) (T := F_WK) (N := 15) hx hb hts uw_WK t_WK t_WK_ok n_WK hown hK hP hD hS 0 rfl rfl 3 (by decide) (hts _ tw_100) (fun _ h9 => h9) rfl (by decide +kernel) rfl rfl (Nat.le_of_ble_eq_true rfl) d_WK_passSecond_128 (fun H locs hP hD hS => ?_)
          have hP : va_P (dC, dI) vwCl (wd_WK_passSecond q_this q_layout q_plan q_carriers q_entries q_plan_order q_plan_times q_plan_order_moves q_plan_order_rank q_layout_low q_layout_high q_layout_loadedSeconds q_layout_emptySeconds cI (v_second + 1) 0 v_nextRank v_entryStopped v_entered v_done v_lastStay v_hoistCarrier v_hoistMove v_hoistEntry v_hoistEnd v_plan_cycle v_plan_order_count v_layout_tanks f_plan_order_moves f_plan_times f_carriers f_entries f_layout_loadedSeconds) H := hP
          have hD : va_D A (wd_WK_passSecond q_this q_layout q_plan q_carriers q_entries q_plan_order q_plan_times q_plan_order_moves q_plan_order_rank q_layout_low q_layout_high q_layout_loadedSeconds q_layout_emptySeconds cI (v_second + 1) 0 v_nextRank v_entryStopped v_entered v_done v_lastStay v_hoistCarrier v_hoistMove v_hoistEntry v_hoistEnd v_plan_cycle v_plan_order_count v_layout_tanks f_plan_order_moves f_plan_times f_carriers f_entries f_layout_loadedSeconds) := hD
          refine lv_iload_n hx hb d_WK_passSecond_131 rfl (lv_at hl 1 rfl) ?_
          cases hF
          exact hq_zret hx hb hr (by decide) hlocks hP hD hK hS d_WK_passSecond_132
      · have hF := ox_fn hF hb9
        refine lv_aload_n hx hb d_WK_passSecond_57 rfl (lv_at hl 2 rfl) ?_
        refine lv_iload_n hx hb d_WK_passSecond_58 rfl (lv_at hl 0 rfl) ?_
        obtain ⟨⟨r11, s11_v_entered, s11_v_hoistCarrier, s11_v_hoistMove, s11_v_hoistEntry, s11_v_hoistEnd, s11_f_carriers⟩, hc11, hF⟩ := ox_clS hF
        refine hq_ci (ws' := (wd_WK_passSecond q_this q_layout q_plan q_carriers q_entries q_plan_order q_plan_times q_plan_order_moves q_plan_order_rank q_layout_low q_layout_high q_layout_loadedSeconds q_layout_emptySeconds cI v_second v_cycleSecond v_nextRank v_entryStopped s11_v_entered v_done v_lastStay s11_v_hoistCarrier s11_v_hoistMove s11_v_hoistEntry s11_v_hoistEnd v_plan_cycle v_plan_order_count v_layout_tanks f_plan_order_moves f_plan_times s11_f_carriers f_entries f_layout_loadedSeconds)) (hq_rV (As := [.int (f_plan_order_moves v_nextRank.toNatClampNeg)]) (rest := []) ⟨hx, hb, hml, hown, hts⟩ (c_WK_beginMove l dC dI q_this q_layout q_plan q_carriers q_entries q_layout_low q_layout_high q_layout_loadedSeconds q_layout_emptySeconds cI _ (f_plan_order_moves v_nextRank.toNatClampNeg) v_second v_cycleSecond v_nextRank v_entryStopped v_entered v_done v_lastStay v_hoistCarrier v_hoistMove v_hoistEntry v_hoistEnd v_layout_tanks f_carriers f_entries f_layout_loadedSeconds r11 s11_v_entered s11_v_hoistCarrier s11_v_hoistMove s11_v_hoistEntry s11_v_hoistEnd s11_f_carriers hc11) (cwV 1 hts (hq_gV tw_132 tw_133 tw_134 tw_111 tw_135) rfl rfl rfl yv_WK_beginMove ⟨Nat.le_of_ble_eq_true rfl, Nat.le_of_ble_eq_true rfl⟩) hP hD hK [0] rfl 0 rfl rfl [0, 3, 6, 7, 8] rfl rfl rfl hl.1 rfl (Nat.le_of_ble_eq_true rfl) d_WK_passSecond_59 ⟨Nat.zero_le _, Nat.zero_le _⟩) hP hD hS hA [0, 3, 6, 7, 8] [1, 2, 4, 5] [4, 0, 1, 5, 2, 3, 6, 7, 8] rfl rfl rfl (by decide) rfl rfl (fun H locs hP hD hS => ?_)
        refine lv_istore_n (lv' := [(1, .int r11), (2, .int (f_plan_order_moves v_nextRank.toNatClampNeg)), (0, .ref q_this)]) hx hb d_WK_passSecond_62 rfl hl (by decide) rfl (fun ls hl => ?_)
        refine lv_aload_n hx hb d_WK_passSecond_63 rfl (lv_at hl 2 rfl) ?_
        refine lv_aload_n hx hb d_WK_passSecond_64 rfl (lv_at hl 2 rfl) ?_
        refine va_get (D := (dC, dI)) (ci := 4) (v := .int v_nextRank) (C := R_WK) (T := F_WK) (N := 15) hx hb hts uw_WK hown hK hP 0 rfl rfl 4 (by decide) (hts _ tw_101) (fun _ h9 => h9) rfl d_WK_passSecond_65 ?_
        refine lv_aload_n hx hb d_WK_passSecond_68 rfl (lv_at hl 2 rfl) ?_
        refine va_get (D := (dC, dI)) (ci := 4) (v := .ref q_layout) (C := R_WK) (T := F_WK) (N := 15) hx hb hts uw_WK hown hK hP 0 rfl rfl 0 (by decide) (hts _ tw_116) (fun _ h9 => h9) rfl d_WK_passSecond_69 ?_
        refine va_get (D := (dC, dI)) (ci := 0) (v := .int v_layout_tanks) (C := R_LY) (T := F_LY) (N := 5) hx hb hts uw_LY hown hK hP 3 rfl rfl 0 (by decide) (hts _ tw_117) (fun _ h9 => h9) rfl d_WK_passSecond_72 ?_
        refine lv_icmp_ne (tgt := 82) hx hb d_WK_passSecond_75 (by decide) (fun hb12 => ?_) (fun hb12 => ?_)
        · have hF := ox_t hF hb12
          refine lv_aload_n hx hb d_WK_passSecond_82 rfl (lv_at hl 2 rfl) ?_
          refine va_get (D := (dC, dI)) (ci := 4) (v := .int v_nextRank) (C := R_WK) (T := F_WK) (N := 15) hx hb hts uw_WK hown hK hP 0 rfl rfl 4 (by decide) (hts _ tw_101) (fun _ h9 => h9) rfl d_WK_passSecond_83 ?_
          refine lv_iconst (v := 1) hx hb d_WK_passSecond_86 (by decide) ?_
          refine lv_iadd hx hb d_WK_passSecond_87 ?_
          refine va_put (D := (dC, dI)) (ci := 4) (v := .int (v_nextRank + 1)) (ty := .int) (C := R_WK) (T := F_WK) (N := 15) hx hb hts uw_WK t_WK t_WK_ok n_WK hown hK hP hD hS 0 rfl rfl 4 (by decide) (hts _ tw_101) (fun _ h9 => h9) rfl (by decide +kernel) rfl rfl (Nat.le_of_ble_eq_true rfl) d_WK_passSecond_88 (fun H locs hP hD hS => ?_)
          have hP : va_P (dC, dI) vwCl (wd_WK_passSecond q_this q_layout q_plan q_carriers q_entries q_plan_order q_plan_times q_plan_order_moves q_plan_order_rank q_layout_low q_layout_high q_layout_loadedSeconds q_layout_emptySeconds cI v_second v_cycleSecond (v_nextRank + 1) v_entryStopped s11_v_entered v_done v_lastStay s11_v_hoistCarrier s11_v_hoistMove s11_v_hoistEntry s11_v_hoistEnd v_plan_cycle v_plan_order_count v_layout_tanks f_plan_order_moves f_plan_times s11_f_carriers f_entries f_layout_loadedSeconds) H := hP
          have hD : va_D A (wd_WK_passSecond q_this q_layout q_plan q_carriers q_entries q_plan_order q_plan_times q_plan_order_moves q_plan_order_rank q_layout_low q_layout_high q_layout_loadedSeconds q_layout_emptySeconds cI v_second v_cycleSecond (v_nextRank + 1) v_entryStopped s11_v_entered v_done v_lastStay s11_v_hoistCarrier s11_v_hoistMove s11_v_hoistEntry s11_v_hoistEnd v_plan_cycle v_plan_order_count v_layout_tanks f_plan_order_moves f_plan_times s11_f_carriers f_entries f_layout_loadedSeconds) := hD
          refine lv_aload_n hx hb d_WK_passSecond_91 rfl (lv_at hl 2 rfl) ?_
          refine lv_dup hx hb d_WK_passSecond_92 rfl ?_
          refine va_get (D := (dC, dI)) (ci := 4) (v := .int v_second) (C := R_WK) (T := F_WK) (N := 15) hx hb hts uw_WK hown hK hP 0 rfl rfl 2 (by decide) (hts _ tw_99) (fun _ h9 => h9) rfl d_WK_passSecond_93 ?_
          refine lv_iconst (v := 1) hx hb d_WK_passSecond_96 (by decide) ?_
          refine lv_iadd hx hb d_WK_passSecond_97 ?_
          refine va_put (D := (dC, dI)) (ci := 4) (v := .int (v_second + 1)) (ty := .int) (C := R_WK) (T := F_WK) (N := 15) hx hb hts uw_WK t_WK t_WK_ok n_WK hown hK hP hD hS 0 rfl rfl 2 (by decide) (hts _ tw_99) (fun _ h9 => h9) rfl (by decide +kernel) rfl rfl (Nat.le_of_ble_eq_true rfl) d_WK_passSecond_98 (fun H locs hP hD hS => ?_)
          have hP : va_P (dC, dI) vwCl (wd_WK_passSecond q_this q_layout q_plan q_carriers q_entries q_plan_order q_plan_times q_plan_order_moves q_plan_order_rank q_layout_low q_layout_high q_layout_loadedSeconds q_layout_emptySeconds cI (v_second + 1) v_cycleSecond (v_nextRank + 1) v_entryStopped s11_v_entered v_done v_lastStay s11_v_hoistCarrier s11_v_hoistMove s11_v_hoistEntry s11_v_hoistEnd v_plan_cycle v_plan_order_count v_layout_tanks f_plan_order_moves f_plan_times s11_f_carriers f_entries f_layout_loadedSeconds) H := hP
          have hD : va_D A (wd_WK_passSecond q_this q_layout q_plan q_carriers q_entries q_plan_order q_plan_times q_plan_order_moves q_plan_order_rank q_layout_low q_layout_high q_layout_loadedSeconds q_layout_emptySeconds cI (v_second + 1) v_cycleSecond (v_nextRank + 1) v_entryStopped s11_v_entered v_done v_lastStay s11_v_hoistCarrier s11_v_hoistMove s11_v_hoistEntry s11_v_hoistEnd v_plan_cycle v_plan_order_count v_layout_tanks f_plan_order_moves f_plan_times s11_f_carriers f_entries f_layout_loadedSeconds) := hD
          refine lv_aload_n hx hb d_WK_passSecond_101 rfl (lv_at hl 2 rfl) ?_
          refine lv_aload_n hx hb d_WK_passSecond_102 rfl (lv_at hl 2 rfl) ?_
          refine va_get (D := (dC, dI)) (ci := 4) (v := .int v_cycleSecond) (C := R_WK) (T := F_WK) (N := 15) hx hb hts uw_WK hown hK hP 0 rfl rfl 3 (by decide) (hts _ tw_100) (fun _ h9 => h9) rfl d_WK_passSecond_103 ?_
          refine lv_iconst (v := 1) hx hb d_WK_passSecond_106 (by decide) ?_
          refine lv_iadd hx hb d_WK_passSecond_107 ?_
          refine lv_aload_n hx hb d_WK_passSecond_108 rfl (lv_at hl 2 rfl) ?_
          refine va_get (D := (dC, dI)) (ci := 4) (v := .ref q_plan) (C := R_WK) (T := F_WK) (N := 15) hx hb hts uw_WK hown hK hP 0 rfl rfl 1 (by decide) (hts _ tw_127) (fun _ h9 => h9) rfl d_WK_passSecond_109 ?_
          refine va_get (D := (dC, dI)) (ci := 2) (v := .int v_plan_cycle) (C := R_PL) (T := F_PL) (N := 3) hx hb hts uw_PL hown hK hP 1 rfl rfl 2 (by decide) (hts _ tw_131) (fun _ h9 => h9) rfl d_WK_passSecond_112 ?_
          refine lv_icmp_ne (tgt := 122) hx hb d_WK_passSecond_115 (by decide) (fun hb13 => ?_) (fun hb13 => ?_)
          · have hF := ox_t hF hb13
            refine lv_aload_n hx hb d_WK_passSecond_122 rfl (lv_at hl 2 rfl) ?_
            refine va_get (D := (dC, dI)) (ci := 4) (v := .int v_cycleSecond) (C := R_WK) (T := F_WK) (N := 15) hx hb hts uw_WK hown hK hP 0 rfl rfl 3 (by decide) (hts _ tw_100) (fun _ h9 => h9) rfl d_WK_passSecond_123 ?_
            refine lv_iconst (v := 1) hx hb d_WK_passSecond_126 (by decide) ?_
            refine lv_iadd hx hb d_WK_passSecond_127 ?_
            refine va_put (D := (dC, dI)) (ci := 4) (v := .int (v_cycleSecond + 1)) (ty := .int) (C := R_WK) (T := F_WK) (N := 15) hx hb hts uw_WK t_WK t_WK_ok n_WK hown hK hP hD hS 0 rfl rfl 3 (by decide) (hts _ tw_100) (fun _ h9 => h9) rfl (by decide +kernel) rfl rfl (Nat.le_of_ble_eq_true rfl) d_WK_passSecond_128 (fun H locs hP hD hS => ?_)
            have hP : va_P (dC, dI) vwCl (wd_WK_passSecond q_this q_layout q_plan q_carriers q_entries q_plan_order q_plan_times q_plan_order_moves q_plan_order_rank q_layout_low q_layout_high q_layout_loadedSeconds q_layout_emptySeconds cI (v_second + 1) (v_cycleSecond + 1) (v_nextRank + 1) v_entryStopped s11_v_entered v_done v_lastStay s11_v_hoistCarrier s11_v_hoistMove s11_v_hoistEntry s11_v_hoistEnd v_plan_cycle v_plan_order_count v_layout_tanks f_plan_order_moves f_plan_times s11_f_carriers f_entries f_layout_loadedSeconds) H := hP
            have hD : va_D A (wd_WK_passSecond q_this q_layout q_plan q_carriers q_entries q_plan_order q_plan_times q_plan_order_moves q_plan_order_rank q_layout_low q_layout_high q_layout_loadedSeconds q_layout_emptySeconds cI (v_second + 1) (v_cycleSecond + 1) (v_nextRank + 1) v_entryStopped s11_v_entered v_done v_lastStay s11_v_hoistCarrier s11_v_hoistMove s11_v_hoistEntry s11_v_hoistEnd v_plan_cycle v_plan_order_count v_layout_tanks f_plan_order_moves f_plan_times s11_f_carriers f_entries f_layout_loadedSeconds) := hD
            refine lv_iload_n hx hb d_WK_passSecond_131 rfl (lv_at hl 0 rfl) ?_
            obtain ⟨hbg, hF⟩ := ox_bgS hF
            cases hF
            exact hq_zret hx hb hr hbg hlocks hP hD hK hS d_WK_passSecond_132
          · have hF := ox_fn hF hb13
            refine lv_iconst (v := 0) hx hb d_WK_passSecond_118 (by decide) ?_
            refine lv_goto (tgt := 128) hx hb d_WK_passSecond_119 (by decide) ?_
            refine va_put (D := (dC, dI)) (ci := 4) (v := .int 0) (ty := .int) (C := R_WK) (T := F_WK) (N := 15) hx hb hts uw_WK t_WK t_WK_ok n_WK hown hK hP hD hS 0 rfl rfl 3 (by decide) (hts _ tw_100) (fun _ h9 => h9) rfl (by decide +kernel) rfl rfl (Nat.le_of_ble_eq_true rfl) d_WK_passSecond_128 (fun H locs hP hD hS => ?_)
            have hP : va_P (dC, dI) vwCl (wd_WK_passSecond q_this q_layout q_plan q_carriers q_entries q_plan_order q_plan_times q_plan_order_moves q_plan_order_rank q_layout_low q_layout_high q_layout_loadedSeconds q_layout_emptySeconds cI (v_second + 1) 0 (v_nextRank + 1) v_entryStopped s11_v_entered v_done v_lastStay s11_v_hoistCarrier s11_v_hoistMove s11_v_hoistEntry s11_v_hoistEnd v_plan_cycle v_plan_order_count v_layout_tanks f_plan_order_moves f_plan_times s11_f_carriers f_entries f_layout_loadedSeconds) H := hP
            have hD : va_D A (wd_WK_passSecond q_this q_layout q_plan q_carriers q_entries q_plan_order q_plan_times q_plan_order_moves q_plan_order_rank q_layout_low q_layout_high q_layout_loadedSeconds q_layout_emptySeconds cI (v_second + 1) 0 (v_nextRank + 1) v_entryStopped s11_v_entered v_done v_lastStay s11_v_hoistCarrier s11_v_hoistMove s11_v_hoistEntry s11_v_hoistEnd v_plan_cycle v_plan_order_count v_layout_tanks f_plan_order_moves f_plan_times s11_f_carriers f_entries f_layout_loadedSeconds) := hD
            refine lv_iload_n hx hb d_WK_passSecond_131 rfl (lv_at hl 0 rfl) ?_
            obtain ⟨hbg, hF⟩ := ox_bgS hF
            cases hF
            exact hq_zret hx hb hr hbg hlocks hP hD hK hS d_WK_passSecond_132
        · have hF := ox_fn hF hb12
          refine lv_iconst (v := 0) hx hb d_WK_passSecond_78 (by decide) ?_
          refine lv_goto (tgt := 88) hx hb d_WK_passSecond_79 (by decide) ?_
          refine va_put (D := (dC, dI)) (ci := 4) (v := .int 0) (ty := .int) (C := R_WK) (T := F_WK) (N := 15) hx hb hts uw_WK t_WK t_WK_ok n_WK hown hK hP hD hS 0 rfl rfl 4 (by decide) (hts _ tw_101) (fun _ h9 => h9) rfl (by decide +kernel) rfl rfl (Nat.le_of_ble_eq_true rfl) d_WK_passSecond_88 (fun H locs hP hD hS => ?_)
          have hP : va_P (dC, dI) vwCl (wd_WK_passSecond q_this q_layout q_plan q_carriers q_entries q_plan_order q_plan_times q_plan_order_moves q_plan_order_rank q_layout_low q_layout_high q_layout_loadedSeconds q_layout_emptySeconds cI v_second v_cycleSecond 0 v_entryStopped s11_v_entered v_done v_lastStay s11_v_hoistCarrier s11_v_hoistMove s11_v_hoistEntry s11_v_hoistEnd v_plan_cycle v_plan_order_count v_layout_tanks f_plan_order_moves f_plan_times s11_f_carriers f_entries f_layout_loadedSeconds) H := hP
          have hD : va_D A (wd_WK_passSecond q_this q_layout q_plan q_carriers q_entries q_plan_order q_plan_times q_plan_order_moves q_plan_order_rank q_layout_low q_layout_high q_layout_loadedSeconds q_layout_emptySeconds cI v_second v_cycleSecond 0 v_entryStopped s11_v_entered v_done v_lastStay s11_v_hoistCarrier s11_v_hoistMove s11_v_hoistEntry s11_v_hoistEnd v_plan_cycle v_plan_order_count v_layout_tanks f_plan_order_moves f_plan_times s11_f_carriers f_entries f_layout_loadedSeconds) := hD
          refine lv_aload_n hx hb d_WK_passSecond_91 rfl (lv_at hl 2 rfl) ?_
          refine lv_dup hx hb d_WK_passSecond_92 rfl ?_
          refine va_get (D := (dC, dI)) (ci := 4) (v := .int v_second) (C := R_WK) (T := F_WK) (N := 15) hx hb hts uw_WK hown hK hP 0 rfl rfl 2 (by decide) (hts _ tw_99) (fun _ h9 => h9) rfl d_WK_passSecond_93 ?_
          refine lv_iconst (v := 1) hx hb d_WK_passSecond_96 (by decide) ?_
          refine lv_iadd hx hb d_WK_passSecond_97 ?_
          refine va_put (D := (dC, dI)) (ci := 4) (v := .int (v_second + 1)) (ty := .int) (C := R_WK) (T := F_WK) (N := 15) hx hb hts uw_WK t_WK t_WK_ok n_WK hown hK hP hD hS 0 rfl rfl 2 (by decide) (hts _ tw_99) (fun _ h9 => h9) rfl (by decide +kernel) rfl rfl (Nat.le_of_ble_eq_true rfl) d_WK_passSecond_98 (fun H locs hP hD hS => ?_)
          have hP : va_P (dC, dI) vwCl (wd_WK_passSecond q_this q_layout q_plan q_carriers q_entries q_plan_order q_plan_times q_plan_order_moves q_plan_order_rank q_layout_low q_layout_high q_layout_loadedSeconds q_layout_emptySeconds cI (v_second + 1) v_cycleSecond 0 v_entryStopped s11_v_entered v_done v_lastStay s11_v_hoistCarrier s11_v_hoistMove s11_v_hoistEntry s11_v_hoistEnd v_plan_cycle v_plan_order_count v_layout_tanks f_plan_order_moves f_plan_times s11_f_carriers f_entries f_layout_loadedSeconds) H := hP
          have hD : va_D A (wd_WK_passSecond q_this q_layout q_plan q_carriers q_entries q_plan_order q_plan_times q_plan_order_moves q_plan_order_rank q_layout_low q_layout_high q_layout_loadedSeconds q_layout_emptySeconds cI (v_second + 1) v_cycleSecond 0 v_entryStopped s11_v_entered v_done v_lastStay s11_v_hoistCarrier s11_v_hoistMove s11_v_hoistEntry s11_v_hoistEnd v_plan_cycle v_plan_order_count v_layout_tanks f_plan_order_moves f_plan_times s11_f_carriers f_entries f_layout_loadedSeconds) := hD
          refine lv_aload_n hx hb d_WK_passSecond_101 rfl (lv_at hl 2 rfl) ?_
          refine lv_aload_n hx hb d_WK_passSecond_102 rfl (lv_at hl 2 rfl) ?_
          refine va_get (D := (dC, dI)) (ci := 4) (v := .int v_cycleSecond) (C := R_WK) (T := F_WK) (N := 15) hx hb hts uw_WK hown hK hP 0 rfl rfl 3 (by decide) (hts _ tw_100) (fun _ h9 => h9) rfl d_WK_passSecond_103 ?_
          refine lv_iconst (v := 1) hx hb d_WK_passSecond_106 (by decide) ?_
          refine lv_iadd hx hb d_WK_passSecond_107 ?_
          refine lv_aload_n hx hb d_WK_passSecond_108 rfl (lv_at hl 2 rfl) ?_
          refine va_get (D := (dC, dI)) (ci := 4) (v := .ref q_plan) (C := R_WK) (T := F_WK) (N := 15) hx hb hts uw_WK hown hK hP 0 rfl rfl 1 (by decide) (hts _ tw_127) (fun _ h9 => h9) rfl d_WK_passSecond_109 ?_
          refine va_get (D := (dC, dI)) (ci := 2) (v := .int v_plan_cycle) (C := R_PL) (T := F_PL) (N := 3) hx hb hts uw_PL hown hK hP 1 rfl rfl 2 (by decide) (hts _ tw_131) (fun _ h9 => h9) rfl d_WK_passSecond_112 ?_
          refine lv_icmp_ne (tgt := 122) hx hb d_WK_passSecond_115 (by decide) (fun hb14 => ?_) (fun hb14 => ?_)
          · have hF := ox_t hF hb14
            refine lv_aload_n hx hb d_WK_passSecond_122 rfl (lv_at hl 2 rfl) ?_
            refine va_get (D := (dC, dI)) (ci := 4) (v := .int v_cycleSecond) (C := R_WK) (T := F_WK) (N := 15) hx hb hts uw_WK hown hK hP 0 rfl rfl 3 (by decide) (hts _ tw_100) (fun _ h9 => h9) rfl d_WK_passSecond_123 ?_
            refine lv_iconst (v := 1) hx hb d_WK_passSecond_126 (by decide) ?_
            refine lv_iadd hx hb d_WK_passSecond_127 ?_
            refine va_put (D := (dC, dI)) (ci := 4) (v := .int (v_cycleSecond + 1)) (ty := .int) (C := R_WK) (T := F_WK) (N := 15) hx hb hts uw_WK t_WK t_WK_ok n_WK hown hK hP hD hS 0 rfl rfl 3 (by decide) (hts _ tw_100) (fun _ h9 => h9) rfl (by decide +kernel) rfl rfl (Nat.le_of_ble_eq_true rfl) d_WK_passSecond_128 (fun H locs hP hD hS => ?_)
            have hP : va_P (dC, dI) vwCl (wd_WK_passSecond q_this q_layout q_plan q_carriers q_entries q_plan_order q_plan_times q_plan_order_moves q_plan_order_rank q_layout_low q_layout_high q_layout_loadedSeconds q_layout_emptySeconds cI (v_second + 1) (v_cycleSecond + 1) 0 v_entryStopped s11_v_entered v_done v_lastStay s11_v_hoistCarrier s11_v_hoistMove s11_v_hoistEntry s11_v_hoistEnd v_plan_cycle v_plan_order_count v_layout_tanks f_plan_order_moves f_plan_times s11_f_carriers f_entries f_layout_loadedSeconds) H := hP
            have hD : va_D A (wd_WK_passSecond q_this q_layout q_plan q_carriers q_entries q_plan_order q_plan_times q_plan_order_moves q_plan_order_rank q_layout_low q_layout_high q_layout_loadedSeconds q_layout_emptySeconds cI (v_second + 1) (v_cycleSecond + 1) 0 v_entryStopped s11_v_entered v_done v_lastStay s11_v_hoistCarrier s11_v_hoistMove s11_v_hoistEntry s11_v_hoistEnd v_plan_cycle v_plan_order_count v_layout_tanks f_plan_order_moves f_plan_times s11_f_carriers f_entries f_layout_loadedSeconds) := hD
            refine lv_iload_n hx hb d_WK_passSecond_131 rfl (lv_at hl 0 rfl) ?_
            obtain ⟨hbg, hF⟩ := ox_bgS hF
            cases hF
            exact hq_zret hx hb hr hbg hlocks hP hD hK hS d_WK_passSecond_132
          · have hF := ox_fn hF hb14
            refine lv_iconst (v := 0) hx hb d_WK_passSecond_118 (by decide) ?_
            refine lv_goto (tgt := 128) hx hb d_WK_passSecond_119 (by decide) ?_
            refine va_put (D := (dC, dI)) (ci := 4) (v := .int 0) (ty := .int) (C := R_WK) (T := F_WK) (N := 15) hx hb hts uw_WK t_WK t_WK_ok n_WK hown hK hP hD hS 0 rfl rfl 3 (by decide) (hts _ tw_100) (fun _ h9 => h9) rfl (by decide +kernel) rfl rfl (Nat.le_of_ble_eq_true rfl) d_WK_passSecond_128 (fun H locs hP hD hS => ?_)
            have hP : va_P (dC, dI) vwCl (wd_WK_passSecond q_this q_layout q_plan q_carriers q_entries q_plan_order q_plan_times q_plan_order_moves q_plan_order_rank q_layout_low q_layout_high q_layout_loadedSeconds q_layout_emptySeconds cI (v_second + 1) 0 0 v_entryStopped s11_v_entered v_done v_lastStay s11_v_hoistCarrier s11_v_hoistMove s11_v_hoistEntry s11_v_hoistEnd v_plan_cycle v_plan_order_count v_layout_tanks f_plan_order_moves f_plan_times s11_f_carriers f_entries f_layout_loadedSeconds) H := hP
            have hD : va_D A (wd_WK_passSecond q_this q_layout q_plan q_carriers q_entries q_plan_order q_plan_times q_plan_order_moves q_plan_order_rank q_layout_low q_layout_high q_layout_loadedSeconds q_layout_emptySeconds cI (v_second + 1) 0 0 v_entryStopped s11_v_entered v_done v_lastStay s11_v_hoistCarrier s11_v_hoistMove s11_v_hoistEntry s11_v_hoistEnd v_plan_cycle v_plan_order_count v_layout_tanks f_plan_order_moves f_plan_times s11_f_carriers f_entries f_layout_loadedSeconds) := hD
            refine lv_iload_n hx hb d_WK_passSecond_131 rfl (lv_at hl 0 rfl) ?_
            obtain ⟨hbg, hF⟩ := ox_bgS hF
            cases hF
            exact hq_zret hx hb hr hbg hlocks hP hD hK hS d_WK_passSecond_132
    · have hF := ox_fn hF hb8
      refine lv_aload_n hx hb d_WK_passSecond_19 rfl (lv_at hl 0 rfl) ?_
      obtain ⟨⟨s15_v_done, s15_v_lastStay, s15_v_hoistCarrier, s15_v_hoistMove, s15_f_carriers, s15_f_entries⟩, hc15, hF⟩ := ox_clS hF
      refine hq_cv (ws' := (wd_WK_passSecond q_this q_layout q_plan q_carriers q_entries q_plan_order q_plan_times q_plan_order_moves q_plan_order_rank q_layout_low q_layout_high q_layout_loadedSeconds q_layout_emptySeconds cI v_second v_cycleSecond v_nextRank v_entryStopped v_entered s15_v_done s15_v_lastStay s15_v_hoistCarrier s15_v_hoistMove v_hoistEntry v_hoistEnd v_plan_cycle v_plan_order_count v_layout_tanks f_plan_order_moves f_plan_times s15_f_carriers s15_f_entries f_layout_loadedSeconds)) (hq_rV (As := []) (rest := []) ⟨hx, hb, hml, hown, hts⟩ (c_WK_endMove l dC dI q_this q_layout q_plan q_carriers q_entries q_layout_low q_layout_high q_layout_loadedSeconds q_layout_emptySeconds cI _ v_second v_cycleSecond v_nextRank v_entryStopped v_entered v_done v_lastStay v_hoistCarrier v_hoistMove v_hoistEntry v_hoistEnd v_layout_tanks f_carriers f_entries s15_v_done s15_v_lastStay s15_v_hoistCarrier s15_v_hoistMove s15_f_carriers s15_f_entries hc15) (cwV 0 hts (hq_gV tw_136 tw_137 tw_138 tw_111 tw_139) rfl rfl rfl yv_WK_endMove ⟨Nat.le_of_ble_eq_true rfl, Nat.le_of_ble_eq_true rfl⟩) hP hD hK [0] rfl 0 rfl rfl [0, 3, 6, 7] rfl rfl rfl hl.1 rfl (Nat.le_of_ble_eq_true rfl) d_WK_passSecond_20 ⟨Nat.zero_le _, Nat.zero_le _⟩) hP hD hS hA [0, 3, 6, 7] [1, 2, 4, 5, 8] [5, 0, 1, 6, 2, 3, 7, 8, 4] rfl rfl rfl (by decide) rfl rfl (fun H locs hP hD hS => ?_)
      refine lv_iconst (v := 0) hx hb d_WK_passSecond_23 (by decide) ?_
      refine lv_istore_n (lv' := [(1, .int 0), (0, .ref q_this)]) hx hb d_WK_passSecond_24 rfl hl (by decide) rfl (fun ls hl => ?_)
      refine lv_aload_n hx hb d_WK_passSecond_25 rfl (lv_at hl 1 rfl) ?_
      refine va_get (D := (dC, dI)) (ci := 4) (v := .ref q_plan) (C := R_WK) (T := F_WK) (N := 15) hx hb hts uw_WK hown hK hP 0 rfl rfl 1 (by decide) (hts _ tw_127) (fun _ h9 => h9) rfl d_WK_passSecond_26 ?_
      refine va_get (D := (dC, dI)) (ci := 2) (v := .ref q_plan_order) (C := R_PL) (T := F_PL) (N := 3) hx hb hts uw_PL hown hK hP 1 rfl rfl 0 (by decide) (hts _ tw_128) (fun _ h9 => h9) rfl d_WK_passSecond_29 ?_
      refine va_get (D := (dC, dI)) (ci := 1) (v := .ref q_plan_order_moves) (C := R_OR) (T := F_OR) (N := 3) hx hb hts uw_OR hown hK hP 2 rfl rfl 1 (by decide) (hts _ tw_129) (fun _ h9 => h9) rfl d_WK_passSecond_32 ?_
      refine lv_aload_n hx hb d_WK_passSecond_35 rfl (lv_at hl 1 rfl) ?_
      refine va_get (D := (dC, dI)) (ci := 4) (v := .int v_nextRank) (C := R_WK) (T := F_WK) (N := 15) hx hb hts uw_WK hown hK hP 0 rfl rfl 4 (by decide) (hts _ tw_101) (fun _ h9 => h9) rfl d_WK_passSecond_36 ?_
      obtain ⟨hin, hF⟩ := ox_gdS hF
      refine va_iald hx hb hK hP 4 0 rfl rfl hin d_WK_passSecond_39 ?_
      refine lv_istore_n (lv' := [(2, .int (f_plan_order_moves v_nextRank.toNatClampNeg)), (1, .int 0), (0, .ref q_this)]) hx hb d_WK_passSecond_40 rfl hl (by decide) rfl (fun ls hl => ?_)
      refine lv_aload_n hx hb d_WK_passSecond_41 rfl (lv_at hl 2 rfl) ?_
      refine va_get (D := (dC, dI)) (ci := 4) (v := .ref q_plan) (C := R_WK) (T := F_WK) (N := 15) hx hb hts uw_WK hown hK hP 0 rfl rfl 1 (by decide) (hts _ tw_127) (fun _ h9 => h9) rfl d_WK_passSecond_42 ?_
      refine va_get (D := (dC, dI)) (ci := 2) (v := .ref q_plan_times) (C := R_PL) (T := F_PL) (N := 3) hx hb hts uw_PL hown hK hP 1 rfl rfl 1 (by decide) (hts _ tw_130) (fun _ h9 => h9) rfl d_WK_passSecond_45 ?_
      refine lv_iload_n hx hb d_WK_passSecond_48 rfl (lv_at hl 0 rfl) ?_
      obtain ⟨hin, hF⟩ := ox_gdS hF
      refine va_iald hx hb hK hP 5 0 rfl rfl hin d_WK_passSecond_49 ?_
      refine lv_aload_n hx hb d_WK_passSecond_50 rfl (lv_at hl 2 rfl) ?_
      refine va_get (D := (dC, dI)) (ci := 4) (v := .int v_cycleSecond) (C := R_WK) (T := F_WK) (N := 15) hx hb hts uw_WK hown hK hP 0 rfl rfl 3 (by decide) (hts _ tw_100) (fun _ h9 => h9) rfl d_WK_passSecond_51 ?_
      refine lv_icmp_ne (tgt := 91) hx hb d_WK_passSecond_54 (by decide) (fun hb16 => ?_) (fun hb16 => ?_)
      · have hF := ox_t hF hb16
        refine lv_aload_n hx hb d_WK_passSecond_91 rfl (lv_at hl 2 rfl) ?_
        refine lv_dup hx hb d_WK_passSecond_92 rfl ?_
        refine va_get (D := (dC, dI)) (ci := 4) (v := .int v_second) (C := R_WK) (T := F_WK) (N := 15) hx hb hts uw_WK hown hK hP 0 rfl rfl 2 (by decide) (hts _ tw_99) (fun _ h9 => h9) rfl d_WK_passSecond_93 ?_
        refine lv_iconst (v := 1) hx hb d_WK_passSecond_96 (by decide) ?_
        refine lv_iadd hx hb d_WK_passSecond_97 ?_
        refine va_put (D := (dC, dI)) (ci := 4) (v := .int (v_second + 1)) (ty := .int) (C := R_WK) (T := F_WK) (N := 15) hx hb hts uw_WK t_WK t_WK_ok n_WK hown hK hP hD hS 0 rfl rfl 2 (by decide) (hts _ tw_99) (fun _ h9 => h9) rfl (by decide +kernel) rfl rfl (Nat.le_of_ble_eq_true rfl) d_WK_passSecond_98 (fun H locs hP hD hS => ?_)
        have hP : va_P (dC, dI) vwCl (wd_WK_passSecond q_this q_layout q_plan q_carriers q_entries q_plan_order q_plan_times q_plan_order_moves q_plan_order_rank q_layout_low q_layout_high q_layout_loadedSeconds q_layout_emptySeconds cI (v_second + 1) v_cycleSecond v_nextRank v_entryStopped v_entered s15_v_done s15_v_lastStay s15_v_hoistCarrier s15_v_hoistMove v_hoistEntry v_hoistEnd v_plan_cycle v_plan_order_count v_layout_tanks f_plan_order_moves f_plan_times s15_f_carriers s15_f_entries f_layout_loadedSeconds) H := hP
        have hD : va_D A (wd_WK_passSecond q_this q_layout q_plan q_carriers q_entries q_plan_order q_plan_times q_plan_order_moves q_plan_order_rank q_layout_low q_layout_high q_layout_loadedSeconds q_layout_emptySeconds cI (v_second + 1) v_cycleSecond v_nextRank v_entryStopped v_entered s15_v_done s15_v_lastStay s15_v_hoistCarrier s15_v_hoistMove v_hoistEntry v_hoistEnd v_plan_cycle v_plan_order_count v_layout_tanks f_plan_order_moves f_plan_times s15_f_carriers s15_f_entries f_layout_loadedSeconds) := hD
        refine lv_aload_n hx hb d_WK_passSecond_101 rfl (lv_at hl 2 rfl) ?_
        refine lv_aload_n hx hb d_WK_passSecond_102 rfl (lv_at hl 2 rfl) ?_
        refine va_get (D := (dC, dI)) (ci := 4) (v := .int v_cycleSecond) (C := R_WK) (T := F_WK) (N := 15) hx hb hts uw_WK hown hK hP 0 rfl rfl 3 (by decide) (hts _ tw_100) (fun _ h9 => h9) rfl d_WK_passSecond_103 ?_
        refine lv_iconst (v := 1) hx hb d_WK_passSecond_106 (by decide) ?_
        refine lv_iadd hx hb d_WK_passSecond_107 ?_
        refine lv_aload_n hx hb d_WK_passSecond_108 rfl (lv_at hl 2 rfl) ?_
        refine va_get (D := (dC, dI)) (ci := 4) (v := .ref q_plan) (C := R_WK) (T := F_WK) (N := 15) hx hb hts uw_WK hown hK hP 0 rfl rfl 1 (by decide) (hts _ tw_127) (fun _ h9 => h9) rfl d_WK_passSecond_109 ?_
        refine va_get (D := (dC, dI)) (ci := 2) (v := .int v_plan_cycle) (C := R_PL) (T := F_PL) (N := 3) hx hb hts uw_PL hown hK hP 1 rfl rfl 2 (by decide) (hts _ tw_131) (fun _ h9 => h9) rfl d_WK_passSecond_112 ?_
        refine lv_icmp_ne (tgt := 122) hx hb d_WK_passSecond_115 (by decide) (fun hb17 => ?_) (fun hb17 => ?_)
        · have hF := ox_t hF hb17
          refine lv_aload_n hx hb d_WK_passSecond_122 rfl (lv_at hl 2 rfl) ?_
          refine va_get (D := (dC, dI)) (ci := 4) (v := .int v_cycleSecond) (C := R_WK) (T := F_WK) (N := 15) hx hb hts uw_WK hown hK hP 0 rfl rfl 3 (by decide) (hts _ tw_100) (fun _ h9 => h9) rfl d_WK_passSecond_123 ?_
          refine lv_iconst (v := 1) hx hb d_WK_passSecond_126 (by decide) ?_
          refine lv_iadd hx hb d_WK_passSecond_127 ?_
          refine va_put (D := (dC, dI)) (ci := 4) (v := .int (v_cycleSecond + 1)) (ty := .int) (C := R_WK) (T := F_WK) (N := 15) hx hb hts uw_WK t_WK t_WK_ok n_WK hown hK hP hD hS 0 rfl rfl 3 (by decide) (hts _ tw_100) (fun _ h9 => h9) rfl (by decide +kernel) rfl rfl (Nat.le_of_ble_eq_true rfl) d_WK_passSecond_128 (fun H locs hP hD hS => ?_)
          have hP : va_P (dC, dI) vwCl (wd_WK_passSecond q_this q_layout q_plan q_carriers q_entries q_plan_order q_plan_times q_plan_order_moves q_plan_order_rank q_layout_low q_layout_high q_layout_loadedSeconds q_layout_emptySeconds cI (v_second + 1) (v_cycleSecond + 1) v_nextRank v_entryStopped v_entered s15_v_done s15_v_lastStay s15_v_hoistCarrier s15_v_hoistMove v_hoistEntry v_hoistEnd v_plan_cycle v_plan_order_count v_layout_tanks f_plan_order_moves f_plan_times s15_f_carriers s15_f_entries f_layout_loadedSeconds) H := hP
          have hD : va_D A (wd_WK_passSecond q_this q_layout q_plan q_carriers q_entries q_plan_order q_plan_times q_plan_order_moves q_plan_order_rank q_layout_low q_layout_high q_layout_loadedSeconds q_layout_emptySeconds cI (v_second + 1) (v_cycleSecond + 1) v_nextRank v_entryStopped v_entered s15_v_done s15_v_lastStay s15_v_hoistCarrier s15_v_hoistMove v_hoistEntry v_hoistEnd v_plan_cycle v_plan_order_count v_layout_tanks f_plan_order_moves f_plan_times s15_f_carriers s15_f_entries f_layout_loadedSeconds) := hD
          refine lv_iload_n hx hb d_WK_passSecond_131 rfl (lv_at hl 1 rfl) ?_
          cases hF
          exact hq_zret hx hb hr (by decide) hlocks hP hD hK hS d_WK_passSecond_132
        · have hF := ox_fn hF hb17
          refine lv_iconst (v := 0) hx hb d_WK_passSecond_118 (by decide) ?_
          refine lv_goto (tgt := 128) hx hb d_WK_passSecond_119 (by decide) ?_
          refine va_put (D := (dC, dI)) (ci := 4) (v := .int 0) (ty := .int) (C := R_WK) (T := F_WK) (N := 15) hx hb hts uw_WK t_WK t_WK_ok n_WK hown hK hP hD hS 0 rfl rfl 3 (by decide) (hts _ tw_100) (fun _ h9 => h9) rfl (by decide +kernel) rfl rfl (Nat.le_of_ble_eq_true rfl) d_WK_passSecond_128 (fun H locs hP hD hS => ?_)
          have hP : va_P (dC, dI) vwCl (wd_WK_passSecond q_this q_layout q_plan q_carriers q_entries q_plan_order q_plan_times q_plan_order_moves q_plan_order_rank q_layout_low q_layout_high q_layout_loadedSeconds q_layout_emptySeconds cI (v_second + 1) 0 v_nextRank v_entryStopped v_entered s15_v_done s15_v_lastStay s15_v_hoistCarrier s15_v_hoistMove v_hoistEntry v_hoistEnd v_plan_cycle v_plan_order_count v_layout_tanks f_plan_order_moves f_plan_times s15_f_carriers s15_f_entries f_layout_loadedSeconds) H := hP
          have hD : va_D A (wd_WK_passSecond q_this q_layout q_plan q_carriers q_entries q_plan_order q_plan_times q_plan_order_moves q_plan_order_rank q_layout_low q_layout_high q_layout_loadedSeconds q_layout_emptySeconds cI (v_second + 1) 0 v_nextRank v_entryStopped v_entered s15_v_done s15_v_lastStay s15_v_hoistCarrier s15_v_hoistMove v_hoistEntry v_hoistEnd v_plan_cycle v_plan_order_count v_layout_tanks f_plan_order_moves f_plan_times s15_f_carriers s15_f_entries f_layout_loadedSeconds) := hD
          refine lv_iload_n hx hb d_WK_passSecond_131 rfl (lv_at hl 1 rfl) ?_
          cases hF
          exact hq_zret hx hb hr (by decide) hlocks hP hD hK hS d_WK_passSecond_132
      · have hF := ox_fn hF hb16
        refine lv_aload_n hx hb d_WK_passSecond_57 rfl (lv_at hl 2 rfl) ?_
        refine lv_iload_n hx hb d_WK_passSecond_58 rfl (lv_at hl 0 rfl) ?_
        obtain ⟨⟨r18, s18_v_entered, s18_v_hoistCarrier, s18_v_hoistMove, s18_v_hoistEntry, s18_v_hoistEnd, s18_f_carriers⟩, hc18, hF⟩ := ox_clS hF
        refine hq_ci (ws' := (wd_WK_passSecond q_this q_layout q_plan q_carriers q_entries q_plan_order q_plan_times q_plan_order_moves q_plan_order_rank q_layout_low q_layout_high q_layout_loadedSeconds q_layout_emptySeconds cI v_second v_cycleSecond v_nextRank v_entryStopped s18_v_entered s15_v_done s15_v_lastStay s18_v_hoistCarrier s18_v_hoistMove s18_v_hoistEntry s18_v_hoistEnd v_plan_cycle v_plan_order_count v_layout_tanks f_plan_order_moves f_plan_times s18_f_carriers s15_f_entries f_layout_loadedSeconds)) (hq_rV (As := [.int (f_plan_order_moves v_nextRank.toNatClampNeg)]) (rest := []) ⟨hx, hb, hml, hown, hts⟩ (c_WK_beginMove l dC dI q_this q_layout q_plan q_carriers q_entries q_layout_low q_layout_high q_layout_loadedSeconds q_layout_emptySeconds cI _ (f_plan_order_moves v_nextRank.toNatClampNeg) v_second v_cycleSecond v_nextRank v_entryStopped v_entered s15_v_done s15_v_lastStay s15_v_hoistCarrier s15_v_hoistMove v_hoistEntry v_hoistEnd v_layout_tanks s15_f_carriers s15_f_entries f_layout_loadedSeconds r18 s18_v_entered s18_v_hoistCarrier s18_v_hoistMove s18_v_hoistEntry s18_v_hoistEnd s18_f_carriers hc18) (cwV 1 hts (hq_gV tw_132 tw_133 tw_134 tw_111 tw_135) rfl rfl rfl yv_WK_beginMove ⟨Nat.le_of_ble_eq_true rfl, Nat.le_of_ble_eq_true rfl⟩) hP hD hK [0] rfl 0 rfl rfl [0, 3, 6, 7, 8] rfl rfl rfl hl.1 rfl (Nat.le_of_ble_eq_true rfl) d_WK_passSecond_59 ⟨Nat.zero_le _, Nat.zero_le _⟩) hP hD hS hA [0, 3, 6, 7, 8] [1, 2, 4, 5] [4, 0, 1, 5, 2, 3, 6, 7, 8] rfl rfl rfl (by decide) rfl rfl (fun H locs hP hD hS => ?_)
        refine lv_istore_n (lv' := [(1, .int r18), (2, .int (f_plan_order_moves v_nextRank.toNatClampNeg)), (0, .ref q_this)]) hx hb d_WK_passSecond_62 rfl hl (by decide) rfl (fun ls hl => ?_)
        refine lv_aload_n hx hb d_WK_passSecond_63 rfl (lv_at hl 2 rfl) ?_
        refine lv_aload_n hx hb d_WK_passSecond_64 rfl (lv_at hl 2 rfl) ?_
        refine va_get (D := (dC, dI)) (ci := 4) (v := .int v_nextRank) (C := R_WK) (T := F_WK) (N := 15) hx hb hts uw_WK hown hK hP 0 rfl rfl 4 (by decide) (hts _ tw_101) (fun _ h9 => h9) rfl d_WK_passSecond_65 ?_
        refine lv_aload_n hx hb d_WK_passSecond_68 rfl (lv_at hl 2 rfl) ?_
        refine va_get (D := (dC, dI)) (ci := 4) (v := .ref q_layout) (C := R_WK) (T := F_WK) (N := 15) hx hb hts uw_WK hown hK hP 0 rfl rfl 0 (by decide) (hts _ tw_116) (fun _ h9 => h9) rfl d_WK_passSecond_69 ?_
        refine va_get (D := (dC, dI)) (ci := 0) (v := .int v_layout_tanks) (C := R_LY) (T := F_LY) (N := 5) hx hb hts uw_LY hown hK hP 3 rfl rfl 0 (by decide) (hts _ tw_117) (fun _ h9 => h9) rfl d_WK_passSecond_72 ?_
        refine lv_icmp_ne (tgt := 82) hx hb d_WK_passSecond_75 (by decide) (fun hb19 => ?_) (fun hb19 => ?_)
        · have hF := ox_t hF hb19
          refine lv_aload_n hx hb d_WK_passSecond_82 rfl (lv_at hl 2 rfl) ?_
          refine va_get (D := (dC, dI)) (ci := 4) (v := .int v_nextRank) (C := R_WK) (T := F_WK) (N := 15) hx hb hts uw_WK hown hK hP 0 rfl rfl 4 (by decide) (hts _ tw_101) (fun _ h9 => h9) rfl d_WK_passSecond_83 ?_
          refine lv_iconst (v := 1) hx hb d_WK_passSecond_86 (by decide) ?_
          refine lv_iadd hx hb d_WK_passSecond_87 ?_
          refine va_put (D := (dC, dI)) (ci := 4) (v := .int (v_nextRank + 1)) (ty := .int) (C := R_WK) (T := F_WK) (N := 15) hx hb hts uw_WK t_WK t_WK_ok n_WK hown hK hP hD hS 0 rfl rfl 4 (by decide) (hts _ tw_101) (fun _ h9 => h9) rfl (by decide +kernel) rfl rfl (Nat.le_of_ble_eq_true rfl) d_WK_passSecond_88 (fun H locs hP hD hS => ?_)
          have hP : va_P (dC, dI) vwCl (wd_WK_passSecond q_this q_layout q_plan q_carriers q_entries q_plan_order q_plan_times q_plan_order_moves q_plan_order_rank q_layout_low q_layout_high q_layout_loadedSeconds q_layout_emptySeconds cI v_second v_cycleSecond (v_nextRank + 1) v_entryStopped s18_v_entered s15_v_done s15_v_lastStay s18_v_hoistCarrier s18_v_hoistMove s18_v_hoistEntry s18_v_hoistEnd v_plan_cycle v_plan_order_count v_layout_tanks f_plan_order_moves f_plan_times s18_f_carriers s15_f_entries f_layout_loadedSeconds) H := hP
          have hD : va_D A (wd_WK_passSecond q_this q_layout q_plan q_carriers q_entries q_plan_order q_plan_times q_plan_order_moves q_plan_order_rank q_layout_low q_layout_high q_layout_loadedSeconds q_layout_emptySeconds cI v_second v_cycleSecond (v_nextRank + 1) v_entryStopped s18_v_entered s15_v_done s15_v_lastStay s18_v_hoistCarrier s18_v_hoistMove s18_v_hoistEntry s18_v_hoistEnd v_plan_cycle v_plan_order_count v_layout_tanks f_plan_order_moves f_plan_times s18_f_carriers s15_f_entries f_layout_loadedSeconds) := hD
          refine lv_aload_n hx hb d_WK_passSecond_91 rfl (lv_at hl 2 rfl) ?_
          refine lv_dup hx hb d_WK_passSecond_92 rfl ?_
          refine va_get (D := (dC, dI)) (ci := 4) (v := .int v_second) (C := R_WK) (T := F_WK) (N := 15) hx hb hts uw_WK hown hK hP 0 rfl rfl 2 (by decide) (hts _ tw_99) (fun _ h9 => h9) rfl d_WK_passSecond_93 ?_
          refine lv_iconst (v := 1) hx hb d_WK_passSecond_96 (by decide) ?_
          refine lv_iadd hx hb d_WK_passSecond_97 ?_
          refine va_put (D := (dC, dI)) (ci := 4) (v := .int (v_second + 1)) (ty := .int) (C := R_WK) (T := F_WK) (N := 15) hx hb hts uw_WK t_WK t_WK_ok n_WK hown hK hP hD hS 0 rfl rfl 2 (by decide) (hts _ tw_99) (fun _ h9 => h9) rfl (by decide +kernel) rfl rfl (Nat.le_of_ble_eq_true rfl) d_WK_passSecond_98 (fun H locs hP hD hS => ?_)
          have hP : va_P (dC, dI) vwCl (wd_WK_passSecond q_this q_layout q_plan q_carriers q_entries q_plan_order q_plan_times q_plan_order_moves q_plan_order_rank q_layout_low q_layout_high q_layout_loadedSeconds q_layout_emptySeconds cI (v_second + 1) v_cycleSecond (v_nextRank + 1) v_entryStopped s18_v_entered s15_v_done s15_v_lastStay s18_v_hoistCarrier s18_v_hoistMove s18_v_hoistEntry s18_v_hoistEnd v_plan_cycle v_plan_order_count v_layout_tanks f_plan_order_moves f_plan_times s18_f_carriers s15_f_entries f_layout_loadedSeconds) H := hP
          have hD : va_D A (wd_WK_passSecond q_this q_layout q_plan q_carriers q_entries q_plan_order q_plan_times q_plan_order_moves q_plan_order_rank q_layout_low q_layout_high q_layout_loadedSeconds q_layout_emptySeconds cI (v_second + 1) v_cycleSecond (v_nextRank + 1) v_entryStopped s18_v_entered s15_v_done s15_v_lastStay s18_v_hoistCarrier s18_v_hoistMove s18_v_hoistEntry s18_v_hoistEnd v_plan_cycle v_plan_order_count v_layout_tanks f_plan_order_moves f_plan_times s18_f_carriers s15_f_entries f_layout_loadedSeconds) := hD
          refine lv_aload_n hx hb d_WK_passSecond_101 rfl (lv_at hl 2 rfl) ?_
          refine lv_aload_n hx hb d_WK_passSecond_102 rfl (lv_at hl 2 rfl) ?_
          refine va_get (D := (dC, dI)) (ci := 4) (v := .int v_cycleSecond) (C := R_WK) (T := F_WK) (N := 15) hx hb hts uw_WK hown hK hP 0 rfl rfl 3 (by decide) (hts _ tw_100) (fun _ h9 => h9) rfl d_WK_passSecond_103 ?_
          refine lv_iconst (v := 1) hx hb d_WK_passSecond_106 (by decide) ?_
          refine lv_iadd hx hb d_WK_passSecond_107 ?_
          refine lv_aload_n hx hb d_WK_passSecond_108 rfl (lv_at hl 2 rfl) ?_
          refine va_get (D := (dC, dI)) (ci := 4) (v := .ref q_plan) (C := R_WK) (T := F_WK) (N := 15) hx hb hts uw_WK hown hK hP 0 rfl rfl 1 (by decide) (hts _ tw_127) (fun _ h9 => h9) rfl d_WK_passSecond_109 ?_
          refine va_get (D := (dC, dI)) (ci := 2) (v := .int v_plan_cycle) (C := R_PL) (T := F_PL) (N := 3) hx hb hts uw_PL hown hK hP 1 rfl rfl 2 (by decide) (hts _ tw_131) (fun _ h9 => h9) rfl d_WK_passSecond_112 ?_
          refine lv_icmp_ne (tgt := 122) hx hb d_WK_passSecond_115 (by decide) (fun hb20 => ?_) (fun hb20 => ?_)
          · have hF := ox_t hF hb20
            refine lv_aload_n hx hb d_WK_passSecond_122 rfl (lv_at hl 2 rfl) ?_
            refine va_get (D := (dC, dI)) (ci := 4) (v := .int v_cycleSecond) (C := R_WK) (T := F_WK) (N := 15) hx hb hts uw_WK hown hK hP 0 rfl rfl 3 (by decide) (hts _ tw_100) (fun _ h9 => h9) rfl d_WK_passSecond_123 ?_
            refine lv_iconst (v := 1) hx hb d_WK_passSecond_126 (by decide) ?_
            refine lv_iadd hx hb d_WK_passSecond_127 ?_
            refine va_put (D := (dC, dI)) (ci := 4) (v := .int (v_cycleSecond + 1)) (ty := .int) (C := R_WK) (T := F_WK) (N := 15) hx hb hts uw_WK t_WK t_WK_ok n_WK hown hK hP hD hS 0 rfl rfl 3 (by decide) (hts _ tw_100) (fun _ h9 => h9) rfl (by decide +kernel) rfl rfl (Nat.le_of_ble_eq_true rfl) d_WK_passSecond_128 (fun H locs hP hD hS => ?_)
            have hP : va_P (dC, dI) vwCl (wd_WK_passSecond q_this q_layout q_plan q_carriers q_entries q_plan_order q_plan_times q_plan_order_moves q_plan_order_rank q_layout_low q_layout_high q_layout_loadedSeconds q_layout_emptySeconds cI (v_second + 1) (v_cycleSecond + 1) (v_nextRank + 1) v_entryStopped s18_v_entered s15_v_done s15_v_lastStay s18_v_hoistCarrier s18_v_hoistMove s18_v_hoistEntry s18_v_hoistEnd v_plan_cycle v_plan_order_count v_layout_tanks f_plan_order_moves f_plan_times s18_f_carriers s15_f_entries f_layout_loadedSeconds) H := hP
            have hD : va_D A (wd_WK_passSecond q_this q_layout q_plan q_carriers q_entries q_plan_order q_plan_times q_plan_order_moves q_plan_order_rank q_layout_low q_layout_high q_layout_loadedSeconds q_layout_emptySeconds cI (v_second + 1) (v_cycleSecond + 1) (v_nextRank + 1) v_entryStopped s18_v_entered s15_v_done s15_v_lastStay s18_v_hoistCarrier s18_v_hoistMove s18_v_hoistEntry s18_v_hoistEnd v_plan_cycle v_plan_order_count v_layout_tanks f_plan_order_moves f_plan_times s18_f_carriers s15_f_entries f_layout_loadedSeconds) := hD
            refine lv_iload_n hx hb d_WK_passSecond_131 rfl (lv_at hl 0 rfl) ?_
            obtain ⟨hbg, hF⟩ := ox_bgS hF
            cases hF
            exact hq_zret hx hb hr hbg hlocks hP hD hK hS d_WK_passSecond_132
          · have hF := ox_fn hF hb20
            refine lv_iconst (v := 0) hx hb d_WK_passSecond_118 (by decide) ?_
            refine lv_goto (tgt := 128) hx hb d_WK_passSecond_119 (by decide) ?_
            refine va_put (D := (dC, dI)) (ci := 4) (v := .int 0) (ty := .int) (C := R_WK) (T := F_WK) (N := 15) hx hb hts uw_WK t_WK t_WK_ok n_WK hown hK hP hD hS 0 rfl rfl 3 (by decide) (hts _ tw_100) (fun _ h9 => h9) rfl (by decide +kernel) rfl rfl (Nat.le_of_ble_eq_true rfl) d_WK_passSecond_128 (fun H locs hP hD hS => ?_)
            have hP : va_P (dC, dI) vwCl (wd_WK_passSecond q_this q_layout q_plan q_carriers q_entries q_plan_order q_plan_times q_plan_order_moves q_plan_order_rank q_layout_low q_layout_high q_layout_loadedSeconds q_layout_emptySeconds cI (v_second + 1) 0 (v_nextRank + 1) v_entryStopped s18_v_entered s15_v_done s15_v_lastStay s18_v_hoistCarrier s18_v_hoistMove s18_v_hoistEntry s18_v_hoistEnd v_plan_cycle v_plan_order_count v_layout_tanks f_plan_order_moves f_plan_times s18_f_carriers s15_f_entries f_layout_loadedSeconds) H := hP
            have hD : va_D A (wd_WK_passSecond q_this q_layout q_plan q_carriers q_entries q_plan_order q_plan_times q_plan_order_moves q_plan_order_rank q_layout_low q_layout_high q_layout_loadedSeconds q_layout_emptySeconds cI (v_second + 1) 0 (v_nextRank + 1) v_entryStopped s18_v_entered s15_v_done s15_v_lastStay s18_v_hoistCarrier s18_v_hoistMove s18_v_hoistEntry s18_v_hoistEnd v_plan_cycle v_plan_order_count v_layout_tanks f_plan_order_moves f_plan_times s18_f_carriers s15_f_entries f_layout_loadedSeconds) := hD
            refine lv_iload_n hx hb d_WK_passSecond_131 rfl (lv_at hl 0 rfl) ?_
            obtain ⟨hbg, hF⟩ := ox_bgS hF
            cases hF
            exact hq_zret hx hb hr hbg hlocks hP hD hK hS d_WK_passSecond_132
        · have hF := ox_fn hF hb19
          refine lv_iconst (v := 0) hx hb d_WK_passSecond_78 (by decide) ?_
          refine lv_goto (tgt := 88) hx hb d_WK_passSecond_79 (by decide) ?_
          refine va_put (D := (dC, dI)) (ci := 4) (v := .int 0) (ty := .int) (C := R_WK) (T := F_WK) (N := 15) hx hb hts uw_WK t_WK t_WK_ok n_WK hown hK hP hD hS 0 rfl rfl 4 (by decide) (hts _ tw_101) (fun _ h9 => h9) rfl (by decide +kernel) rfl rfl (Nat.le_of_ble_eq_true rfl) d_WK_passSecond_88 (fun H locs hP hD hS => ?_)
          have hP : va_P (dC, dI) vwCl (wd_WK_passSecond q_this q_layout q_plan q_carriers q_entries q_plan_order q_plan_times q_plan_order_moves q_plan_order_rank q_layout_low q_layout_high q_layout_loadedSeconds q_layout_emptySeconds cI v_second v_cycleSecond 0 v_entryStopped s18_v_entered s15_v_done s15_v_lastStay s18_v_hoistCarrier s18_v_hoistMove s18_v_hoistEntry s18_v_hoistEnd v_plan_cycle v_plan_order_count v_layout_tanks f_plan_order_moves f_plan_times s18_f_carriers s15_f_entries f_layout_loadedSeconds) H := hP
          have hD : va_D A (wd_WK_passSecond q_this q_layout q_plan q_carriers q_entries q_plan_order q_plan_times q_plan_order_moves q_plan_order_rank q_layout_low q_layout_high q_layout_loadedSeconds q_layout_emptySeconds cI v_second v_cycleSecond 0 v_entryStopped s18_v_entered s15_v_done s15_v_lastStay s18_v_hoistCarrier s18_v_hoistMove s18_v_hoistEntry s18_v_hoistEnd v_plan_cycle v_plan_order_count v_layout_tanks f_plan_order_moves f_plan_times s18_f_carriers s15_f_entries f_layout_loadedSeconds) := hD
          refine lv_aload_n hx hb d_WK_passSecond_91 rfl (lv_at hl 2 rfl) ?_
          refine lv_dup hx hb d_WK_passSecond_92 rfl ?_
          refine va_get (D := (dC, dI)) (ci := 4) (v := .int v_second) (C := R_WK) (T := F_WK) (N := 15) hx hb hts uw_WK hown hK hP 0 rfl rfl 2 (by decide) (hts _ tw_99) (fun _ h9 => h9) rfl d_WK_passSecond_93 ?_
          refine lv_iconst (v := 1) hx hb d_WK_passSecond_96 (by decide) ?_
          refine lv_iadd hx hb d_WK_passSecond_97 ?_
          refine va_put (D := (dC, dI)) (ci := 4) (v := .int (v_second + 1)) (ty := .int) (C := R_WK) (T := F_WK) (N := 15) hx hb hts uw_WK t_WK t_WK_ok n_WK hown hK hP hD hS 0 rfl rfl 2 (by decide) (hts _ tw_99) (fun _ h9 => h9) rfl (by decide +kernel) rfl rfl (Nat.le_of_ble_eq_true rfl) d_WK_passSecond_98 (fun H locs hP hD hS => ?_)
          have hP : va_P (dC, dI) vwCl (wd_WK_passSecond q_this q_layout q_plan q_carriers q_entries q_plan_order q_plan_times q_plan_order_moves q_plan_order_rank q_layout_low q_layout_high q_layout_loadedSeconds q_layout_emptySeconds cI (v_second + 1) v_cycleSecond 0 v_entryStopped s18_v_entered s15_v_done s15_v_lastStay s18_v_hoistCarrier s18_v_hoistMove s18_v_hoistEntry s18_v_hoistEnd v_plan_cycle v_plan_order_count v_layout_tanks f_plan_order_moves f_plan_times s18_f_carriers s15_f_entries f_layout_loadedSeconds) H := hP
          have hD : va_D A (wd_WK_passSecond q_this q_layout q_plan q_carriers q_entries q_plan_order q_plan_times q_plan_order_moves q_plan_order_rank q_layout_low q_layout_high q_layout_loadedSeconds q_layout_emptySeconds cI (v_second + 1) v_cycleSecond 0 v_entryStopped s18_v_entered s15_v_done s15_v_lastStay s18_v_hoistCarrier s18_v_hoistMove s18_v_hoistEntry s18_v_hoistEnd v_plan_cycle v_plan_order_count v_layout_tanks f_plan_order_moves f_plan_times s18_f_carriers s15_f_entries f_layout_loadedSeconds) := hD
          refine lv_aload_n hx hb d_WK_passSecond_101 rfl (lv_at hl 2 rfl) ?_
          refine lv_aload_n hx hb d_WK_passSecond_102 rfl (lv_at hl 2 rfl) ?_
          refine va_get (D := (dC, dI)) (ci := 4) (v := .int v_cycleSecond) (C := R_WK) (T := F_WK) (N := 15) hx hb hts uw_WK hown hK hP 0 rfl rfl 3 (by decide) (hts _ tw_100) (fun _ h9 => h9) rfl d_WK_passSecond_103 ?_
          refine lv_iconst (v := 1) hx hb d_WK_passSecond_106 (by decide) ?_
          refine lv_iadd hx hb d_WK_passSecond_107 ?_
          refine lv_aload_n hx hb d_WK_passSecond_108 rfl (lv_at hl 2 rfl) ?_
          refine va_get (D := (dC, dI)) (ci := 4) (v := .ref q_plan) (C := R_WK) (T := F_WK) (N := 15) hx hb hts uw_WK hown hK hP 0 rfl rfl 1 (by decide) (hts _ tw_127) (fun _ h9 => h9) rfl d_WK_passSecond_109 ?_
          refine va_get (D := (dC, dI)) (ci := 2) (v := .int v_plan_cycle) (C := R_PL) (T := F_PL) (N := 3) hx hb hts uw_PL hown hK hP 1 rfl rfl 2 (by decide) (hts _ tw_131) (fun _ h9 => h9) rfl d_WK_passSecond_112 ?_
          refine lv_icmp_ne (tgt := 122) hx hb d_WK_passSecond_115 (by decide) (fun hb21 => ?_) (fun hb21 => ?_)
          · have hF := ox_t hF hb21
            refine lv_aload_n hx hb d_WK_passSecond_122 rfl (lv_at hl 2 rfl) ?_
            refine va_get (D := (dC, dI)) (ci := 4) (v := .int v_cycleSecond) (C := R_WK) (T := F_WK) (N := 15) hx hb hts uw_WK hown hK hP 0 rfl rfl 3 (by decide) (hts _ tw_100) (fun _ h9 => h9) rfl d_WK_passSecond_123 ?_
            refine lv_iconst (v := 1) hx hb d_WK_passSecond_126 (by decide) ?_
            refine lv_iadd hx hb d_WK_passSecond_127 ?_
            refine va_put (D := (dC, dI)) (ci := 4) (v := .int (v_cycleSecond + 1)) (ty := .int) (C := R_WK) (T := F_WK) (N := 15) hx hb hts uw_WK t_WK t_WK_ok n_WK hown hK hP hD hS 0 rfl rfl 3 (by decide) (hts _ tw_100) (fun _ h9 => h9) rfl (by decide +kernel) rfl rfl (Nat.le_of_ble_eq_true rfl) d_WK_passSecond_128 (fun H locs hP hD hS => ?_)
            have hP : va_P (dC, dI) vwCl (wd_WK_passSecond q_this q_layout q_plan q_carriers q_entries q_plan_order q_plan_times q_plan_order_moves q_plan_order_rank q_layout_low q_layout_high q_layout_loadedSeconds q_layout_emptySeconds cI (v_second + 1) (v_cycleSecond + 1) 0 v_entryStopped s18_v_entered s15_v_done s15_v_lastStay s18_v_hoistCarrier s18_v_hoistMove s18_v_hoistEntry s18_v_hoistEnd v_plan_cycle v_plan_order_count v_layout_tanks f_plan_order_moves f_plan_times s18_f_carriers s15_f_entries f_layout_loadedSeconds) H := hP
            have hD : va_D A (wd_WK_passSecond q_this q_layout q_plan q_carriers q_entries q_plan_order q_plan_times q_plan_order_moves q_plan_order_rank q_layout_low q_layout_high q_layout_loadedSeconds q_layout_emptySeconds cI (v_second + 1) (v_cycleSecond + 1) 0 v_entryStopped s18_v_entered s15_v_done s15_v_lastStay s18_v_hoistCarrier s18_v_hoistMove s18_v_hoistEntry s18_v_hoistEnd v_plan_cycle v_plan_order_count v_layout_tanks f_plan_order_moves f_plan_times s18_f_carriers s15_f_entries f_layout_loadedSeconds) := hD
            refine lv_iload_n hx hb d_WK_passSecond_131 rfl (lv_at hl 0 rfl) ?_
            obtain ⟨hbg, hF⟩ := ox_bgS hF
            cases hF
            exact hq_zret hx hb hr hbg hlocks hP hD hK hS d_WK_passSecond_132
          · have hF := ox_fn hF hb21
            refine lv_iconst (v := 0) hx hb d_WK_passSecond_118 (by decide) ?_
            refine lv_goto (tgt := 128) hx hb d_WK_passSecond_119 (by decide) ?_
            refine va_put (D := (dC, dI)) (ci := 4) (v := .int 0) (ty := .int) (C := R_WK) (T := F_WK) (N := 15) hx hb hts uw_WK t_WK t_WK_ok n_WK hown hK hP hD hS 0 rfl rfl 3 (by decide) (hts _ tw_100) (fun _ h9 => h9) rfl (by decide +kernel) rfl rfl (Nat.le_of_ble_eq_true rfl) d_WK_passSecond_128 (fun H locs hP hD hS => ?_)
            have hP : va_P (dC, dI) vwCl (wd_WK_passSecond q_this q_layout q_plan q_carriers q_entries q_plan_order q_plan_times q_plan_order_moves q_plan_order_rank q_layout_low q_layout_high q_layout_loadedSeconds q_layout_emptySeconds cI (v_second + 1) 0 0 v_entryStopped s18_v_entered s15_v_done s15_v_lastStay s18_v_hoistCarrier s18_v_hoistMove s18_v_hoistEntry s18_v_hoistEnd v_plan_cycle v_plan_order_count v_layout_tanks f_plan_order_moves f_plan_times s18_f_carriers s15_f_entries f_layout_loadedSeconds) H := hP
            have hD : va_D A (wd_WK_passSecond q_this q_layout q_plan q_carriers q_entries q_plan_order q_plan_times q_plan_order_moves q_plan_order_rank q_layout_low q_layout_high q_layout_loadedSeconds q_layout_emptySeconds cI (v_second + 1) 0 0 v_entryStopped s18_v_entered s15_v_done s15_v_lastStay s18_v_hoistCarrier s18_v_hoistMove s18_v_hoistEntry s18_v_hoistEnd v_plan_cycle v_plan_order_count v_layout_tanks f_plan_order_moves f_plan_times s18_f_carriers s15_f_entries f_layout_loadedSeconds) := hD
            refine lv_iload_n hx hb d_WK_passSecond_131 rfl (lv_at hl 0 rfl) ?_
            obtain ⟨hbg, hF⟩ := ox_bgS hF
            cases hF
            exact hq_zret hx hb hr hbg hlocks hP hD hK hS d_WK_passSecond_132
abbrev wd_WK_isDrained (q_this : Nat) (q_layout : Nat) (q_plan : Nat) (q_carriers : Nat) (q_entries : Nat) (q_layout_low : Nat) (q_layout_high : Nat) (q_layout_loadedSeconds : Nat) (q_layout_emptySeconds : Nat) (cI : ClassId) (v_second : Int32) (v_cycleSecond : Int32) (v_nextRank : Int32) (v_entryStopped : Int32) (v_entered : Int32) (v_done : Int32) (v_lastStay : Int32) (v_hoistCarrier : Int32) (v_hoistMove : Int32) (v_hoistEntry : Int32) (v_hoistEnd : Int32) (v_layout_tanks : Int32) (f_carriers : Nat → Int32) : va_W := [(q_this, .inr (4, [.ref q_layout, .ref q_plan, .int v_second, .int v_cycleSecond, .int v_nextRank, .int v_entryStopped, .int v_entered, .int v_done, .int v_lastStay, .int v_hoistCarrier, .int v_hoistMove, .int v_hoistEntry, .int v_hoistEnd, .ref q_carriers, .ref q_entries])), (q_layout, .inr (0, [.int v_layout_tanks, .ref q_layout_low, .ref q_layout_high, .ref q_layout_loadedSeconds, .ref q_layout_emptySeconds])), (q_carriers, .inl (cI, 6, .inl f_carriers))]
set_option maxHeartbeats 4000000 in
set_option maxRecDepth 100000 in
theorem c_WK_isDrained (l : Launch) (dC : Nat → ClassId) (dI : Nat → Nat → Nat) (q_this : Nat) (q_layout : Nat) (q_plan : Nat) (q_carriers : Nat) (q_entries : Nat) (q_layout_low : Nat) (q_layout_high : Nat) (q_layout_loadedSeconds : Nat) (q_layout_emptySeconds : Nat) (cI : ClassId) (sz : Nat) (z : Nat) (v_second : Int32) (v_cycleSecond : Int32) (v_nextRank : Int32) (v_entryStopped : Int32) (v_entered : Int32) (v_done : Int32) (v_lastStay : Int32) (v_hoistCarrier : Int32) (v_hoistMove : Int32) (v_hoistEntry : Int32) (v_hoistEnd : Int32) (v_layout_tanks : Int32) (f_carriers : Nat → Int32) (rr : Int32) (hF : fn_WK_isDrained z v_hoistCarrier v_layout_tanks f_carriers = some rr) : Met l y_WK_isDrained w_WK_isDrained ({ frames := 0, cells := 0, slots := 0, locals := 0 }) (hq_Pc (dC, dI) vwCl [(cI, .int)] (wd_WK_isDrained q_this q_layout q_plan q_carriers q_entries q_layout_low q_layout_high q_layout_loadedSeconds q_layout_emptySeconds cI v_second v_cycleSecond v_nextRank v_entryStopped v_entered v_done v_lastStay v_hoistCarrier v_hoistMove v_hoistEntry v_hoistEnd v_layout_tanks f_carriers) sz [.ref q_this]) (hq_Qi (dC, dI) vwCl [(cI, .int)] (wd_WK_isDrained q_this q_layout q_plan q_carriers q_entries q_layout_low q_layout_high q_layout_loadedSeconds q_layout_emptySeconds cI v_second v_cycleSecond v_nextRank v_entryStopped v_entered v_done v_lastStay v_hoistCarrier v_hoistMove v_hoistEntry v_hoistEnd v_layout_tanks f_carriers) rr (va_A (wd_WK_isDrained q_this q_layout q_plan q_carriers q_entries q_layout_low q_layout_high q_layout_loadedSeconds q_layout_emptySeconds cI v_second v_cycleSecond v_nextRank v_entryStopped v_entered v_done v_lastStay v_hoistCarrier v_hoistMove v_hoistEntry v_hoistEnd v_layout_tanks f_carriers) sz)) 0 0 (va_A (wd_WK_isDrained q_this q_layout q_plan q_carriers q_entries q_layout_low q_layout_high q_layout_loadedSeconds q_layout_emptySeconds cI v_second v_cycleSecond v_nextRank v_entryStopped v_entered v_done v_lastStay v_hoistCarrier v_hoistMove v_hoistEntry v_hoistEnd v_layout_tanks f_carriers) sz) := by
  refine hq_met (Qc := (hq_Qi (dC, dI) vwCl [(cI, .int)] (wd_WK_isDrained q_this q_layout q_plan q_carriers q_entries q_layout_low q_layout_high q_layout_loadedSeconds q_layout_emptySeconds cI v_second v_cycleSecond v_nextRank v_entryStopped v_entered v_done v_lastStay v_hoistCarrier v_hoistMove v_hoistEntry v_hoistEnd v_layout_tanks f_carriers) rr)) (cc := b_WK_isDrained) (maxL := 2) (ret := some .boolean) (by decide) rfl (Nat.le_of_ble_eq_true rfl) ?_
  intro p e s m args below meth c A ls hx hb hr hml hts hown hlocks hnm hP hD hK hA hS hl
  have hts : ∀ w ∈ tb0, w.before args s = true := fun w h => hts w (List.mem_cons_of_mem _ h)
  have hown : s.vm.findClass R_WK = some m.cls := hown
  have hl : lv_has ls 2 [(0, .ref q_this)] := hl
  unfold fn_WK_isDrained at hF
  have loop : ∀ fu : Nat, (∀ (i1 : Int32) (H : Heap) (locs : List Loc) (ls : Array Slot), va_P (dC, dI) vwCl (wd_WK_isDrained q_this q_layout q_plan q_carriers q_entries q_layout_low q_layout_high q_layout_loadedSeconds q_layout_emptySeconds cI v_second v_cycleSecond v_nextRank v_entryStopped v_entered v_done v_lastStay v_hoistCarrier v_hoistMove v_hoistEntry v_hoistEnd v_layout_tanks f_carriers) H → va_D A (wd_WK_isDrained q_this q_layout q_plan q_carriers q_entries q_layout_low q_layout_high q_layout_loadedSeconds q_layout_emptySeconds cI v_second v_cycleSecond v_nextRank v_entryStopped v_entered v_done v_lastStay v_hoistCarrier v_hoistMove v_hoistEntry v_hoistEnd v_layout_tanks f_carriers) → va_S A s.heap H locs → lv_has ls 2 [(0, .ref q_this), (1, .int i1)] → lp_WK_isDrained v_hoistCarrier v_layout_tanks f_carriers fu 0 i1 = some rr → W p l e ({ frames := 0, cells := 0, slots := 0, locals := 0 }) s m args below meth c H locs 0 0 (MQ below ((hq_Qi (dC, dI) vwCl [(cI, .int)] (wd_WK_isDrained q_this q_layout q_plan q_carriers q_entries q_layout_low q_layout_high q_layout_loadedSeconds q_layout_emptySeconds cI v_second v_cycleSecond v_nextRank v_entryStopped v_entered v_done v_lastStay v_hoistCarrier v_hoistMove v_hoistEntry v_hoistEnd v_layout_tanks f_carriers) rr) A) args s 0 0 A) (F0 m 2 ls [])) := by
    intro fu
    induction fu with
    | zero => exact (fun _ _ _ _ _ _ _ _ h => by cases h)
    | succ fu ih =>
      intro i1 H locs ls hP hD hS hl hF
      have hF : st_WK_isDrained v_hoistCarrier v_layout_tanks f_carriers (lp_WK_isDrained v_hoistCarrier v_layout_tanks f_carriers fu) 0 i1 = some rr := hF
      unfold st_WK_isDrained at hF
      try dsimp only at hF
      refine lv_iload_n hx hb d_WK_isDrained_2 rfl (lv_at hl 1 rfl) ?_
      refine lv_aload_n hx hb d_WK_isDrained_3 rfl (lv_at hl 0 rfl) ?_
      refine va_get (D := (dC, dI)) (ci := 4) (v := .ref q_layout) (C := R_WK) (T := F_WK) (N := 15) hx hb hts uw_WK hown hK hP 0 rfl rfl 0 (by decide) (hts _ tw_116) (fun _ h9 => h9) rfl d_WK_isDrained_4 ?_
      refine va_get (D := (dC, dI)) (ci := 0) (v := .int v_layout_tanks) (C := R_LY) (T := F_LY) (N := 5) hx hb hts uw_LY hown hK hP 1 rfl rfl 0 (by decide) (hts _ tw_117) (fun _ h9 => h9) rfl d_WK_isDrained_7 ?_
      refine lv_icmp_gt (tgt := 30) hx hb d_WK_isDrained_10 (by decide) (fun hb1 => ?_) (fun hb1 => ?_)
      · have hF := ox_t hF hb1
        refine lv_aload_n hx hb d_WK_isDrained_30 rfl (lv_at hl 0 rfl) ?_
        refine va_get (D := (dC, dI)) (ci := 4) (v := .int v_hoistCarrier) (C := R_WK) (T := F_WK) (N := 15) hx hb hts uw_WK hown hK hP 0 rfl rfl 9 (by decide) (hts _ tw_97) (fun _ h9 => h9) rfl d_WK_isDrained_31 ?_
        refine lv_if_ne (tgt := 41) hx hb d_WK_isDrained_34 (by decide) (fun hb2 => ?_) (fun hb2 => ?_)
        · have hF := ox_t hF hb2
          refine lv_iconst (v := 0) hx hb d_WK_isDrained_41 (by decide) ?_
          cases hF
          exact hq_zret hx hb hr (by decide) hlocks hP hD hK hS d_WK_isDrained_42
        · have hF := ox_fn hF hb2
          refine lv_iconst (v := 1) hx hb d_WK_isDrained_37 (by decide) ?_
          refine lv_goto (tgt := 42) hx hb d_WK_isDrained_38 (by decide) ?_
          cases hF
          exact hq_zret hx hb hr (by decide) hlocks hP hD hK hS d_WK_isDrained_42
      · have hF := ox_f hF hb1
        refine lv_aload_n hx hb d_WK_isDrained_13 rfl (lv_at hl 0 rfl) ?_
        refine va_get (D := (dC, dI)) (ci := 4) (v := .ref q_carriers) (C := R_WK) (T := F_WK) (N := 15) hx hb hts uw_WK hown hK hP 0 rfl rfl 13 (by decide) (hts _ tw_113) (fun _ h9 => h9) rfl d_WK_isDrained_14 ?_
        refine lv_iload_n hx hb d_WK_isDrained_17 rfl (lv_at hl 1 rfl) ?_
        obtain ⟨hin, hF⟩ := ox_gdS hF
        refine va_iald hx hb hK hP 2 0 rfl rfl hin d_WK_isDrained_18 ?_
        refine lv_if_eq (tgt := 24) hx hb d_WK_isDrained_19 (by decide) (fun hb3 => ?_) (fun hb3 => ?_)
        · have hF := ox_t hF hb3
          refine lv_iinc (v := (i1 + 1)) (lv' := [(1, .int (i1 + 1)), (0, .ref q_this)]) hx hb d_WK_isDrained_24 hl (k := 1) rfl rfl (by decide) rfl (fun ls hl => ?_)
          refine lv_goto (tgt := 2) hx hb d_WK_isDrained_27 (by decide) ?_
          exact ih (i1 + 1) _ _ _ hP hD hS (lv_sub hl [1, 0] rfl) hF
        · have hF := ox_f hF hb3
          refine lv_iconst (v := 0) hx hb d_WK_isDrained_22 (by decide) ?_
          cases hF
          exact hq_zret hx hb hr (by decide) hlocks hP hD hK hS d_WK_isDrained_23
  refine lv_iconst (v := 1) hx hb d_WK_isDrained_0 (by decide) ?_
  refine lv_istore_n (lv' := [(1, .int 1), (0, .ref q_this)]) hx hb d_WK_isDrained_1 rfl hl (by decide) rfl (fun ls hl => ?_)
  exact (loop z) 1 _ _ _ hP hD hS (lv_sub hl [1, 0] rfl) hF
