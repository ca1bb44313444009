abbrev wd_PL_keep (q_this : Nat) (q_order : Nat) (q_times : Nat) (q_p1 : Nat) (q_p1_moves : Nat) (q_p1_rank : Nat) (q_order_moves : Nat) (q_order_rank : Nat) (q_p2 : Nat) (cI : ClassId) (v_cycle : Int32) (v_p1_count : Int32) (v_order_count : Int32) (f_p1_moves : Nat → Int32) (f_order_moves : Nat → Int32) (f_p1_rank : Nat → Int32) (f_order_rank : Nat → Int32) (f_p2 : Nat → Int32) (f_times : Nat → Int32) : va_W := [(q_this, .inr (2, [.ref q_order, .ref q_times, .int v_cycle])), (q_p1, .inr (1, [.int v_p1_count, .ref q_p1_moves, .ref q_p1_rank])), (q_order, .inr (1, [.int v_order_count, .ref q_order_moves, .ref q_order_rank])), (q_p1_moves, .inl (cI, 6, .inl f_p1_moves)), (q_order_moves, .inl (cI, 6, .inl f_order_moves)), (q_p1_rank, .inl (cI, 6, .inl f_p1_rank)), (q_order_rank, .inl (cI, 6, .inl f_order_rank)), (q_p2, .inl (cI, 6, .inl f_p2)), (q_times, .inl (cI, 6, .inl f_times))]
set_option maxHeartbeats 4000000 in
set_option maxRecDepth 100000 in
theorem c_PL_keep (l : Launch) (dC : Nat → ClassId) (dI : Nat → Nat → Nat) (q_this : Nat) (q_order : Nat) (q_times : Nat) (q_p1 : Nat) (q_p1_moves : Nat) (q_p1_rank : Nat) (q_order_moves : Nat) (q_order_rank : Nat) (q_p2 : Nat) (cI : ClassId) (sz : Nat) (a3 : Int32) (v_cycle : Int32) (v_p1_count : Int32) (v_order_count : Int32) (f_p1_moves : Nat → Int32) (f_order_moves : Nat → Int32) (f_p1_rank : Nat → Int32) (f_order_rank : Nat → Int32) (f_p2 : Nat → Int32) (f_times : Nat → Int32) (n_v_cycle : Int32) (n_v_order_count : Int32) (n_f_order_moves : Nat → Int32) (n_f_order_rank : Nat → Int32) (n_f_times : Nat → Int32) (hF : fn_PL_keep a3 v_cycle v_p1_count v_order_count f_p1_moves f_order_moves f_p1_rank f_order_rank f_p2 f_times = some (n_v_cycle, n_v_order_count, n_f_order_moves, n_f_order_rank, n_f_times)) : Met l y_PL_keep w_PL_keep ({ frames := 2, cells := 0, slots := 0, locals := 81 }) (hq_Pc (dC, dI) vwCl [(cI, .int)] (wd_PL_keep q_this q_order q_times q_p1 q_p1_moves q_p1_rank q_order_moves q_order_rank q_p2 cI v_cycle v_p1_count v_order_count f_p1_moves f_order_moves f_p1_rank f_order_rank f_p2 f_times) sz [.ref q_this, .ref q_p1, .ref q_p2, .int a3]) (hq_Qv (dC, dI) vwCl [(cI, .int)] (wd_PL_keep q_this q_order q_times q_p1 q_p1_moves q_p1_rank q_order_moves q_order_rank q_p2 cI n_v_cycle v_p1_count n_v_order_count f_p1_moves n_f_order_moves f_p1_rank n_f_order_rank f_p2 n_f_times) (va_A (wd_PL_keep q_this q_order q_times q_p1 q_p1_moves q_p1_rank q_order_moves q_order_rank q_p2 cI v_cycle v_p1_count v_order_count f_p1_moves f_order_moves f_p1_rank f_order_rank f_p2 f_times) sz)) 0 0 (va_A (wd_PL_keep q_this q_order q_times q_p1 q_p1_moves q_p1_rank q_order_moves q_order_rank q_p2 cI v_cycle v_p1_count v_order_count f_p1_moves f_order_moves f_p1_rank f_order_rank f_p2 f_times) sz) := by
  refine hq_met (Qc := (hq_Qv (dC, dI) vwCl [(cI, .int)] (wd_PL_keep q_this q_order q_times q_p1 q_p1_moves q_p1_rank q_order_moves q_order_rank q_p2 cI n_v_cycle v_p1_count n_v_order_count f_p1_moves n_f_order_moves f_p1_rank n_f_order_rank f_p2 n_f_times))) (cc := b_PL_keep) (maxL := 4) (ret := none) (by decide) rfl (Nat.le_of_ble_eq_true rfl) ?_
  intro p e s m args below meth c A ls hx hb hr hml hts hown hlocks hnm hP hD hK hA hS hl
  have hts : ∀ w ∈ tb0, w.before args s = true := fun w h => hts w (List.mem_cons_of_mem _ h)
  have hown : s.vm.findClass R_PL = some m.cls := hown
  have hl : lv_has ls 4 [(0, .ref q_this), (1, .ref q_p1), (2, .ref q_p2), (3, .int a3)] := hl
  unfold fn_PL_keep at hF
  refine lv_aload_n hx hb d_PL_keep_0 rfl (lv_at hl 0 rfl) ?_
  refine va_get (D := (dC, dI)) (ci := 2) (v := .ref q_order) (C := R_PL) (T := F_PL) (N := 3) hx hb hts uw_PL hown hK hP 0 rfl rfl 0 (by decide) (hts _ tw_87) (fun _ h9 => h9) rfl d_PL_keep_1 ?_
  refine lv_aload_n hx hb d_PL_keep_4 rfl (lv_at hl 1 rfl) ?_
  obtain ⟨⟨s1_v_count, s1_f_moves, s1_f_rank⟩, hc1, hF⟩ := ox_clS hF
  refine hq_cv (ws' := (wd_PL_keep q_this q_order q_times q_p1 q_p1_moves q_p1_rank q_order_moves q_order_rank q_p2 cI v_cycle v_p1_count s1_v_count f_p1_moves s1_f_moves f_p1_rank s1_f_rank f_p2 f_times)) (hq_rV (As := [.ref q_p1]) (rest := []) ⟨hx, hb, hml, hown, hts⟩ (c_OR_copyFrom l dC dI q_p1 q_p1_moves q_p1_rank q_order q_order_moves q_order_rank cI _ v_p1_count v_order_count f_p1_moves f_order_moves f_p1_rank f_order_rank s1_v_count s1_f_moves s1_f_rank hc1) (cwV 1 hts (hq_gV tw_88 tw_89 tw_90 tw_24 tw_91) rfl rfl rfl yv_OR_copyFrom ⟨Nat.le_of_ble_eq_true rfl, Nat.le_of_ble_eq_true rfl⟩) hP hD hK [0] rfl 2 rfl rfl [1, 2, 3, 4, 5, 6] rfl rfl rfl hl.1 rfl (Nat.le_of_ble_eq_true rfl) d_PL_keep_5 ⟨Nat.zero_le _, Nat.zero_le _⟩) hP hD hS hA [1, 2, 3, 4, 5, 6] [0, 7, 8] [0, 3, 4, 5, 6, 7, 8, 1, 2] rfl rfl rfl (by decide) rfl rfl (fun H locs hP hD hS => ?_)
  refine lv_aload_n hx hb d_PL_keep_8 rfl (lv_at hl 2 rfl) ?_
  refine lv_iconst (v := 0) hx hb d_PL_keep_9 (by decide) ?_
  refine lv_aload_n hx hb d_PL_keep_10 rfl (lv_at hl 0 rfl) ?_
  refine va_get (D := (dC, dI)) (ci := 2) (v := .ref q_times) (C := R_PL) (T := F_PL) (N := 3) hx hb hts uw_PL hown hK hP 0 rfl rfl 1 (by decide) (hts _ tw_92) (fun _ h9 => h9) rfl d_PL_keep_11 ?_
  refine lv_iconst (v := 0) hx hb d_PL_keep_14 (by decide) ?_
  refine lv_bipush (v := 6) hx hb d_PL_keep_15 (by decide) ?_
  refine va_copyi hx hb (by rw [hml]; exact hl.1.symm) hown (hts _ tw_93) (hts _ tw_36) (hts _ tw_37) (hts _ tw_38) hK hP hD hS 7 8 0 0 rfl rfl rfl rfl rfl (by decide) (by decide) (by decide) (by decide) (by decide) (fun _ _ => rfl) (by decide) (by decide) d_PL_keep_17 (fun H locs hP hD hS => ?_)
  have hP : va_P (dC, dI) vwCl (wd_PL_keep q_this q_order q_times q_p1 q_p1_moves q_p1_rank q_order_moves q_order_rank q_p2 cI v_cycle v_p1_count s1_v_count f_p1_moves s1_f_moves f_p1_rank s1_f_rank f_p2 (va_cpy f_p2 f_times 0 0 6)) H := hP
  have hD : va_D A (wd_PL_keep q_this q_order q_times q_p1 q_p1_moves q_p1_rank q_order_moves q_order_rank q_p2 cI v_cycle v_p1_count s1_v_count f_p1_moves s1_f_moves f_p1_rank s1_f_rank f_p2 (va_cpy f_p2 f_times 0 0 6)) := hD
  refine lv_aload_n hx hb d_PL_keep_20 rfl (lv_at hl 0 rfl) ?_
  refine lv_iload_n hx hb d_PL_keep_21 rfl (lv_at hl 3 rfl) ?_
  refine va_put (D := (dC, dI)) (ci := 2) (v := .int a3) (ty := .int) (C := R_PL) (T := F_PL) (N := 3) hx hb hts uw_PL t_PL t_PL_ok n_PL hown hK hP hD hS 0 rfl rfl 2 (by decide) (hts _ tw_94) (fun _ h9 => h9) rfl (by decide +kernel) rfl rfl (Nat.le_of_ble_eq_true rfl) d_PL_keep_22 (fun H locs hP hD hS => ?_)
  have hP : va_P (dC, dI) vwCl (wd_PL_keep q_this q_order q_times q_p1 q_p1_moves q_p1_rank q_order_moves q_order_rank q_p2 cI a3 v_p1_count s1_v_count f_p1_moves s1_f_moves f_p1_rank s1_f_rank f_p2 (va_cpy f_p2 f_times 0 0 6)) H := hP
  have hD : va_D A (wd_PL_keep q_this q_order q_times q_p1 q_p1_moves q_p1_rank q_order_moves q_order_rank q_p2 cI a3 v_p1_count s1_v_count f_p1_moves s1_f_moves f_p1_rank s1_f_rank f_p2 (va_cpy f_p2 f_times 0 0 6)) := hD
  cases hF
  exact hq_vret hx hb hr hlocks hP hD hK hS d_PL_keep_25
abbrev wd_PL_soakSeconds (q_this : Nat) (q_order : Nat) (q_times : Nat) (q_p2 : Nat) (q_p2_low : Nat) (q_p2_high : Nat) (q_p2_loadedSeconds : Nat) (q_p2_emptySeconds : Nat) (q_order_moves : Nat) (q_order_rank : Nat) (cI : ClassId) (v_cycle : Int32) (v_p2_tanks : Int32) (v_order_count : Int32) (f_times : Nat → Int32) (f_p2_loadedSeconds : Nat → Int32) (f_order_rank : Nat → Int32) : va_W := [(q_this, .inr (2, [.ref q_order, .ref q_times, .int v_cycle])), (q_p2, .inr (0, [.int v_p2_tanks, .ref q_p2_low, .ref q_p2_high, .ref q_p2_loadedSeconds, .ref q_p2_emptySeconds])), (q_order, .inr (1, [.int v_order_count, .ref q_order_moves, .ref q_order_rank])), (q_times, .inl (cI, 6, .inl f_times)), (q_p2_loadedSeconds, .inl (cI, 6, .inl f_p2_loadedSeconds)), (q_order_rank, .inl (cI, 6, .inl f_order_rank))]
set_option maxHeartbeats 4000000 in
set_option maxRecDepth 100000 in
theorem c_PL_soakSeconds (l : Launch) (dC : Nat → ClassId) (dI : Nat → Nat → Nat) (q_this : Nat) (q_order : Nat) (q_times : Nat) (q_p2 : Nat) (q_p2_low : Nat) (q_p2_high : Nat) (q_p2_loadedSeconds : Nat) (q_p2_emptySeconds : Nat) (q_order_moves : Nat) (q_order_rank : Nat) (cI : ClassId) (sz : Nat) (a1 : Int32) (v_cycle : Int32) (v_p2_tanks : Int32) (v_order_count : Int32) (f_times : Nat → Int32) (f_p2_loadedSeconds : Nat → Int32) (f_order_rank : Nat → Int32) (rr : Int32) (hF : fn_PL_soakSeconds a1 v_cycle f_times f_p2_loadedSeconds f_order_rank = some rr) : Met l y_PL_soakSeconds w_PL_soakSeconds ({ frames := 1, cells := 0, slots := 0, locals := 21 }) (hq_Pc (dC, dI) vwCl [(cI, .int)] (wd_PL_soakSeconds q_this q_order q_times q_p2 q_p2_low q_p2_high q_p2_loadedSeconds q_p2_emptySeconds q_order_moves q_order_rank cI v_cycle v_p2_tanks v_order_count f_times f_p2_loadedSeconds f_order_rank) sz [.ref q_this, .int a1, .ref q_p2]) (hq_Qi (dC, dI) vwCl [(cI, .int)] (wd_PL_soakSeconds q_this q_order q_times q_p2 q_p2_low q_p2_high q_p2_loadedSeconds q_p2_emptySeconds q_order_moves q_order_rank cI v_cycle v_p2_tanks v_order_count f_times f_p2_loadedSeconds f_order_rank) rr (va_A (wd_PL_soakSeconds q_this q_order q_times q_p2 q_p2_low q_p2_high q_p2_loadedSeconds q_p2_emptySeconds q_order_moves q_order_rank cI v_cycle v_p2_tanks v_order_count f_times f_p2_loadedSeconds f_order_rank) sz)) 0 0 (va_A (wd_PL_soakSeconds q_this q_order q_times q_p2 q_p2_low q_p2_high q_p2_loadedSeconds q_p2_emptySeconds q_order_moves q_order_rank cI v_cycle v_p2_tanks v_order_count f_times f_p2_loadedSeconds f_order_rank) sz) := by
  refine hq_met (Qc := (hq_Qi (dC, dI) vwCl [(cI, .int)] (wd_PL_soakSeconds q_this q_order q_times q_p2 q_p2_low q_p2_high q_p2_loadedSeconds q_p2_emptySeconds q_order_moves q_order_rank cI v_cycle v_p2_tanks v_order_count f_times f_p2_loadedSeconds f_order_rank) rr)) (cc := b_PL_soakSeconds) (maxL := 4) (ret := some .int) (by decide) rfl (Nat.le_of_ble_eq_true rfl) ?_
  intro p e s m args below meth c A ls hx hb hr hml hts hown hlocks hnm hP hD hK hA hS hl
  have hts : ∀ w ∈ tb0, w.before args s = true := fun w h => hts w (List.mem_cons_of_mem _ h)
  have hown : s.vm.findClass R_PL = some m.cls := hown
  have hl : lv_has ls 4 [(0, .ref q_this), (1, .int a1), (2, .ref q_p2)] := hl
  unfold fn_PL_soakSeconds at hF
  refine lv_aload_n hx hb d_PL_soakSeconds_0 rfl (lv_at hl 0 rfl) ?_
  refine va_get (D := (dC, dI)) (ci := 2) (v := .ref q_times) (C := R_PL) (T := F_PL) (N := 3) hx hb hts uw_PL hown hK hP 0 rfl rfl 1 (by decide) (hts _ tw_92) (fun _ h9 => h9) rfl d_PL_soakSeconds_1 ?_
  refine lv_iload_n hx hb d_PL_soakSeconds_4 rfl (lv_at hl 1 rfl) ?_
  refine lv_iconst (v := 1) hx hb d_PL_soakSeconds_5 (by decide) ?_
  refine lv_isub hx hb d_PL_soakSeconds_6 ?_
  obtain ⟨hin, hF⟩ := ox_gdS hF
  refine va_iald hx hb hK hP 3 0 rfl rfl hin d_PL_soakSeconds_7 ?_
  refine lv_aload_n hx hb d_PL_soakSeconds_8 rfl (lv_at hl 2 rfl) ?_
  refine va_get (D := (dC, dI)) (ci := 0) (v := .ref q_p2_loadedSeconds) (C := R_LY) (T := F_LY) (N := 5) hx hb hts uw_LY hown hK hP 1 rfl rfl 3 (by decide) (hts _ tw_95) (fun _ h9 => h9) rfl d_PL_soakSeconds_9 ?_
  refine lv_iload_n hx hb d_PL_soakSeconds_12 rfl (lv_at hl 1 rfl) ?_
  refine lv_iconst (v := 1) hx hb d_PL_soakSeconds_13 (by decide) ?_
  refine lv_isub hx hb d_PL_soakSeconds_14 ?_
  obtain ⟨hin, hF⟩ := ox_gdS hF
  refine va_iald hx hb hK hP 4 0 rfl rfl hin d_PL_soakSeconds_15 ?_
  refine lv_iadd hx hb d_PL_soakSeconds_16 ?_
  refine lv_istore_n (lv' := [(3, .int ((f_times (a1 - 1).toNatClampNeg) + (f_p2_loadedSeconds (a1 - 1).toNatClampNeg))), (0, .ref q_this), (1, .int a1), (2, .ref q_p2)]) hx hb d_PL_soakSeconds_17 rfl hl (by decide) rfl (fun ls hl => ?_)
  refine lv_aload_n hx hb d_PL_soakSeconds_18 rfl (lv_at hl 1 rfl) ?_
  refine va_get (D := (dC, dI)) (ci := 2) (v := .ref q_times) (C := R_PL) (T := F_PL) (N := 3) hx hb hts uw_PL hown hK hP 0 rfl rfl 1 (by decide) (hts _ tw_92) (fun _ h9 => h9) rfl d_PL_soakSeconds_19 ?_
  refine lv_iload_n hx hb d_PL_soakSeconds_22 rfl (lv_at hl 2 rfl) ?_
  obtain ⟨hin, hF⟩ := ox_gdS hF
  refine va_iald hx hb hK hP 3 0 rfl rfl hin d_PL_soakSeconds_23 ?_
  refine lv_aload_n hx hb d_PL_soakSeconds_24 rfl (lv_at hl 1 rfl) ?_
  refine va_get (D := (dC, dI)) (ci := 2) (v := .ref q_order) (C := R_PL) (T := F_PL) (N := 3) hx hb hts uw_PL hown hK hP 0 rfl rfl 0 (by decide) (hts _ tw_87) (fun _ h9 => h9) rfl d_PL_soakSeconds_25 ?_
  refine lv_iload_n hx hb d_PL_soakSeconds_28 rfl (lv_at hl 2 rfl) ?_
  obtain ⟨r1, hc1, hF⟩ := ox_clS hF
  refine hq_ci (ws' := (wd_PL_soakSeconds q_this q_order q_times q_p2 q_p2_low q_p2_high q_p2_loadedSeconds q_p2_emptySeconds q_order_moves q_order_rank cI v_cycle v_p2_tanks v_order_count f_times f_p2_loadedSeconds f_order_rank)) (hq_rV (As := [.int a1]) (rest := [.int (f_times a1.toNatClampNeg)]) ⟨hx, hb, hml, hown, hts⟩ (c_OR_soakTurns l dC dI q_order q_order_moves q_order_rank cI _ a1 v_order_count f_order_rank r1 hc1) (cwV 1 hts (hq_gV tw_96 tw_55 tw_56 tw_24 tw_57) rfl rfl rfl yv_OR_soakTurns ⟨Nat.le_of_ble_eq_true rfl, Nat.le_of_ble_eq_true rfl⟩) hP hD hK [0] rfl 2 rfl rfl [2, 5] rfl rfl rfl hl.1 rfl (Nat.le_of_ble_eq_true rfl) d_PL_soakSeconds_29 ⟨Nat.zero_le _, Nat.zero_le _⟩) hP hD hS hA [2, 5] [0, 1, 3, 4] [0, 1, 4, 2, 3, 5] rfl rfl rfl (by decide) rfl rfl (fun H locs hP hD hS => ?_)
  refine lv_aload_n hx hb d_PL_soakSeconds_32 rfl (lv_at hl 1 rfl) ?_
  refine va_get (D := (dC, dI)) (ci := 2) (v := .int v_cycle) (C := R_PL) (T := F_PL) (N := 3) hx hb hts uw_PL hown hK hP 0 rfl rfl 2 (by decide) (hts _ tw_94) (fun _ h9 => h9) rfl d_PL_soakSeconds_33 ?_
  refine lv_imul hx hb d_PL_soakSeconds_36 ?_
  refine lv_iadd hx hb d_PL_soakSeconds_37 ?_
  refine lv_iload_n hx hb d_PL_soakSeconds_38 rfl (lv_at hl 0 rfl) ?_
  refine lv_isub hx hb d_PL_soakSeconds_39 ?_
  cases hF
  exact hq_iret hx hb hr hlocks hP hD hK hS d_PL_soakSeconds_40
