abbrev wd_MD_thrown (q_this : Nat) (q_low : Nat) (q_high : Nat) (q_loaded : Nat) (q_empty : Nat) (q_order : Nat) (q_places : Nat) (q_times : Nat) (q_planOrder : Nat) (q_planTimes : Nat) (q_carriers : Nat) (q_begins : Nat) (v_thrown : Int32) (v_tanks : Int32) (v_hasPlan : Int32) (v_cycle : Int32) (v_second : Int32) (v_entered : Int32) (v_done : Int32) (v_took : Int32) (v_stopped : Int32) (v_move : Int32) (v_ends : Int32) (v_onHoist : Int32) (v_began : Int32) : va_W := [(q_this, .inr (6, [.int v_thrown, .int v_tanks, .ref q_low, .ref q_high, .ref q_loaded, .ref q_empty, .ref q_order, .ref q_places, .ref q_times, .int v_hasPlan, .int v_cycle, .ref q_planOrder, .ref q_planTimes, .int v_second, .int v_entered, .int v_done, .int v_took, .int v_stopped, .ref q_carriers, .ref q_begins, .int v_move, .int v_ends, .int v_onHoist, .int v_began]))]
set_option maxHeartbeats 4000000 in
set_option maxRecDepth 100000 in
theorem c_MD_thrown (l : Launch) (dC : Nat → ClassId) (dI : Nat → Nat → Nat) (q_this : Nat) (q_low : Nat) (q_high : Nat) (q_loaded : Nat) (q_empty : Nat) (q_order : Nat) (q_places : Nat) (q_times : Nat) (q_planOrder : Nat) (q_planTimes : Nat) (q_carriers : Nat) (q_begins : Nat) (sz : Nat) (v_thrown : Int32) (v_tanks : Int32) (v_hasPlan : Int32) (v_cycle : Int32) (v_second : Int32) (v_entered : Int32) (v_done : Int32) (v_took : Int32) (v_stopped : Int32) (v_move : Int32) (v_ends : Int32) (v_onHoist : Int32) (v_began : Int32) (rr : Int32) (hF : fn_MD_thrown v_thrown = some rr) : Met l y_MD_thrown w_MD_thrown ({ frames := 0, cells := 0, slots := 0, locals := 0 }) (hq_Pc (dC, dI) vwCl [] (wd_MD_thrown q_this q_low q_high q_loaded q_empty q_order q_places q_times q_planOrder q_planTimes q_carriers q_begins v_thrown v_tanks v_hasPlan v_cycle v_second v_entered v_done v_took v_stopped v_move v_ends v_onHoist v_began) sz [.ref q_this]) (hq_Qi (dC, dI) vwCl [] (wd_MD_thrown q_this q_low q_high q_loaded q_empty q_order q_places q_times q_planOrder q_planTimes q_carriers q_begins v_thrown v_tanks v_hasPlan v_cycle v_second v_entered v_done v_took v_stopped v_move v_ends v_onHoist v_began) rr (va_A (wd_MD_thrown q_this q_low q_high q_loaded q_empty q_order q_places q_times q_planOrder q_planTimes q_carriers q_begins v_thrown v_tanks v_hasPlan v_cycle v_second v_entered v_done v_took v_stopped v_move v_ends v_onHoist v_began) sz)) 0 0 (va_A (wd_MD_thrown q_this q_low q_high q_loaded q_empty q_order q_places q_times q_planOrder q_planTimes q_carriers q_begins v_thrown v_tanks v_hasPlan v_cycle v_second v_entered v_done v_took v_stopped v_move v_ends v_onHoist v_began) sz) := by
  refine hq_met (Qc := (hq_Qi (dC, dI) vwCl [] (wd_MD_thrown q_this q_low q_high q_loaded q_empty q_order q_places q_times q_planOrder q_planTimes q_carriers q_begins v_thrown v_tanks v_hasPlan v_cycle v_second v_entered v_done v_took v_stopped v_move v_ends v_onHoist v_began) rr)) (cc := b_MD_thrown) (maxL := 1) (ret := some .int) (by decide) rfl (Nat.le_of_ble_eq_true rfl) ?_
  intro p e s m args below meth c A ls hx hb hr hml hts hown hlocks hnm hP hD hK hA hS hl
  have hts : ∀ w ∈ tb0, w.before args s = true := fun w h => hts w (List.mem_cons_of_mem _ h)
  have hown : s.vm.findClass R_MD = some m.cls := hown
  have hl : lv_has ls 1 [(0, .ref q_this)] := hl
  unfold fn_MD_thrown at hF
  refine lv_aload_n hx hb d_MD_thrown_0 rfl (lv_at hl 0 rfl) ?_
  refine va_get (D := (dC, dI)) (ci := 6) (v := .int v_thrown) (C := R_MD) (T := F_MD) (N := 24) hx hb hts uw_MD hown hK hP 0 rfl rfl 0 (by decide) (hts _ tw_167) (fun _ h9 => h9) rfl d_MD_thrown_1 ?_
  cases hF
  exact hq_iret hx hb hr hlocks hP hD hK hS d_MD_thrown_4
abbrev wd_MD_refuse (q_this : Nat) (q_low : Nat) (q_high : Nat) (q_loaded : Nat) (q_empty : Nat) (q_order : Nat) (q_places : Nat) (q_times : Nat) (q_planOrder : Nat) (q_planTimes : Nat) (q_carriers : Nat) (q_begins : Nat) (v_thrown : Int32) (v_tanks : Int32) (v_hasPlan : Int32) (v_cycle : Int32) (v_second : Int32) (v_entered : Int32) (v_done : Int32) (v_took : Int32) (v_stopped : Int32) (v_move : Int32) (v_ends : Int32) (v_onHoist : Int32) (v_began : Int32) : va_W := [(q_this, .inr (6, [.int v_thrown, .int v_tanks, .ref q_low, .ref q_high, .ref q_loaded, .ref q_empty, .ref q_order, .ref q_places, .ref q_times, .int v_hasPlan, .int v_cycle, .ref q_planOrder, .ref q_planTimes, .int v_second, .int v_entered, .int v_done, .int v_took, .int v_stopped, .ref q_carriers, .ref q_begins, .int v_move, .int v_ends, .int v_onHoist, .int v_began]))]
set_option maxHeartbeats 4000000 in
set_option maxRecDepth 100000 in
theorem c_MD_refuse (l : Launch) (dC : Nat → ClassId) (dI : Nat → Nat → Nat) (q_this : Nat) (q_low : Nat) (q_high : Nat) (q_loaded : Nat) (q_empty : Nat) (q_order : Nat) (q_places : Nat) (q_times : Nat) (q_planOrder : Nat) (q_planTimes : Nat) (q_carriers : Nat) (q_begins : Nat) (sz : Nat) (a1 : Int32) (a2 : Int32) (v_thrown : Int32) (v_tanks : Int32) (v_hasPlan : Int32) (v_cycle : Int32) (v_second : Int32) (v_entered : Int32) (v_done : Int32) (v_took : Int32) (v_stopped : Int32) (v_move : Int32) (v_ends : Int32) (v_onHoist : Int32) (v_began : Int32) (rr : Int32) (n_v_thrown : Int32) (hF : fn_MD_refuse a1 a2 v_thrown = some (rr, n_v_thrown)) : Met l y_MD_refuse w_MD_refuse ({ frames := 0, cells := 0, slots := 0, locals := 0 }) (hq_Pc (dC, dI) vwCl [] (wd_MD_refuse q_this q_low q_high q_loaded q_empty q_order q_places q_times q_planOrder q_planTimes q_carriers q_begins v_thrown v_tanks v_hasPlan v_cycle v_second v_entered v_done v_took v_stopped v_move v_ends v_onHoist v_began) sz [.ref q_this, .int a1, .int a2]) (hq_Qi (dC, dI) vwCl [] (wd_MD_refuse q_this q_low q_high q_loaded q_empty q_order q_places q_times q_planOrder q_planTimes q_carriers q_begins n_v_thrown v_tanks v_hasPlan v_cycle v_second v_entered v_done v_took v_stopped v_move v_ends v_onHoist v_began) rr (va_A (wd_MD_refuse q_this q_low q_high q_loaded q_empty q_order q_places q_times q_planOrder q_planTimes q_carriers q_begins v_thrown v_tanks v_hasPlan v_cycle v_second v_entered v_done v_took v_stopped v_move v_ends v_onHoist v_began) sz)) 0 0 (va_A (wd_MD_refuse q_this q_low q_high q_loaded q_empty q_order q_places q_times q_planOrder q_planTimes q_carriers q_begins v_thrown v_tanks v_hasPlan v_cycle v_second v_entered v_done v_took v_stopped v_move v_ends v_onHoist v_began) sz) := by
  refine hq_met (Qc := (hq_Qi (dC, dI) vwCl [] (wd_MD_refuse q_this q_low q_high q_loaded q_empty q_order q_places q_times q_planOrder q_planTimes q_carriers q_begins n_v_thrown v_tanks v_hasPlan v_cycle v_second v_entered v_done v_took v_stopped v_move v_ends v_onHoist v_began) rr)) (cc := b_MD_refuse) (maxL := 3) (ret := some .boolean) (by decide) rfl (Nat.le_of_ble_eq_true rfl) ?_
  intro p e s m args below meth c A ls hx hb hr hml hts hown hlocks hnm hP hD hK hA hS hl
  have hts : ∀ w ∈ tb0, w.before args s = true := fun w h => hts w (List.mem_cons_of_mem _ h)
  have hown : s.vm.findClass R_MD = some m.cls := hown
  have hl : lv_has ls 3 [(0, .ref q_this), (1, .int a1), (2, .int a2)] := hl
  unfold fn_MD_refuse at hF
  refine lv_aload_n hx hb d_MD_refuse_0 rfl (lv_at hl 0 rfl) ?_
  refine lv_iload_n hx hb d_MD_refuse_1 rfl (lv_at hl 1 rfl) ?_
  refine lv_if_eq (tgt := 9) hx hb d_MD_refuse_2 (by decide) (fun hb1 => ?_) (fun hb1 => ?_)
  · have hF := ox_t hF hb1
    refine lv_iload_n hx hb d_MD_refuse_9 rfl (lv_at hl 2 rfl) ?_
    refine lv_if_eq (tgt := 17) hx hb d_MD_refuse_10 (by decide) (fun hb2 => ?_) (fun hb2 => ?_)
    · have hF := ox_t hF hb2
      refine lv_iconst (v := 0) hx hb d_MD_refuse_17 (by decide) ?_
      refine va_put (D := (dC, dI)) (ci := 6) (v := .int 0) (ty := .int) (C := R_MD) (T := F_MD) (N := 24) hx hb hts uw_MD t_MD t_MD_ok n_MD hown hK hP hD hS 0 rfl rfl 0 (by decide) (hts _ tw_167) (fun _ h9 => h9) rfl (by decide +kernel) rfl rfl (Nat.le_of_ble_eq_true rfl) d_MD_refuse_18 (fun H locs hP hD hS => ?_)
      have hP : va_P (dC, dI) vwCl (wd_MD_refuse q_this q_low q_high q_loaded q_empty q_order q_places q_times q_planOrder q_planTimes q_carriers q_begins 0 v_tanks v_hasPlan v_cycle v_second v_entered v_done v_took v_stopped v_move v_ends v_onHoist v_began) H := hP
      have hD : va_D A (wd_MD_refuse q_this q_low q_high q_loaded q_empty q_order q_places q_times q_planOrder q_planTimes q_carriers q_begins 0 v_tanks v_hasPlan v_cycle v_second v_entered v_done v_took v_stopped v_move v_ends v_onHoist v_began) := hD
      refine lv_aload_n hx hb d_MD_refuse_21 rfl (lv_at hl 0 rfl) ?_
      refine va_get (D := (dC, dI)) (ci := 6) (v := .int 0) (C := R_MD) (T := F_MD) (N := 24) hx hb hts uw_MD hown hK hP 0 rfl rfl 0 (by decide) (hts _ tw_167) (fun _ h9 => h9) rfl d_MD_refuse_22 ?_
      refine lv_if_le (tgt := 32) hx hb d_MD_refuse_25 (by decide) (fun _ => ?_) (fun h => absurd (by decide) h)
      refine lv_iconst (v := 0) hx hb d_MD_refuse_32 (by decide) ?_
      cases hF
      exact hq_zret hx hb hr (by decide) hlocks hP hD hK hS d_MD_refuse_33
    · have hF := ox_f hF hb2
      refine lv_iconst (v := 2) hx hb d_MD_refuse_13 (by decide) ?_
      refine lv_goto (tgt := 18) hx hb d_MD_refuse_14 (by decide) ?_
      refine va_put (D := (dC, dI)) (ci := 6) (v := .int 2) (ty := .int) (C := R_MD) (T := F_MD) (N := 24) hx hb hts uw_MD t_MD t_MD_ok n_MD hown hK hP hD hS 0 rfl rfl 0 (by decide) (hts _ tw_167) (fun _ h9 => h9) rfl (by decide +kernel) rfl rfl (Nat.le_of_ble_eq_true rfl) d_MD_refuse_18 (fun H locs hP hD hS => ?_)
      have hP : va_P (dC, dI) vwCl (wd_MD_refuse q_this q_low q_high q_loaded q_empty q_order q_places q_times q_planOrder q_planTimes q_carriers q_begins 2 v_tanks v_hasPlan v_cycle v_second v_entered v_done v_took v_stopped v_move v_ends v_onHoist v_began) H := hP
      have hD : va_D A (wd_MD_refuse q_this q_low q_high q_loaded q_empty q_order q_places q_times q_planOrder q_planTimes q_carriers q_begins 2 v_tanks v_hasPlan v_cycle v_second v_entered v_done v_took v_stopped v_move v_ends v_onHoist v_began) := hD
      refine lv_aload_n hx hb d_MD_refuse_21 rfl (lv_at hl 0 rfl) ?_
      refine va_get (D := (dC, dI)) (ci := 6) (v := .int 2) (C := R_MD) (T := F_MD) (N := 24) hx hb hts uw_MD hown hK hP 0 rfl rfl 0 (by decide) (hts _ tw_167) (fun _ h9 => h9) rfl d_MD_refuse_22 ?_
      refine lv_if_le (tgt := 32) hx hb d_MD_refuse_25 (by decide) (fun h => absurd h (by decide)) (fun _ => ?_)
      refine lv_iconst (v := 1) hx hb d_MD_refuse_28 (by decide) ?_
      refine lv_goto (tgt := 33) hx hb d_MD_refuse_29 (by decide) ?_
      cases hF
      exact hq_zret hx hb hr (by decide) hlocks hP hD hK hS d_MD_refuse_33
  · have hF := ox_f hF hb1
    refine lv_iconst (v := 1) hx hb d_MD_refuse_5 (by decide) ?_
    refine lv_goto (tgt := 18) hx hb d_MD_refuse_6 (by decide) ?_
    refine va_put (D := (dC, dI)) (ci := 6) (v := .int 1) (ty := .int) (C := R_MD) (T := F_MD) (N := 24) hx hb hts uw_MD t_MD t_MD_ok n_MD hown hK hP hD hS 0 rfl rfl 0 (by decide) (hts _ tw_167) (fun _ h9 => h9) rfl (by decide +kernel) rfl rfl (Nat.le_of_ble_eq_true rfl) d_MD_refuse_18 (fun H locs hP hD hS => ?_)
    have hP : va_P (dC, dI) vwCl (wd_MD_refuse q_this q_low q_high q_loaded q_empty q_order q_places q_times q_planOrder q_planTimes q_carriers q_begins 1 v_tanks v_hasPlan v_cycle v_second v_entered v_done v_took v_stopped v_move v_ends v_onHoist v_began) H := hP
    have hD : va_D A (wd_MD_refuse q_this q_low q_high q_loaded q_empty q_order q_places q_times q_planOrder q_planTimes q_carriers q_begins 1 v_tanks v_hasPlan v_cycle v_second v_entered v_done v_took v_stopped v_move v_ends v_onHoist v_began) := hD
    refine lv_aload_n hx hb d_MD_refuse_21 rfl (lv_at hl 0 rfl) ?_
    refine va_get (D := (dC, dI)) (ci := 6) (v := .int 1) (C := R_MD) (T := F_MD) (N := 24) hx hb hts uw_MD hown hK hP 0 rfl rfl 0 (by decide) (hts _ tw_167) (fun _ h9 => h9) rfl d_MD_refuse_22 ?_
    refine lv_if_le (tgt := 32) hx hb d_MD_refuse_25 (by decide) (fun h => absurd h (by decide)) (fun _ => ?_)
    refine lv_iconst (v := 1) hx hb d_MD_refuse_28 (by decide) ?_
    refine lv_goto (tgt := 33) hx hb d_MD_refuse_29 (by decide) ?_
    cases hF
    exact hq_zret hx hb hr (by decide) hlocks hP hD hK hS d_MD_refuse_33
abbrev wd_MD_in : va_W := []
set_option maxHeartbeats 4000000 in
set_option maxRecDepth 100000 in
theorem c_MD_in (l : Launch) (dC : Nat → ClassId) (dI : Nat → Nat → Nat) (sz : Nat) (a0 : Int32) (a1 : Int32) (a2 : Int32) (rr : Int32) (hF : fn_MD_in a0 a1 a2 = some rr) : Met l y_MD_in w_MD_in ({ frames := 0, cells := 0, slots := 0, locals := 0 }) (hq_Pc (dC, dI) vwCl [] (wd_MD_in) sz [.int a0, .int a1, .int a2]) (hq_Qi (dC, dI) vwCl [] (wd_MD_in) rr (va_A (wd_MD_in) sz)) 0 0 (va_A (wd_MD_in) sz) := by
  refine hq_met (Qc := (hq_Qi (dC, dI) vwCl [] (wd_MD_in) rr)) (cc := b_MD_in) (maxL := 3) (ret := some .boolean) (by decide) rfl (Nat.le_of_ble_eq_true rfl) ?_
  intro p e s m args below meth c A ls hx hb hr hml hts hown hlocks hnm hP hD hK hA hS hl
  have hts : ∀ w ∈ tb0, w.before args s = true := fun w h => hts w (List.mem_cons_of_mem _ h)
  have hown : s.vm.findClass R_MD = some m.cls := hown
  have hl : lv_has ls 3 [(0, .int a0), (1, .int a1), (2, .int a2)] := hl
  unfold fn_MD_in at hF
  refine lv_iload_n hx hb d_MD_in_0 rfl (lv_at hl 0 rfl) ?_
  refine lv_iload_n hx hb d_MD_in_1 rfl (lv_at hl 1 rfl) ?_
  refine lv_icmp_lt (tgt := 14) hx hb d_MD_in_2 (by decide) (fun hb1 => ?_) (fun hb1 => ?_)
  · have hF := ox_t hF hb1
    refine lv_iconst (v := 0) hx hb d_MD_in_14 (by decide) ?_
    cases hF
    exact hq_zret hx hb hr (by decide) hlocks hP hD hK hS d_MD_in_15
  · have hF := ox_f hF hb1
    refine lv_iload_n hx hb d_MD_in_5 rfl (lv_at hl 0 rfl) ?_
    refine lv_iload_n hx hb d_MD_in_6 rfl (lv_at hl 2 rfl) ?_
    refine lv_icmp_gt (tgt := 14) hx hb d_MD_in_7 (by decide) (fun hb2 => ?_) (fun hb2 => ?_)
    · have hF := ox_t hF hb2
      refine lv_iconst (v := 0) hx hb d_MD_in_14 (by decide) ?_
      cases hF
      exact hq_zret hx hb hr (by decide) hlocks hP hD hK hS d_MD_in_15
    · have hF := ox_f hF hb2
      refine lv_iconst (v := 1) hx hb d_MD_in_10 (by decide) ?_
      refine lv_goto (tgt := 15) hx hb d_MD_in_11 (by decide) ?_
      cases hF
      exact hq_zret hx hb hr (by decide) hlocks hP hD hK hS d_MD_in_15
abbrev wd_MD_clear (q_this : Nat) (q_low : Nat) (q_high : Nat) (q_loaded : Nat) (q_empty : Nat) (q_order : Nat) (q_places : Nat) (q_times : Nat) (q_planOrder : Nat) (q_planTimes : Nat) (q_carriers : Nat) (q_begins : Nat) (cI : ClassId) (v_thrown : Int32) (v_tanks : Int32) (v_hasPlan : Int32) (v_cycle : Int32) (v_second : Int32) (v_entered : Int32) (v_done : Int32) (v_took : Int32) (v_stopped : Int32) (v_move : Int32) (v_ends : Int32) (v_onHoist : Int32) (v_began : Int32) (f_low : Nat → Int32) (f_high : Nat → Int32) (f_loaded : Nat → Int32) (f_empty : Nat → Int32) : va_W := [(q_this, .inr (6, [.int v_thrown, .int v_tanks, .ref q_low, .ref q_high, .ref q_loaded, .ref q_empty, .ref q_order, .ref q_places, .ref q_times, .int v_hasPlan, .int v_cycle, .ref q_planOrder, .ref q_planTimes, .int v_second, .int v_entered, .int v_done, .int v_took, .int v_stopped, .ref q_carriers, .ref q_begins, .int v_move, .int v_ends, .int v_onHoist, .int v_began])), (q_low, .inl (cI, 6, .inl f_low)), (q_high, .inl (cI, 6, .inl f_high)), (q_loaded, .inl (cI, 6, .inl f_loaded)), (q_empty, .inl (cI, 49, .inl f_empty))]
set_option maxHeartbeats 4000000 in
set_option maxRecDepth 100000 in
theorem c_MD_clear (l : Launch) (dC : Nat → ClassId) (dI : Nat → Nat → Nat) (q_this : Nat) (q_low : Nat) (q_high : Nat) (q_loaded : Nat) (q_empty : Nat) (q_order : Nat) (q_places : Nat) (q_times : Nat) (q_planOrder : Nat) (q_planTimes : Nat) (q_carriers : Nat) (q_begins : Nat) (cI : ClassId) (sz : Nat) (z : Nat) (a1 : Int32) (v_thrown : Int32) (v_tanks : Int32) (v_hasPlan : Int32) (v_cycle : Int32) (v_second : Int32) (v_entered : Int32) (v_done : Int32) (v_took : Int32) (v_stopped : Int32) (v_move : Int32) (v_ends : Int32) (v_onHoist : Int32) (v_began : Int32) (f_low : Nat → Int32) (f_high : Nat → Int32) (f_loaded : Nat → Int32) (f_empty : Nat → Int32) (n_v_tanks : Int32) (n_v_hasPlan : Int32) (n_f_low : Nat → Int32) (n_f_high : Nat → Int32) (n_f_loaded : Nat → Int32) (n_f_empty : Nat → Int32) (hF : fn_MD_clear z a1 v_tanks v_hasPlan f_low f_high f_loaded f_empty = some (n_v_tanks, n_v_hasPlan, n_f_low, n_f_high, n_f_loaded, n_f_empty)) : Met l y_MD_clear w_MD_clear ({ frames := 0, cells := 0, slots := 0, locals := 0 }) (hq_Pc (dC, dI) vwCl [(cI, .int)] (wd_MD_clear q_this q_low q_high q_loaded q_empty q_order q_places q_times q_planOrder q_planTimes q_carriers q_begins cI v_thrown v_tanks v_hasPlan v_cycle v_second v_entered v_done v_took v_stopped v_move v_ends v_onHoist v_began f_low f_high f_loaded f_empty) sz [.ref q_this, .int a1]) (hq_Qv (dC, dI) vwCl [(cI, .int)] (wd_MD_clear q_this q_low q_high q_loaded q_empty q_order q_places q_times q_planOrder q_planTimes q_carriers q_begins cI v_thrown n_v_tanks n_v_hasPlan v_cycle v_second v_entered v_done v_took v_stopped v_move v_ends v_onHoist v_began n_f_low n_f_high n_f_loaded n_f_empty) (va_A (wd_MD_clear q_this q_low q_high q_loaded q_empty q_order q_places q_times q_planOrder q_planTimes q_carriers q_begins cI v_thrown v_tanks v_hasPlan v_cycle v_second v_entered v_done v_took v_stopped v_move v_ends v_onHoist v_began f_low f_high f_loaded f_empty) sz)) 0 0 (va_A (wd_MD_clear q_this q_low q_high q_loaded q_empty q_order q_places q_times q_planOrder q_planTimes q_carriers q_begins cI v_thrown v_tanks v_hasPlan v_cycle v_second v_entered v_done v_took v_stopped v_move v_ends v_onHoist v_began f_low f_high f_loaded f_empty) sz) := by
  refine hq_met (Qc := (hq_Qv (dC, dI) vwCl [(cI, .int)] (wd_MD_clear q_this q_low q_high q_loaded q_empty q_order q_places q_times q_planOrder q_planTimes q_carriers q_begins cI v_thrown n_v_tanks n_v_hasPlan v_cycle v_second v_entered v_done v_took v_stopped v_move v_ends v_onHoist v_began n_f_low n_f_high n_f_loaded n_f_empty))) (cc := b_MD_clear) (maxL := 3) (ret := none) (by decide) rfl (Nat.le_of_ble_eq_true rfl) ?_
  intro p e s m args below meth c A ls hx hb hr hml hts hown hlocks hnm hP hD hK hA hS hl
  have hts : ∀ w ∈ tb0, w.before args s = true := fun w h => hts w (List.mem_cons_of_mem _ h)
  have hown : s.vm.findClass R_MD = some m.cls := hown
  have hl : lv_has ls 3 [(0, .ref q_this), (1, .int a1)] := hl
  unfold fn_MD_clear at hF
  have loop : ∀ fu : Nat, (∀ (i1 : Int32) (i2 : Int32) (v_tanks : Int32) (v_hasPlan : Int32) (f_low : Nat → Int32) (f_high : Nat → Int32) (f_loaded : Nat → Int32) (f_empty : Nat → Int32) (H : Heap) (locs : List Loc) (ls : Array Slot), va_P (dC, dI) vwCl (wd_MD_clear q_this q_low q_high q_loaded q_empty q_order q_places q_times q_planOrder q_planTimes q_carriers q_begins cI v_thrown v_tanks v_hasPlan v_cycle v_second v_entered v_done v_took v_stopped v_move v_ends v_onHoist v_began f_low f_high f_loaded f_empty) H → va_D A (wd_MD_clear q_this q_low q_high q_loaded q_empty q_order q_places q_times q_planOrder q_planTimes q_carriers q_begins cI v_thrown v_tanks v_hasPlan v_cycle v_second v_entered v_done v_took v_stopped v_move v_ends v_onHoist v_began f_low f_high f_loaded f_empty) → va_S A s.heap H locs → lv_has ls 3 [(0, .ref q_this), (1, .int i1), (2, .int i2)] → lp_MD_clear fu 0 i1 i2 v_tanks v_hasPlan f_low f_high f_loaded f_empty = some (n_v_tanks, n_v_hasPlan, n_f_low, n_f_high, n_f_loaded, n_f_empty) → W p l e ({ frames := 0, cells := 0, slots := 0, locals := 0 }) s m args below meth c H locs 0 0 (MQ below ((hq_Qv (dC, dI) vwCl [(cI, .int)] (wd_MD_clear q_this q_low q_high q_loaded q_empty q_order q_places q_times q_planOrder q_planTimes q_carriers q_begins cI v_thrown n_v_tanks n_v_hasPlan v_cycle v_second v_entered v_done v_took v_stopped v_move v_ends v_onHoist v_began n_f_low n_f_high n_f_loaded n_f_empty)) A) args s 0 0 A) (F0 m 12 ls [])) ∧ (∀ (i1 : Int32) (i2 : Int32) (v_tanks : Int32) (v_hasPlan : Int32) (f_low : Nat → Int32) (f_high : Nat → Int32) (f_loaded : Nat → Int32) (f_empty : Nat → Int32) (H : Heap) (locs : List Loc) (ls : Array Slot), va_P (dC, dI) vwCl (wd_MD_clear q_this q_low q_high q_loaded q_empty q_order q_places q_times q_planOrder q_planTimes q_carriers q_begins cI v_thrown v_tanks v_hasPlan v_cycle v_second v_entered v_done v_took v_stopped v_move v_ends v_onHoist v_began f_low f_high f_loaded f_empty) H → va_D A (wd_MD_clear q_this q_low q_high q_loaded q_empty q_order q_places q_times q_planOrder q_planTimes q_carriers q_begins cI v_thrown v_tanks v_hasPlan v_cycle v_second v_entered v_done v_took v_stopped v_move v_ends v_onHoist v_began f_low f_high f_loaded f_empty) → va_S A s.heap H locs → lv_has ls 3 [(0, .ref q_this), (1, .int i1), (2, .int i2)] → lp_MD_clear fu 1 i1 i2 v_tanks v_hasPlan f_low f_high f_loaded f_empty = some (n_v_tanks, n_v_hasPlan, n_f_low, n_f_high, n_f_loaded, n_f_empty) → W p l e ({ frames := 0, cells := 0, slots := 0, locals := 0 }) s m args below meth c H locs 0 0 (MQ below ((hq_Qv (dC, dI) vwCl [(cI, .int)] (wd_MD_clear q_this q_low q_high q_loaded q_empty q_order q_places q_times q_planOrder q_planTimes q_carriers q_begins cI v_thrown n_v_tanks n_v_hasPlan v_cycle v_second v_entered v_done v_took v_stopped v_move v_ends v_onHoist v_began n_f_low n_f_high n_f_loaded n_f_empty)) A) args s 0 0 A) (F0 m 50 ls [])) := by
    intro fu
    induction fu with
    | zero => exact ⟨(fun _ _ _ _ _ _ _ _ _ _ _ _ _ _ _ h => by cases h), (fun _ _ _ _ _ _ _ _ _ _ _ _ _ _ _ h => by cases h)⟩
    | succ fu ih =>
      refine ⟨?_, ?_⟩
      · intro i1 i2 v_tanks v_hasPlan f_low f_high f_loaded f_empty H locs ls hP hD hS hl hF
        have hF : st_MD_clear (lp_MD_clear fu) 0 i1 i2 v_tanks v_hasPlan f_low f_high f_loaded f_empty = some (n_v_tanks, n_v_hasPlan, n_f_low, n_f_high, n_f_loaded, n_f_empty) := hF
        unfold st_MD_clear at hF
        try dsimp only at hF
        refine lv_iload_n hx hb d_MD_clear_12 rfl (lv_at hl 2 rfl) ?_
        refine lv_bipush (v := 6) hx hb d_MD_clear_13 (by decide) ?_
        refine lv_icmp_ge (tgt := 48) hx hb d_MD_clear_15 (by decide) (fun hb1 => ?_) (fun hb1 => ?_)
        · have hF := ox_t hF hb1
          refine lv_iconst (v := 0) hx hb d_MD_clear_48 (by decide) ?_
          refine lv_istore_n (lv' := [(2, .int 0), (0, .ref q_this), (1, .int i1)]) hx hb d_MD_clear_49 rfl hl (by decide) rfl (fun ls hl => ?_)
          exact ih.2 i1 0 v_tanks v_hasPlan f_low f_high f_loaded f_empty _ _ _ hP hD hS (lv_sub hl [1, 2, 0] rfl) hF
        · have hF := ox_f hF hb1
          refine lv_aload_n hx hb d_MD_clear_18 rfl (lv_at hl 0 rfl) ?_
          refine va_get (D := (dC, dI)) (ci := 6) (v := .ref q_low) (C := R_MD) (T := F_MD) (N := 24) hx hb hts uw_MD hown hK hP 0 rfl rfl 2 (by decide) (hts _ tw_168) (fun _ h9 => h9) rfl d_MD_clear_19 ?_
          refine lv_iload_n hx hb d_MD_clear_22 rfl (lv_at hl 2 rfl) ?_
          refine lv_iconst (v := 0) hx hb d_MD_clear_23 (by decide) ?_
          obtain ⟨hin, hF⟩ := ox_gdS hF
          refine va_iast hx hb hK hP hD hS 1 0 rfl rfl hin d_MD_clear_24 (fun H locs hP hD hS => ?_)
          have hP : va_P (dC, dI) vwCl (wd_MD_clear q_this q_low q_high q_loaded q_empty q_order q_places q_times q_planOrder q_planTimes q_carriers q_begins cI v_thrown v_tanks v_hasPlan v_cycle v_second v_entered v_done v_took v_stopped v_move v_ends v_onHoist v_began (upd f_low i2.toNatClampNeg 0) f_high f_loaded f_empty) H := hP
          have hD : va_D A (wd_MD_clear q_this q_low q_high q_loaded q_empty q_order q_places q_times q_planOrder q_planTimes q_carriers q_begins cI v_thrown v_tanks v_hasPlan v_cycle v_second v_entered v_done v_took v_stopped v_move v_ends v_onHoist v_began (upd f_low i2.toNatClampNeg 0) f_high f_loaded f_empty) := hD
          refine lv_aload_n hx hb d_MD_clear_25 rfl (lv_at hl 0 rfl) ?_
          refine va_get (D := (dC, dI)) (ci := 6) (v := .ref q_high) (C := R_MD) (T := F_MD) (N := 24) hx hb hts uw_MD hown hK hP 0 rfl rfl 3 (by decide) (hts _ tw_169) (fun _ h9 => h9) rfl d_MD_clear_26 ?_
          refine lv_iload_n hx hb d_MD_clear_29 rfl (lv_at hl 2 rfl) ?_
          refine lv_sipush (v := 500) hx hb d_MD_clear_30 (by decide) ?_
          obtain ⟨hin, hF⟩ := ox_gdS hF
          refine va_iast hx hb hK hP hD hS 2 0 rfl rfl hin d_MD_clear_33 (fun H locs hP hD hS => ?_)
          have hP : va_P (dC, dI) vwCl (wd_MD_clear q_this q_low q_high q_loaded q_empty q_order q_places q_times q_planOrder q_planTimes q_carriers q_begins cI v_thrown v_tanks v_hasPlan v_cycle v_second v_entered v_done v_took v_stopped v_move v_ends v_onHoist v_began (upd f_low i2.toNatClampNeg 0) (upd f_high i2.toNatClampNeg 500) f_loaded f_empty) H := hP
          have hD : va_D A (wd_MD_clear q_this q_low q_high q_loaded q_empty q_order q_places q_times q_planOrder q_planTimes q_carriers q_begins cI v_thrown v_tanks v_hasPlan v_cycle v_second v_entered v_done v_took v_stopped v_move v_ends v_onHoist v_began (upd f_low i2.toNatClampNeg 0) (upd f_high i2.toNatClampNeg 500) f_loaded f_empty) := hD
          refine lv_aload_n hx hb d_MD_clear_34 rfl (lv_at hl 0 rfl) ?_
          refine va_get (D := (dC, dI)) (ci := 6) (v := .ref q_loaded) (C := R_MD) (T := F_MD) (N := 24) hx hb hts uw_MD hown hK hP 0 rfl rfl 4 (by decide) (hts _ tw_170) (fun _ h9 => h9) rfl d_MD_clear_35 ?_
          refine lv_iload_n hx hb d_MD_clear_38 rfl (lv_at hl 2 rfl) ?_
          refine lv_bipush (v := 10) hx hb d_MD_clear_39 (by decide) ?_
          obtain ⟨hin, hF⟩ := ox_gdS hF
          refine va_iast hx hb hK hP hD hS 3 0 rfl rfl hin d_MD_clear_41 (fun H locs hP hD hS => ?_)
          have hP : va_P (dC, dI) vwCl (wd_MD_clear q_this q_low q_high q_loaded q_empty q_order q_places q_times q_planOrder q_planTimes q_carriers q_begins cI v_thrown v_tanks v_hasPlan v_cycle v_second v_entered v_done v_took v_stopped v_move v_ends v_onHoist v_began (upd f_low i2.toNatClampNeg 0) (upd f_high i2.toNatClampNeg 500) (upd f_loaded i2.toNatClampNeg 10) f_empty) H := hP
          have hD : va_D A (wd_MD_clear q_this q_low q_high q_loaded q_empty q_order q_places q_times q_planOrder q_planTimes q_carriers q_begins cI v_thrown v_tanks v_hasPlan v_cycle v_second v_entered v_done v_took v_stopped v_move v_ends v_onHoist v_began (upd f_low i2.toNatClampNeg 0) (upd f_high i2.toNatClampNeg 500) (upd f_loaded i2.toNatClampNeg 10) f_empty) := hD
          refine lv_iinc (v := (i2 + 1)) (lv' := [(2, .int (i2 + 1)), (0, .ref q_this), (1, .int i1)]) hx hb d_MD_clear_42 hl (k := 2) rfl rfl (by decide) rfl (fun ls hl => ?_)
          refine lv_goto (tgt := 12) hx hb d_MD_clear_45 (by decide) ?_
          exact ih.1 i1 (i2 + 1) v_tanks v_hasPlan (upd f_low i2.toNatClampNeg 0) (upd f_high i2.toNatClampNeg 500) (upd f_loaded i2.toNatClampNeg 10) f_empty _ _ _ hP hD hS (lv_sub hl [1, 2, 0] rfl) hF
      · intro i1 i2 v_tanks v_hasPlan f_low f_high f_loaded f_empty H locs ls hP hD hS hl hF
        have hF : st_MD_clear (lp_MD_clear fu) 1 i1 i2 v_tanks v_hasPlan f_low f_high f_loaded f_empty = some (n_v_tanks, n_v_hasPlan, n_f_low, n_f_high, n_f_loaded, n_f_empty) := hF
        unfold st_MD_clear at hF
        try dsimp only at hF
        refine lv_iload_n hx hb d_MD_clear_50 rfl (lv_at hl 2 rfl) ?_
        refine lv_bipush (v := 49) hx hb d_MD_clear_51 (by decide) ?_
        refine lv_icmp_ge (tgt := 69) hx hb d_MD_clear_53 (by decide) (fun hb2 => ?_) (fun hb2 => ?_)
        · have hF := ox_t hF hb2
          cases hF
          exact hq_vret hx hb hr hlocks hP hD hK hS d_MD_clear_69
        · have hF := ox_f hF hb2
          refine lv_aload_n hx hb d_MD_clear_56 rfl (lv_at hl 0 rfl) ?_
          refine va_get (D := (dC, dI)) (ci := 6) (v := .ref q_empty) (C := R_MD) (T := F_MD) (N := 24) hx hb hts uw_MD hown hK hP 0 rfl rfl 5 (by decide) (hts _ tw_171) (fun _ h9 => h9) rfl d_MD_clear_57 ?_
          refine lv_iload_n hx hb d_MD_clear_60 rfl (lv_at hl 2 rfl) ?_
          refine lv_iconst (v := 0) hx hb d_MD_clear_61 (by decide) ?_
          obtain ⟨hin, hF⟩ := ox_gdS hF
          refine va_iast hx hb hK hP hD hS 4 0 rfl rfl hin d_MD_clear_62 (fun H locs hP hD hS => ?_)
          have hP : va_P (dC, dI) vwCl (wd_MD_clear q_this q_low q_high q_loaded q_empty q_order q_places q_times q_planOrder q_planTimes q_carriers q_begins cI v_thrown v_tanks v_hasPlan v_cycle v_second v_entered v_done v_took v_stopped v_move v_ends v_onHoist v_began f_low f_high f_loaded (upd f_empty i2.toNatClampNeg 0)) H := hP
          have hD : va_D A (wd_MD_clear q_this q_low q_high q_loaded q_empty q_order q_places q_times q_planOrder q_planTimes q_carriers q_begins cI v_thrown v_tanks v_hasPlan v_cycle v_second v_entered v_done v_took v_stopped v_move v_ends v_onHoist v_began f_low f_high f_loaded (upd f_empty i2.toNatClampNeg 0)) := hD
          refine lv_iinc (v := (i2 + 1)) (lv' := [(2, .int (i2 + 1)), (0, .ref q_this), (1, .int i1)]) hx hb d_MD_clear_63 hl (k := 2) rfl rfl (by decide) rfl (fun ls hl => ?_)
          refine lv_goto (tgt := 50) hx hb d_MD_clear_66 (by decide) ?_
          exact ih.2 i1 (i2 + 1) v_tanks v_hasPlan f_low f_high f_loaded (upd f_empty i2.toNatClampNeg 0) _ _ _ hP hD hS (lv_sub hl [1, 2, 0] rfl) hF
  refine lv_aload_n hx hb d_MD_clear_0 rfl (lv_at hl 0 rfl) ?_
  refine lv_iload_n hx hb d_MD_clear_1 rfl (lv_at hl 1 rfl) ?_
  refine va_put (D := (dC, dI)) (ci := 6) (v := .int a1) (ty := .int) (C := R_MD) (T := F_MD) (N := 24) hx hb hts uw_MD t_MD t_MD_ok n_MD hown hK hP hD hS 0 rfl rfl 1 (by decide) (hts _ tw_172) (fun _ h9 => h9) rfl (by decide +kernel) rfl rfl (Nat.le_of_ble_eq_true rfl) d_MD_clear_2 (fun H locs hP hD hS => ?_)
  have hP : va_P (dC, dI) vwCl (wd_MD_clear q_this q_low q_high q_loaded q_empty q_order q_places q_times q_planOrder q_planTimes q_carriers q_begins cI v_thrown a1 v_hasPlan v_cycle v_second v_entered v_done v_took v_stopped v_move v_ends v_onHoist v_began f_low f_high f_loaded f_empty) H := hP
  have hD : va_D A (wd_MD_clear q_this q_low q_high q_loaded q_empty q_order q_places q_times q_planOrder q_planTimes q_carriers q_begins cI v_thrown a1 v_hasPlan v_cycle v_second v_entered v_done v_took v_stopped v_move v_ends v_onHoist v_began f_low f_high f_loaded f_empty) := hD
  refine lv_aload_n hx hb d_MD_clear_5 rfl (lv_at hl 0 rfl) ?_
  refine lv_iconst (v := 0) hx hb d_MD_clear_6 (by decide) ?_
  refine va_put (D := (dC, dI)) (ci := 6) (v := .int 0) (ty := .boolean) (C := R_MD) (T := F_MD) (N := 24) hx hb hts uw_MD t_MD t_MD_ok n_MD hown hK hP hD hS 0 rfl rfl 9 (by decide) (hts _ tw_173) (fun _ h9 => h9) rfl (by decide +kernel) rfl rfl (Nat.le_of_ble_eq_true rfl) d_MD_clear_7 (fun H locs hP hD hS => ?_)
  have hP : va_P (dC, dI) vwCl (wd_MD_clear q_this q_low q_high q_loaded q_empty q_order q_places q_times q_planOrder q_planTimes q_carriers q_begins cI v_thrown a1 0 v_cycle v_second v_entered v_done v_took v_stopped v_move v_ends v_onHoist v_began f_low f_high f_loaded f_empty) H := hP
  have hD : va_D A (wd_MD_clear q_this q_low q_high q_loaded q_empty q_order q_places q_times q_planOrder q_planTimes q_carriers q_begins cI v_thrown a1 0 v_cycle v_second v_entered v_done v_took v_stopped v_move v_ends v_onHoist v_began f_low f_high f_loaded f_empty) := hD
  refine lv_iconst (v := 0) hx hb d_MD_clear_10 (by decide) ?_
  refine lv_istore_n (lv' := [(2, .int 0), (0, .ref q_this), (1, .int a1)]) hx hb d_MD_clear_11 rfl hl (by decide) rfl (fun ls hl => ?_)
  exact (loop z).1 a1 0 a1 0 f_low f_high f_loaded f_empty _ _ _ hP hD hS (lv_sub hl [1, 2, 0] rfl) hF
abbrev wd_MD_line (q_this : Nat) (q_low : Nat) (q_high : Nat) (q_loaded : Nat) (q_empty : Nat) (q_order : Nat) (q_places : Nat) (q_times : Nat) (q_planOrder : Nat) (q_planTimes : Nat) (q_carriers : Nat) (q_begins : Nat) (cI : ClassId) (v_thrown : Int32) (v_tanks : Int32) (v_hasPlan : Int32) (v_cycle : Int32) (v_second : Int32) (v_entered : Int32) (v_done : Int32) (v_took : Int32) (v_stopped : Int32) (v_move : Int32) (v_ends : Int32) (v_onHoist : Int32) (v_began : Int32) (f_low : Nat → Int32) (f_high : Nat → Int32) (f_loaded : Nat → Int32) (f_empty : Nat → Int32) : va_W := [(q_this, .inr (6, [.int v_thrown, .int v_tanks, .ref q_low, .ref q_high, .ref q_loaded, .ref q_empty, .ref q_order, .ref q_places, .ref q_times, .int v_hasPlan, .int v_cycle, .ref q_planOrder, .ref q_planTimes, .int v_second, .int v_entered, .int v_done, .int v_took, .int v_stopped, .ref q_carriers, .ref q_begins, .int v_move, .int v_ends, .int v_onHoist, .int v_began])), (q_low, .inl (cI, 6, .inl f_low)), (q_high, .inl (cI, 6, .inl f_high)), (q_loaded, .inl (cI, 6, .inl f_loaded)), (q_empty, .inl (cI, 49, .inl f_empty))]
set_option maxHeartbeats 4000000 in
set_option maxRecDepth 100000 in
theorem c_MD_line (l : Launch) (dC : Nat → ClassId) (dI : Nat → Nat → Nat) (q_this : Nat) (q_low : Nat) (q_high : Nat) (q_loaded : Nat) (q_empty : Nat) (q_order : Nat) (q_places : Nat) (q_times : Nat) (q_planOrder : Nat) (q_planTimes : Nat) (q_carriers : Nat) (q_begins : Nat) (cI : ClassId) (sz : Nat) (z : Nat) (a1 : Int32) (v_thrown : Int32) (v_tanks : Int32) (v_hasPlan : Int32) (v_cycle : Int32) (v_second : Int32) (v_entered : Int32) (v_done : Int32) (v_took : Int32) (v_stopped : Int32) (v_move : Int32) (v_ends : Int32) (v_onHoist : Int32) (v_began : Int32) (f_low : Nat → Int32) (f_high : Nat → Int32) (f_loaded : Nat → Int32) (f_empty : Nat → Int32) (n_v_thrown : Int32) (n_v_tanks : Int32) (n_v_hasPlan : Int32) (n_f_low : Nat → Int32) (n_f_high : Nat → Int32) (n_f_loaded : Nat → Int32) (n_f_empty : Nat → Int32) (hF : fn_MD_line z a1 v_thrown v_tanks v_hasPlan f_low f_high f_loaded f_empty = some (n_v_thrown, n_v_tanks, n_v_hasPlan, n_f_low, n_f_high, n_f_loaded, n_f_empty)) : Met l y_MD_line w_MD_line ({ frames := 1, cells := 0, slots := 0, locals := 22 }) (hq_Pc (dC, dI) vwCl [(cI, .int)] (wd_MD_line q_this q_low q_high q_loaded q_empty q_order q_places q_times q_planOrder q_planTimes q_carriers q_begins cI v_thrown v_tanks v_hasPlan v_cycle v_second v_entered v_done v_took v_stopped v_move v_ends v_onHoist v_began f_low f_high f_loaded f_empty) sz [.ref q_this, .int a1]) (hq_Qv (dC, dI) vwCl [(cI, .int)] (wd_MD_line q_this q_low q_high q_loaded q_empty q_order q_places q_times q_planOrder q_planTimes q_carriers q_begins cI n_v_thrown n_v_tanks n_v_hasPlan v_cycle v_second v_entered v_done v_took v_stopped v_move v_ends v_onHoist v_began n_f_low n_f_high n_f_loaded n_f_empty) (va_A (wd_MD_line q_this q_low q_high q_loaded q_empty q_order q_places q_times q_planOrder q_planTimes q_carriers q_begins cI v_thrown v_tanks v_hasPlan v_cycle v_second v_entered v_done v_took v_stopped v_move v_ends v_onHoist v_began f_low f_high f_loaded f_empty) sz)) 0 0 (va_A (wd_MD_line q_this q_low q_high q_loaded q_empty q_order q_places q_times q_planOrder q_planTimes q_carriers q_begins cI v_thrown v_tanks v_hasPlan v_cycle v_second v_entered v_done v_took v_stopped v_move v_ends v_onHoist v_began f_low f_high f_loaded f_empty) sz) := by
  refine hq_met (Qc := (hq_Qv (dC, dI) vwCl [(cI, .int)] (wd_MD_line q_this q_low q_high q_loaded q_empty q_order q_places q_times q_planOrder q_planTimes q_carriers q_begins cI n_v_thrown n_v_tanks n_v_hasPlan v_cycle v_second v_entered v_done v_took v_stopped v_move v_ends v_onHoist v_began n_f_low n_f_high n_f_loaded n_f_empty))) (cc := b_MD_line) (maxL := 2) (ret := none) (by decide) rfl (Nat.le_of_ble_eq_true rfl) ?_
  intro p e s m args below meth c A ls hx hb hr hml hts hown hlocks hnm hP hD hK hA hS hl
  have hts : ∀ w ∈ tb0, w.before args s = true := fun w h => hts w (List.mem_cons_of_mem _ h)
  have hown : s.vm.findClass R_MD = some m.cls := hown
  have hl : lv_has ls 2 [(0, .ref q_this), (1, .int a1)] := hl
  unfold fn_MD_line at hF
  refine lv_aload_n hx hb d_MD_line_0 rfl (lv_at hl 0 rfl) ?_
  refine lv_iload_n hx hb d_MD_line_1 rfl (lv_at hl 1 rfl) ?_
  refine lv_iconst (v := 1) hx hb d_MD_line_2 (by decide) ?_
  refine lv_iconst (v := 5) hx hb d_MD_line_3 (by decide) ?_
  obtain ⟨r1, hc1, hF⟩ := ox_clS hF
  refine hq_ci (ws' := (wd_MD_line q_this q_low q_high q_loaded q_empty q_order q_places q_times q_planOrder q_planTimes q_carriers q_begins cI v_thrown v_tanks v_hasPlan v_cycle v_second v_entered v_done v_took v_stopped v_move v_ends v_onHoist v_began f_low f_high f_loaded f_empty)) (hq_rS (As := [.int a1, .int 1, .int 5]) (rest := [.ref q_this]) ⟨hx, hb, hml, hown, hts⟩ (c_MD_in l dC dI _ a1 1 5 r1 hc1) ⟨callB_of 3 hts (hq_g1 tw_177) rfl rfl rfl (hts _ tw_176) (hts _ tw_174) yd_MD_in ⟨Nat.le_of_ble_eq_true rfl, Nat.le_of_ble_eq_true rfl⟩, hts _ tw_175⟩ hP hD hK [] rfl [] rfl rfl rfl hl.1 rfl (Nat.le_of_ble_eq_true rfl) d_MD_line_4 ⟨Nat.zero_le _, Nat.zero_le _⟩) hP hD hS hA [] [0, 1, 2, 3, 4] [0, 1, 2, 3, 4] rfl rfl rfl (by decide) rfl rfl (fun H locs hP hD hS => ?_)
  refine lv_if_ne (tgt := 14) hx hb d_MD_line_7 (by decide) (fun hb2 => ?_) (fun hb2 => ?_)
  · have hF := ox_t hF hb2
    refine lv_iconst (v := 0) hx hb d_MD_line_14 (by decide) ?_
    refine lv_iconst (v := 0) hx hb d_MD_line_15 (by decide) ?_
    obtain ⟨⟨r3, s3_v_thrown⟩, hc3, hF⟩ := ox_clS hF
    refine hq_ci (ws' := (wd_MD_line q_this q_low q_high q_loaded q_empty q_order q_places q_times q_planOrder q_planTimes q_carriers q_begins cI s3_v_thrown v_tanks v_hasPlan v_cycle v_second v_entered v_done v_took v_stopped v_move v_ends v_onHoist v_began f_low f_high f_loaded f_empty)) (hq_rV (As := [.int 0, .int 0]) (rest := []) ⟨hx, hb, hml, hown, hts⟩ (c_MD_refuse l dC dI q_this q_low q_high q_loaded q_empty q_order q_places q_times q_planOrder q_planTimes q_carriers q_begins _ 0 0 v_thrown v_tanks v_hasPlan v_cycle v_second v_entered v_done v_took v_stopped v_move v_ends v_onHoist v_began r3 s3_v_thrown hc3) (cwV 2 hts (hq_gV tw_178 tw_179 tw_180 tw_176 tw_181) rfl rfl rfl yv_MD_refuse ⟨Nat.le_of_ble_eq_true rfl, Nat.le_of_ble_eq_true rfl⟩) hP hD hK [] rfl 0 rfl rfl [0] rfl rfl rfl hl.1 rfl (Nat.le_of_ble_eq_true rfl) d_MD_line_16 ⟨Nat.zero_le _, Nat.zero_le _⟩) hP hD hS hA [0] [1, 2, 3, 4] [4, 0, 1, 2, 3] rfl rfl rfl (by decide) rfl rfl (fun H locs hP hD hS => ?_)
    refine lv_if_ne (tgt := 27) hx hb d_MD_line_19 (by decide) (fun hb4 => ?_) (fun hb4 => ?_)
    · have hF := ox_t hF hb4
      cases hF
      exact hq_vret hx hb hr hlocks hP hD hK hS d_MD_line_27
    · have hF := ox_fn hF hb4
      refine lv_aload_n hx hb d_MD_line_22 rfl (lv_at hl 0 rfl) ?_
      refine lv_iload_n hx hb d_MD_line_23 rfl (lv_at hl 1 rfl) ?_
      obtain ⟨⟨s5_v_tanks, s5_v_hasPlan, s5_f_low, s5_f_high, s5_f_loaded, s5_f_empty⟩, hc5, hF⟩ := ox_clS hF
      refine hq_cv (ws' := (wd_MD_line q_this q_low q_high q_loaded q_empty q_order q_places q_times q_planOrder q_planTimes q_carriers q_begins cI s3_v_thrown s5_v_tanks s5_v_hasPlan v_cycle v_second v_entered v_done v_took v_stopped v_move v_ends v_onHoist v_began s5_f_low s5_f_high s5_f_loaded s5_f_empty)) (hq_rV (As := [.int a1]) (rest := []) ⟨hx, hb, hml, hown, hts⟩ (c_MD_clear l dC dI q_this q_low q_high q_loaded q_empty q_order q_places q_times q_planOrder q_planTimes q_carriers q_begins cI _ z a1 s3_v_thrown v_tanks v_hasPlan v_cycle v_second v_entered v_done v_took v_stopped v_move v_ends v_onHoist v_began f_low f_high f_loaded f_empty s5_v_tanks s5_v_hasPlan s5_f_low s5_f_high s5_f_loaded s5_f_empty hc5) (cwV 1 hts (hq_gV tw_182 tw_183 tw_184 tw_176 tw_185) rfl rfl rfl yv_MD_clear ⟨Nat.le_of_ble_eq_true rfl, Nat.le_of_ble_eq_true rfl⟩) hP hD hK [0] rfl 0 rfl rfl [0, 1, 2, 3, 4] rfl rfl rfl hl.1 rfl (Nat.le_of_ble_eq_true rfl) d_MD_line_24 ⟨Nat.zero_le _, Nat.zero_le _⟩) hP hD hS hA [0, 1, 2, 3, 4] [] [0, 1, 2, 3, 4] rfl rfl rfl (by decide) rfl rfl (fun H locs hP hD hS => ?_)
      cases hF
      exact hq_vret hx hb hr hlocks hP hD hK hS d_MD_line_27
  · have hF := ox_fn hF hb2
    refine lv_iconst (v := 1) hx hb d_MD_line_10 (by decide) ?_
    refine lv_goto (tgt := 15) hx hb d_MD_line_11 (by decide) ?_
    refine lv_iconst (v := 0) hx hb d_MD_line_15 (by decide) ?_
    obtain ⟨⟨r6, s6_v_thrown⟩, hc6, hF⟩ := ox_clS hF
    refine hq_ci (ws' := (wd_MD_line q_this q_low q_high q_loaded q_empty q_order q_places q_times q_planOrder q_planTimes q_carriers q_begins cI s6_v_thrown v_tanks v_hasPlan v_cycle v_second v_entered v_done v_took v_stopped v_move v_ends v_onHoist v_began f_low f_high f_loaded f_empty)) (hq_rV (As := [.int 1, .int 0]) (rest := []) ⟨hx, hb, hml, hown, hts⟩ (c_MD_refuse l dC dI q_this q_low q_high q_loaded q_empty q_order q_places q_times q_planOrder q_planTimes q_carriers q_begins _ 1 0 v_thrown v_tanks v_hasPlan v_cycle v_second v_entered v_done v_took v_stopped v_move v_ends v_onHoist v_began r6 s6_v_thrown hc6) (cwV 2 hts (hq_gV tw_178 tw_179 tw_180 tw_176 tw_181) rfl rfl rfl yv_MD_refuse ⟨Nat.le_of_ble_eq_true rfl, Nat.le_of_ble_eq_true rfl⟩) hP hD hK [] rfl 0 rfl rfl [0] rfl rfl rfl hl.1 rfl (Nat.le_of_ble_eq_true rfl) d_MD_line_16 ⟨Nat.zero_le _, Nat.zero_le _⟩) hP hD hS hA [0] [1, 2, 3, 4] [4, 0, 1, 2, 3] rfl rfl rfl (by decide) rfl rfl (fun H locs hP hD hS => ?_)
    refine lv_if_ne (tgt := 27) hx hb d_MD_line_19 (by decide) (fun hb7 => ?_) (fun hb7 => ?_)
    · have hF := ox_t hF hb7
      cases hF
      exact hq_vret hx hb hr hlocks hP hD hK hS d_MD_line_27
    · have hF := ox_fn hF hb7
      refine lv_aload_n hx hb d_MD_line_22 rfl (lv_at hl 0 rfl) ?_
      refine lv_iload_n hx hb d_MD_line_23 rfl (lv_at hl 1 rfl) ?_
      obtain ⟨⟨s8_v_tanks, s8_v_hasPlan, s8_f_low, s8_f_high, s8_f_loaded, s8_f_empty⟩, hc8, hF⟩ := ox_clS hF
      refine hq_cv (ws' := (wd_MD_line q_this q_low q_high q_loaded q_empty q_order q_places q_times q_planOrder q_planTimes q_carriers q_begins cI s6_v_thrown s8_v_tanks s8_v_hasPlan v_cycle v_second v_entered v_done v_took v_stopped v_move v_ends v_onHoist v_began s8_f_low s8_f_high s8_f_loaded s8_f_empty)) (hq_rV (As := [.int a1]) (rest := []) ⟨hx, hb, hml, hown, hts⟩ (c_MD_clear l dC dI q_this q_low q_high q_loaded q_empty q_order q_places q_times q_planOrder q_planTimes q_carriers q_begins cI _ z a1 s6_v_thrown v_tanks v_hasPlan v_cycle v_second v_entered v_done v_took v_stopped v_move v_ends v_onHoist v_began f_low f_high f_loaded f_empty s8_v_tanks s8_v_hasPlan s8_f_low s8_f_high s8_f_loaded s8_f_empty hc8) (cwV 1 hts (hq_gV tw_182 tw_183 tw_184 tw_176 tw_185) rfl rfl rfl yv_MD_clear ⟨Nat.le_of_ble_eq_true rfl, Nat.le_of_ble_eq_true rfl⟩) hP hD hK [0] rfl 0 rfl rfl [0, 1, 2, 3, 4] rfl rfl rfl hl.1 rfl (Nat.le_of_ble_eq_true rfl) d_MD_line_24 ⟨Nat.zero_le _, Nat.zero_le _⟩) hP hD hS hA [0, 1, 2, 3, 4] [] [0, 1, 2, 3, 4] rfl rfl rfl (by decide) rfl rfl (fun H locs hP hD hS => ?_)
      cases hF
      exact hq_vret hx hb hr hlocks hP hD hK hS d_MD_line_27
abbrev wd_MD_soak (q_this : Nat) (q_low : Nat) (q_high : Nat) (q_loaded : Nat) (q_empty : Nat) (q_order : Nat) (q_places : Nat) (q_times : Nat) (q_planOrder : Nat) (q_planTimes : Nat) (q_carriers : Nat) (q_begins : Nat) (cI : ClassId) (v_thrown : Int32) (v_tanks : Int32) (v_hasPlan : Int32) (v_cycle : Int32) (v_second : Int32) (v_entered : Int32) (v_done : Int32) (v_took : Int32) (v_stopped : Int32) (v_move : Int32) (v_ends : Int32) (v_onHoist : Int32) (v_began : Int32) (f_low : Nat → Int32) (f_high : Nat → Int32) : va_W := [(q_this, .inr (6, [.int v_thrown, .int v_tanks, .ref q_low, .ref q_high, .ref q_loaded, .ref q_empty, .ref q_order, .ref q_places, .ref q_times, .int v_hasPlan, .int v_cycle, .ref q_planOrder, .ref q_planTimes, .int v_second, .int v_entered, .int v_done, .int v_took, .int v_stopped, .ref q_carriers, .ref q_begins, .int v_move, .int v_ends, .int v_onHoist, .int v_began])), (q_low, .inl (cI, 6, .inl f_low)), (q_high, .inl (cI, 6, .inl f_high))]
set_option maxHeartbeats 4000000 in
set_option maxRecDepth 100000 in
theorem c_MD_soak (l : Launch) (dC : Nat → ClassId) (dI : Nat → Nat → Nat) (q_this : Nat) (q_low : Nat) (q_high : Nat) (q_loaded : Nat) (q_empty : Nat) (q_order : Nat) (q_places : Nat) (q_times : Nat) (q_planOrder : Nat) (q_planTimes : Nat) (q_carriers : Nat) (q_begins : Nat) (cI : ClassId) (sz : Nat) (a1 : Int32) (a2 : Int32) (a3 : Int32) (v_thrown : Int32) (v_tanks : Int32) (v_hasPlan : Int32) (v_cycle : Int32) (v_second : Int32) (v_entered : Int32) (v_done : Int32) (v_took : Int32) (v_stopped : Int32) (v_move : Int32) (v_ends : Int32) (v_onHoist : Int32) (v_began : Int32) (f_low : Nat → Int32) (f_high : Nat → Int32) (n_v_thrown : Int32) (n_v_hasPlan : Int32) (n_f_low : Nat → Int32) (n_f_high : Nat → Int32) (hF : fn_MD_soak a1 a2 a3 v_thrown v_tanks v_hasPlan f_low f_high = some (n_v_thrown, n_v_hasPlan, n_f_low, n_f_high)) : Met l y_MD_soak w_MD_soak ({ frames := 1, cells := 0, slots := 0, locals := 22 }) (hq_Pc (dC, dI) vwCl [(cI, .int)] (wd_MD_soak q_this q_low q_high q_loaded q_empty q_order q_places q_times q_planOrder q_planTimes q_carriers q_begins cI v_thrown v_tanks v_hasPlan v_cycle v_second v_entered v_done v_took v_stopped v_move v_ends v_onHoist v_began f_low f_high) sz [.ref q_this, .int a1, .int a2, .int a3]) (hq_Qv (dC, dI) vwCl [(cI, .int)] (wd_MD_soak q_this q_low q_high q_loaded q_empty q_order q_places q_times q_planOrder q_planTimes q_carriers q_begins cI n_v_thrown v_tanks n_v_hasPlan v_cycle v_second v_entered v_done v_took v_stopped v_move v_ends v_onHoist v_began n_f_low n_f_high) (va_A (wd_MD_soak q_this q_low q_high q_loaded q_empty q_order q_places q_times q_planOrder q_planTimes q_carriers q_begins cI v_thrown v_tanks v_hasPlan v_cycle v_second v_entered v_done v_took v_stopped v_move v_ends v_onHoist v_began f_low f_high) sz)) 0 0 (va_A (wd_MD_soak q_this q_low q_high q_loaded q_empty q_order q_places q_times q_planOrder q_planTimes q_carriers q_begins cI v_thrown v_tanks v_hasPlan v_cycle v_second v_entered v_done v_took v_stopped v_move v_ends v_onHoist v_began f_low f_high) sz) := by
  refine hq_met (Qc := (hq_Qv (dC, dI) vwCl [(cI, .int)] (wd_MD_soak q_this q_low q_high q_loaded q_empty q_order q_places q_times q_planOrder q_planTimes q_carriers q_begins cI n_v_thrown v_tanks n_v_hasPlan v_cycle v_second v_entered v_done v_took v_stopped v_move v_ends v_onHoist v_began n_f_low n_f_high))) (cc := b_MD_soak) (maxL := 4) (ret := none) (by decide) rfl (Nat.le_of_ble_eq_true rfl) ?_
  intro p e s m args below meth c A ls hx hb hr hml hts hown hlocks hnm hP hD hK hA hS hl
  have hts : ∀ w ∈ tb0, w.before args s = true := fun w h => hts w (List.mem_cons_of_mem _ h)
  have hown : s.vm.findClass R_MD = some m.cls := hown
  have hl : lv_has ls 4 [(0, .ref q_this), (1, .int a1), (2, .int a2), (3, .int a3)] := hl
  unfold fn_MD_soak at hF
  refine lv_aload_n hx hb d_MD_soak_0 rfl (lv_at hl 0 rfl) ?_
  refine lv_iload_n hx hb d_MD_soak_1 rfl (lv_at hl 1 rfl) ?_
  refine lv_iconst (v := 1) hx hb d_MD_soak_2 (by decide) ?_
  refine lv_aload_n hx hb d_MD_soak_3 rfl (lv_at hl 0 rfl) ?_
  refine va_get (D := (dC, dI)) (ci := 6) (v := .int v_tanks) (C := R_MD) (T := F_MD) (N := 24) hx hb hts uw_MD hown hK hP 0 rfl rfl 1 (by decide) (hts _ tw_172) (fun _ h9 => h9) rfl d_MD_soak_4 ?_
  obtain ⟨r1, hc1, hF⟩ := ox_clS hF
  refine hq_ci (ws' := (wd_MD_soak q_this q_low q_high q_loaded q_empty q_order q_places q_times q_planOrder q_planTimes q_carriers q_begins cI v_thrown v_tanks v_hasPlan v_cycle v_second v_entered v_done v_took v_stopped v_move v_ends v_onHoist v_began f_low f_high)) (hq_rS (As := [.int a1, .int 1, .int v_tanks]) (rest := [.ref q_this]) ⟨hx, hb, hml, hown, hts⟩ (c_MD_in l dC dI _ a1 1 v_tanks r1 hc1) ⟨callB_of 3 hts (hq_g1 tw_177) rfl rfl rfl (hts _ tw_176) (hts _ tw_174) yd_MD_in ⟨Nat.le_of_ble_eq_true rfl, Nat.le_of_ble_eq_true rfl⟩, hts _ tw_175⟩ hP hD hK [] rfl [] rfl rfl rfl hl.1 rfl (Nat.le_of_ble_eq_true rfl) d_MD_soak_7 ⟨Nat.zero_le _, Nat.zero_le _⟩) hP hD hS hA [] [0, 1, 2] [0, 1, 2] rfl rfl rfl (by decide) rfl rfl (fun H locs hP hD hS => ?_)
  refine lv_if_eq (tgt := 40) hx hb d_MD_soak_10 (by decide) (fun hb2 => ?_) (fun hb2 => ?_)
  · have hF := ox_t hF hb2
    refine lv_iconst (v := 1) hx hb d_MD_soak_40 (by decide) ?_
    refine lv_goto (tgt := 45) hx hb d_MD_soak_41 (by decide) ?_
    refine lv_iconst (v := 0) hx hb d_MD_soak_45 (by decide) ?_
    obtain ⟨⟨r3, s3_v_thrown⟩, hc3, hF⟩ := ox_clS hF
    refine hq_ci (ws' := (wd_MD_soak q_this q_low q_high q_loaded q_empty q_order q_places q_times q_planOrder q_planTimes q_carriers q_begins cI s3_v_thrown v_tanks v_hasPlan v_cycle v_second v_entered v_done v_took v_stopped v_move v_ends v_onHoist v_began f_low f_high)) (hq_rV (As := [.int 1, .int 0]) (rest := []) ⟨hx, hb, hml, hown, hts⟩ (c_MD_refuse l dC dI q_this q_low q_high q_loaded q_empty q_order q_places q_times q_planOrder q_planTimes q_carriers q_begins _ 1 0 v_thrown v_tanks v_hasPlan v_cycle v_second v_entered v_done v_took v_stopped v_move v_ends v_onHoist v_began r3 s3_v_thrown hc3) (cwV 2 hts (hq_gV tw_178 tw_179 tw_180 tw_176 tw_181) rfl rfl rfl yv_MD_refuse ⟨Nat.le_of_ble_eq_true rfl, Nat.le_of_ble_eq_true rfl⟩) hP hD hK [] rfl 0 rfl rfl [0] rfl rfl rfl hl.1 rfl (Nat.le_of_ble_eq_true rfl) d_MD_soak_46 ⟨Nat.zero_le _, Nat.zero_le _⟩) hP hD hS hA [0] [1, 2] [2, 0, 1] rfl rfl rfl (by decide) rfl rfl (fun H locs hP hD hS => ?_)
    refine lv_if_eq (tgt := 53) hx hb d_MD_soak_49 (by decide) (fun hb4 => ?_) (fun hb4 => ?_)
    · have hF := ox_t hF hb4
      refine lv_aload_n hx hb d_MD_soak_53 rfl (lv_at hl 0 rfl) ?_
      refine va_get (D := (dC, dI)) (ci := 6) (v := .ref q_low) (C := R_MD) (T := F_MD) (N := 24) hx hb hts uw_MD hown hK hP 0 rfl rfl 2 (by decide) (hts _ tw_168) (fun _ h9 => h9) rfl d_MD_soak_54 ?_
      refine lv_iload_n hx hb d_MD_soak_57 rfl (lv_at hl 1 rfl) ?_
      refine lv_iload_n hx hb d_MD_soak_58 rfl (lv_at hl 2 rfl) ?_
      obtain ⟨hin, hF⟩ := ox_gdS hF
      refine va_iast hx hb hK hP hD hS 1 0 rfl rfl hin d_MD_soak_59 (fun H locs hP hD hS => ?_)
      have hP : va_P (dC, dI) vwCl (wd_MD_soak q_this q_low q_high q_loaded q_empty q_order q_places q_times q_planOrder q_planTimes q_carriers q_begins cI s3_v_thrown v_tanks v_hasPlan v_cycle v_second v_entered v_done v_took v_stopped v_move v_ends v_onHoist v_began (upd f_low a1.toNatClampNeg a2) f_high) H := hP
      have hD : va_D A (wd_MD_soak q_this q_low q_high q_loaded q_empty q_order q_places q_times q_planOrder q_planTimes q_carriers q_begins cI s3_v_thrown v_tanks v_hasPlan v_cycle v_second v_entered v_done v_took v_stopped v_move v_ends v_onHoist v_began (upd f_low a1.toNatClampNeg a2) f_high) := hD
      refine lv_aload_n hx hb d_MD_soak_60 rfl (lv_at hl 0 rfl) ?_
      refine va_get (D := (dC, dI)) (ci := 6) (v := .ref q_high) (C := R_MD) (T := F_MD) (N := 24) hx hb hts uw_MD hown hK hP 0 rfl rfl 3 (by decide) (hts _ tw_169) (fun _ h9 => h9) rfl d_MD_soak_61 ?_
      refine lv_iload_n hx hb d_MD_soak_64 rfl (lv_at hl 1 rfl) ?_
      refine lv_iload_n hx hb d_MD_soak_65 rfl (lv_at hl 3 rfl) ?_
      obtain ⟨hin, hF⟩ := ox_gdS hF
      refine va_iast hx hb hK hP hD hS 2 0 rfl rfl hin d_MD_soak_66 (fun H locs hP hD hS => ?_)
      have hP : va_P (dC, dI) vwCl (wd_MD_soak q_this q_low q_high q_loaded q_empty q_order q_places q_times q_planOrder q_planTimes q_carriers q_begins cI s3_v_thrown v_tanks v_hasPlan v_cycle v_second v_entered v_done v_took v_stopped v_move v_ends v_onHoist v_began (upd f_low a1.toNatClampNeg a2) (upd f_high a1.toNatClampNeg a3)) H := hP
      have hD : va_D A (wd_MD_soak q_this q_low q_high q_loaded q_empty q_order q_places q_times q_planOrder q_planTimes q_carriers q_begins cI s3_v_thrown v_tanks v_hasPlan v_cycle v_second v_entered v_done v_took v_stopped v_move v_ends v_onHoist v_began (upd f_low a1.toNatClampNeg a2) (upd f_high a1.toNatClampNeg a3)) := hD
      refine lv_aload_n hx hb d_MD_soak_67 rfl (lv_at hl 0 rfl) ?_
      refine lv_iconst (v := 0) hx hb d_MD_soak_68 (by decide) ?_
      refine va_put (D := (dC, dI)) (ci := 6) (v := .int 0) (ty := .boolean) (C := R_MD) (T := F_MD) (N := 24) hx hb hts uw_MD t_MD t_MD_ok n_MD hown hK hP hD hS 0 rfl rfl 9 (by decide) (hts _ tw_173) (fun _ h9 => h9) rfl (by decide +kernel) rfl rfl (Nat.le_of_ble_eq_true rfl) d_MD_soak_69 (fun H locs hP hD hS => ?_)
      have hP : va_P (dC, dI) vwCl (wd_MD_soak q_this q_low q_high q_loaded q_empty q_order q_places q_times q_planOrder q_planTimes q_carriers q_begins cI s3_v_thrown v_tanks 0 v_cycle v_second v_entered v_done v_took v_stopped v_move v_ends v_onHoist v_began (upd f_low a1.toNatClampNeg a2) (upd f_high a1.toNatClampNeg a3)) H := hP
      have hD : va_D A (wd_MD_soak q_this q_low q_high q_loaded q_empty q_order q_places q_times q_planOrder q_planTimes q_carriers q_begins cI s3_v_thrown v_tanks 0 v_cycle v_second v_entered v_done v_took v_stopped v_move v_ends v_onHoist v_began (upd f_low a1.toNatClampNeg a2) (upd f_high a1.toNatClampNeg a3)) := hD
      cases hF
      exact hq_vret hx hb hr hlocks hP hD hK hS d_MD_soak_72
    · have hF := ox_f hF hb4
      cases hF
      exact hq_vret hx hb hr hlocks hP hD hK hS d_MD_soak_52
  · have hF := ox_f hF hb2
    refine lv_iload_n hx hb d_MD_soak_13 rfl (lv_at hl 2 rfl) ?_
    refine lv_iconst (v := 0) hx hb d_MD_soak_14 (by decide) ?_
    refine lv_sipush (v := 500) hx hb d_MD_soak_15 (by decide) ?_
    obtain ⟨r5, hc5, hF⟩ := ox_clS hF
    refine hq_ci (ws' := (wd_MD_soak q_this q_low q_high q_loaded q_empty q_order q_places q_times q_planOrder q_planTimes q_carriers q_begins cI v_thrown v_tanks v_hasPlan v_cycle v_second v_entered v_done v_took v_stopped v_move v_ends v_onHoist v_began f_low f_high)) (hq_rS (As := [.int a2, .int 0, .int 500]) (rest := [.ref q_this]) ⟨hx, hb, hml, hown, hts⟩ (c_MD_in l dC dI _ a2 0 500 r5 hc5) ⟨callB_of 3 hts (hq_g1 tw_177) rfl rfl rfl (hts _ tw_176) (hts _ tw_174) yd_MD_in ⟨Nat.le_of_ble_eq_true rfl, Nat.le_of_ble_eq_true rfl⟩, hts _ tw_175⟩ hP hD hK [] rfl [] rfl rfl rfl hl.1 rfl (Nat.le_of_ble_eq_true rfl) d_MD_soak_18 ⟨Nat.zero_le _, Nat.zero_le _⟩) hP hD hS hA [] [0, 1, 2] [0, 1, 2] rfl rfl rfl (by decide) rfl rfl (fun H locs hP hD hS => ?_)
    refine lv_if_eq (tgt := 40) hx hb d_MD_soak_21 (by decide) (fun hb6 => ?_) (fun hb6 => ?_)
    · have hF := ox_t hF hb6
      refine lv_iconst (v := 1) hx hb d_MD_soak_40 (by decide) ?_
      refine lv_goto (tgt := 45) hx hb d_MD_soak_41 (by decide) ?_
      refine lv_iconst (v := 0) hx hb d_MD_soak_45 (by decide) ?_
      obtain ⟨⟨r7, s7_v_thrown⟩, hc7, hF⟩ := ox_clS hF
      refine hq_ci (ws' := (wd_MD_soak q_this q_low q_high q_loaded q_empty q_order q_places q_times q_planOrder q_planTimes q_carriers q_begins cI s7_v_thrown v_tanks v_hasPlan v_cycle v_second v_entered v_done v_took v_stopped v_move v_ends v_onHoist v_began f_low f_high)) (hq_rV (As := [.int 1, .int 0]) (rest := []) ⟨hx, hb, hml, hown, hts⟩ (c_MD_refuse l dC dI q_this q_low q_high q_loaded q_empty q_order q_places q_times q_planOrder q_planTimes q_carriers q_begins _ 1 0 v_thrown v_tanks v_hasPlan v_cycle v_second v_entered v_done v_took v_stopped v_move v_ends v_onHoist v_began r7 s7_v_thrown hc7) (cwV 2 hts (hq_gV tw_178 tw_179 tw_180 tw_176 tw_181) rfl rfl rfl yv_MD_refuse ⟨Nat.le_of_ble_eq_true rfl, Nat.le_of_ble_eq_true rfl⟩) hP hD hK [] rfl 0 rfl rfl [0] rfl rfl rfl hl.1 rfl (Nat.le_of_ble_eq_true rfl) d_MD_soak_46 ⟨Nat.zero_le _, Nat.zero_le _⟩) hP hD hS hA [0] [1, 2] [2, 0, 1] rfl rfl rfl (by decide) rfl rfl (fun H locs hP hD hS => ?_)
      refine lv_if_eq (tgt := 53) hx hb d_MD_soak_49 (by decide) (fun hb8 => ?_) (fun hb8 => ?_)
      · have hF := ox_t hF hb8
        refine lv_aload_n hx hb d_MD_soak_53 rfl (lv_at hl 0 rfl) ?_
        refine va_get (D := (dC, dI)) (ci := 6) (v := .ref q_low) (C := R_MD) (T := F_MD) (N := 24) hx hb hts uw_MD hown hK hP 0 rfl rfl 2 (by decide) (hts _ tw_168) (fun _ h9 => h9) rfl d_MD_soak_54 ?_
        refine lv_iload_n hx hb d_MD_soak_57 rfl (lv_at hl 1 rfl) ?_
        refine lv_iload_n hx hb d_MD_soak_58 rfl (lv_at hl 2 rfl) ?_
        obtain ⟨hin, hF⟩ := ox_gdS hF
        refine va_iast hx hb hK hP hD hS 1 0 rfl rfl hin d_MD_soak_59 (fun H locs hP hD hS => ?_)
        have hP : va_P (dC, dI) vwCl (wd_MD_soak q_this q_low q_high q_loaded q_empty q_order q_places q_times q_planOrder q_planTimes q_carriers q_begins cI s7_v_thrown v_tanks v_hasPlan v_cycle v_second v_entered v_done v_took v_stopped v_move v_ends v_onHoist v_began (upd f_low a1.toNatClampNeg a2) f_high) H := hP
        have hD : va_D A (wd_MD_soak q_this q_low q_high q_loaded q_empty q_order q_places q_times q_planOrder q_planTimes q_carriers q_begins cI s7_v_thrown v_tanks v_hasPlan v_cycle v_second v_entered v_done v_took v_stopped v_move v_ends v_onHoist v_began (upd f_low a1.toNatClampNeg a2) f_high) := hD
        refine lv_aload_n hx hb d_MD_soak_60 rfl (lv_at hl 0 rfl) ?_
        refine va_get (D := (dC, dI)) (ci := 6) (v := .ref q_high) (C := R_MD) (T := F_MD) (N := 24) hx hb hts uw_MD hown hK hP 0 rfl rfl 3 (by decide) (hts _ tw_169) (fun _ h9 => h9) rfl d_MD_soak_61 ?_
        refine lv_iload_n hx hb d_MD_soak_64 rfl (lv_at hl 1 rfl) ?_
        refine lv_iload_n hx hb d_MD_soak_65 rfl (lv_at hl 3 rfl) ?_
        obtain ⟨hin, hF⟩ := ox_gdS hF
        refine va_iast hx hb hK hP hD hS 2 0 rfl rfl hin d_MD_soak_66 (fun H locs hP hD hS => ?_)
        have hP : va_P (dC, dI) vwCl (wd_MD_soak q_this q_low q_high q_loaded q_empty q_order q_places q_times q_planOrder q_planTimes q_carriers q_begins cI s7_v_thrown v_tanks v_hasPlan v_cycle v_second v_entered v_done v_took v_stopped v_move v_ends v_onHoist v_began (upd f_low a1.toNatClampNeg a2) (upd f_high a1.toNatClampNeg a3)) H := hP
        have hD : va_D A (wd_MD_soak q_this q_low q_high q_loaded q_empty q_order q_places q_times q_planOrder q_planTimes q_carriers q_begins cI s7_v_thrown v_tanks v_hasPlan v_cycle v_second v_entered v_done v_took v_stopped v_move v_ends v_onHoist v_began (upd f_low a1.toNatClampNeg a2) (upd f_high a1.toNatClampNeg a3)) := hD
        refine lv_aload_n hx hb d_MD_soak_67 rfl (lv_at hl 0 rfl) ?_
        refine lv_iconst (v := 0) hx hb d_MD_soak_68 (by decide) ?_
        refine va_put (D := (dC, dI)) (ci := 6) (v := .int 0) (ty := .boolean) (C := R_MD) (T := F_MD) (N := 24) hx hb hts uw_MD t_MD t_MD_ok n_MD hown hK hP hD hS 0 rfl rfl 9 (by decide) (hts _ tw_173) (fun _ h9 => h9) rfl (by decide +kernel) rfl rfl (Nat.le_of_ble_eq_true rfl) d_MD_soak_69 (fun H locs hP hD hS => ?_)
        have hP : va_P (dC, dI) vwCl (wd_MD_soak q_this q_low q_high q_loaded q_empty q_order q_places q_times q_planOrder q_planTimes q_carriers q_begins cI s7_v_thrown v_tanks 0 v_cycle v_second v_entered v_done v_took v_stopped v_move v_ends v_onHoist v_began (upd f_low a1.toNatClampNeg a2) (upd f_high a1.toNatClampNeg a3)) H := hP
        have hD : va_D A (wd_MD_soak q_this q_low q_high q_loaded q_empty q_order q_places q_times q_planOrder q_planTimes q_carriers q_begins cI s7_v_thrown v_tanks 0 v_cycle v_second v_entered v_done v_took v_stopped v_move v_ends v_onHoist v_began (upd f_low a1.toNatClampNeg a2) (upd f_high a1.toNatClampNeg a3)) := hD
        cases hF
        exact hq_vret hx hb hr hlocks hP hD hK hS d_MD_soak_72
      · have hF := ox_f hF hb8
        cases hF
        exact hq_vret hx hb hr hlocks hP hD hK hS d_MD_soak_52
    · have hF := ox_f hF hb6
      refine lv_iload_n hx hb d_MD_soak_24 rfl (lv_at hl 3 rfl) ?_
      refine lv_iconst (v := 0) hx hb d_MD_soak_25 (by decide) ?_
      refine lv_sipush (v := 500) hx hb d_MD_soak_26 (by decide) ?_
      obtain ⟨r9, hc9, hF⟩ := ox_clS hF
      refine hq_ci (ws' := (wd_MD_soak q_this q_low q_high q_loaded q_empty q_order q_places q_times q_planOrder q_planTimes q_carriers q_begins cI v_thrown v_tanks v_hasPlan v_cycle v_second v_entered v_done v_took v_stopped v_move v_ends v_onHoist v_began f_low f_high)) (hq_rS (As := [.int a3, .int 0, .int 500]) (rest := [.ref q_this]) ⟨hx, hb, hml, hown, hts⟩ (c_MD_in l dC dI _ a3 0 500 r9 hc9) ⟨callB_of 3 hts (hq_g1 tw_177) rfl rfl rfl (hts _ tw_176) (hts _ tw_174) yd_MD_in ⟨Nat.le_of_ble_eq_true rfl, Nat.le_of_ble_eq_true rfl⟩, hts _ tw_175⟩ hP hD hK [] rfl [] rfl rfl rfl hl.1 rfl (Nat.le_of_ble_eq_true rfl) d_MD_soak_29 ⟨Nat.zero_le _, Nat.zero_le _⟩) hP hD hS hA [] [0, 1, 2] [0, 1, 2] rfl rfl rfl (by decide) rfl rfl (fun H locs hP hD hS => ?_)
      refine lv_if_eq (tgt := 40) hx hb d_MD_soak_32 (by decide) (fun hb10 => ?_) (fun hb10 => ?_)
      · have hF := ox_t hF hb10
        refine lv_iconst (v := 1) hx hb d_MD_soak_40 (by decide) ?_
        refine lv_goto (tgt := 45) hx hb d_MD_soak_41 (by decide) ?_
        refine lv_iconst (v := 0) hx hb d_MD_soak_45 (by decide) ?_
        obtain ⟨⟨r11, s11_v_thrown⟩, hc11, hF⟩ := ox_clS hF
        refine hq_ci (ws' := (wd_MD_soak q_this q_low q_high q_loaded q_empty q_order q_places q_times q_planOrder q_planTimes q_carriers q_begins cI s11_v_thrown v_tanks v_hasPlan v_cycle v_second v_entered v_done v_took v_stopped v_move v_ends v_onHoist v_began f_low f_high)) (hq_rV (As := [.int 1, .int 0]) (rest := []) ⟨hx, hb, hml, hown, hts⟩ (c_MD_refuse l dC dI q_this q_low q_high q_loaded q_empty q_order q_places q_times q_planOrder q_planTimes q_carriers q_begins _ 1 0 v_thrown v_tanks v_hasPlan v_cycle v_second v_entered v_done v_took v_stopped v_move v_ends v_onHoist v_began r11 s11_v_thrown hc11) (cwV 2 hts (hq_gV tw_178 tw_179 tw_180 tw_176 tw_181) rfl rfl rfl yv_MD_refuse ⟨Nat.le_of_ble_eq_true rfl, Nat.le_of_ble_eq_true rfl⟩) hP hD hK [] rfl 0 rfl rfl [0] rfl rfl rfl hl.1 rfl (Nat.le_of_ble_eq_true rfl) d_MD_soak_46 ⟨Nat.zero_le _, Nat.zero_le _⟩) hP hD hS hA [0] [1, 2] [2, 0, 1] rfl rfl rfl (by decide) rfl rfl (fun H locs hP hD hS => ?_)
        refine lv_if_eq (tgt := 53) hx hb d_MD_soak_49 (by decide) (fun hb12 => ?_) (fun hb12 => ?_)
        · have hF := ox_t hF hb12
          refine lv_aload_n hx hb d_MD_soak_53 rfl (lv_at hl 0 rfl) ?_
          refine va_get (D := (dC, dI)) (ci := 6) (v := .ref q_low) (C := R_MD) (T := F_MD) (N := 24) hx hb hts uw_MD hown hK hP 0 rfl rfl 2 (by decide) (hts _ tw_168) (fun _ h9 => h9) rfl d_MD_soak_54 ?_
          refine lv_iload_n hx hb d_MD_soak_57 rfl (lv_at hl 1 rfl) ?_
          refine lv_iload_n hx hb d_MD_soak_58 rfl (lv_at hl 2 rfl) ?_
          obtain ⟨hin, hF⟩ := ox_gdS hF
          refine va_iast hx hb hK hP hD hS 1 0 rfl rfl hin d_MD_soak_59 (fun H locs hP hD hS => ?_)
          have hP : va_P (dC, dI) vwCl (wd_MD_soak q_this q_low q_high q_loaded q_empty q_order q_places q_times q_planOrder q_planTimes q_carriers q_begins cI s11_v_thrown v_tanks v_hasPlan v_cycle v_second v_entered v_done v_took v_stopped v_move v_ends v_onHoist v_began (upd f_low a1.toNatClampNeg a2) f_high) H := hP
          have hD : va_D A (wd_MD_soak q_this q_low q_high q_loaded q_empty q_order q_places q_times q_planOrder q_planTimes q_carriers q_begins cI s11_v_thrown v_tanks v_hasPlan v_cycle v_second v_entered v_done v_took v_stopped v_move v_ends v_onHoist v_began (upd f_low a1.toNatClampNeg a2) f_high) := hD
          refine lv_aload_n hx hb d_MD_soak_60 rfl (lv_at hl 0 rfl) ?_
          refine va_get (D := (dC, dI)) (ci := 6) (v := .ref q_high) (C := R_MD) (T := F_MD) (N := 24) hx hb hts uw_MD hown hK hP 0 rfl rfl 3 (by decide) (hts _ tw_169) (fun _ h9 => h9) rfl d_MD_soak_61 ?_
          refine lv_iload_n hx hb d_MD_soak_64 rfl (lv_at hl 1 rfl) ?_
          refine lv_iload_n hx hb d_MD_soak_65 rfl (lv_at hl 3 rfl) ?_
          obtain ⟨hin, hF⟩ := ox_gdS hF
          refine va_iast hx hb hK hP hD hS 2 0 rfl rfl hin d_MD_soak_66 (fun H locs hP hD hS => ?_)
          have hP : va_P (dC, dI) vwCl (wd_MD_soak q_this q_low q_high q_loaded q_empty q_order q_places q_times q_planOrder q_planTimes q_carriers q_begins cI s11_v_thrown v_tanks v_hasPlan v_cycle v_second v_entered v_done v_took v_stopped v_move v_ends v_onHoist v_began (upd f_low a1.toNatClampNeg a2) (upd f_high a1.toNatClampNeg a3)) H := hP
          have hD : va_D A (wd_MD_soak q_this q_low q_high q_loaded q_empty q_order q_places q_times q_planOrder q_planTimes q_carriers q_begins cI s11_v_thrown v_tanks v_hasPlan v_cycle v_second v_entered v_done v_took v_stopped v_move v_ends v_onHoist v_began (upd f_low a1.toNatClampNeg a2) (upd f_high a1.toNatClampNeg a3)) := hD
          refine lv_aload_n hx hb d_MD_soak_67 rfl (lv_at hl 0 rfl) ?_
          refine lv_iconst (v := 0) hx hb d_MD_soak_68 (by decide) ?_
          refine va_put (D := (dC, dI)) (ci := 6) (v := .int 0) (ty := .boolean) (C := R_MD) (T := F_MD) (N := 24) hx hb hts uw_MD t_MD t_MD_ok n_MD hown hK hP hD hS 0 rfl rfl 9 (by decide) (hts _ tw_173) (fun _ h9 => h9) rfl (by decide +kernel) rfl rfl (Nat.le_of_ble_eq_true rfl) d_MD_soak_69 (fun H locs hP hD hS => ?_)
          have hP : va_P (dC, dI) vwCl (wd_MD_soak q_this q_low q_high q_loaded q_empty q_order q_places q_times q_planOrder q_planTimes q_carriers q_begins cI s11_v_thrown v_tanks 0 v_cycle v_second v_entered v_done v_took v_stopped v_move v_ends v_onHoist v_began (upd f_low a1.toNatClampNeg a2) (upd f_high a1.toNatClampNeg a3)) H := hP
          have hD : va_D A (wd_MD_soak q_this q_low q_high q_loaded q_empty q_order q_places q_times q_planOrder q_planTimes q_carriers q_begins cI s11_v_thrown v_tanks 0 v_cycle v_second v_entered v_done v_took v_stopped v_move v_ends v_onHoist v_began (upd f_low a1.toNatClampNeg a2) (upd f_high a1.toNatClampNeg a3)) := hD
          cases hF
          exact hq_vret hx hb hr hlocks hP hD hK hS d_MD_soak_72
        · have hF := ox_f hF hb12
          cases hF
          exact hq_vret hx hb hr hlocks hP hD hK hS d_MD_soak_52
      · have hF := ox_f hF hb10
        refine lv_iload_n hx hb d_MD_soak_35 rfl (lv_at hl 2 rfl) ?_
        refine lv_iload_n hx hb d_MD_soak_36 rfl (lv_at hl 3 rfl) ?_
        refine lv_icmp_le (tgt := 44) hx hb d_MD_soak_37 (by decide) (fun hb13 => ?_) (fun hb13 => ?_)
        · have hF := ox_t hF hb13
          refine lv_iconst (v := 0) hx hb d_MD_soak_44 (by decide) ?_
          refine lv_iconst (v := 0) hx hb d_MD_soak_45 (by decide) ?_
          obtain ⟨⟨r14, s14_v_thrown⟩, hc14, hF⟩ := ox_clS hF
          refine hq_ci (ws' := (wd_MD_soak q_this q_low q_high q_loaded q_empty q_order q_places q_times q_planOrder q_planTimes q_carriers q_begins cI s14_v_thrown v_tanks v_hasPlan v_cycle v_second v_entered v_done v_took v_stopped v_move v_ends v_onHoist v_began f_low f_high)) (hq_rV (As := [.int 0, .int 0]) (rest := []) ⟨hx, hb, hml, hown, hts⟩ (c_MD_refuse l dC dI q_this q_low q_high q_loaded q_empty q_order q_places q_times q_planOrder q_planTimes q_carriers q_begins _ 0 0 v_thrown v_tanks v_hasPlan v_cycle v_second v_entered v_done v_took v_stopped v_move v_ends v_onHoist v_began r14 s14_v_thrown hc14) (cwV 2 hts (hq_gV tw_178 tw_179 tw_180 tw_176 tw_181) rfl rfl rfl yv_MD_refuse ⟨Nat.le_of_ble_eq_true rfl, Nat.le_of_ble_eq_true rfl⟩) hP hD hK [] rfl 0 rfl rfl [0] rfl rfl rfl hl.1 rfl (Nat.le_of_ble_eq_true rfl) d_MD_soak_46 ⟨Nat.zero_le _, Nat.zero_le _⟩) hP hD hS hA [0] [1, 2] [2, 0, 1] rfl rfl rfl (by decide) rfl rfl (fun H locs hP hD hS => ?_)
          refine lv_if_eq (tgt := 53) hx hb d_MD_soak_49 (by decide) (fun hb15 => ?_) (fun hb15 => ?_)
          · have hF := ox_t hF hb15
            refine lv_aload_n hx hb d_MD_soak_53 rfl (lv_at hl 0 rfl) ?_
            refine va_get (D := (dC, dI)) (ci := 6) (v := .ref q_low) (C := R_MD) (T := F_MD) (N := 24) hx hb hts uw_MD hown hK hP 0 rfl rfl 2 (by decide) (hts _ tw_168) (fun _ h9 => h9) rfl d_MD_soak_54 ?_
            refine lv_iload_n hx hb d_MD_soak_57 rfl (lv_at hl 1 rfl) ?_
            refine lv_iload_n hx hb d_MD_soak_58 rfl (lv_at hl 2 rfl) ?_
            obtain ⟨hin, hF⟩ := ox_gdS hF
            refine va_iast hx hb hK hP hD hS 1 0 rfl rfl hin d_MD_soak_59 (fun H locs hP hD hS => ?_)
            have hP : va_P (dC, dI) vwCl (wd_MD_soak q_this q_low q_high q_loaded q_empty q_order q_places q_times q_planOrder q_planTimes q_carriers q_begins cI s14_v_thrown v_tanks v_hasPlan v_cycle v_second v_entered v_done v_took v_stopped v_move v_ends v_onHoist v_began (upd f_low a1.toNatClampNeg a2) f_high) H := hP
            have hD : va_D A (wd_MD_soak q_this q_low q_high q_loaded q_empty q_order q_places q_times q_planOrder q_planTimes q_carriers q_begins cI s14_v_thrown v_tanks v_hasPlan v_cycle v_second v_entered v_done v_took v_stopped v_move v_ends v_onHoist v_began (upd f_low a1.toNatClampNeg a2) f_high) := hD
            refine lv_aload_n hx hb d_MD_soak_60 rfl (lv_at hl 0 rfl) ?_
            refine va_get (D := (dC, dI)) (ci := 6) (v := .ref q_high) (C := R_MD) (T := F_MD) (N := 24) hx hb hts uw_MD hown hK hP 0 rfl rfl 3 (by decide) (hts _ tw_169) (fun _ h9 => h9) rfl d_MD_soak_61 ?_
            refine lv_iload_n hx hb d_MD_soak_64 rfl (lv_at hl 1 rfl) ?_
            refine lv_iload_n hx hb d_MD_soak_65 rfl (lv_at hl 3 rfl) ?_
            obtain ⟨hin, hF⟩ := ox_gdS hF
            refine va_iast hx hb hK hP hD hS 2 0 rfl rfl hin d_MD_soak_66 (fun H locs hP hD hS => ?_)
            have hP : va_P (dC, dI) vwCl (wd_MD_soak q_this q_low q_high q_loaded q_empty q_order q_places q_times q_planOrder q_planTimes q_carriers q_begins cI s14_v_thrown v_tanks v_hasPlan v_cycle v_second v_entered v_done v_took v_stopped v_move v_ends v_onHoist v_began (upd f_low a1.toNatClampNeg a2) (upd f_high a1.toNatClampNeg a3)) H := hP
            have hD : va_D A (wd_MD_soak q_this q_low q_high q_loaded q_empty q_order q_places q_times q_planOrder q_planTimes q_carriers q_begins cI s14_v_thrown v_tanks v_hasPlan v_cycle v_second v_entered v_done v_took v_stopped v_move v_ends v_onHoist v_began (upd f_low a1.toNatClampNeg a2) (upd f_high a1.toNatClampNeg a3)) := hD
            refine lv_aload_n hx hb d_MD_soak_67 rfl (lv_at hl 0 rfl) ?_
            refine lv_iconst (v := 0) hx hb d_MD_soak_68 (by decide) ?_
            refine va_put (D := (dC, dI)) (ci := 6) (v := .int 0) (ty := .boolean) (C := R_MD) (T := F_MD) (N := 24) hx hb hts uw_MD t_MD t_MD_ok n_MD hown hK hP hD hS 0 rfl rfl 9 (by decide) (hts _ tw_173) (fun _ h9 => h9) rfl (by decide +kernel) rfl rfl (Nat.le_of_ble_eq_true rfl) d_MD_soak_69 (fun H locs hP hD hS => ?_)
            have hP : va_P (dC, dI) vwCl (wd_MD_soak q_this q_low q_high q_loaded q_empty q_order q_places q_times q_planOrder q_planTimes q_carriers q_begins cI s14_v_thrown v_tanks 0 v_cycle v_second v_entered v_done v_took v_stopped v_move v_ends v_onHoist v_began (upd f_low a1.toNatClampNeg a2) (upd f_high a1.toNatClampNeg a3)) H := hP
            have hD : va_D A (wd_MD_soak q_this q_low q_high q_loaded q_empty q_order q_places q_times q_planOrder q_planTimes q_carriers q_begins cI s14_v_thrown v_tanks 0 v_cycle v_second v_entered v_done v_took v_stopped v_move v_ends v_onHoist v_began (upd f_low a1.toNatClampNeg a2) (upd f_high a1.toNatClampNeg a3)) := hD
            cases hF
            exact hq_vret hx hb hr hlocks hP hD hK hS d_MD_soak_72
          · have hF := ox_f hF hb15
            cases hF
            exact hq_vret hx hb hr hlocks hP hD hK hS d_MD_soak_52
        · have hF := ox_f hF hb13
          refine lv_iconst (v := 1) hx hb d_MD_soak_40 (by decide) ?_
          refine lv_goto (tgt := 45) hx hb d_MD_soak_41 (by decide) ?_
          refine lv_iconst (v := 0) hx hb d_MD_soak_45 (by decide) ?_
          obtain ⟨⟨r16, s16_v_thrown⟩, hc16, hF⟩ := ox_clS hF
          refine hq_ci (ws' := (wd_MD_soak q_this q_low q_high q_loaded q_empty q_order q_places q_times q_planOrder q_planTimes q_carriers q_begins cI s16_v_thrown v_tanks v_hasPlan v_cycle v_second v_entered v_done v_took v_stopped v_move v_ends v_onHoist v_began f_low f_high)) (hq_rV (As := [.int 1, .int 0]) (rest := []) ⟨hx, hb, hml, hown, hts⟩ (c_MD_refuse l dC dI q_this q_low q_high q_loaded q_empty q_order q_places q_times q_planOrder q_planTimes q_carriers q_begins _ 1 0 v_thrown v_tanks v_hasPlan v_cycle v_second v_entered v_done v_took v_stopped v_move v_ends v_onHoist v_began r16 s16_v_thrown hc16) (cwV 2 hts (hq_gV tw_178 tw_179 tw_180 tw_176 tw_181) rfl rfl rfl yv_MD_refuse ⟨Nat.le_of_ble_eq_true rfl, Nat.le_of_ble_eq_true rfl⟩) hP hD hK [] rfl 0 rfl rfl [0] rfl rfl rfl hl.1 rfl (Nat.le_of_ble_eq_true rfl) d_MD_soak_46 ⟨Nat.zero_le _, Nat.zero_le _⟩) hP hD hS hA [0] [1, 2] [2, 0, 1] rfl rfl rfl (by decide) rfl rfl (fun H locs hP hD hS => ?_)
          refine lv_if_eq (tgt := 53) hx hb d_MD_soak_49 (by decide) (fun hb17 => ?_) (fun hb17 => ?_)
          · have hF := ox_t hF hb17
            refine lv_aload_n hx hb d_MD_soak_53 rfl (lv_at hl 0 rfl) ?_
            refine va_get (D := (dC, dI)) (ci := 6) (v := .ref q_low) (C := R_MD) (T := F_MD) (N := 24) hx hb hts uw_MD hown hK hP 0 rfl rfl 2 (by decide) (hts _ tw_168) (fun _ h9 => h9) rfl d_MD_soak_54 ?_
            refine lv_iload_n hx hb d_MD_soak_57 rfl (lv_at hl 1 rfl) ?_
            refine lv_iload_n hx hb d_MD_soak_58 rfl (lv_at hl 2 rfl) ?_
            obtain ⟨hin, hF⟩ := ox_gdS hF
            refine va_iast hx hb hK hP hD hS 1 0 rfl rfl hin d_MD_soak_59 (fun H locs hP hD hS => ?_)
            have hP : va_P (dC, dI) vwCl (wd_MD_soak q_this q_low q_high q_loaded q_empty q_order q_places q_times q_planOrder q_planTimes q_carriers q_begins cI s16_v_thrown v_tanks v_hasPlan v_cycle v_second v_entered v_done v_took v_stopped v_move v_ends v_onHoist v_began (upd f_low a1.toNatClampNeg a2) f_high) H := hP
            have hD : va_D A (wd_MD_soak q_this q_low q_high q_loaded q_empty q_order q_places q_times q_planOrder q_planTimes q_carriers q_begins cI s16_v_thrown v_tanks v_hasPlan v_cycle v_second v_entered v_done v_took v_stopped v_move v_ends v_onHoist v_began (upd f_low a1.toNatClampNeg a2) f_high) := hD
            refine lv_aload_n hx hb d_MD_soak_60 rfl (lv_at hl 0 rfl) ?_
            refine va_get (D := (dC, dI)) (ci := 6) (v := .ref q_high) (C := R_MD) (T := F_MD) (N := 24) hx hb hts uw_MD hown hK hP 0 rfl rfl 3 (by decide) (hts _ tw_169) (fun _ h9 => h9) rfl d_MD_soak_61 ?_
            refine lv_iload_n hx hb d_MD_soak_64 rfl (lv_at hl 1 rfl) ?_
            refine lv_iload_n hx hb d_MD_soak_65 rfl (lv_at hl 3 rfl) ?_
            obtain ⟨hin, hF⟩ := ox_gdS hF
            refine va_iast hx hb hK hP hD hS 2 0 rfl rfl hin d_MD_soak_66 (fun H locs hP hD hS => ?_)
            have hP : va_P (dC, dI) vwCl (wd_MD_soak q_this q_low q_high q_loaded q_empty q_order q_places q_times q_planOrder q_planTimes q_carriers q_begins cI s16_v_thrown v_tanks v_hasPlan v_cycle v_second v_entered v_done v_took v_stopped v_move v_ends v_onHoist v_began (upd f_low a1.toNatClampNeg a2) (upd f_high a1.toNatClampNeg a3)) H := hP
            have hD : va_D A (wd_MD_soak q_this q_low q_high q_loaded q_empty q_order q_places q_times q_planOrder q_planTimes q_carriers q_begins cI s16_v_thrown v_tanks v_hasPlan v_cycle v_second v_entered v_done v_took v_stopped v_move v_ends v_onHoist v_began (upd f_low a1.toNatClampNeg a2) (upd f_high a1.toNatClampNeg a3)) := hD
            refine lv_aload_n hx hb d_MD_soak_67 rfl (lv_at hl 0 rfl) ?_
            refine lv_iconst (v := 0) hx hb d_MD_soak_68 (by decide) ?_
            refine va_put (D := (dC, dI)) (ci := 6) (v := .int 0) (ty := .boolean) (C := R_MD) (T := F_MD) (N := 24) hx hb hts uw_MD t_MD t_MD_ok n_MD hown hK hP hD hS 0 rfl rfl 9 (by decide) (hts _ tw_173) (fun _ h9 => h9) rfl (by decide +kernel) rfl rfl (Nat.le_of_ble_eq_true rfl) d_MD_soak_69 (fun H locs hP hD hS => ?_)
            have hP : va_P (dC, dI) vwCl (wd_MD_soak q_this q_low q_high q_loaded q_empty q_order q_places q_times q_planOrder q_planTimes q_carriers q_begins cI s16_v_thrown v_tanks 0 v_cycle v_second v_entered v_done v_took v_stopped v_move v_ends v_onHoist v_began (upd f_low a1.toNatClampNeg a2) (upd f_high a1.toNatClampNeg a3)) H := hP
            have hD : va_D A (wd_MD_soak q_this q_low q_high q_loaded q_empty q_order q_places q_times q_planOrder q_planTimes q_carriers q_begins cI s16_v_thrown v_tanks 0 v_cycle v_second v_entered v_done v_took v_stopped v_move v_ends v_onHoist v_began (upd f_low a1.toNatClampNeg a2) (upd f_high a1.toNatClampNeg a3)) := hD
            cases hF
            exact hq_vret hx hb hr hlocks hP hD hK hS d_MD_soak_72
          · have hF := ox_f hF hb17
            cases hF
            exact hq_vret hx hb hr hlocks hP hD hK hS d_MD_soak_52
abbrev wd_MD_loaded (q_this : Nat) (q_low : Nat) (q_high : Nat) (q_loaded : Nat) (q_empty : Nat) (q_order : Nat) (q_places : Nat) (q_times : Nat) (q_planOrder : Nat) (q_planTimes : Nat) (q_carriers : Nat) (q_begins : Nat) (cI : ClassId) (v_thrown : Int32) (v_tanks : Int32) (v_hasPlan : Int32) (v_cycle : Int32) (v_second : Int32) (v_entered : Int32) (v_done : Int32) (v_took : Int32) (v_stopped : Int32) (v_move : Int32) (v_ends : Int32) (v_onHoist : Int32) (v_began : Int32) (f_loaded : Nat → Int32) : va_W := [(q_this, .inr (6, [.int v_thrown, .int v_tanks, .ref q_low, .ref q_high, .ref q_loaded, .ref q_empty, .ref q_order, .ref q_places, .ref q_times, .int v_hasPlan, .int v_cycle, .ref q_planOrder, .ref q_planTimes, .int v_second, .int v_entered, .int v_done, .int v_took, .int v_stopped, .ref q_carriers, .ref q_begins, .int v_move, .int v_ends, .int v_onHoist, .int v_began])), (q_loaded, .inl (cI, 6, .inl f_loaded))]
set_option maxHeartbeats 4000000 in
set_option maxRecDepth 100000 in
theorem c_MD_loaded (l : Launch) (dC : Nat → ClassId) (dI : Nat → Nat → Nat) (q_this : Nat) (q_low : Nat) (q_high : Nat) (q_loaded : Nat) (q_empty : Nat) (q_order : Nat) (q_places : Nat) (q_times : Nat) (q_planOrder : Nat) (q_planTimes : Nat) (q_carriers : Nat) (q_begins : Nat) (cI : ClassId) (sz : Nat) (a1 : Int32) (a2 : Int32) (v_thrown : Int32) (v_tanks : Int32) (v_hasPlan : Int32) (v_cycle : Int32) (v_second : Int32) (v_entered : Int32) (v_done : Int32) (v_took : Int32) (v_stopped : Int32) (v_move : Int32) (v_ends : Int32) (v_onHoist : Int32) (v_began : Int32) (f_loaded : Nat → Int32) (n_v_thrown : Int32) (n_v_hasPlan : Int32) (n_f_loaded : Nat → Int32) (hF : fn_MD_loaded a1 a2 v_thrown v_tanks v_hasPlan f_loaded = some (n_v_thrown, n_v_hasPlan, n_f_loaded)) : Met l y_MD_loaded w_MD_loaded ({ frames := 1, cells := 0, slots := 0, locals := 22 }) (hq_Pc (dC, dI) vwCl [(cI, .int)] (wd_MD_loaded q_this q_low q_high q_loaded q_empty q_order q_places q_times q_planOrder q_planTimes q_carriers q_begins cI v_thrown v_tanks v_hasPlan v_cycle v_second v_entered v_done v_took v_stopped v_move v_ends v_onHoist v_began f_loaded) sz [.ref q_this, .int a1, .int a2]) (hq_Qv (dC, dI) vwCl [(cI, .int)] (wd_MD_loaded q_this q_low q_high q_loaded q_empty q_order q_places q_times q_planOrder q_planTimes q_carriers q_begins cI n_v_thrown v_tanks n_v_hasPlan v_cycle v_second v_entered v_done v_took v_stopped v_move v_ends v_onHoist v_began n_f_loaded) (va_A (wd_MD_loaded q_this q_low q_high q_loaded q_empty q_order q_places q_times q_planOrder q_planTimes q_carriers q_begins cI v_thrown v_tanks v_hasPlan v_cycle v_second v_entered v_done v_took v_stopped v_move v_ends v_onHoist v_began f_loaded) sz)) 0 0 (va_A (wd_MD_loaded q_this q_low q_high q_loaded q_empty q_order q_places q_times q_planOrder q_planTimes q_carriers q_begins cI v_thrown v_tanks v_hasPlan v_cycle v_second v_entered v_done v_took v_stopped v_move v_ends v_onHoist v_began f_loaded) sz) := by
  refine hq_met (Qc := (hq_Qv (dC, dI) vwCl [(cI, .int)] (wd_MD_loaded q_this q_low q_high q_loaded q_empty q_order q_places q_times q_planOrder q_planTimes q_carriers q_begins cI n_v_thrown v_tanks n_v_hasPlan v_cycle v_second v_entered v_done v_took v_stopped v_move v_ends v_onHoist v_began n_f_loaded))) (cc := b_MD_loaded) (maxL := 3) (ret := none) (by decide) rfl (Nat.le_of_ble_eq_true rfl) ?_
  intro p e s m args below meth c A ls hx hb hr hml hts hown hlocks hnm hP hD hK hA hS hl
  have hts : ∀ w ∈ tb0, w.before args s = true := fun w h => hts w (List.mem_cons_of_mem _ h)
  have hown : s.vm.findClass R_MD = some m.cls := hown
  have hl : lv_has ls 3 [(0, .ref q_this), (1, .int a1), (2, .int a2)] := hl
  unfold fn_MD_loaded at hF
  refine lv_aload_n hx hb d_MD_loaded_0 rfl (lv_at hl 0 rfl) ?_
  refine lv_iload_n hx hb d_MD_loaded_1 rfl (lv_at hl 1 rfl) ?_
  refine lv_iconst (v := 0) hx hb d_MD_loaded_2 (by decide) ?_
  refine lv_aload_n hx hb d_MD_loaded_3 rfl (lv_at hl 0 rfl) ?_
  refine va_get (D := (dC, dI)) (ci := 6) (v := .int v_tanks) (C := R_MD) (T := F_MD) (N := 24) hx hb hts uw_MD hown hK hP 0 rfl rfl 1 (by decide) (hts _ tw_172) (fun _ h9 => h9) rfl d_MD_loaded_4 ?_
  obtain ⟨r1, hc1, hF⟩ := ox_clS hF
  refine hq_ci (ws' := (wd_MD_loaded q_this q_low q_high q_loaded q_empty q_order q_places q_times q_planOrder q_planTimes q_carriers q_begins cI v_thrown v_tanks v_hasPlan v_cycle v_second v_entered v_done v_took v_stopped v_move v_ends v_onHoist v_began f_loaded)) (hq_rS (As := [.int a1, .int 0, .int v_tanks]) (rest := [.ref q_this]) ⟨hx, hb, hml, hown, hts⟩ (c_MD_in l dC dI _ a1 0 v_tanks r1 hc1) ⟨callB_of 3 hts (hq_g1 tw_177) rfl rfl rfl (hts _ tw_176) (hts _ tw_174) yd_MD_in ⟨Nat.le_of_ble_eq_true rfl, Nat.le_of_ble_eq_true rfl⟩, hts _ tw_175⟩ hP hD hK [] rfl [] rfl rfl rfl hl.1 rfl (Nat.le_of_ble_eq_true rfl) d_MD_loaded_7 ⟨Nat.zero_le _, Nat.zero_le _⟩) hP hD hS hA [] [0, 1] [0, 1] rfl rfl rfl (by decide) rfl rfl (fun H locs hP hD hS => ?_)
  refine lv_if_eq (tgt := 23) hx hb d_MD_loaded_10 (by decide) (fun hb2 => ?_) (fun hb2 => ?_)
  · have hF := ox_t hF hb2
    refine lv_iconst (v := 1) hx hb d_MD_loaded_23 (by decide) ?_
    refine lv_goto (tgt := 28) hx hb d_MD_loaded_24 (by decide) ?_
    refine lv_iconst (v := 0) hx hb d_MD_loaded_28 (by decide) ?_
    obtain ⟨⟨r3, s3_v_thrown⟩, hc3, hF⟩ := ox_clS hF
    refine hq_ci (ws' := (wd_MD_loaded q_this q_low q_high q_loaded q_empty q_order q_places q_times q_planOrder q_planTimes q_carriers q_begins cI s3_v_thrown v_tanks v_hasPlan v_cycle v_second v_entered v_done v_took v_stopped v_move v_ends v_onHoist v_began f_loaded)) (hq_rV (As := [.int 1, .int 0]) (rest := []) ⟨hx, hb, hml, hown, hts⟩ (c_MD_refuse l dC dI q_this q_low q_high q_loaded q_empty q_order q_places q_times q_planOrder q_planTimes q_carriers q_begins _ 1 0 v_thrown v_tanks v_hasPlan v_cycle v_second v_entered v_done v_took v_stopped v_move v_ends v_onHoist v_began r3 s3_v_thrown hc3) (cwV 2 hts (hq_gV tw_178 tw_179 tw_180 tw_176 tw_181) rfl rfl rfl yv_MD_refuse ⟨Nat.le_of_ble_eq_true rfl, Nat.le_of_ble_eq_true rfl⟩) hP hD hK [] rfl 0 rfl rfl [0] rfl rfl rfl hl.1 rfl (Nat.le_of_ble_eq_true rfl) d_MD_loaded_29 ⟨Nat.zero_le _, Nat.zero_le _⟩) hP hD hS hA [0] [1] [1, 0] rfl rfl rfl (by decide) rfl rfl (fun H locs hP hD hS => ?_)
    refine lv_if_eq (tgt := 36) hx hb d_MD_loaded_32 (by decide) (fun hb4 => ?_) (fun hb4 => ?_)
    · have hF := ox_t hF hb4
      refine lv_aload_n hx hb d_MD_loaded_36 rfl (lv_at hl 0 rfl) ?_
      refine va_get (D := (dC, dI)) (ci := 6) (v := .ref q_loaded) (C := R_MD) (T := F_MD) (N := 24) hx hb hts uw_MD hown hK hP 0 rfl rfl 4 (by decide) (hts _ tw_170) (fun _ h9 => h9) rfl d_MD_loaded_37 ?_
      refine lv_iload_n hx hb d_MD_loaded_40 rfl (lv_at hl 1 rfl) ?_
      refine lv_iload_n hx hb d_MD_loaded_41 rfl (lv_at hl 2 rfl) ?_
      obtain ⟨hin, hF⟩ := ox_gdS hF
      refine va_iast hx hb hK hP hD hS 1 0 rfl rfl hin d_MD_loaded_42 (fun H locs hP hD hS => ?_)
      have hP : va_P (dC, dI) vwCl (wd_MD_loaded q_this q_low q_high q_loaded q_empty q_order q_places q_times q_planOrder q_planTimes q_carriers q_begins cI s3_v_thrown v_tanks v_hasPlan v_cycle v_second v_entered v_done v_took v_stopped v_move v_ends v_onHoist v_began (upd f_loaded a1.toNatClampNeg a2)) H := hP
      have hD : va_D A (wd_MD_loaded q_this q_low q_high q_loaded q_empty q_order q_places q_times q_planOrder q_planTimes q_carriers q_begins cI s3_v_thrown v_tanks v_hasPlan v_cycle v_second v_entered v_done v_took v_stopped v_move v_ends v_onHoist v_began (upd f_loaded a1.toNatClampNeg a2)) := hD
      refine lv_aload_n hx hb d_MD_loaded_43 rfl (lv_at hl 0 rfl) ?_
      refine lv_iconst (v := 0) hx hb d_MD_loaded_44 (by decide) ?_
      refine va_put (D := (dC, dI)) (ci := 6) (v := .int 0) (ty := .boolean) (C := R_MD) (T := F_MD) (N := 24) hx hb hts uw_MD t_MD t_MD_ok n_MD hown hK hP hD hS 0 rfl rfl 9 (by decide) (hts _ tw_173) (fun _ h9 => h9) rfl (by decide +kernel) rfl rfl (Nat.le_of_ble_eq_true rfl) d_MD_loaded_45 (fun H locs hP hD hS => ?_)
      have hP : va_P (dC, dI) vwCl (wd_MD_loaded q_this q_low q_high q_loaded q_empty q_order q_places q_times q_planOrder q_planTimes q_carriers q_begins cI s3_v_thrown v_tanks 0 v_cycle v_second v_entered v_done v_took v_stopped v_move v_ends v_onHoist v_began (upd f_loaded a1.toNatClampNeg a2)) H := hP
      have hD : va_D A (wd_MD_loaded q_this q_low q_high q_loaded q_empty q_order q_places q_times q_planOrder q_planTimes q_carriers q_begins cI s3_v_thrown v_tanks 0 v_cycle v_second v_entered v_done v_took v_stopped v_move v_ends v_onHoist v_began (upd f_loaded a1.toNatClampNeg a2)) := hD
      cases hF
      exact hq_vret hx hb hr hlocks hP hD hK hS d_MD_loaded_48
    · have hF := ox_f hF hb4
      cases hF
      exact hq_vret hx hb hr hlocks hP hD hK hS d_MD_loaded_35
  · have hF := ox_f hF hb2
    refine lv_iload_n hx hb d_MD_loaded_13 rfl (lv_at hl 2 rfl) ?_
    refine lv_iconst (v := 1) hx hb d_MD_loaded_14 (by decide) ?_
    refine lv_bipush (v := 100) hx hb d_MD_loaded_15 (by decide) ?_
    obtain ⟨r5, hc5, hF⟩ := ox_clS hF
    refine hq_ci (ws' := (wd_MD_loaded q_this q_low q_high q_loaded q_empty q_order q_places q_times q_planOrder q_planTimes q_carriers q_begins cI v_thrown v_tanks v_hasPlan v_cycle v_second v_entered v_done v_took v_stopped v_move v_ends v_onHoist v_began f_loaded)) (hq_rS (As := [.int a2, .int 1, .int 100]) (rest := [.ref q_this]) ⟨hx, hb, hml, hown, hts⟩ (c_MD_in l dC dI _ a2 1 100 r5 hc5) ⟨callB_of 3 hts (hq_g1 tw_177) rfl rfl rfl (hts _ tw_176) (hts _ tw_174) yd_MD_in ⟨Nat.le_of_ble_eq_true rfl, Nat.le_of_ble_eq_true rfl⟩, hts _ tw_175⟩ hP hD hK [] rfl [] rfl rfl rfl hl.1 rfl (Nat.le_of_ble_eq_true rfl) d_MD_loaded_17 ⟨Nat.zero_le _, Nat.zero_le _⟩) hP hD hS hA [] [0, 1] [0, 1] rfl rfl rfl (by decide) rfl rfl (fun H locs hP hD hS => ?_)
    refine lv_if_ne (tgt := 27) hx hb d_MD_loaded_20 (by decide) (fun hb6 => ?_) (fun hb6 => ?_)
    · have hF := ox_t hF hb6
      refine lv_iconst (v := 0) hx hb d_MD_loaded_27 (by decide) ?_
      refine lv_iconst (v := 0) hx hb d_MD_loaded_28 (by decide) ?_
      obtain ⟨⟨r7, s7_v_thrown⟩, hc7, hF⟩ := ox_clS hF
      refine hq_ci (ws' := (wd_MD_loaded q_this q_low q_high q_loaded q_empty q_order q_places q_times q_planOrder q_planTimes q_carriers q_begins cI s7_v_thrown v_tanks v_hasPlan v_cycle v_second v_entered v_done v_took v_stopped v_move v_ends v_onHoist v_began f_loaded)) (hq_rV (As := [.int 0, .int 0]) (rest := []) ⟨hx, hb, hml, hown, hts⟩ (c_MD_refuse l dC dI q_this q_low q_high q_loaded q_empty q_order q_places q_times q_planOrder q_planTimes q_carriers q_begins _ 0 0 v_thrown v_tanks v_hasPlan v_cycle v_second v_entered v_done v_took v_stopped v_move v_ends v_onHoist v_began r7 s7_v_thrown hc7) (cwV 2 hts (hq_gV tw_178 tw_179 tw_180 tw_176 tw_181) rfl rfl rfl yv_MD_refuse ⟨Nat.le_of_ble_eq_true rfl, Nat.le_of_ble_eq_true rfl⟩) hP hD hK [] rfl 0 rfl rfl [0] rfl rfl rfl hl.1 rfl (Nat.le_of_ble_eq_true rfl) d_MD_loaded_29 ⟨Nat.zero_le _, Nat.zero_le _⟩) hP hD hS hA [0] [1] [1, 0] rfl rfl rfl (by decide) rfl rfl (fun H locs hP hD hS => ?_)
      refine lv_if_eq (tgt := 36) hx hb d_MD_loaded_32 (by decide) (fun hb8 => ?_) (fun hb8 => ?_)
      · have hF := ox_t hF hb8
        refine lv_aload_n hx hb d_MD_loaded_36 rfl (lv_at hl 0 rfl) ?_
        refine va_get (D := (dC, dI)) (ci := 6) (v := .ref q_loaded) (C := R_MD) (T := F_MD) (N := 24) hx hb hts uw_MD hown hK hP 0 rfl rfl 4 (by decide) (hts _ tw_170) (fun _ h9 => h9) rfl d_MD_loaded_37 ?_
        refine lv_iload_n hx hb d_MD_loaded_40 rfl (lv_at hl 1 rfl) ?_
        refine lv_iload_n hx hb d_MD_loaded_41 rfl (lv_at hl 2 rfl) ?_
        obtain ⟨hin, hF⟩ := ox_gdS hF
        refine va_iast hx hb hK hP hD hS 1 0 rfl rfl hin d_MD_loaded_42 (fun H locs hP hD hS => ?_)
        have hP : va_P (dC, dI) vwCl (wd_MD_loaded q_this q_low q_high q_loaded q_empty q_order q_places q_times q_planOrder q_planTimes q_carriers q_begins cI s7_v_thrown v_tanks v_hasPlan v_cycle v_second v_entered v_done v_took v_stopped v_move v_ends v_onHoist v_began (upd f_loaded a1.toNatClampNeg a2)) H := hP
        have hD : va_D A (wd_MD_loaded q_this q_low q_high q_loaded q_empty q_order q_places q_times q_planOrder q_planTimes q_carriers q_begins cI s7_v_thrown v_tanks v_hasPlan v_cycle v_second v_entered v_done v_took v_stopped v_move v_ends v_onHoist v_began (upd f_loaded a1.toNatClampNeg a2)) := hD
        refine lv_aload_n hx hb d_MD_loaded_43 rfl (lv_at hl 0 rfl) ?_
        refine lv_iconst (v := 0) hx hb d_MD_loaded_44 (by decide) ?_
        refine va_put (D := (dC, dI)) (ci := 6) (v := .int 0) (ty := .boolean) (C := R_MD) (T := F_MD) (N := 24) hx hb hts uw_MD t_MD t_MD_ok n_MD hown hK hP hD hS 0 rfl rfl 9 (by decide) (hts _ tw_173) (fun _ h9 => h9) rfl (by decide +kernel) rfl rfl (Nat.le_of_ble_eq_true rfl) d_MD_loaded_45 (fun H locs hP hD hS => ?_)
        have hP : va_P (dC, dI) vwCl (wd_MD_loaded q_this q_low q_high q_loaded q_empty q_order q_places q_times q_planOrder q_planTimes q_carriers q_begins cI s7_v_thrown v_tanks 0 v_cycle v_second v_entered v_done v_took v_stopped v_move v_ends v_onHoist v_began (upd f_loaded a1.toNatClampNeg a2)) H := hP
        have hD : va_D A (wd_MD_loaded q_this q_low q_high q_loaded q_empty q_order q_places q_times q_planOrder q_planTimes q_carriers q_begins cI s7_v_thrown v_tanks 0 v_cycle v_second v_entered v_done v_took v_stopped v_move v_ends v_onHoist v_began (upd f_loaded a1.toNatClampNeg a2)) := hD
        cases hF
        exact hq_vret hx hb hr hlocks hP hD hK hS d_MD_loaded_48
      · have hF := ox_f hF hb8
        cases hF
        exact hq_vret hx hb hr hlocks hP hD hK hS d_MD_loaded_35
    · have hF := ox_fn hF hb6
      refine lv_iconst (v := 1) hx hb d_MD_loaded_23 (by decide) ?_
      refine lv_goto (tgt := 28) hx hb d_MD_loaded_24 (by decide) ?_
      refine lv_iconst (v := 0) hx hb d_MD_loaded_28 (by decide) ?_
      obtain ⟨⟨r9, s9_v_thrown⟩, hc9, hF⟩ := ox_clS hF
      refine hq_ci (ws' := (wd_MD_loaded q_this q_low q_high q_loaded q_empty q_order q_places q_times q_planOrder q_planTimes q_carriers q_begins cI s9_v_thrown v_tanks v_hasPlan v_cycle v_second v_entered v_done v_took v_stopped v_move v_ends v_onHoist v_began f_loaded)) (hq_rV (As := [.int 1, .int 0]) (rest := []) ⟨hx, hb, hml, hown, hts⟩ (c_MD_refuse l dC dI q_this q_low q_high q_loaded q_empty q_order q_places q_times q_planOrder q_planTimes q_carriers q_begins _ 1 0 v_thrown v_tanks v_hasPlan v_cycle v_second v_entered v_done v_took v_stopped v_move v_ends v_onHoist v_began r9 s9_v_thrown hc9) (cwV 2 hts (hq_gV tw_178 tw_179 tw_180 tw_176 tw_181) rfl rfl rfl yv_MD_refuse ⟨Nat.le_of_ble_eq_true rfl, Nat.le_of_ble_eq_true rfl⟩) hP hD hK [] rfl 0 rfl rfl [0] rfl rfl rfl hl.1 rfl (Nat.le_of_ble_eq_true rfl) d_MD_loaded_29 ⟨Nat.zero_le _, Nat.zero_le _⟩) hP hD hS hA [0] [1] [1, 0] rfl rfl rfl (by decide) rfl rfl (fun H locs hP hD hS => ?_)
      refine lv_if_eq (tgt := 36) hx hb d_MD_loaded_32 (by decide) (fun hb10 => ?_) (fun hb10 => ?_)
      · have hF := ox_t hF hb10
        refine lv_aload_n hx hb d_MD_loaded_36 rfl (lv_at hl 0 rfl) ?_
        refine va_get (D := (dC, dI)) (ci := 6) (v := .ref q_loaded) (C := R_MD) (T := F_MD) (N := 24) hx hb hts uw_MD hown hK hP 0 rfl rfl 4 (by decide) (hts _ tw_170) (fun _ h9 => h9) rfl d_MD_loaded_37 ?_
        refine lv_iload_n hx hb d_MD_loaded_40 rfl (lv_at hl 1 rfl) ?_
        refine lv_iload_n hx hb d_MD_loaded_41 rfl (lv_at hl 2 rfl) ?_
        obtain ⟨hin, hF⟩ := ox_gdS hF
        refine va_iast hx hb hK hP hD hS 1 0 rfl rfl hin d_MD_loaded_42 (fun H locs hP hD hS => ?_)
        have hP : va_P (dC, dI) vwCl (wd_MD_loaded q_this q_low q_high q_loaded q_empty q_order q_places q_times q_planOrder q_planTimes q_carriers q_begins cI s9_v_thrown v_tanks v_hasPlan v_cycle v_second v_entered v_done v_took v_stopped v_move v_ends v_onHoist v_began (upd f_loaded a1.toNatClampNeg a2)) H := hP
        have hD : va_D A (wd_MD_loaded q_this q_low q_high q_loaded q_empty q_order q_places q_times q_planOrder q_planTimes q_carriers q_begins cI s9_v_thrown v_tanks v_hasPlan v_cycle v_second v_entered v_done v_took v_stopped v_move v_ends v_onHoist v_began (upd f_loaded a1.toNatClampNeg a2)) := hD
        refine lv_aload_n hx hb d_MD_loaded_43 rfl (lv_at hl 0 rfl) ?_
        refine lv_iconst (v := 0) hx hb d_MD_loaded_44 (by decide) ?_
        refine va_put (D := (dC, dI)) (ci := 6) (v := .int 0) (ty := .boolean) (C := R_MD) (T := F_MD) (N := 24) hx hb hts uw_MD t_MD t_MD_ok n_MD hown hK hP hD hS 0 rfl rfl 9 (by decide) (hts _ tw_173) (fun _ h9 => h9) rfl (by decide +kernel) rfl rfl (Nat.le_of_ble_eq_true rfl) d_MD_loaded_45 (fun H locs hP hD hS => ?_)
        have hP : va_P (dC, dI) vwCl (wd_MD_loaded q_this q_low q_high q_loaded q_empty q_order q_places q_times q_planOrder q_planTimes q_carriers q_begins cI s9_v_thrown v_tanks 0 v_cycle v_second v_entered v_done v_took v_stopped v_move v_ends v_onHoist v_began (upd f_loaded a1.toNatClampNeg a2)) H := hP
        have hD : va_D A (wd_MD_loaded q_this q_low q_high q_loaded q_empty q_order q_places q_times q_planOrder q_planTimes q_carriers q_begins cI s9_v_thrown v_tanks 0 v_cycle v_second v_entered v_done v_took v_stopped v_move v_ends v_onHoist v_began (upd f_loaded a1.toNatClampNeg a2)) := hD
        cases hF
        exact hq_vret hx hb hr hlocks hP hD hK hS d_MD_loaded_48
      · have hF := ox_f hF hb10
        cases hF
        exact hq_vret hx hb hr hlocks hP hD hK hS d_MD_loaded_35
abbrev wd_MD_empty (q_this : Nat) (q_low : Nat) (q_high : Nat) (q_loaded : Nat) (q_empty : Nat) (q_order : Nat) (q_places : Nat) (q_times : Nat) (q_planOrder : Nat) (q_planTimes : Nat) (q_carriers : Nat) (q_begins : Nat) (cI : ClassId) (v_thrown : Int32) (v_tanks : Int32) (v_hasPlan : Int32) (v_cycle : Int32) (v_second : Int32) (v_entered : Int32) (v_done : Int32) (v_took : Int32) (v_stopped : Int32) (v_move : Int32) (v_ends : Int32) (v_onHoist : Int32) (v_began : Int32) (f_empty : Nat → Int32) : va_W := [(q_this, .inr (6, [.int v_thrown, .int v_tanks, .ref q_low, .ref q_high, .ref q_loaded, .ref q_empty, .ref q_order, .ref q_places, .ref q_times, .int v_hasPlan, .int v_cycle, .ref q_planOrder, .ref q_planTimes, .int v_second, .int v_entered, .int v_done, .int v_took, .int v_stopped, .ref q_carriers, .ref q_begins, .int v_move, .int v_ends, .int v_onHoist, .int v_began])), (q_empty, .inl (cI, 49, .inl f_empty))]
set_option maxHeartbeats 4000000 in
set_option maxRecDepth 100000 in
theorem c_MD_empty (l : Launch) (dC : Nat → ClassId) (dI : Nat → Nat → Nat) (q_this : Nat) (q_low : Nat) (q_high : Nat) (q_loaded : Nat) (q_empty : Nat) (q_order : Nat) (q_places : Nat) (q_times : Nat) (q_planOrder : Nat) (q_planTimes : Nat) (q_carriers : Nat) (q_begins : Nat) (cI : ClassId) (sz : Nat) (a1 : Int32) (a2 : Int32) (a3 : Int32) (v_thrown : Int32) (v_tanks : Int32) (v_hasPlan : Int32) (v_cycle : Int32) (v_second : Int32) (v_entered : Int32) (v_done : Int32) (v_took : Int32) (v_stopped : Int32) (v_move : Int32) (v_ends : Int32) (v_onHoist : Int32) (v_began : Int32) (f_empty : Nat → Int32) (n_v_thrown : Int32) (n_v_hasPlan : Int32) (n_f_empty : Nat → Int32) (hF : fn_MD_empty a1 a2 a3 v_thrown v_tanks v_hasPlan f_empty = some (n_v_thrown, n_v_hasPlan, n_f_empty)) : Met l y_MD_empty w_MD_empty ({ frames := 1, cells := 0, slots := 0, locals := 22 }) (hq_Pc (dC, dI) vwCl [(cI, .int)] (wd_MD_empty q_this q_low q_high q_loaded q_empty q_order q_places q_times q_planOrder q_planTimes q_carriers q_begins cI v_thrown v_tanks v_hasPlan v_cycle v_second v_entered v_done v_took v_stopped v_move v_ends v_onHoist v_began f_empty) sz [.ref q_this, .int a1, .int a2, .int a3]) (hq_Qv (dC, dI) vwCl [(cI, .int)] (wd_MD_empty q_this q_low q_high q_loaded q_empty q_order q_places q_times q_planOrder q_planTimes q_carriers q_begins cI n_v_thrown v_tanks n_v_hasPlan v_cycle v_second v_entered v_done v_took v_stopped v_move v_ends v_onHoist v_began n_f_empty) (va_A (wd_MD_empty q_this q_low q_high q_loaded q_empty q_order q_places q_times q_planOrder q_planTimes q_carriers q_begins cI v_thrown v_tanks v_hasPlan v_cycle v_second v_entered v_done v_took v_stopped v_move v_ends v_onHoist v_began f_empty) sz)) 0 0 (va_A (wd_MD_empty q_this q_low q_high q_loaded q_empty q_order q_places q_times q_planOrder q_planTimes q_carriers q_begins cI v_thrown v_tanks v_hasPlan v_cycle v_second v_entered v_done v_took v_stopped v_move v_ends v_onHoist v_began f_empty) sz) := by
  refine hq_met (Qc := (hq_Qv (dC, dI) vwCl [(cI, .int)] (wd_MD_empty q_this q_low q_high q_loaded q_empty q_order q_places q_times q_planOrder q_planTimes q_carriers q_begins cI n_v_thrown v_tanks n_v_hasPlan v_cycle v_second v_entered v_done v_took v_stopped v_move v_ends v_onHoist v_began n_f_empty))) (cc := b_MD_empty) (maxL := 4) (ret := none) (by decide) rfl (Nat.le_of_ble_eq_true rfl) ?_
  intro p e s m args below meth c A ls hx hb hr hml hts hown hlocks hnm hP hD hK hA hS hl
  have hts : ∀ w ∈ tb0, w.before args s = true := fun w h => hts w (List.mem_cons_of_mem _ h)
  have hown : s.vm.findClass R_MD = some m.cls := hown
  have hl : lv_has ls 4 [(0, .ref q_this), (1, .int a1), (2, .int a2), (3, .int a3)] := hl
  unfold fn_MD_empty at hF
  refine lv_aload_n hx hb d_MD_empty_0 rfl (lv_at hl 0 rfl) ?_
  refine lv_iload_n hx hb d_MD_empty_1 rfl (lv_at hl 1 rfl) ?_
  refine lv_iconst (v := 0) hx hb d_MD_empty_2 (by decide) ?_
  refine lv_aload_n hx hb d_MD_empty_3 rfl (lv_at hl 0 rfl) ?_
  refine va_get (D := (dC, dI)) (ci := 6) (v := .int v_tanks) (C := R_MD) (T := F_MD) (N := 24) hx hb hts uw_MD hown hK hP 0 rfl rfl 1 (by decide) (hts _ tw_172) (fun _ h9 => h9) rfl d_MD_empty_4 ?_
  refine lv_iconst (v := 1) hx hb d_MD_empty_7 (by decide) ?_
  refine lv_iadd hx hb d_MD_empty_8 ?_
  obtain ⟨r1, hc1, hF⟩ := ox_clS hF
  refine hq_ci (ws' := (wd_MD_empty q_this q_low q_high q_loaded q_empty q_order q_places q_times q_planOrder q_planTimes q_carriers q_begins cI v_thrown v_tanks v_hasPlan v_cycle v_second v_entered v_done v_took v_stopped v_move v_ends v_onHoist v_began f_empty)) (hq_rS (As := [.int a1, .int 0, .int (v_tanks + 1)]) (rest := [.ref q_this]) ⟨hx, hb, hml, hown, hts⟩ (c_MD_in l dC dI _ a1 0 (v_tanks + 1) r1 hc1) ⟨callB_of 3 hts (hq_g1 tw_177) rfl rfl rfl (hts _ tw_176) (hts _ tw_174) yd_MD_in ⟨Nat.le_of_ble_eq_true rfl, Nat.le_of_ble_eq_true rfl⟩, hts _ tw_175⟩ hP hD hK [] rfl [] rfl rfl rfl hl.1 rfl (Nat.le_of_ble_eq_true rfl) d_MD_empty_9 ⟨Nat.zero_le _, Nat.zero_le _⟩) hP hD hS hA [] [0, 1] [0, 1] rfl rfl rfl (by decide) rfl rfl (fun H locs hP hD hS => ?_)
  refine lv_if_eq (tgt := 44) hx hb d_MD_empty_12 (by decide) (fun hb2 => ?_) (fun hb2 => ?_)
  · have hF := ox_t hF hb2
    refine lv_iconst (v := 1) hx hb d_MD_empty_44 (by decide) ?_
    refine lv_goto (tgt := 49) hx hb d_MD_empty_45 (by decide) ?_
    refine lv_iconst (v := 0) hx hb d_MD_empty_49 (by decide) ?_
    obtain ⟨⟨r3, s3_v_thrown⟩, hc3, hF⟩ := ox_clS hF
    refine hq_ci (ws' := (wd_MD_empty q_this q_low q_high q_loaded q_empty q_order q_places q_times q_planOrder q_planTimes q_carriers q_begins cI s3_v_thrown v_tanks v_hasPlan v_cycle v_second v_entered v_done v_took v_stopped v_move v_ends v_onHoist v_began f_empty)) (hq_rV (As := [.int 1, .int 0]) (rest := []) ⟨hx, hb, hml, hown, hts⟩ (c_MD_refuse l dC dI q_this q_low q_high q_loaded q_empty q_order q_places q_times q_planOrder q_planTimes q_carriers q_begins _ 1 0 v_thrown v_tanks v_hasPlan v_cycle v_second v_entered v_done v_took v_stopped v_move v_ends v_onHoist v_began r3 s3_v_thrown hc3) (cwV 2 hts (hq_gV tw_178 tw_179 tw_180 tw_176 tw_181) rfl rfl rfl yv_MD_refuse ⟨Nat.le_of_ble_eq_true rfl, Nat.le_of_ble_eq_true rfl⟩) hP hD hK [] rfl 0 rfl rfl [0] rfl rfl rfl hl.1 rfl (Nat.le_of_ble_eq_true rfl) d_MD_empty_50 ⟨Nat.zero_le _, Nat.zero_le _⟩) hP hD hS hA [0] [1] [1, 0] rfl rfl rfl (by decide) rfl rfl (fun H locs hP hD hS => ?_)
    refine lv_if_eq (tgt := 57) hx hb d_MD_empty_53 (by decide) (fun hb4 => ?_) (fun hb4 => ?_)
    · have hF := ox_t hF hb4
      refine lv_aload_n hx hb d_MD_empty_57 rfl (lv_at hl 0 rfl) ?_
      refine va_get (D := (dC, dI)) (ci := 6) (v := .ref q_empty) (C := R_MD) (T := F_MD) (N := 24) hx hb hts uw_MD hown hK hP 0 rfl rfl 5 (by decide) (hts _ tw_171) (fun _ h9 => h9) rfl d_MD_empty_58 ?_
      refine lv_bipush (v := 7) hx hb d_MD_empty_61 (by decide) ?_
      refine lv_iload_n hx hb d_MD_empty_63 rfl (lv_at hl 1 rfl) ?_
      refine lv_imul hx hb d_MD_empty_64 ?_
      refine lv_iload_n hx hb d_MD_empty_65 rfl (lv_at hl 2 rfl) ?_
      refine lv_iadd hx hb d_MD_empty_66 ?_
      refine lv_iload_n hx hb d_MD_empty_67 rfl (lv_at hl 3 rfl) ?_
      obtain ⟨hin, hF⟩ := ox_gdS hF
      refine va_iast hx hb hK hP hD hS 1 0 rfl rfl hin d_MD_empty_68 (fun H locs hP hD hS => ?_)
      have hP : va_P (dC, dI) vwCl (wd_MD_empty q_this q_low q_high q_loaded q_empty q_order q_places q_times q_planOrder q_planTimes q_carriers q_begins cI s3_v_thrown v_tanks v_hasPlan v_cycle v_second v_entered v_done v_took v_stopped v_move v_ends v_onHoist v_began (upd f_empty ((7 * a1) + a2).toNatClampNeg a3)) H := hP
      have hD : va_D A (wd_MD_empty q_this q_low q_high q_loaded q_empty q_order q_places q_times q_planOrder q_planTimes q_carriers q_begins cI s3_v_thrown v_tanks v_hasPlan v_cycle v_second v_entered v_done v_took v_stopped v_move v_ends v_onHoist v_began (upd f_empty ((7 * a1) + a2).toNatClampNeg a3)) := hD
      refine lv_aload_n hx hb d_MD_empty_69 rfl (lv_at hl 0 rfl) ?_
      refine lv_iconst (v := 0) hx hb d_MD_empty_70 (by decide) ?_
      refine va_put (D := (dC, dI)) (ci := 6) (v := .int 0) (ty := .boolean) (C := R_MD) (T := F_MD) (N := 24) hx hb hts uw_MD t_MD t_MD_ok n_MD hown hK hP hD hS 0 rfl rfl 9 (by decide) (hts _ tw_173) (fun _ h9 => h9) rfl (by decide +kernel) rfl rfl (Nat.le_of_ble_eq_true rfl) d_MD_empty_71 (fun H locs hP hD hS => ?_)
      have hP : va_P (dC, dI) vwCl (wd_MD_empty q_this q_low q_high q_loaded q_empty q_order q_places q_times q_planOrder q_planTimes q_carriers q_begins cI s3_v_thrown v_tanks 0 v_cycle v_second v_entered v_done v_took v_stopped v_move v_ends v_onHoist v_began (upd f_empty ((7 * a1) + a2).toNatClampNeg a3)) H := hP
      have hD : va_D A (wd_MD_empty q_this q_low q_high q_loaded q_empty q_order q_places q_times q_planOrder q_planTimes q_carriers q_begins cI s3_v_thrown v_tanks 0 v_cycle v_second v_entered v_done v_took v_stopped v_move v_ends v_onHoist v_began (upd f_empty ((7 * a1) + a2).toNatClampNeg a3)) := hD
      cases hF
      exact hq_vret hx hb hr hlocks hP hD hK hS d_MD_empty_74
    · have hF := ox_f hF hb4
      cases hF
      exact hq_vret hx hb hr hlocks hP hD hK hS d_MD_empty_56
  · have hF := ox_f hF hb2
    refine lv_iload_n hx hb d_MD_empty_15 rfl (lv_at hl 2 rfl) ?_
    refine lv_iconst (v := 0) hx hb d_MD_empty_16 (by decide) ?_
    refine lv_aload_n hx hb d_MD_empty_17 rfl (lv_at hl 0 rfl) ?_
    refine va_get (D := (dC, dI)) (ci := 6) (v := .int v_tanks) (C := R_MD) (T := F_MD) (N := 24) hx hb hts uw_MD hown hK hP 0 rfl rfl 1 (by decide) (hts _ tw_172) (fun _ h9 => h9) rfl d_MD_empty_18 ?_
    refine lv_iconst (v := 1) hx hb d_MD_empty_21 (by decide) ?_
    refine lv_iadd hx hb d_MD_empty_22 ?_
    obtain ⟨r5, hc5, hF⟩ := ox_clS hF
    refine hq_ci (ws' := (wd_MD_empty q_this q_low q_high q_loaded q_empty q_order q_places q_times q_planOrder q_planTimes q_carriers q_begins cI v_thrown v_tanks v_hasPlan v_cycle v_second v_entered v_done v_took v_stopped v_move v_ends v_onHoist v_began f_empty)) (hq_rS (As := [.int a2, .int 0, .int (v_tanks + 1)]) (rest := [.ref q_this]) ⟨hx, hb, hml, hown, hts⟩ (c_MD_in l dC dI _ a2 0 (v_tanks + 1) r5 hc5) ⟨callB_of 3 hts (hq_g1 tw_177) rfl rfl rfl (hts _ tw_176) (hts _ tw_174) yd_MD_in ⟨Nat.le_of_ble_eq_true rfl, Nat.le_of_ble_eq_true rfl⟩, hts _ tw_175⟩ hP hD hK [] rfl [] rfl rfl rfl hl.1 rfl (Nat.le_of_ble_eq_true rfl) d_MD_empty_23 ⟨Nat.zero_le _, Nat.zero_le _⟩) hP hD hS hA [] [0, 1] [0, 1] rfl rfl rfl (by decide) rfl rfl (fun H locs hP hD hS => ?_)
    refine lv_if_eq (tgt := 44) hx hb d_MD_empty_26 (by decide) (fun hb6 => ?_) (fun hb6 => ?_)
    · have hF := ox_t hF hb6
      refine lv_iconst (v := 1) hx hb d_MD_empty_44 (by decide) ?_
      refine lv_goto (tgt := 49) hx hb d_MD_empty_45 (by decide) ?_
      refine lv_iconst (v := 0) hx hb d_MD_empty_49 (by decide) ?_
      obtain ⟨⟨r7, s7_v_thrown⟩, hc7, hF⟩ := ox_clS hF
      refine hq_ci (ws' := (wd_MD_empty q_this q_low q_high q_loaded q_empty q_order q_places q_times q_planOrder q_planTimes q_carriers q_begins cI s7_v_thrown v_tanks v_hasPlan v_cycle v_second v_entered v_done v_took v_stopped v_move v_ends v_onHoist v_began f_empty)) (hq_rV (As := [.int 1, .int 0]) (rest := []) ⟨hx, hb, hml, hown, hts⟩ (c_MD_refuse l dC dI q_this q_low q_high q_loaded q_empty q_order q_places q_times q_planOrder q_planTimes q_carriers q_begins _ 1 0 v_thrown v_tanks v_hasPlan v_cycle v_second v_entered v_done v_took v_stopped v_move v_ends v_onHoist v_began r7 s7_v_thrown hc7) (cwV 2 hts (hq_gV tw_178 tw_179 tw_180 tw_176 tw_181) rfl rfl rfl yv_MD_refuse ⟨Nat.le_of_ble_eq_true rfl, Nat.le_of_ble_eq_true rfl⟩) hP hD hK [] rfl 0 rfl rfl [0] rfl rfl rfl hl.1 rfl (Nat.le_of_ble_eq_true rfl) d_MD_empty_50 ⟨Nat.zero_le _, Nat.zero_le _⟩) hP hD hS hA [0] [1] [1, 0] rfl rfl rfl (by decide) rfl rfl (fun H locs hP hD hS => ?_)
      refine lv_if_eq (tgt := 57) hx hb d_MD_empty_53 (by decide) (fun hb8 => ?_) (fun hb8 => ?_)
      · have hF := ox_t hF hb8
        refine lv_aload_n hx hb d_MD_empty_57 rfl (lv_at hl 0 rfl) ?_
        refine va_get (D := (dC, dI)) (ci := 6) (v := .ref q_empty) (C := R_MD) (T := F_MD) (N := 24) hx hb hts uw_MD hown hK hP 0 rfl rfl 5 (by decide) (hts _ tw_171) (fun _ h9 => h9) rfl d_MD_empty_58 ?_
        refine lv_bipush (v := 7) hx hb d_MD_empty_61 (by decide) ?_
        refine lv_iload_n hx hb d_MD_empty_63 rfl (lv_at hl 1 rfl) ?_
        refine lv_imul hx hb d_MD_empty_64 ?_
        refine lv_iload_n hx hb d_MD_empty_65 rfl (lv_at hl 2 rfl) ?_
        refine lv_iadd hx hb d_MD_empty_66 ?_
        refine lv_iload_n hx hb d_MD_empty_67 rfl (lv_at hl 3 rfl) ?_
        obtain ⟨hin, hF⟩ := ox_gdS hF
        refine va_iast hx hb hK hP hD hS 1 0 rfl rfl hin d_MD_empty_68 (fun H locs hP hD hS => ?_)
        have hP : va_P (dC, dI) vwCl (wd_MD_empty q_this q_low q_high q_loaded q_empty q_order q_places q_times q_planOrder q_planTimes q_carriers q_begins cI s7_v_thrown v_tanks v_hasPlan v_cycle v_second v_entered v_done v_took v_stopped v_move v_ends v_onHoist v_began (upd f_empty ((7 * a1) + a2).toNatClampNeg a3)) H := hP
        have hD : va_D A (wd_MD_empty q_this q_low q_high q_loaded q_empty q_order q_places q_times q_planOrder q_planTimes q_carriers q_begins cI s7_v_thrown v_tanks v_hasPlan v_cycle v_second v_entered v_done v_took v_stopped v_move v_ends v_onHoist v_began (upd f_empty ((7 * a1) + a2).toNatClampNeg a3)) := hD
        refine lv_aload_n hx hb d_MD_empty_69 rfl (lv_at hl 0 rfl) ?_
        refine lv_iconst (v := 0) hx hb d_MD_empty_70 (by decide) ?_
        refine va_put (D := (dC, dI)) (ci := 6) (v := .int 0) (ty := .boolean) (C := R_MD) (T := F_MD) (N := 24) hx hb hts uw_MD t_MD t_MD_ok n_MD hown hK hP hD hS 0 rfl rfl 9 (by decide) (hts _ tw_173) (fun _ h9 => h9) rfl (by decide +kernel) rfl rfl (Nat.le_of_ble_eq_true rfl) d_MD_empty_71 (fun H locs hP hD hS => ?_)
        have hP : va_P (dC, dI) vwCl (wd_MD_empty q_this q_low q_high q_loaded q_empty q_order q_places q_times q_planOrder q_planTimes q_carriers q_begins cI s7_v_thrown v_tanks 0 v_cycle v_second v_entered v_done v_took v_stopped v_move v_ends v_onHoist v_began (upd f_empty ((7 * a1) + a2).toNatClampNeg a3)) H := hP
        have hD : va_D A (wd_MD_empty q_this q_low q_high q_loaded q_empty q_order q_places q_times q_planOrder q_planTimes q_carriers q_begins cI s7_v_thrown v_tanks 0 v_cycle v_second v_entered v_done v_took v_stopped v_move v_ends v_onHoist v_began (upd f_empty ((7 * a1) + a2).toNatClampNeg a3)) := hD
        cases hF
        exact hq_vret hx hb hr hlocks hP hD hK hS d_MD_empty_74
      · have hF := ox_f hF hb8
        cases hF
        exact hq_vret hx hb hr hlocks hP hD hK hS d_MD_empty_56
    · have hF := ox_f hF hb6
      refine lv_iload_n hx hb d_MD_empty_29 rfl (lv_at hl 1 rfl) ?_
      refine lv_iload_n hx hb d_MD_empty_30 rfl (lv_at hl 2 rfl) ?_
      refine lv_icmp_eq (tgt := 44) hx hb d_MD_empty_31 (by decide) (fun hb9 => ?_) (fun hb9 => ?_)
      · have hF := ox_t hF hb9
        refine lv_iconst (v := 1) hx hb d_MD_empty_44 (by decide) ?_
        refine lv_goto (tgt := 49) hx hb d_MD_empty_45 (by decide) ?_
        refine lv_iconst (v := 0) hx hb d_MD_empty_49 (by decide) ?_
        obtain ⟨⟨r10, s10_v_thrown⟩, hc10, hF⟩ := ox_clS hF
        refine hq_ci (ws' := (wd_MD_empty q_this q_low q_high q_loaded q_empty q_order q_places q_times q_planOrder q_planTimes q_carriers q_begins cI s10_v_thrown v_tanks v_hasPlan v_cycle v_second v_entered v_done v_took v_stopped v_move v_ends v_onHoist v_began f_empty)) (hq_rV (As := [.int 1, .int 0]) (rest := []) ⟨hx, hb, hml, hown, hts⟩ (c_MD_refuse l dC dI q_this q_low q_high q_loaded q_empty q_order q_places q_times q_planOrder q_planTimes q_carriers q_begins _ 1 0 v_thrown v_tanks v_hasPlan v_cycle v_second v_entered v_done v_took v_stopped v_move v_ends v_onHoist v_began r10 s10_v_thrown hc10) (cwV 2 hts (hq_gV tw_178 tw_179 tw_180 tw_176 tw_181) rfl rfl rfl yv_MD_refuse ⟨Nat.le_of_ble_eq_true rfl, Nat.le_of_ble_eq_true rfl⟩) hP hD hK [] rfl 0 rfl rfl [0] rfl rfl rfl hl.1 rfl (Nat.le_of_ble_eq_true rfl) d_MD_empty_50 ⟨Nat.zero_le _, Nat.zero_le _⟩) hP hD hS hA [0] [1] [1, 0] rfl rfl rfl (by decide) rfl rfl (fun H locs hP hD hS => ?_)
        refine lv_if_eq (tgt := 57) hx hb d_MD_empty_53 (by decide) (fun hb11 => ?_) (fun hb11 => ?_)
        · have hF := ox_t hF hb11
          refine lv_aload_n hx hb d_MD_empty_57 rfl (lv_at hl 0 rfl) ?_
          refine va_get (D := (dC, dI)) (ci := 6) (v := .ref q_empty) (C := R_MD) (T := F_MD) (N := 24) hx hb hts uw_MD hown hK hP 0 rfl rfl 5 (by decide) (hts _ tw_171) (fun _ h9 => h9) rfl d_MD_empty_58 ?_
          refine lv_bipush (v := 7) hx hb d_MD_empty_61 (by decide) ?_
          refine lv_iload_n hx hb d_MD_empty_63 rfl (lv_at hl 1 rfl) ?_
          refine lv_imul hx hb d_MD_empty_64 ?_
          refine lv_iload_n hx hb d_MD_empty_65 rfl (lv_at hl 2 rfl) ?_
          refine lv_iadd hx hb d_MD_empty_66 ?_
          refine lv_iload_n hx hb d_MD_empty_67 rfl (lv_at hl 3 rfl) ?_
          obtain ⟨hin, hF⟩ := ox_gdS hF
          refine va_iast hx hb hK hP hD hS 1 0 rfl rfl hin d_MD_empty_68 (fun H locs hP hD hS => ?_)
          have hP : va_P (dC, dI) vwCl (wd_MD_empty q_this q_low q_high q_loaded q_empty q_order q_places q_times q_planOrder q_planTimes q_carriers q_begins cI s10_v_thrown v_tanks v_hasPlan v_cycle v_second v_entered v_done v_took v_stopped v_move v_ends v_onHoist v_began (upd f_empty ((7 * a1) + a2).toNatClampNeg a3)) H := hP
          have hD : va_D A (wd_MD_empty q_this q_low q_high q_loaded q_empty q_order q_places q_times q_planOrder q_planTimes q_carriers q_begins cI s10_v_thrown v_tanks v_hasPlan v_cycle v_second v_entered v_done v_took v_stopped v_move v_ends v_onHoist v_began (upd f_empty ((7 * a1) + a2).toNatClampNeg a3)) := hD
          refine lv_aload_n hx hb d_MD_empty_69 rfl (lv_at hl 0 rfl) ?_
          refine lv_iconst (v := 0) hx hb d_MD_empty_70 (by decide) ?_
          refine va_put (D := (dC, dI)) (ci := 6) (v := .int 0) (ty := .boolean) (C := R_MD) (T := F_MD) (N := 24) hx hb hts uw_MD t_MD t_MD_ok n_MD hown hK hP hD hS 0 rfl rfl 9 (by decide) (hts _ tw_173) (fun _ h9 => h9) rfl (by decide +kernel) rfl rfl (Nat.le_of_ble_eq_true rfl) d_MD_empty_71 (fun H locs hP hD hS => ?_)
          have hP : va_P (dC, dI) vwCl (wd_MD_empty q_this q_low q_high q_loaded q_empty q_order q_places q_times q_planOrder q_planTimes q_carriers q_begins cI s10_v_thrown v_tanks 0 v_cycle v_second v_entered v_done v_took v_stopped v_move v_ends v_onHoist v_began (upd f_empty ((7 * a1) + a2).toNatClampNeg a3)) H := hP
          have hD : va_D A (wd_MD_empty q_this q_low q_high q_loaded q_empty q_order q_places q_times q_planOrder q_planTimes q_carriers q_begins cI s10_v_thrown v_tanks 0 v_cycle v_second v_entered v_done v_took v_stopped v_move v_ends v_onHoist v_began (upd f_empty ((7 * a1) + a2).toNatClampNeg a3)) := hD
          cases hF
          exact hq_vret hx hb hr hlocks hP hD hK hS d_MD_empty_74
        · have hF := ox_f hF hb11
          cases hF
          exact hq_vret hx hb hr hlocks hP hD hK hS d_MD_empty_56
      · have hF := ox_f hF hb9
        refine lv_iload_n hx hb d_MD_empty_34 rfl (lv_at hl 3 rfl) ?_
        refine lv_iconst (v := 0) hx hb d_MD_empty_35 (by decide) ?_
        refine lv_bipush (v := 100) hx hb d_MD_empty_36 (by decide) ?_
        obtain ⟨r12, hc12, hF⟩ := ox_clS hF
        refine hq_ci (ws' := (wd_MD_empty q_this q_low q_high q_loaded q_empty q_order q_places q_times q_planOrder q_planTimes q_carriers q_begins cI v_thrown v_tanks v_hasPlan v_cycle v_second v_entered v_done v_took v_stopped v_move v_ends v_onHoist v_began f_empty)) (hq_rS (As := [.int a3, .int 0, .int 100]) (rest := [.ref q_this]) ⟨hx, hb, hml, hown, hts⟩ (c_MD_in l dC dI _ a3 0 100 r12 hc12) ⟨callB_of 3 hts (hq_g1 tw_177) rfl rfl rfl (hts _ tw_176) (hts _ tw_174) yd_MD_in ⟨Nat.le_of_ble_eq_true rfl, Nat.le_of_ble_eq_true rfl⟩, hts _ tw_175⟩ hP hD hK [] rfl [] rfl rfl rfl hl.1 rfl (Nat.le_of_ble_eq_true rfl) d_MD_empty_38 ⟨Nat.zero_le _, Nat.zero_le _⟩) hP hD hS hA [] [0, 1] [0, 1] rfl rfl rfl (by decide) rfl rfl (fun H locs hP hD hS => ?_)
        refine lv_if_ne (tgt := 48) hx hb d_MD_empty_41 (by decide) (fun hb13 => ?_) (fun hb13 => ?_)
        · have hF := ox_t hF hb13
          refine lv_iconst (v := 0) hx hb d_MD_empty_48 (by decide) ?_
          refine lv_iconst (v := 0) hx hb d_MD_empty_49 (by decide) ?_
          obtain ⟨⟨r14, s14_v_thrown⟩, hc14, hF⟩ := ox_clS hF
          refine hq_ci (ws' := (wd_MD_empty q_this q_low q_high q_loaded q_empty q_order q_places q_times q_planOrder q_planTimes q_carriers q_begins cI s14_v_thrown v_tanks v_hasPlan v_cycle v_second v_entered v_done v_took v_stopped v_move v_ends v_onHoist v_began f_empty)) (hq_rV (As := [.int 0, .int 0]) (rest := []) ⟨hx, hb, hml, hown, hts⟩ (c_MD_refuse l dC dI q_this q_low q_high q_loaded q_empty q_order q_places q_times q_planOrder q_planTimes q_carriers q_begins _ 0 0 v_thrown v_tanks v_hasPlan v_cycle v_second v_entered v_done v_took v_stopped v_move v_ends v_onHoist v_began r14 s14_v_thrown hc14) (cwV 2 hts (hq_gV tw_178 tw_179 tw_180 tw_176 tw_181) rfl rfl rfl yv_MD_refuse ⟨Nat.le_of_ble_eq_true rfl, Nat.le_of_ble_eq_true rfl⟩) hP hD hK [] rfl 0 rfl rfl [0] rfl rfl rfl hl.1 rfl (Nat.le_of_ble_eq_true rfl) d_MD_empty_50 ⟨Nat.zero_le _, Nat.zero_le _⟩) hP hD hS hA [0] [1] [1, 0] rfl rfl rfl (by decide) rfl rfl (fun H locs hP hD hS => ?_)
          refine lv_if_eq (tgt := 57) hx hb d_MD_empty_53 (by decide) (fun hb15 => ?_) (fun hb15 => ?_)
          · have hF := ox_t hF hb15
            refine lv_aload_n hx hb d_MD_empty_57 rfl (lv_at hl 0 rfl) ?_
            refine va_get (D := (dC, dI)) (ci := 6) (v := .ref q_empty) (C := R_MD) (T := F_MD) (N := 24) hx hb hts uw_MD hown hK hP 0 rfl rfl 5 (by decide) (hts _ tw_171) (fun _ h9 => h9) rfl d_MD_empty_58 ?_
            refine lv_bipush (v := 7) hx hb d_MD_empty_61 (by decide) ?_
            refine lv_iload_n hx hb d_MD_empty_63 rfl (lv_at hl 1 rfl) ?_
            refine lv_imul hx hb d_MD_empty_64 ?_
            refine lv_iload_n hx hb d_MD_empty_65 rfl (lv_at hl 2 rfl) ?_
            refine lv_iadd hx hb d_MD_empty_66 ?_
            refine lv_iload_n hx hb d_MD_empty_67 rfl (lv_at hl 3 rfl) ?_
            obtain ⟨hin, hF⟩ := ox_gdS hF
            refine va_iast hx hb hK hP hD hS 1 0 rfl rfl hin d_MD_empty_68 (fun H locs hP hD hS => ?_)
            have hP : va_P (dC, dI) vwCl (wd_MD_empty q_this q_low q_high q_loaded q_empty q_order q_places q_times q_planOrder q_planTimes q_carriers q_begins cI s14_v_thrown v_tanks v_hasPlan v_cycle v_second v_entered v_done v_took v_stopped v_move v_ends v_onHoist v_began (upd f_empty ((7 * a1) + a2).toNatClampNeg a3)) H := hP
            have hD : va_D A (wd_MD_empty q_this q_low q_high q_loaded q_empty q_order q_places q_times q_planOrder q_planTimes q_carriers q_begins cI s14_v_thrown v_tanks v_hasPlan v_cycle v_second v_entered v_done v_took v_stopped v_move v_ends v_onHoist v_began (upd f_empty ((7 * a1) + a2).toNatClampNeg a3)) := hD
            refine lv_aload_n hx hb d_MD_empty_69 rfl (lv_at hl 0 rfl) ?_
            refine lv_iconst (v := 0) hx hb d_MD_empty_70 (by decide) ?_
            refine va_put (D := (dC, dI)) (ci := 6) (v := .int 0) (ty := .boolean) (C := R_MD) (T := F_MD) (N := 24) hx hb hts uw_MD t_MD t_MD_ok n_MD hown hK hP hD hS 0 rfl rfl 9 (by decide) (hts _ tw_173) (fun _ h9 => h9) rfl (by decide +kernel) rfl rfl (Nat.le_of_ble_eq_true rfl) d_MD_empty_71 (fun H locs hP hD hS => ?_)
            have hP : va_P (dC, dI) vwCl (wd_MD_empty q_this q_low q_high q_loaded q_empty q_order q_places q_times q_planOrder q_planTimes q_carriers q_begins cI s14_v_thrown v_tanks 0 v_cycle v_second v_entered v_done v_took v_stopped v_move v_ends v_onHoist v_began (upd f_empty ((7 * a1) + a2).toNatClampNeg a3)) H := hP
            have hD : va_D A (wd_MD_empty q_this q_low q_high q_loaded q_empty q_order q_places q_times q_planOrder q_planTimes q_carriers q_begins cI s14_v_thrown v_tanks 0 v_cycle v_second v_entered v_done v_took v_stopped v_move v_ends v_onHoist v_began (upd f_empty ((7 * a1) + a2).toNatClampNeg a3)) := hD
            cases hF
            exact hq_vret hx hb hr hlocks hP hD hK hS d_MD_empty_74
          · have hF := ox_f hF hb15
            cases hF
            exact hq_vret hx hb hr hlocks hP hD hK hS d_MD_empty_56
        · have hF := ox_fn hF hb13
          refine lv_iconst (v := 1) hx hb d_MD_empty_44 (by decide) ?_
          refine lv_goto (tgt := 49) hx hb d_MD_empty_45 (by decide) ?_
          refine lv_iconst (v := 0) hx hb d_MD_empty_49 (by decide) ?_
          obtain ⟨⟨r16, s16_v_thrown⟩, hc16, hF⟩ := ox_clS hF
          refine hq_ci (ws' := (wd_MD_empty q_this q_low q_high q_loaded q_empty q_order q_places q_times q_planOrder q_planTimes q_carriers q_begins cI s16_v_thrown v_tanks v_hasPlan v_cycle v_second v_entered v_done v_took v_stopped v_move v_ends v_onHoist v_began f_empty)) (hq_rV (As := [.int 1, .int 0]) (rest := []) ⟨hx, hb, hml, hown, hts⟩ (c_MD_refuse l dC dI q_this q_low q_high q_loaded q_empty q_order q_places q_times q_planOrder q_planTimes q_carriers q_begins _ 1 0 v_thrown v_tanks v_hasPlan v_cycle v_second v_entered v_done v_took v_stopped v_move v_ends v_onHoist v_began r16 s16_v_thrown hc16) (cwV 2 hts (hq_gV tw_178 tw_179 tw_180 tw_176 tw_181) rfl rfl rfl yv_MD_refuse ⟨Nat.le_of_ble_eq_true rfl, Nat.le_of_ble_eq_true rfl⟩) hP hD hK [] rfl 0 rfl rfl [0] rfl rfl rfl hl.1 rfl (Nat.le_of_ble_eq_true rfl) d_MD_empty_50 ⟨Nat.zero_le _, Nat.zero_le _⟩) hP hD hS hA [0] [1] [1, 0] rfl rfl rfl (by decide) rfl rfl (fun H locs hP hD hS => ?_)
          refine lv_if_eq (tgt := 57) hx hb d_MD_empty_53 (by decide) (fun hb17 => ?_) (fun hb17 => ?_)
          · have hF := ox_t hF hb17
            refine lv_aload_n hx hb d_MD_empty_57 rfl (lv_at hl 0 rfl) ?_
            refine va_get (D := (dC, dI)) (ci := 6) (v := .ref q_empty) (C := R_MD) (T := F_MD) (N := 24) hx hb hts uw_MD hown hK hP 0 rfl rfl 5 (by decide) (hts _ tw_171) (fun _ h9 => h9) rfl d_MD_empty_58 ?_
            refine lv_bipush (v := 7) hx hb d_MD_empty_61 (by decide) ?_
            refine lv_iload_n hx hb d_MD_empty_63 rfl (lv_at hl 1 rfl) ?_
            refine lv_imul hx hb d_MD_empty_64 ?_
            refine lv_iload_n hx hb d_MD_empty_65 rfl (lv_at hl 2 rfl) ?_
            refine lv_iadd hx hb d_MD_empty_66 ?_
            refine lv_iload_n hx hb d_MD_empty_67 rfl (lv_at hl 3 rfl) ?_
            obtain ⟨hin, hF⟩ := ox_gdS hF
            refine va_iast hx hb hK hP hD hS 1 0 rfl rfl hin d_MD_empty_68 (fun H locs hP hD hS => ?_)
            have hP : va_P (dC, dI) vwCl (wd_MD_empty q_this q_low q_high q_loaded q_empty q_order q_places q_times q_planOrder q_planTimes q_carriers q_begins cI s16_v_thrown v_tanks v_hasPlan v_cycle v_second v_entered v_done v_took v_stopped v_move v_ends v_onHoist v_began (upd f_empty ((7 * a1) + a2).toNatClampNeg a3)) H := hP
            have hD : va_D A (wd_MD_empty q_this q_low q_high q_loaded q_empty q_order q_places q_times q_planOrder q_planTimes q_carriers q_begins cI s16_v_thrown v_tanks v_hasPlan v_cycle v_second v_entered v_done v_took v_stopped v_move v_ends v_onHoist v_began (upd f_empty ((7 * a1) + a2).toNatClampNeg a3)) := hD
            refine lv_aload_n hx hb d_MD_empty_69 rfl (lv_at hl 0 rfl) ?_
            refine lv_iconst (v := 0) hx hb d_MD_empty_70 (by decide) ?_
            refine va_put (D := (dC, dI)) (ci := 6) (v := .int 0) (ty := .boolean) (C := R_MD) (T := F_MD) (N := 24) hx hb hts uw_MD t_MD t_MD_ok n_MD hown hK hP hD hS 0 rfl rfl 9 (by decide) (hts _ tw_173) (fun _ h9 => h9) rfl (by decide +kernel) rfl rfl (Nat.le_of_ble_eq_true rfl) d_MD_empty_71 (fun H locs hP hD hS => ?_)
            have hP : va_P (dC, dI) vwCl (wd_MD_empty q_this q_low q_high q_loaded q_empty q_order q_places q_times q_planOrder q_planTimes q_carriers q_begins cI s16_v_thrown v_tanks 0 v_cycle v_second v_entered v_done v_took v_stopped v_move v_ends v_onHoist v_began (upd f_empty ((7 * a1) + a2).toNatClampNeg a3)) H := hP
            have hD : va_D A (wd_MD_empty q_this q_low q_high q_loaded q_empty q_order q_places q_times q_planOrder q_planTimes q_carriers q_begins cI s16_v_thrown v_tanks 0 v_cycle v_second v_entered v_done v_took v_stopped v_move v_ends v_onHoist v_began (upd f_empty ((7 * a1) + a2).toNatClampNeg a3)) := hD
            cases hF
            exact hq_vret hx hb hr hlocks hP hD hK hS d_MD_empty_74
          · have hF := ox_f hF hb17
            cases hF
            exact hq_vret hx hb hr hlocks hP hD hK hS d_MD_empty_56
abbrev wd_MD_readiness (q_this : Nat) (q_low : Nat) (q_high : Nat) (q_loaded : Nat) (q_empty : Nat) (q_order : Nat) (q_places : Nat) (q_times : Nat) (q_planOrder : Nat) (q_planTimes : Nat) (q_carriers : Nat) (q_begins : Nat) (cI : ClassId) (v_thrown : Int32) (v_tanks : Int32) (v_hasPlan : Int32) (v_cycle : Int32) (v_second : Int32) (v_entered : Int32) (v_done : Int32) (v_took : Int32) (v_stopped : Int32) (v_move : Int32) (v_ends : Int32) (v_onHoist : Int32) (v_began : Int32) (f_empty : Nat → Int32) (f_loaded : Nat → Int32) : va_W := [(q_this, .inr (6, [.int v_thrown, .int v_tanks, .ref q_low, .ref q_high, .ref q_loaded, .ref q_empty, .ref q_order, .ref q_places, .ref q_times, .int v_hasPlan, .int v_cycle, .ref q_planOrder, .ref q_planTimes, .int v_second, .int v_entered, .int v_done, .int v_took, .int v_stopped, .ref q_carriers, .ref q_begins, .int v_move, .int v_ends, .int v_onHoist, .int v_began])), (q_empty, .inl (cI, 49, .inl f_empty)), (q_loaded, .inl (cI, 6, .inl f_loaded))]
set_option maxHeartbeats 4000000 in
set_option maxRecDepth 100000 in
theorem c_MD_readiness (l : Launch) (dC : Nat → ClassId) (dI : Nat → Nat → Nat) (q_this : Nat) (q_low : Nat) (q_high : Nat) (q_loaded : Nat) (q_empty : Nat) (q_order : Nat) (q_places : Nat) (q_times : Nat) (q_planOrder : Nat) (q_planTimes : Nat) (q_carriers : Nat) (q_begins : Nat) (cI : ClassId) (sz : Nat) (z : Nat) (v_thrown : Int32) (v_tanks : Int32) (v_hasPlan : Int32) (v_cycle : Int32) (v_second : Int32) (v_entered : Int32) (v_done : Int32) (v_took : Int32) (v_stopped : Int32) (v_move : Int32) (v_ends : Int32) (v_onHoist : Int32) (v_began : Int32) (f_empty : Nat → Int32) (f_loaded : Nat → Int32) (rr : Int32) (hF : fn_MD_readiness z v_tanks f_empty f_loaded = some rr) : Met l y_MD_readiness w_MD_readiness ({ frames := 0, cells := 0, slots := 0, locals := 0 }) (hq_Pc (dC, dI) vwCl [(cI, .int)] (wd_MD_readiness q_this q_low q_high q_loaded q_empty q_order q_places q_times q_planOrder q_planTimes q_carriers q_begins cI v_thrown v_tanks v_hasPlan v_cycle v_second v_entered v_done v_took v_stopped v_move v_ends v_onHoist v_began f_empty f_loaded) sz [.ref q_this]) (hq_Qi (dC, dI) vwCl [(cI, .int)] (wd_MD_readiness q_this q_low q_high q_loaded q_empty q_order q_places q_times q_planOrder q_planTimes q_carriers q_begins cI v_thrown v_tanks v_hasPlan v_cycle v_second v_entered v_done v_took v_stopped v_move v_ends v_onHoist v_began f_empty f_loaded) rr (va_A (wd_MD_readiness q_this q_low q_high q_loaded q_empty q_order q_places q_times q_planOrder q_planTimes q_carriers q_begins cI v_thrown v_tanks v_hasPlan v_cycle v_second v_entered v_done v_took v_stopped v_move v_ends v_onHoist v_began f_empty f_loaded) sz)) 0 0 (va_A (wd_MD_readiness q_this q_low q_high q_loaded q_empty q_order q_places q_times q_planOrder q_planTimes q_carriers q_begins cI v_thrown v_tanks v_hasPlan v_cycle v_second v_entered v_done v_took v_stopped v_move v_ends v_onHoist v_began f_empty f_loaded) sz) := by
  refine hq_met (Qc := (hq_Qi (dC, dI) vwCl [(cI, .int)] (wd_MD_readiness q_this q_low q_high q_loaded q_empty q_order q_places q_times q_planOrder q_planTimes q_carriers q_begins cI v_thrown v_tanks v_hasPlan v_cycle v_second v_entered v_done v_took v_stopped v_move v_ends v_onHoist v_began f_empty f_loaded) rr)) (cc := b_MD_readiness) (maxL := 6) (ret := some .int) (by decide) rfl (Nat.le_of_ble_eq_true rfl) ?_
  intro p e s m args below meth c A ls hx hb hr hml hts hown hlocks hnm hP hD hK hA hS hl
  have hts : ∀ w ∈ tb0, w.before args s = true := fun w h => hts w (List.mem_cons_of_mem _ h)
  have hown : s.vm.findClass R_MD = some m.cls := hown
  have hl : lv_has ls 6 [(0, .ref q_this)] := hl
  unfold fn_MD_readiness at hF
  have loop : ∀ fu : Nat, (∀ (i1 : Int32) (H : Heap) (locs : List Loc) (ls : Array Slot), va_P (dC, dI) vwCl (wd_MD_readiness q_this q_low q_high q_loaded q_empty q_order q_places q_times q_planOrder q_planTimes q_carriers q_begins cI v_thrown v_tanks v_hasPlan v_cycle v_second v_entered v_done v_took v_stopped v_move v_ends v_onHoist v_began f_empty f_loaded) H → va_D A (wd_MD_readiness q_this q_low q_high q_loaded q_empty q_order q_places q_times q_planOrder q_planTimes q_carriers q_begins cI v_thrown v_tanks v_hasPlan v_cycle v_second v_entered v_done v_took v_stopped v_move v_ends v_onHoist v_began f_empty f_loaded) → va_S A s.heap H locs → lv_has ls 6 [(0, .ref q_this), (1, .int i1)] → lp_MD_readiness v_tanks f_empty f_loaded fu 0 i1 = some rr → W p l e ({ frames := 0, cells := 0, slots := 0, locals := 0 }) s m args below meth c H locs 0 0 (MQ below ((hq_Qi (dC, dI) vwCl [(cI, .int)] (wd_MD_readiness q_this q_low q_high q_loaded q_empty q_order q_places q_times q_planOrder q_planTimes q_carriers q_begins cI v_thrown v_tanks v_hasPlan v_cycle v_second v_entered v_done v_took v_stopped v_move v_ends v_onHoist v_began f_empty f_loaded) rr) A) args s 0 0 A) (F0 m 2 ls [])) ∧ (∀ (i1 : Int32) (H : Heap) (locs : List Loc) (ls : Array Slot), va_P (dC, dI) vwCl (wd_MD_readiness q_this q_low q_high q_loaded q_empty q_order q_places q_times q_planOrder q_planTimes q_carriers q_begins cI v_thrown v_tanks v_hasPlan v_cycle v_second v_entered v_done v_took v_stopped v_move v_ends v_onHoist v_began f_empty f_loaded) H → va_D A (wd_MD_readiness q_this q_low q_high q_loaded q_empty q_order q_places q_times q_planOrder q_planTimes q_carriers q_begins cI v_thrown v_tanks v_hasPlan v_cycle v_second v_entered v_done v_took v_stopped v_move v_ends v_onHoist v_began f_empty f_loaded) → va_S A s.heap H locs → lv_has ls 6 [(0, .ref q_this), (1, .int i1)] → lp_MD_readiness v_tanks f_empty f_loaded fu 1 i1 = some rr → W p l e ({ frames := 0, cells := 0, slots := 0, locals := 0 }) s m args below meth c H locs 0 0 (MQ below ((hq_Qi (dC, dI) vwCl [(cI, .int)] (wd_MD_readiness q_this q_low q_high q_loaded q_empty q_order q_places q_times q_planOrder q_planTimes q_carriers q_begins cI v_thrown v_tanks v_hasPlan v_cycle v_second v_entered v_done v_took v_stopped v_move v_ends v_onHoist v_began f_empty f_loaded) rr) A) args s 0 0 A) (F0 m 44 ls [])) := by
    intro fu
    induction fu with
    | zero => exact ⟨(fun _ _ _ _ _ _ _ _ h => by cases h), (fun _ _ _ _ _ _ _ _ h => by cases h)⟩
    | succ fu ih =>
      refine ⟨?_, ?_⟩
      · intro i1 H locs ls hP hD hS hl hF
        have hF : st_MD_readiness v_tanks f_empty f_loaded (lp_MD_readiness v_tanks f_empty f_loaded fu) 0 i1 = some rr := hF
        unfold st_MD_readiness at hF
        try dsimp only at hF
        refine lv_iload_n hx hb d_MD_readiness_2 rfl (lv_at hl 1 rfl) ?_
        refine lv_aload_n hx hb d_MD_readiness_3 rfl (lv_at hl 0 rfl) ?_
        refine va_get (D := (dC, dI)) (ci := 6) (v := .int v_tanks) (C := R_MD) (T := F_MD) (N := 24) hx hb hts uw_MD hown hK hP 0 rfl rfl 1 (by decide) (hts _ tw_172) (fun _ h9 => h9) rfl d_MD_readiness_4 ?_
        refine lv_icmp_gt (tgt := 42) hx hb d_MD_readiness_7 (by decide) (fun hb1 => ?_) (fun hb1 => ?_)
        · have hF := ox_t hF hb1
          refine lv_iconst (v := 0) hx hb d_MD_readiness_42 (by decide) ?_
          refine lv_istore_n (lv' := [(1, .int 0), (0, .ref q_this)]) hx hb d_MD_readiness_43 rfl hl (by decide) rfl (fun ls hl => ?_)
          exact ih.2 0 _ _ _ hP hD hS (lv_sub hl [1, 0] rfl) hF
        · have hF := ox_f hF hb1
          refine lv_aload_n hx hb d_MD_readiness_10 rfl (lv_at hl 0 rfl) ?_
          refine va_get (D := (dC, dI)) (ci := 6) (v := .ref q_empty) (C := R_MD) (T := F_MD) (N := 24) hx hb hts uw_MD hown hK hP 0 rfl rfl 5 (by decide) (hts _ tw_171) (fun _ h9 => h9) rfl d_MD_readiness_11 ?_
          refine lv_bipush (v := 7) hx hb d_MD_readiness_14 (by decide) ?_
          refine lv_iload_n hx hb d_MD_readiness_16 rfl (lv_at hl 1 rfl) ?_
          refine lv_imul hx hb d_MD_readiness_17 ?_
          refine lv_iload_n hx hb d_MD_readiness_18 rfl (lv_at hl 1 rfl) ?_
          refine lv_iadd hx hb d_MD_readiness_19 ?_
          refine lv_iconst (v := 1) hx hb d_MD_readiness_20 (by decide) ?_
          refine lv_iadd hx hb d_MD_readiness_21 ?_
          obtain ⟨hin, hF⟩ := ox_gdS hF
          refine va_iald hx hb hK hP 1 0 rfl rfl hin d_MD_readiness_22 ?_
          refine lv_aload_n hx hb d_MD_readiness_23 rfl (lv_at hl 0 rfl) ?_
          refine va_get (D := (dC, dI)) (ci := 6) (v := .ref q_loaded) (C := R_MD) (T := F_MD) (N := 24) hx hb hts uw_MD hown hK hP 0 rfl rfl 4 (by decide) (hts _ tw_170) (fun _ h9 => h9) rfl d_MD_readiness_24 ?_
          refine lv_iload_n hx hb d_MD_readiness_27 rfl (lv_at hl 1 rfl) ?_
          obtain ⟨hin, hF⟩ := ox_gdS hF
          refine va_iald hx hb hK hP 2 0 rfl rfl hin d_MD_readiness_28 ?_
          refine lv_icmp_le (tgt := 36) hx hb d_MD_readiness_29 (by decide) (fun hb2 => ?_) (fun hb2 => ?_)
          · have hF := ox_t hF hb2
            refine lv_iinc (v := (i1 + 1)) (lv' := [(1, .int (i1 + 1)), (0, .ref q_this)]) hx hb d_MD_readiness_36 hl (k := 1) rfl rfl (by decide) rfl (fun ls hl => ?_)
            refine lv_goto (tgt := 2) hx hb d_MD_readiness_39 (by decide) ?_
            exact ih.1 (i1 + 1) _ _ _ hP hD hS (lv_sub hl [1, 0] rfl) hF
          · have hF := ox_f hF hb2
            refine lv_iconst (v := 1) hx hb d_MD_readiness_32 (by decide) ?_
            refine lv_iload_n hx hb d_MD_readiness_33 rfl (lv_at hl 1 rfl) ?_
            refine lv_iadd hx hb d_MD_readiness_34 ?_
            cases hF
            exact hq_iret hx hb hr hlocks hP hD hK hS d_MD_readiness_35
      · intro i1 H locs ls hP hD hS hl hF
        have hF : st_MD_readiness v_tanks f_empty f_loaded (lp_MD_readiness v_tanks f_empty f_loaded fu) 1 i1 = some rr := hF
        unfold st_MD_readiness at hF
        try dsimp only at hF
        refine lv_iload_n hx hb d_MD_readiness_44 rfl (lv_at hl 1 rfl) ?_
        refine lv_sipush (v := 343) hx hb d_MD_readiness_45 (by decide) ?_
        refine lv_icmp_ge (tgt := 163) hx hb d_MD_readiness_48 (by decide) (fun hb3 => ?_) (fun hb3 => ?_)
        · have hF := ox_t hF hb3
          refine lv_iconst (v := 0) hx hb d_MD_readiness_163 (by decide) ?_
          cases hF
          exact hq_iret hx hb hr hlocks hP hD hK hS d_MD_readiness_164
        · have hF := ox_f hF hb3
          refine lv_iload_n hx hb d_MD_readiness_51 rfl (lv_at hl 1 rfl) ?_
          refine lv_bipush (v := 49) hx hb d_MD_readiness_52 (by decide) ?_
          refine lv_idiv hx hb d_MD_readiness_54 (by decide) ?_
          refine lv_istore_n (lv' := [(2, .int (i1 / 49)), (0, .ref q_this), (1, .int i1)]) hx hb d_MD_readiness_55 rfl hl (by decide) rfl (fun ls hl => ?_)
          refine lv_iload_n hx hb d_MD_readiness_56 rfl (lv_at hl 2 rfl) ?_
          refine lv_bipush (v := 7) hx hb d_MD_readiness_57 (by decide) ?_
          refine lv_idiv hx hb d_MD_readiness_59 (by decide) ?_
          refine lv_bipush (v := 7) hx hb d_MD_readiness_60 (by decide) ?_
          refine lv_irem hx hb d_MD_readiness_62 (by decide) ?_
          refine lv_istore_n (lv' := [(3, .int ((i1 / 7) - (i1 / 7) / 7 * 7)), (2, .int (i1 / 49)), (0, .ref q_this), (1, .int i1)]) hx hb d_MD_readiness_63 rfl hl (by decide) rfl (fun ls hl => ?_)
          refine lv_iload_n hx hb d_MD_readiness_64 rfl (lv_at hl 3 rfl) ?_
          refine lv_bipush (v := 7) hx hb d_MD_readiness_65 (by decide) ?_
          refine lv_irem hx hb d_MD_readiness_67 (by decide) ?_
          refine lv_istore (lv' := [(4, .int (i1 - i1 / 7 * 7)), (3, .int ((i1 / 7) - (i1 / 7) / 7 * 7)), (2, .int (i1 / 49)), (0, .ref q_this), (1, .int i1)]) hx hb d_MD_readiness_68 hl (by decide) rfl (fun ls hl => ?_)
          refine lv_iload_n hx hb d_MD_readiness_70 rfl (lv_at hl 2 rfl) ?_
          refine lv_aload_n hx hb d_MD_readiness_71 rfl (lv_at hl 3 rfl) ?_
          refine va_get (D := (dC, dI)) (ci := 6) (v := .int v_tanks) (C := R_MD) (T := F_MD) (N := 24) hx hb hts uw_MD hown hK hP 0 rfl rfl 1 (by decide) (hts _ tw_172) (fun _ h9 => h9) rfl d_MD_readiness_72 ?_
          refine lv_iconst (v := 1) hx hb d_MD_readiness_75 (by decide) ?_
          refine lv_iadd hx hb d_MD_readiness_76 ?_
          refine lv_icmp_gt (tgt := 105) hx hb d_MD_readiness_77 (by decide) (fun hb4 => ?_) (fun hb4 => ?_)
          · have hF := ox_t hF hb4
            refine lv_iconst (v := 0) hx hb d_MD_readiness_105 (by decide) ?_
            refine lv_istore (lv' := [(5, .int 0), (4, .int (i1 - i1 / 7 * 7)), (3, .int ((i1 / 7) - (i1 / 7) / 7 * 7)), (2, .int (i1 / 49)), (0, .ref q_this), (1, .int i1)]) hx hb d_MD_readiness_106 hl (by decide) rfl (fun ls hl => ?_)
            refine lv_iload hx hb d_MD_readiness_108 (lv_at hl 0 rfl) ?_
            refine lv_if_eq (tgt := 157) hx hb d_MD_readiness_110 (by decide) (fun _ => ?_) (fun h => absurd (by decide) h)
            refine lv_iinc (v := (i1 + 1)) (lv' := [(1, .int (i1 + 1)), (5, .int 0), (4, .int (i1 - i1 / 7 * 7)), (3, .int ((i1 / 7) - (i1 / 7) / 7 * 7)), (2, .int (i1 / 49)), (0, .ref q_this)]) hx hb d_MD_readiness_157 hl (k := 5) rfl rfl (by decide) rfl (fun ls hl => ?_)
            refine lv_goto (tgt := 44) hx hb d_MD_readiness_160 (by decide) ?_
            exact ih.2 (i1 + 1) _ _ _ hP hD hS (lv_sub hl [5, 0] rfl) hF
          · have hF := ox_f hF hb4
            refine lv_iload_n hx hb d_MD_readiness_80 rfl (lv_at hl 1 rfl) ?_
            refine lv_aload_n hx hb d_MD_readiness_81 rfl (lv_at hl 3 rfl) ?_
            refine va_get (D := (dC, dI)) (ci := 6) (v := .int v_tanks) (C := R_MD) (T := F_MD) (N := 24) hx hb hts uw_MD hown hK hP 0 rfl rfl 1 (by decide) (hts _ tw_172) (fun _ h9 => h9) rfl d_MD_readiness_82 ?_
            refine lv_iconst (v := 1) hx hb d_MD_readiness_85 (by decide) ?_
            refine lv_iadd hx hb d_MD_readiness_86 ?_
            refine lv_icmp_gt (tgt := 105) hx hb d_MD_readiness_87 (by decide) (fun hb5 => ?_) (fun hb5 => ?_)
            · have hF := ox_t hF hb5
              refine lv_iconst (v := 0) hx hb d_MD_readiness_105 (by decide) ?_
              refine lv_istore (lv' := [(5, .int 0), (4, .int (i1 - i1 / 7 * 7)), (3, .int ((i1 / 7) - (i1 / 7) / 7 * 7)), (2, .int (i1 / 49)), (0, .ref q_this), (1, .int i1)]) hx hb d_MD_readiness_106 hl (by decide) rfl (fun ls hl => ?_)
              refine lv_iload hx hb d_MD_readiness_108 (lv_at hl 0 rfl) ?_
              refine lv_if_eq (tgt := 157) hx hb d_MD_readiness_110 (by decide) (fun _ => ?_) (fun h => absurd (by decide) h)
              refine lv_iinc (v := (i1 + 1)) (lv' := [(1, .int (i1 + 1)), (5, .int 0), (4, .int (i1 - i1 / 7 * 7)), (3, .int ((i1 / 7) - (i1 / 7) / 7 * 7)), (2, .int (i1 / 49)), (0, .ref q_this)]) hx hb d_MD_readiness_157 hl (k := 5) rfl rfl (by decide) rfl (fun ls hl => ?_)
              refine lv_goto (tgt := 44) hx hb d_MD_readiness_160 (by decide) ?_
              exact ih.2 (i1 + 1) _ _ _ hP hD hS (lv_sub hl [5, 0] rfl) hF
            · have hF := ox_f hF hb5
              refine lv_iload hx hb d_MD_readiness_90 (lv_at hl 0 rfl) ?_
              refine lv_aload_n hx hb d_MD_readiness_92 rfl (lv_at hl 3 rfl) ?_
              refine va_get (D := (dC, dI)) (ci := 6) (v := .int v_tanks) (C := R_MD) (T := F_MD) (N := 24) hx hb hts uw_MD hown hK hP 0 rfl rfl 1 (by decide) (hts _ tw_172) (fun _ h9 => h9) rfl d_MD_readiness_93 ?_
              refine lv_iconst (v := 1) hx hb d_MD_readiness_96 (by decide) ?_
              refine lv_iadd hx hb d_MD_readiness_97 ?_
              refine lv_icmp_gt (tgt := 105) hx hb d_MD_readiness_98 (by decide) (fun hb6 => ?_) (fun hb6 => ?_)
              · have hF := ox_t hF hb6
                refine lv_iconst (v := 0) hx hb d_MD_readiness_105 (by decide) ?_
                refine lv_istore (lv' := [(5, .int 0), (4, .int (i1 - i1 / 7 * 7)), (3, .int ((i1 / 7) - (i1 / 7) / 7 * 7)), (2, .int (i1 / 49)), (0, .ref q_this), (1, .int i1)]) hx hb d_MD_readiness_106 hl (by decide) rfl (fun ls hl => ?_)
                refine lv_iload hx hb d_MD_readiness_108 (lv_at hl 0 rfl) ?_
                refine lv_if_eq (tgt := 157) hx hb d_MD_readiness_110 (by decide) (fun _ => ?_) (fun h => absurd (by decide) h)
                refine lv_iinc (v := (i1 + 1)) (lv' := [(1, .int (i1 + 1)), (5, .int 0), (4, .int (i1 - i1 / 7 * 7)), (3, .int ((i1 / 7) - (i1 / 7) / 7 * 7)), (2, .int (i1 / 49)), (0, .ref q_this)]) hx hb d_MD_readiness_157 hl (k := 5) rfl rfl (by decide) rfl (fun ls hl => ?_)
                refine lv_goto (tgt := 44) hx hb d_MD_readiness_160 (by decide) ?_
                exact ih.2 (i1 + 1) _ _ _ hP hD hS (lv_sub hl [5, 0] rfl) hF
              · have hF := ox_f hF hb6
                refine lv_iconst (v := 1) hx hb d_MD_readiness_101 (by decide) ?_
                refine lv_goto (tgt := 106) hx hb d_MD_readiness_102 (by decide) ?_
                refine lv_istore (lv' := [(5, .int 1), (4, .int (i1 - i1 / 7 * 7)), (3, .int ((i1 / 7) - (i1 / 7) / 7 * 7)), (2, .int (i1 / 49)), (0, .ref q_this), (1, .int i1)]) hx hb d_MD_readiness_106 hl (by decide) rfl (fun ls hl => ?_)
                refine lv_iload hx hb d_MD_readiness_108 (lv_at hl 0 rfl) ?_
                refine lv_if_eq (tgt := 157) hx hb d_MD_readiness_110 (by decide) (fun h => absurd h (by decide)) (fun _ => ?_)
                refine lv_aload_n hx hb d_MD_readiness_113 rfl (lv_at hl 4 rfl) ?_
                refine va_get (D := (dC, dI)) (ci := 6) (v := .ref q_empty) (C := R_MD) (T := F_MD) (N := 24) hx hb hts uw_MD hown hK hP 0 rfl rfl 5 (by decide) (hts _ tw_171) (fun _ h9 => h9) rfl d_MD_readiness_114 ?_
                refine lv_bipush (v := 7) hx hb d_MD_readiness_117 (by decide) ?_
                refine lv_iload_n hx hb d_MD_readiness_119 rfl (lv_at hl 3 rfl) ?_
                refine lv_imul hx hb d_MD_readiness_120 ?_
                refine lv_iload hx hb d_MD_readiness_121 (lv_at hl 1 rfl) ?_
                refine lv_iadd hx hb d_MD_readiness_123 ?_
                obtain ⟨hin, hF⟩ := ox_gdS hF
                refine va_iald hx hb hK hP 1 0 rfl rfl hin d_MD_readiness_124 ?_
                refine lv_aload_n hx hb d_MD_readiness_125 rfl (lv_at hl 4 rfl) ?_
                refine va_get (D := (dC, dI)) (ci := 6) (v := .ref q_empty) (C := R_MD) (T := F_MD) (N := 24) hx hb hts uw_MD hown hK hP 0 rfl rfl 5 (by decide) (hts _ tw_171) (fun _ h9 => h9) rfl d_MD_readiness_126 ?_
                refine lv_bipush (v := 7) hx hb d_MD_readiness_129 (by decide) ?_
                refine lv_iload_n hx hb d_MD_readiness_131 rfl (lv_at hl 3 rfl) ?_
                refine lv_imul hx hb d_MD_readiness_132 ?_
                refine lv_iload_n hx hb d_MD_readiness_133 rfl (lv_at hl 2 rfl) ?_
                refine lv_iadd hx hb d_MD_readiness_134 ?_
                obtain ⟨hin, hF⟩ := ox_gdS hF
                refine va_iald hx hb hK hP 1 0 rfl rfl hin d_MD_readiness_135 ?_
                refine lv_aload_n hx hb d_MD_readiness_136 rfl (lv_at hl 4 rfl) ?_
                refine va_get (D := (dC, dI)) (ci := 6) (v := .ref q_empty) (C := R_MD) (T := F_MD) (N := 24) hx hb hts uw_MD hown hK hP 0 rfl rfl 5 (by decide) (hts _ tw_171) (fun _ h9 => h9) rfl d_MD_readiness_137 ?_
                refine lv_bipush (v := 7) hx hb d_MD_readiness_140 (by decide) ?_
                refine lv_iload_n hx hb d_MD_readiness_142 rfl (lv_at hl 2 rfl) ?_
                refine lv_imul hx hb d_MD_readiness_143 ?_
                refine lv_iload hx hb d_MD_readiness_144 (lv_at hl 1 rfl) ?_
                refine lv_iadd hx hb d_MD_readiness_146 ?_
                obtain ⟨hin, hF⟩ := ox_gdS hF
                refine va_iald hx hb hK hP 1 0 rfl rfl hin d_MD_readiness_147 ?_
                refine lv_iadd hx hb d_MD_readiness_148 ?_
                refine lv_icmp_le (tgt := 157) hx hb d_MD_readiness_149 (by decide) (fun hb7 => ?_) (fun hb7 => ?_)
                · have hF := ox_t hF hb7
                  refine lv_iinc (v := (i1 + 1)) (lv' := [(1, .int (i1 + 1)), (5, .int 1), (4, .int (i1 - i1 / 7 * 7)), (3, .int ((i1 / 7) - (i1 / 7) / 7 * 7)), (2, .int (i1 / 49)), (0, .ref q_this)]) hx hb d_MD_readiness_157 hl (k := 5) rfl rfl (by decide) rfl (fun ls hl => ?_)
                  refine lv_goto (tgt := 44) hx hb d_MD_readiness_160 (by decide) ?_
                  exact ih.2 (i1 + 1) _ _ _ hP hD hS (lv_sub hl [5, 0] rfl) hF
                · have hF := ox_f hF hb7
                  refine lv_bipush (v := 100) hx hb d_MD_readiness_152 (by decide) ?_
                  refine lv_iload_n hx hb d_MD_readiness_154 rfl (lv_at hl 5 rfl) ?_
                  refine lv_iadd hx hb d_MD_readiness_155 ?_
                  cases hF
                  exact hq_iret hx hb hr hlocks hP hD hK hS d_MD_readiness_156
  refine lv_iconst (v := 0) hx hb d_MD_readiness_0 (by decide) ?_
  refine lv_istore_n (lv' := [(1, .int 0), (0, .ref q_this)]) hx hb d_MD_readiness_1 rfl hl (by decide) rfl (fun ls hl => ?_)
  exact (loop z).1 0 _ _ _ hP hD hS (lv_sub hl [1, 0] rfl) hF
abbrev wd_MD_ready (q_this : Nat) (q_low : Nat) (q_high : Nat) (q_loaded : Nat) (q_empty : Nat) (q_order : Nat) (q_places : Nat) (q_times : Nat) (q_planOrder : Nat) (q_planTimes : Nat) (q_carriers : Nat) (q_begins : Nat) (cI : ClassId) (v_thrown : Int32) (v_tanks : Int32) (v_hasPlan : Int32) (v_cycle : Int32) (v_second : Int32) (v_entered : Int32) (v_done : Int32) (v_took : Int32) (v_stopped : Int32) (v_move : Int32) (v_ends : Int32) (v_onHoist : Int32) (v_began : Int32) (f_empty : Nat → Int32) (f_loaded : Nat → Int32) : va_W := [(q_this, .inr (6, [.int v_thrown, .int v_tanks, .ref q_low, .ref q_high, .ref q_loaded, .ref q_empty, .ref q_order, .ref q_places, .ref q_times, .int v_hasPlan, .int v_cycle, .ref q_planOrder, .ref q_planTimes, .int v_second, .int v_entered, .int v_done, .int v_took, .int v_stopped, .ref q_carriers, .ref q_begins, .int v_move, .int v_ends, .int v_onHoist, .int v_began])), (q_empty, .inl (cI, 49, .inl f_empty)), (q_loaded, .inl (cI, 6, .inl f_loaded))]
set_option maxHeartbeats 4000000 in
set_option maxRecDepth 100000 in
theorem c_MD_ready (l : Launch) (dC : Nat → ClassId) (dI : Nat → Nat → Nat) (q_this : Nat) (q_low : Nat) (q_high : Nat) (q_loaded : Nat) (q_empty : Nat) (q_order : Nat) (q_places : Nat) (q_times : Nat) (q_planOrder : Nat) (q_planTimes : Nat) (q_carriers : Nat) (q_begins : Nat) (cI : ClassId) (sz : Nat) (z : Nat) (v_thrown : Int32) (v_tanks : Int32) (v_hasPlan : Int32) (v_cycle : Int32) (v_second : Int32) (v_entered : Int32) (v_done : Int32) (v_took : Int32) (v_stopped : Int32) (v_move : Int32) (v_ends : Int32) (v_onHoist : Int32) (v_began : Int32) (f_empty : Nat → Int32) (f_loaded : Nat → Int32) (rr : Int32) (n_v_thrown : Int32) (hF : fn_MD_ready z v_thrown v_tanks f_empty f_loaded = some (rr, n_v_thrown)) : Met l y_MD_ready w_MD_ready ({ frames := 1, cells := 0, slots := 0, locals := 25 }) (hq_Pc (dC, dI) vwCl [(cI, .int)] (wd_MD_ready q_this q_low q_high q_loaded q_empty q_order q_places q_times q_planOrder q_planTimes q_carriers q_begins cI v_thrown v_tanks v_hasPlan v_cycle v_second v_entered v_done v_took v_stopped v_move v_ends v_onHoist v_began f_empty f_loaded) sz [.ref q_this]) (hq_Qi (dC, dI) vwCl [(cI, .int)] (wd_MD_ready q_this q_low q_high q_loaded q_empty q_order q_places q_times q_planOrder q_planTimes q_carriers q_begins cI n_v_thrown v_tanks v_hasPlan v_cycle v_second v_entered v_done v_took v_stopped v_move v_ends v_onHoist v_began f_empty f_loaded) rr (va_A (wd_MD_ready q_this q_low q_high q_loaded q_empty q_order q_places q_times q_planOrder q_planTimes q_carriers q_begins cI v_thrown v_tanks v_hasPlan v_cycle v_second v_entered v_done v_took v_stopped v_move v_ends v_onHoist v_began f_empty f_loaded) sz)) 0 0 (va_A (wd_MD_ready q_this q_low q_high q_loaded q_empty q_order q_places q_times q_planOrder q_planTimes q_carriers q_begins cI v_thrown v_tanks v_hasPlan v_cycle v_second v_entered v_done v_took v_stopped v_move v_ends v_onHoist v_began f_empty f_loaded) sz) := by
  refine hq_met (Qc := (hq_Qi (dC, dI) vwCl [(cI, .int)] (wd_MD_ready q_this q_low q_high q_loaded q_empty q_order q_places q_times q_planOrder q_planTimes q_carriers q_begins cI n_v_thrown v_tanks v_hasPlan v_cycle v_second v_entered v_done v_took v_stopped v_move v_ends v_onHoist v_began f_empty f_loaded) rr)) (cc := b_MD_ready) (maxL := 1) (ret := some .int) (by decide) rfl (Nat.le_of_ble_eq_true rfl) ?_
  intro p e s m args below meth c A ls hx hb hr hml hts hown hlocks hnm hP hD hK hA hS hl
  have hts : ∀ w ∈ tb0, w.before args s = true := fun w h => hts w (List.mem_cons_of_mem _ h)
  have hown : s.vm.findClass R_MD = some m.cls := hown
  have hl : lv_has ls 1 [(0, .ref q_this)] := hl
  unfold fn_MD_ready at hF
  refine lv_aload_n hx hb d_MD_ready_0 rfl (lv_at hl 0 rfl) ?_
  refine lv_iconst (v := 0) hx hb d_MD_ready_1 (by decide) ?_
  refine va_put (D := (dC, dI)) (ci := 6) (v := .int 0) (ty := .int) (C := R_MD) (T := F_MD) (N := 24) hx hb hts uw_MD t_MD t_MD_ok n_MD hown hK hP hD hS 0 rfl rfl 0 (by decide) (hts _ tw_167) (fun _ h9 => h9) rfl (by decide +kernel) rfl rfl (Nat.le_of_ble_eq_true rfl) d_MD_ready_2 (fun H locs hP hD hS => ?_)
  have hP : va_P (dC, dI) vwCl (wd_MD_ready q_this q_low q_high q_loaded q_empty q_order q_places q_times q_planOrder q_planTimes q_carriers q_begins cI 0 v_tanks v_hasPlan v_cycle v_second v_entered v_done v_took v_stopped v_move v_ends v_onHoist v_began f_empty f_loaded) H := hP
  have hD : va_D A (wd_MD_ready q_this q_low q_high q_loaded q_empty q_order q_places q_times q_planOrder q_planTimes q_carriers q_begins cI 0 v_tanks v_hasPlan v_cycle v_second v_entered v_done v_took v_stopped v_move v_ends v_onHoist v_began f_empty f_loaded) := hD
  refine lv_aload_n hx hb d_MD_ready_5 rfl (lv_at hl 0 rfl) ?_
  obtain ⟨r1, hc1, hF⟩ := ox_clS hF
  refine hq_ci (ws' := (wd_MD_ready q_this q_low q_high q_loaded q_empty q_order q_places q_times q_planOrder q_planTimes q_carriers q_begins cI 0 v_tanks v_hasPlan v_cycle v_second v_entered v_done v_took v_stopped v_move v_ends v_onHoist v_began f_empty f_loaded)) (hq_rV (As := []) (rest := []) ⟨hx, hb, hml, hown, hts⟩ (c_MD_readiness l dC dI q_this q_low q_high q_loaded q_empty q_order q_places q_times q_planOrder q_planTimes q_carriers q_begins cI _ z 0 v_tanks v_hasPlan v_cycle v_second v_entered v_done v_took v_stopped v_move v_ends v_onHoist v_began f_empty f_loaded r1 hc1) (cwV 0 hts (hq_gV tw_186 tw_187 tw_188 tw_176 tw_189) rfl rfl rfl yv_MD_readiness ⟨Nat.le_of_ble_eq_true rfl, Nat.le_of_ble_eq_true rfl⟩) hP hD hK [0] rfl 0 rfl rfl [0, 1, 2] rfl rfl rfl hl.1 rfl (Nat.le_of_ble_eq_true rfl) d_MD_ready_6 ⟨Nat.zero_le _, Nat.zero_le _⟩) hP hD hS hA [0, 1, 2] [] [0, 1, 2] rfl rfl rfl (by decide) rfl rfl (fun H locs hP hD hS => ?_)
  cases hF
  exact hq_iret hx hb hr hlocks hP hD hK hS d_MD_ready_9
abbrev wd_MD_behind (q_this : Nat) (q_low : Nat) (q_high : Nat) (q_loaded : Nat) (q_empty : Nat) (q_order : Nat) (q_places : Nat) (q_times : Nat) (q_planOrder : Nat) (q_planTimes : Nat) (q_carriers : Nat) (q_begins : Nat) (cI : ClassId) (v_thrown : Int32) (v_tanks : Int32) (v_hasPlan : Int32) (v_cycle : Int32) (v_second : Int32) (v_entered : Int32) (v_done : Int32) (v_took : Int32) (v_stopped : Int32) (v_move : Int32) (v_ends : Int32) (v_onHoist : Int32) (v_began : Int32) (f_loaded : Nat → Int32) (f_empty : Nat → Int32) : va_W := [(q_this, .inr (6, [.int v_thrown, .int v_tanks, .ref q_low, .ref q_high, .ref q_loaded, .ref q_empty, .ref q_order, .ref q_places, .ref q_times, .int v_hasPlan, .int v_cycle, .ref q_planOrder, .ref q_planTimes, .int v_second, .int v_entered, .int v_done, .int v_took, .int v_stopped, .ref q_carriers, .ref q_begins, .int v_move, .int v_ends, .int v_onHoist, .int v_began])), (q_loaded, .inl (cI, 6, .inl f_loaded)), (q_empty, .inl (cI, 49, .inl f_empty))]
set_option maxHeartbeats 4000000 in
set_option maxRecDepth 100000 in
theorem c_MD_behind (l : Launch) (dC : Nat → ClassId) (dI : Nat → Nat → Nat) (q_this : Nat) (q_low : Nat) (q_high : Nat) (q_loaded : Nat) (q_empty : Nat) (q_order : Nat) (q_places : Nat) (q_times : Nat) (q_planOrder : Nat) (q_planTimes : Nat) (q_carriers : Nat) (q_begins : Nat) (cI : ClassId) (sz : Nat) (a1 : Int32) (a2 : Int32) (v_thrown : Int32) (v_tanks : Int32) (v_hasPlan : Int32) (v_cycle : Int32) (v_second : Int32) (v_entered : Int32) (v_done : Int32) (v_took : Int32) (v_stopped : Int32) (v_move : Int32) (v_ends : Int32) (v_onHoist : Int32) (v_began : Int32) (f_loaded : Nat → Int32) (f_empty : Nat → Int32) (rr : Int32) (hF : fn_MD_behind a1 a2 f_loaded f_empty = some rr) : Met l y_MD_behind w_MD_behind ({ frames := 0, cells := 0, slots := 0, locals := 0 }) (hq_Pc (dC, dI) vwCl [(cI, .int)] (wd_MD_behind q_this q_low q_high q_loaded q_empty q_order q_places q_times q_planOrder q_planTimes q_carriers q_begins cI v_thrown v_tanks v_hasPlan v_cycle v_second v_entered v_done v_took v_stopped v_move v_ends v_onHoist v_began f_loaded f_empty) sz [.ref q_this, .int a1, .int a2]) (hq_Qi (dC, dI) vwCl [(cI, .int)] (wd_MD_behind q_this q_low q_high q_loaded q_empty q_order q_places q_times q_planOrder q_planTimes q_carriers q_begins cI v_thrown v_tanks v_hasPlan v_cycle v_second v_entered v_done v_took v_stopped v_move v_ends v_onHoist v_began f_loaded f_empty) rr (va_A (wd_MD_behind q_this q_low q_high q_loaded q_empty q_order q_places q_times q_planOrder q_planTimes q_carriers q_begins cI v_thrown v_tanks v_hasPlan v_cycle v_second v_entered v_done v_took v_stopped v_move v_ends v_onHoist v_began f_loaded f_empty) sz)) 0 0 (va_A (wd_MD_behind q_this q_low q_high q_loaded q_empty q_order q_places q_times q_planOrder q_planTimes q_carriers q_begins cI v_thrown v_tanks v_hasPlan v_cycle v_second v_entered v_done v_took v_stopped v_move v_ends v_onHoist v_began f_loaded f_empty) sz) := by
  refine hq_met (Qc := (hq_Qi (dC, dI) vwCl [(cI, .int)] (wd_MD_behind q_this q_low q_high q_loaded q_empty q_order q_places q_times q_planOrder q_planTimes q_carriers q_begins cI v_thrown v_tanks v_hasPlan v_cycle v_second v_entered v_done v_took v_stopped v_move v_ends v_onHoist v_began f_loaded f_empty) rr)) (cc := b_MD_behind) (maxL := 3) (ret := some .int) (by decide) rfl (Nat.le_of_ble_eq_true rfl) ?_
  intro p e s m args below meth c A ls hx hb hr hml hts hown hlocks hnm hP hD hK hA hS hl
  have hts : ∀ w ∈ tb0, w.before args s = true := fun w h => hts w (List.mem_cons_of_mem _ h)
  have hown : s.vm.findClass R_MD = some m.cls := hown
  have hl : lv_has ls 3 [(0, .ref q_this), (1, .int a1), (2, .int a2)] := hl
  unfold fn_MD_behind at hF
  refine lv_aload_n hx hb d_MD_behind_0 rfl (lv_at hl 0 rfl) ?_
  refine va_get (D := (dC, dI)) (ci := 6) (v := .ref q_loaded) (C := R_MD) (T := F_MD) (N := 24) hx hb hts uw_MD hown hK hP 0 rfl rfl 4 (by decide) (hts _ tw_170) (fun _ h9 => h9) rfl d_MD_behind_1 ?_
  refine lv_iload_n hx hb d_MD_behind_4 rfl (lv_at hl 1 rfl) ?_
  obtain ⟨hin, hF⟩ := ox_gdS hF
  refine va_iald hx hb hK hP 1 0 rfl rfl hin d_MD_behind_5 ?_
  refine lv_aload_n hx hb d_MD_behind_6 rfl (lv_at hl 0 rfl) ?_
  refine va_get (D := (dC, dI)) (ci := 6) (v := .ref q_empty) (C := R_MD) (T := F_MD) (N := 24) hx hb hts uw_MD hown hK hP 0 rfl rfl 5 (by decide) (hts _ tw_171) (fun _ h9 => h9) rfl d_MD_behind_7 ?_
  refine lv_bipush (v := 7) hx hb d_MD_behind_10 (by decide) ?_
  refine lv_iload_n hx hb d_MD_behind_12 rfl (lv_at hl 1 rfl) ?_
  refine lv_iconst (v := 1) hx hb d_MD_behind_13 (by decide) ?_
  refine lv_iadd hx hb d_MD_behind_14 ?_
  refine lv_imul hx hb d_MD_behind_15 ?_
  refine lv_iload_n hx hb d_MD_behind_16 rfl (lv_at hl 2 rfl) ?_
  refine lv_iadd hx hb d_MD_behind_17 ?_
  obtain ⟨hin, hF⟩ := ox_gdS hF
  refine va_iald hx hb hK hP 2 0 rfl rfl hin d_MD_behind_18 ?_
  refine lv_iadd hx hb d_MD_behind_19 ?_
  cases hF
  exact hq_iret hx hb hr hlocks hP hD hK hS d_MD_behind_20
abbrev wd_MD_raise (q_this : Nat) (q_low : Nat) (q_high : Nat) (q_loaded : Nat) (q_empty : Nat) (q_order : Nat) (q_places : Nat) (q_times : Nat) (q_planOrder : Nat) (q_planTimes : Nat) (q_carriers : Nat) (q_begins : Nat) (cI : ClassId) (v_thrown : Int32) (v_tanks : Int32) (v_hasPlan : Int32) (v_cycle : Int32) (v_second : Int32) (v_entered : Int32) (v_done : Int32) (v_took : Int32) (v_stopped : Int32) (v_move : Int32) (v_ends : Int32) (v_onHoist : Int32) (v_began : Int32) (f_times : Nat → Int32) : va_W := [(q_this, .inr (6, [.int v_thrown, .int v_tanks, .ref q_low, .ref q_high, .ref q_loaded, .ref q_empty, .ref q_order, .ref q_places, .ref q_times, .int v_hasPlan, .int v_cycle, .ref q_planOrder, .ref q_planTimes, .int v_second, .int v_entered, .int v_done, .int v_took, .int v_stopped, .ref q_carriers, .ref q_begins, .int v_move, .int v_ends, .int v_onHoist, .int v_began])), (q_times, .inl (cI, 6, .inl f_times))]
set_option maxHeartbeats 4000000 in
set_option maxRecDepth 100000 in
theorem c_MD_raise (l : Launch) (dC : Nat → ClassId) (dI : Nat → Nat → Nat) (q_this : Nat) (q_low : Nat) (q_high : Nat) (q_loaded : Nat) (q_empty : Nat) (q_order : Nat) (q_places : Nat) (q_times : Nat) (q_planOrder : Nat) (q_planTimes : Nat) (q_carriers : Nat) (q_begins : Nat) (cI : ClassId) (sz : Nat) (a1 : Int32) (a2 : Int32) (v_thrown : Int32) (v_tanks : Int32) (v_hasPlan : Int32) (v_cycle : Int32) (v_second : Int32) (v_entered : Int32) (v_done : Int32) (v_took : Int32) (v_stopped : Int32) (v_move : Int32) (v_ends : Int32) (v_onHoist : Int32) (v_began : Int32) (f_times : Nat → Int32) (rr : Int32) (n_f_times : Nat → Int32) (hF : fn_MD_raise a1 a2 f_times = some (rr, n_f_times)) : Met l y_MD_raise w_MD_raise ({ frames := 0, cells := 0, slots := 0, locals := 0 }) (hq_Pc (dC, dI) vwCl [(cI, .int)] (wd_MD_raise q_this q_low q_high q_loaded q_empty q_order q_places q_times q_planOrder q_planTimes q_carriers q_begins cI v_thrown v_tanks v_hasPlan v_cycle v_second v_entered v_done v_took v_stopped v_move v_ends v_onHoist v_began f_times) sz [.ref q_this, .int a1, .int a2]) (hq_Qi (dC, dI) vwCl [(cI, .int)] (wd_MD_raise q_this q_low q_high q_loaded q_empty q_order q_places q_times q_planOrder q_planTimes q_carriers q_begins cI v_thrown v_tanks v_hasPlan v_cycle v_second v_entered v_done v_took v_stopped v_move v_ends v_onHoist v_began n_f_times) rr (va_A (wd_MD_raise q_this q_low q_high q_loaded q_empty q_order q_places q_times q_planOrder q_planTimes q_carriers q_begins cI v_thrown v_tanks v_hasPlan v_cycle v_second v_entered v_done v_took v_stopped v_move v_ends v_onHoist v_began f_times) sz)) 0 0 (va_A (wd_MD_raise q_this q_low q_high q_loaded q_empty q_order q_places q_times q_planOrder q_planTimes q_carriers q_begins cI v_thrown v_tanks v_hasPlan v_cycle v_second v_entered v_done v_took v_stopped v_move v_ends v_onHoist v_began f_times) sz) := by
  refine hq_met (Qc := (hq_Qi (dC, dI) vwCl [(cI, .int)] (wd_MD_raise q_this q_low q_high q_loaded q_empty q_order q_places q_times q_planOrder q_planTimes q_carriers q_begins cI v_thrown v_tanks v_hasPlan v_cycle v_second v_entered v_done v_took v_stopped v_move v_ends v_onHoist v_began n_f_times) rr)) (cc := b_MD_raise) (maxL := 3) (ret := some .boolean) (by decide) rfl (Nat.le_of_ble_eq_true rfl) ?_
  intro p e s m args below meth c A ls hx hb hr hml hts hown hlocks hnm hP hD hK hA hS hl
  have hts : ∀ w ∈ tb0, w.before args s = true := fun w h => hts w (List.mem_cons_of_mem _ h)
  have hown : s.vm.findClass R_MD = some m.cls := hown
  have hl : lv_has ls 3 [(0, .ref q_this), (1, .int a1), (2, .int a2)] := hl
  unfold fn_MD_raise at hF
  refine lv_aload_n hx hb d_MD_raise_0 rfl (lv_at hl 0 rfl) ?_
  refine va_get (D := (dC, dI)) (ci := 6) (v := .ref q_times) (C := R_MD) (T := F_MD) (N := 24) hx hb hts uw_MD hown hK hP 0 rfl rfl 8 (by decide) (hts _ tw_190) (fun _ h9 => h9) rfl d_MD_raise_1 ?_
  refine lv_iload_n hx hb d_MD_raise_4 rfl (lv_at hl 1 rfl) ?_
  obtain ⟨hin, hF⟩ := ox_gdS hF
  refine va_iald hx hb hK hP 1 0 rfl rfl hin d_MD_raise_5 ?_
  refine lv_iload_n hx hb d_MD_raise_6 rfl (lv_at hl 2 rfl) ?_
  refine lv_icmp_lt (tgt := 12) hx hb d_MD_raise_7 (by decide) (fun hb1 => ?_) (fun hb1 => ?_)
  · have hF := ox_t hF hb1
    refine lv_aload_n hx hb d_MD_raise_12 rfl (lv_at hl 0 rfl) ?_
    refine va_get (D := (dC, dI)) (ci := 6) (v := .ref q_times) (C := R_MD) (T := F_MD) (N := 24) hx hb hts uw_MD hown hK hP 0 rfl rfl 8 (by decide) (hts _ tw_190) (fun _ h9 => h9) rfl d_MD_raise_13 ?_
    refine lv_iload_n hx hb d_MD_raise_16 rfl (lv_at hl 1 rfl) ?_
    refine lv_iload_n hx hb d_MD_raise_17 rfl (lv_at hl 2 rfl) ?_
    obtain ⟨hin, hF⟩ := ox_gdS hF
    refine va_iast hx hb hK hP hD hS 1 0 rfl rfl hin d_MD_raise_18 (fun H locs hP hD hS => ?_)
    have hP : va_P (dC, dI) vwCl (wd_MD_raise q_this q_low q_high q_loaded q_empty q_order q_places q_times q_planOrder q_planTimes q_carriers q_begins cI v_thrown v_tanks v_hasPlan v_cycle v_second v_entered v_done v_took v_stopped v_move v_ends v_onHoist v_began (upd f_times a1.toNatClampNeg a2)) H := hP
    have hD : va_D A (wd_MD_raise q_this q_low q_high q_loaded q_empty q_order q_places q_times q_planOrder q_planTimes q_carriers q_begins cI v_thrown v_tanks v_hasPlan v_cycle v_second v_entered v_done v_took v_stopped v_move v_ends v_onHoist v_began (upd f_times a1.toNatClampNeg a2)) := hD
    refine lv_iconst (v := 1) hx hb d_MD_raise_19 (by decide) ?_
    cases hF
    exact hq_zret hx hb hr (by decide) hlocks hP hD hK hS d_MD_raise_20
  · have hF := ox_f hF hb1
    refine lv_iconst (v := 0) hx hb d_MD_raise_10 (by decide) ?_
    cases hF
    exact hq_zret hx hb hr (by decide) hlocks hP hD hK hS d_MD_raise_11
abbrev wd_MD_raiseAll (q_this : Nat) (q_low : Nat) (q_high : Nat) (q_loaded : Nat) (q_empty : Nat) (q_order : Nat) (q_places : Nat) (q_times : Nat) (q_planOrder : Nat) (q_planTimes : Nat) (q_carriers : Nat) (q_begins : Nat) (cI : ClassId) (v_thrown : Int32) (v_tanks : Int32) (v_hasPlan : Int32) (v_cycle : Int32) (v_second : Int32) (v_entered : Int32) (v_done : Int32) (v_took : Int32) (v_stopped : Int32) (v_move : Int32) (v_ends : Int32) (v_onHoist : Int32) (v_began : Int32) (f_order : Nat → Int32) (f_times : Nat → Int32) (f_loaded : Nat → Int32) (f_empty : Nat → Int32) (f_places : Nat → Int32) (f_low : Nat → Int32) (f_high : Nat → Int32) : va_W := [(q_this, .inr (6, [.int v_thrown, .int v_tanks, .ref q_low, .ref q_high, .ref q_loaded, .ref q_empty, .ref q_order, .ref q_places, .ref q_times, .int v_hasPlan, .int v_cycle, .ref q_planOrder, .ref q_planTimes, .int v_second, .int v_entered, .int v_done, .int v_took, .int v_stopped, .ref q_carriers, .ref q_begins, .int v_move, .int v_ends, .int v_onHoist, .int v_began])), (q_order, .inl (cI, 6, .inl f_order)), (q_times, .inl (cI, 6, .inl f_times)), (q_loaded, .inl (cI, 6, .inl f_loaded)), (q_empty, .inl (cI, 49, .inl f_empty)), (q_places, .inl (cI, 6, .inl f_places)), (q_low, .inl (cI, 6, .inl f_low)), (q_high, .inl (cI, 6, .inl f_high))]
set_option maxHeartbeats 4000000 in
set_option maxRecDepth 100000 in
theorem c_MD_raiseAll (l : Launch) (dC : Nat → ClassId) (dI : Nat → Nat → Nat) (q_this : Nat) (q_low : Nat) (q_high : Nat) (q_loaded : Nat) (q_empty : Nat) (q_order : Nat) (q_places : Nat) (q_times : Nat) (q_planOrder : Nat) (q_planTimes : Nat) (q_carriers : Nat) (q_begins : Nat) (cI : ClassId) (sz : Nat) (z : Nat) (a1 : Int32) (v_thrown : Int32) (v_tanks : Int32) (v_hasPlan : Int32) (v_cycle : Int32) (v_second : Int32) (v_entered : Int32) (v_done : Int32) (v_took : Int32) (v_stopped : Int32) (v_move : Int32) (v_ends : Int32) (v_onHoist : Int32) (v_began : Int32) (f_order : Nat → Int32) (f_times : Nat → Int32) (f_loaded : Nat → Int32) (f_empty : Nat → Int32) (f_places : Nat → Int32) (f_low : Nat → Int32) (f_high : Nat → Int32) (rr : Int32) (n_f_times : Nat → Int32) (hF : fn_MD_raiseAll z a1 v_tanks f_order f_times f_loaded f_empty f_places f_low f_high = some (rr, n_f_times)) : Met l y_MD_raiseAll w_MD_raiseAll ({ frames := 1, cells := 0, slots := 0, locals := 22 }) (hq_Pc (dC, dI) vwCl [(cI, .int)] (wd_MD_raiseAll q_this q_low q_high q_loaded q_empty q_order q_places q_times q_planOrder q_planTimes q_carriers q_begins cI v_thrown v_tanks v_hasPlan v_cycle v_second v_entered v_done v_took v_stopped v_move v_ends v_onHoist v_began f_order f_times f_loaded f_empty f_places f_low f_high) sz [.ref q_this, .int a1]) (hq_Qi (dC, dI) vwCl [(cI, .int)] (wd_MD_raiseAll q_this q_low q_high q_loaded q_empty q_order q_places q_times q_planOrder q_planTimes q_carriers q_begins cI v_thrown v_tanks v_hasPlan v_cycle v_second v_entered v_done v_took v_stopped v_move v_ends v_onHoist v_began f_order n_f_times f_loaded f_empty f_places f_low f_high) rr (va_A (wd_MD_raiseAll q_this q_low q_high q_loaded q_empty q_order q_places q_times q_planOrder q_planTimes q_carriers q_begins cI v_thrown v_tanks v_hasPlan v_cycle v_second v_entered v_done v_took v_stopped v_move v_ends v_onHoist v_began f_order f_times f_loaded f_empty f_places f_low f_high) sz)) 0 0 (va_A (wd_MD_raiseAll q_this q_low q_high q_loaded q_empty q_order q_places q_times q_planOrder q_planTimes q_carriers q_begins cI v_thrown v_tanks v_hasPlan v_cycle v_second v_entered v_done v_took v_stopped v_move v_ends v_onHoist v_began f_order f_times f_loaded f_empty f_places f_low f_high) sz) := by
  refine hq_met (Qc := (hq_Qi (dC, dI) vwCl [(cI, .int)] (wd_MD_raiseAll q_this q_low q_high q_loaded q_empty q_order q_places q_times q_planOrder q_planTimes q_carriers q_begins cI v_thrown v_tanks v_hasPlan v_cycle v_second v_entered v_done v_took v_stopped v_move v_ends v_onHoist v_began f_order n_f_times f_loaded f_empty f_places f_low f_high) rr)) (cc := b_MD_raiseAll) (maxL := 5) (ret := some .boolean) (by decide) rfl (Nat.le_of_ble_eq_true rfl) ?_
  intro p e s m args below meth c A ls hx hb hr hml hts hown hlocks hnm hP hD hK hA hS hl
  have hts : ∀ w ∈ tb0, w.before args s = true := fun w h => hts w (List.mem_cons_of_mem _ h)
  have hown : s.vm.findClass R_MD = some m.cls := hown
  have hl : lv_has ls 5 [(0, .ref q_this), (1, .int a1)] := hl
  unfold fn_MD_raiseAll at hF
  have loop : ∀ fu : Nat, (∀ (i1 : Int32) (i2 : Int32) (i3 : Int32) (f_times : Nat → Int32) (H : Heap) (locs : List Loc) (ls : Array Slot), va_P (dC, dI) vwCl (wd_MD_raiseAll q_this q_low q_high q_loaded q_empty q_order q_places q_times q_planOrder q_planTimes q_carriers q_begins cI v_thrown v_tanks v_hasPlan v_cycle v_second v_entered v_done v_took v_stopped v_move v_ends v_onHoist v_began f_order f_times f_loaded f_empty f_places f_low f_high) H → va_D A (wd_MD_raiseAll q_this q_low q_high q_loaded q_empty q_order q_places q_times q_planOrder q_planTimes q_carriers q_begins cI v_thrown v_tanks v_hasPlan v_cycle v_second v_entered v_done v_took v_stopped v_move v_ends v_onHoist v_began f_order f_times f_loaded f_empty f_places f_low f_high) → va_S A s.heap H locs → lv_has ls 5 [(0, .ref q_this), (1, .int i1), (2, .int i2), (3, .int i3)] → lp_MD_raiseAll v_tanks f_order f_loaded f_empty f_places f_low f_high fu 0 i1 i2 i3 f_times = some (rr, n_f_times) → W p l e ({ frames := 1, cells := 0, slots := 0, locals := 22 }) s m args below meth c H locs 0 0 (MQ below ((hq_Qi (dC, dI) vwCl [(cI, .int)] (wd_MD_raiseAll q_this q_low q_high q_loaded q_empty q_order q_places q_times q_planOrder q_planTimes q_carriers q_begins cI v_thrown v_tanks v_hasPlan v_cycle v_second v_entered v_done v_took v_stopped v_move v_ends v_onHoist v_began f_order n_f_times f_loaded f_empty f_places f_low f_high) rr) A) args s 0 0 A) (F0 m 4 ls [])) ∧ (∀ (i1 : Int32) (i2 : Int32) (i3 : Int32) (f_times : Nat → Int32) (H : Heap) (locs : List Loc) (ls : Array Slot), va_P (dC, dI) vwCl (wd_MD_raiseAll q_this q_low q_high q_loaded q_empty q_order q_places q_times q_planOrder q_planTimes q_carriers q_begins cI v_thrown v_tanks v_hasPlan v_cycle v_second v_entered v_done v_took v_stopped v_move v_ends v_onHoist v_began f_order f_times f_loaded f_empty f_places f_low f_high) H → va_D A (wd_MD_raiseAll q_this q_low q_high q_loaded q_empty q_order q_places q_times q_planOrder q_planTimes q_carriers q_begins cI v_thrown v_tanks v_hasPlan v_cycle v_second v_entered v_done v_took v_stopped v_move v_ends v_onHoist v_began f_order f_times f_loaded f_empty f_places f_low f_high) → va_S A s.heap H locs → lv_has ls 5 [(0, .ref q_this), (1, .int i1), (2, .int i2), (3, .int i3)] → lp_MD_raiseAll v_tanks f_order f_loaded f_empty f_places f_low f_high fu 1 i1 i2 i3 f_times = some (rr, n_f_times) → W p l e ({ frames := 1, cells := 0, slots := 0, locals := 22 }) s m args below meth c H locs 0 0 (MQ below ((hq_Qi (dC, dI) vwCl [(cI, .int)] (wd_MD_raiseAll q_this q_low q_high q_loaded q_empty q_order q_places q_times q_planOrder q_planTimes q_carriers q_begins cI v_thrown v_tanks v_hasPlan v_cycle v_second v_entered v_done v_took v_stopped v_move v_ends v_onHoist v_began f_order n_f_times f_loaded f_empty f_places f_low f_high) rr) A) args s 0 0 A) (F0 m 75 ls [])) := by
    intro fu
    induction fu with
    | zero => exact ⟨(fun _ _ _ _ _ _ _ _ _ _ _ h => by cases h), (fun _ _ _ _ _ _ _ _ _ _ _ h => by cases h)⟩
    | succ fu ih =>
      refine ⟨?_, ?_⟩
      · intro i1 i2 i3 f_times H locs ls hP hD hS hl hF
        have hF : st_MD_raiseAll v_tanks f_order f_loaded f_empty f_places f_low f_high (lp_MD_raiseAll v_tanks f_order f_loaded f_empty f_places f_low f_high fu) 0 i1 i2 i3 f_times = some (rr, n_f_times) := hF
        unfold st_MD_raiseAll at hF
        try dsimp only at hF
        refine lv_iload_n hx hb d_MD_raiseAll_4 rfl (lv_at hl 3 rfl) ?_
        refine lv_aload_n hx hb d_MD_raiseAll_5 rfl (lv_at hl 0 rfl) ?_
        refine va_get (D := (dC, dI)) (ci := 6) (v := .int v_tanks) (C := R_MD) (T := F_MD) (N := 24) hx hb hts uw_MD hown hK hP 0 rfl rfl 1 (by decide) (hts _ tw_172) (fun _ h9 => h9) rfl d_MD_raiseAll_6 ?_
        refine lv_icmp_ge (tgt := 73) hx hb d_MD_raiseAll_9 (by decide) (fun hb1 => ?_) (fun hb1 => ?_)
        · have hF := ox_t hF hb1
          refine lv_iconst (v := 1) hx hb d_MD_raiseAll_73 (by decide) ?_
          refine lv_istore_n (lv' := [(3, .int 1), (0, .ref q_this), (1, .int i1), (2, .int i2)]) hx hb d_MD_raiseAll_74 rfl hl (by decide) rfl (fun ls hl => ?_)
          exact ih.2 i1 i2 1 f_times _ _ _ hP hD hS (lv_sub hl [1, 2, 3, 0] rfl) hF
        · have hF := ox_f hF hb1
          refine lv_aload_n hx hb d_MD_raiseAll_12 rfl (lv_at hl 0 rfl) ?_
          refine lv_aload_n hx hb d_MD_raiseAll_13 rfl (lv_at hl 0 rfl) ?_
          refine va_get (D := (dC, dI)) (ci := 6) (v := .ref q_order) (C := R_MD) (T := F_MD) (N := 24) hx hb hts uw_MD hown hK hP 0 rfl rfl 6 (by decide) (hts _ tw_191) (fun _ h9 => h9) rfl d_MD_raiseAll_14 ?_
          refine lv_iload_n hx hb d_MD_raiseAll_17 rfl (lv_at hl 3 rfl) ?_
          refine lv_iconst (v := 1) hx hb d_MD_raiseAll_18 (by decide) ?_
          refine lv_iadd hx hb d_MD_raiseAll_19 ?_
          obtain ⟨hin, hF⟩ := ox_gdS hF
          refine va_iald hx hb hK hP 1 0 rfl rfl hin d_MD_raiseAll_20 ?_
          refine lv_aload_n hx hb d_MD_raiseAll_21 rfl (lv_at hl 0 rfl) ?_
          refine va_get (D := (dC, dI)) (ci := 6) (v := .ref q_times) (C := R_MD) (T := F_MD) (N := 24) hx hb hts uw_MD hown hK hP 0 rfl rfl 8 (by decide) (hts _ tw_190) (fun _ h9 => h9) rfl d_MD_raiseAll_22 ?_
          refine lv_aload_n hx hb d_MD_raiseAll_25 rfl (lv_at hl 0 rfl) ?_
          refine va_get (D := (dC, dI)) (ci := 6) (v := .ref q_order) (C := R_MD) (T := F_MD) (N := 24) hx hb hts uw_MD hown hK hP 0 rfl rfl 6 (by decide) (hts _ tw_191) (fun _ h9 => h9) rfl d_MD_raiseAll_26 ?_
          refine lv_iload_n hx hb d_MD_raiseAll_29 rfl (lv_at hl 3 rfl) ?_
          obtain ⟨hin, hF⟩ := ox_gdS hF
          refine va_iald hx hb hK hP 1 0 rfl rfl hin d_MD_raiseAll_30 ?_
          obtain ⟨hin, hF⟩ := ox_gdS hF
          refine va_iald hx hb hK hP 2 0 rfl rfl hin d_MD_raiseAll_31 ?_
          refine lv_aload_n hx hb d_MD_raiseAll_32 rfl (lv_at hl 0 rfl) ?_
          refine lv_aload_n hx hb d_MD_raiseAll_33 rfl (lv_at hl 0 rfl) ?_
          refine va_get (D := (dC, dI)) (ci := 6) (v := .ref q_order) (C := R_MD) (T := F_MD) (N := 24) hx hb hts uw_MD hown hK hP 0 rfl rfl 6 (by decide) (hts _ tw_191) (fun _ h9 => h9) rfl d_MD_raiseAll_34 ?_
          refine lv_iload_n hx hb d_MD_raiseAll_37 rfl (lv_at hl 3 rfl) ?_
          obtain ⟨hin, hF⟩ := ox_gdS hF
          refine va_iald hx hb hK hP 1 0 rfl rfl hin d_MD_raiseAll_38 ?_
          refine lv_aload_n hx hb d_MD_raiseAll_39 rfl (lv_at hl 0 rfl) ?_
          refine va_get (D := (dC, dI)) (ci := 6) (v := .ref q_order) (C := R_MD) (T := F_MD) (N := 24) hx hb hts uw_MD hown hK hP 0 rfl rfl 6 (by decide) (hts _ tw_191) (fun _ h9 => h9) rfl d_MD_raiseAll_40 ?_
          refine lv_iload_n hx hb d_MD_raiseAll_43 rfl (lv_at hl 3 rfl) ?_
          refine lv_iconst (v := 1) hx hb d_MD_raiseAll_44 (by decide) ?_
          refine lv_iadd hx hb d_MD_raiseAll_45 ?_
          obtain ⟨hin, hF⟩ := ox_gdS hF
          refine va_iald hx hb hK hP 1 0 rfl rfl hin d_MD_raiseAll_46 ?_
          obtain ⟨r2, hc2, hF⟩ := ox_clS hF
          refine hq_ci (ws' := (wd_MD_raiseAll q_this q_low q_high q_loaded q_empty q_order q_places q_times q_planOrder q_planTimes q_carriers q_begins cI v_thrown v_tanks v_hasPlan v_cycle v_second v_entered v_done v_took v_stopped v_move v_ends v_onHoist v_began f_order f_times f_loaded f_empty f_places f_low f_high)) (hq_rV (As := [.int (f_order i3.toNatClampNeg), .int (f_order (i3 + 1).toNatClampNeg)]) (rest := [.int (f_times (f_order i3.toNatClampNeg).toNatClampNeg), .int (f_order (i3 + 1).toNatClampNeg), .ref q_this]) ⟨hx, hb, hml, hown, hts⟩ (c_MD_behind l dC dI q_this q_low q_high q_loaded q_empty q_order q_places q_times q_planOrder q_planTimes q_carriers q_begins cI _ (f_order i3.toNatClampNeg) (f_order (i3 + 1).toNatClampNeg) v_thrown v_tanks v_hasPlan v_cycle v_second v_entered v_done v_took v_stopped v_move v_ends v_onHoist v_began f_loaded f_empty r2 hc2) (cwV 2 hts (hq_gV tw_192 tw_193 tw_194 tw_176 tw_195) rfl rfl rfl yv_MD_behind ⟨Nat.le_of_ble_eq_true rfl, Nat.le_of_ble_eq_true rfl⟩) hP hD hK [0] rfl 0 rfl rfl [0, 3, 4] rfl rfl rfl hl.1 rfl (Nat.le_of_ble_eq_true rfl) d_MD_raiseAll_47 ⟨Nat.zero_le _, Nat.zero_le _⟩) hP hD hS hA [0, 3, 4] [1, 2, 5, 6, 7] [5, 0, 1, 6, 7, 2, 3, 4] rfl rfl rfl (by decide) rfl rfl (fun H locs hP hD hS => ?_)
          refine lv_iadd hx hb d_MD_raiseAll_50 ?_
          obtain ⟨⟨r3, s3_f_times⟩, hc3, hF⟩ := ox_clS hF
          refine hq_ci (ws' := (wd_MD_raiseAll q_this q_low q_high q_loaded q_empty q_order q_places q_times q_planOrder q_planTimes q_carriers q_begins cI v_thrown v_tanks v_hasPlan v_cycle v_second v_entered v_done v_took v_stopped v_move v_ends v_onHoist v_began f_order s3_f_times f_loaded f_empty f_places f_low f_high)) (hq_rV (As := [.int (f_order (i3 + 1).toNatClampNeg), .int ((f_times (f_order i3.toNatClampNeg).toNatClampNeg) + r2)]) (rest := []) ⟨hx, hb, hml, hown, hts⟩ (c_MD_raise l dC dI q_this q_low q_high q_loaded q_empty q_order q_places q_times q_planOrder q_planTimes q_carriers q_begins cI _ (f_order (i3 + 1).toNatClampNeg) ((f_times (f_order i3.toNatClampNeg).toNatClampNeg) + r2) v_thrown v_tanks v_hasPlan v_cycle v_second v_entered v_done v_took v_stopped v_move v_ends v_onHoist v_began f_times r3 s3_f_times hc3) (cwV 2 hts (hq_gV tw_196 tw_197 tw_198 tw_176 tw_199) rfl rfl rfl yv_MD_raise ⟨Nat.le_of_ble_eq_true rfl, Nat.le_of_ble_eq_true rfl⟩) hP hD hK [0] rfl 0 rfl rfl [0, 2] rfl rfl rfl hl.1 rfl (Nat.le_of_ble_eq_true rfl) d_MD_raiseAll_51 ⟨Nat.zero_le _, Nat.zero_le _⟩) hP hD hS hA [0, 2] [1, 3, 4, 5, 6, 7] [6, 0, 7, 1, 2, 3, 4, 5] rfl rfl rfl (by decide) rfl rfl (fun H locs hP hD hS => ?_)
          refine lv_if_ne (tgt := 61) hx hb d_MD_raiseAll_54 (by decide) (fun hb4 => ?_) (fun hb4 => ?_)
          · have hF := ox_t hF hb4
            refine lv_iconst (v := 1) hx hb d_MD_raiseAll_61 (by decide) ?_
            refine lv_goto (tgt := 66) hx hb d_MD_raiseAll_62 (by decide) ?_
            refine lv_istore_n (lv' := [(2, .int 1), (0, .ref q_this), (1, .int i1), (3, .int i3)]) hx hb d_MD_raiseAll_66 rfl hl (by decide) rfl (fun ls hl => ?_)
            refine lv_iinc (v := (i3 + 1)) (lv' := [(3, .int (i3 + 1)), (2, .int 1), (0, .ref q_this), (1, .int i1)]) hx hb d_MD_raiseAll_67 hl (k := 3) rfl rfl (by decide) rfl (fun ls hl => ?_)
            refine lv_goto (tgt := 4) hx hb d_MD_raiseAll_70 (by decide) ?_
            exact ih.1 i1 1 (i3 + 1) s3_f_times _ _ _ hP hD hS (lv_sub hl [2, 3, 1, 0] rfl) hF
          · have hF := ox_fn hF hb4
            refine lv_iload_n hx hb d_MD_raiseAll_57 rfl (lv_at hl 2 rfl) ?_
            refine lv_if_eq (tgt := 65) hx hb d_MD_raiseAll_58 (by decide) (fun hb5 => ?_) (fun hb5 => ?_)
            · have hF := ox_t hF hb5
              refine lv_iconst (v := 0) hx hb d_MD_raiseAll_65 (by decide) ?_
              refine lv_istore_n (lv' := [(2, .int 0), (0, .ref q_this), (1, .int i1), (3, .int i3)]) hx hb d_MD_raiseAll_66 rfl hl (by decide) rfl (fun ls hl => ?_)
              refine lv_iinc (v := (i3 + 1)) (lv' := [(3, .int (i3 + 1)), (2, .int 0), (0, .ref q_this), (1, .int i1)]) hx hb d_MD_raiseAll_67 hl (k := 3) rfl rfl (by decide) rfl (fun ls hl => ?_)
              refine lv_goto (tgt := 4) hx hb d_MD_raiseAll_70 (by decide) ?_
              exact ih.1 i1 0 (i3 + 1) s3_f_times _ _ _ hP hD hS (lv_sub hl [2, 3, 1, 0] rfl) hF
            · have hF := ox_f hF hb5
              refine lv_iconst (v := 1) hx hb d_MD_raiseAll_61 (by decide) ?_
              refine lv_goto (tgt := 66) hx hb d_MD_raiseAll_62 (by decide) ?_
              refine lv_istore_n (lv' := [(2, .int 1), (0, .ref q_this), (1, .int i1), (3, .int i3)]) hx hb d_MD_raiseAll_66 rfl hl (by decide) rfl (fun ls hl => ?_)
              refine lv_iinc (v := (i3 + 1)) (lv' := [(3, .int (i3 + 1)), (2, .int 1), (0, .ref q_this), (1, .int i1)]) hx hb d_MD_raiseAll_67 hl (k := 3) rfl rfl (by decide) rfl (fun ls hl => ?_)
              refine lv_goto (tgt := 4) hx hb d_MD_raiseAll_70 (by decide) ?_
              exact ih.1 i1 1 (i3 + 1) s3_f_times _ _ _ hP hD hS (lv_sub hl [2, 3, 1, 0] rfl) hF
      · intro i1 i2 i3 f_times H locs ls hP hD hS hl hF
        have hF : st_MD_raiseAll v_tanks f_order f_loaded f_empty f_places f_low f_high (lp_MD_raiseAll v_tanks f_order f_loaded f_empty f_places f_low f_high fu) 1 i1 i2 i3 f_times = some (rr, n_f_times) := hF
        unfold st_MD_raiseAll at hF
        try dsimp only at hF
        refine lv_iload_n hx hb d_MD_raiseAll_75 rfl (lv_at hl 3 rfl) ?_
        refine lv_aload_n hx hb d_MD_raiseAll_76 rfl (lv_at hl 0 rfl) ?_
        refine va_get (D := (dC, dI)) (ci := 6) (v := .int v_tanks) (C := R_MD) (T := F_MD) (N := 24) hx hb hts uw_MD hown hK hP 0 rfl rfl 1 (by decide) (hts _ tw_172) (fun _ h9 => h9) rfl d_MD_raiseAll_77 ?_
        refine lv_icmp_gt (tgt := 203) hx hb d_MD_raiseAll_80 (by decide) (fun hb6 => ?_) (fun hb6 => ?_)
        · have hF := ox_t hF hb6
          refine lv_iload_n hx hb d_MD_raiseAll_203 rfl (lv_at hl 2 rfl) ?_
          obtain ⟨hbg, hF⟩ := ox_bgS hF
          cases hF
          exact hq_zret hx hb hr hbg hlocks hP hD hK hS d_MD_raiseAll_204
        · have hF := ox_f hF hb6
          refine lv_aload_n hx hb d_MD_raiseAll_83 rfl (lv_at hl 0 rfl) ?_
          refine va_get (D := (dC, dI)) (ci := 6) (v := .ref q_places) (C := R_MD) (T := F_MD) (N := 24) hx hb hts uw_MD hown hK hP 0 rfl rfl 7 (by decide) (hts _ tw_200) (fun _ h9 => h9) rfl d_MD_raiseAll_84 ?_
          refine lv_iload_n hx hb d_MD_raiseAll_87 rfl (lv_at hl 3 rfl) ?_
          obtain ⟨hin, hF⟩ := ox_gdS hF
          refine va_iald hx hb hK hP 5 0 rfl rfl hin d_MD_raiseAll_88 ?_
          refine lv_aload_n hx hb d_MD_raiseAll_89 rfl (lv_at hl 0 rfl) ?_
          refine va_get (D := (dC, dI)) (ci := 6) (v := .ref q_places) (C := R_MD) (T := F_MD) (N := 24) hx hb hts uw_MD hown hK hP 0 rfl rfl 7 (by decide) (hts _ tw_200) (fun _ h9 => h9) rfl d_MD_raiseAll_90 ?_
          refine lv_iload_n hx hb d_MD_raiseAll_93 rfl (lv_at hl 3 rfl) ?_
          refine lv_iconst (v := 1) hx hb d_MD_raiseAll_94 (by decide) ?_
          refine lv_isub hx hb d_MD_raiseAll_95 ?_
          obtain ⟨hin, hF⟩ := ox_gdS hF
          refine va_iald hx hb hK hP 5 0 rfl rfl hin d_MD_raiseAll_96 ?_
          refine lv_icmp_ge (tgt := 104) hx hb d_MD_raiseAll_97 (by decide) (fun hb7 => ?_) (fun hb7 => ?_)
          · have hF := ox_t hF hb7
            refine lv_iconst (v := 0) hx hb d_MD_raiseAll_104 (by decide) ?_
            refine lv_istore (lv' := [(4, .int 0), (0, .ref q_this), (1, .int i1), (2, .int i2), (3, .int i3)]) hx hb d_MD_raiseAll_105 hl (by decide) rfl (fun ls hl => ?_)
            refine lv_aload_n hx hb d_MD_raiseAll_107 rfl (lv_at hl 1 rfl) ?_
            refine lv_iload_n hx hb d_MD_raiseAll_108 rfl (lv_at hl 4 rfl) ?_
            refine lv_aload_n hx hb d_MD_raiseAll_109 rfl (lv_at hl 1 rfl) ?_
            refine va_get (D := (dC, dI)) (ci := 6) (v := .ref q_times) (C := R_MD) (T := F_MD) (N := 24) hx hb hts uw_MD hown hK hP 0 rfl rfl 8 (by decide) (hts _ tw_190) (fun _ h9 => h9) rfl d_MD_raiseAll_110 ?_
            refine lv_iload_n hx hb d_MD_raiseAll_113 rfl (lv_at hl 4 rfl) ?_
            refine lv_iconst (v := 1) hx hb d_MD_raiseAll_114 (by decide) ?_
            refine lv_isub hx hb d_MD_raiseAll_115 ?_
            obtain ⟨hin, hF⟩ := ox_gdS hF
            refine va_iald hx hb hK hP 2 0 rfl rfl hin d_MD_raiseAll_116 ?_
            refine lv_aload_n hx hb d_MD_raiseAll_117 rfl (lv_at hl 1 rfl) ?_
            refine va_get (D := (dC, dI)) (ci := 6) (v := .ref q_loaded) (C := R_MD) (T := F_MD) (N := 24) hx hb hts uw_MD hown hK hP 0 rfl rfl 4 (by decide) (hts _ tw_170) (fun _ h9 => h9) rfl d_MD_raiseAll_118 ?_
            refine lv_iload_n hx hb d_MD_raiseAll_121 rfl (lv_at hl 4 rfl) ?_
            refine lv_iconst (v := 1) hx hb d_MD_raiseAll_122 (by decide) ?_
            refine lv_isub hx hb d_MD_raiseAll_123 ?_
            obtain ⟨hin, hF⟩ := ox_gdS hF
            refine va_iald hx hb hK hP 3 0 rfl rfl hin d_MD_raiseAll_124 ?_
            refine lv_iadd hx hb d_MD_raiseAll_125 ?_
            refine lv_aload_n hx hb d_MD_raiseAll_126 rfl (lv_at hl 1 rfl) ?_
            refine va_get (D := (dC, dI)) (ci := 6) (v := .ref q_low) (C := R_MD) (T := F_MD) (N := 24) hx hb hts uw_MD hown hK hP 0 rfl rfl 2 (by decide) (hts _ tw_168) (fun _ h9 => h9) rfl d_MD_raiseAll_127 ?_
            refine lv_iload_n hx hb d_MD_raiseAll_130 rfl (lv_at hl 4 rfl) ?_
            obtain ⟨hin, hF⟩ := ox_gdS hF
            refine va_iald hx hb hK hP 6 0 rfl rfl hin d_MD_raiseAll_131 ?_
            refine lv_iadd hx hb d_MD_raiseAll_132 ?_
            refine lv_iload hx hb d_MD_raiseAll_133 (lv_at hl 0 rfl) ?_
            refine lv_isub hx hb d_MD_raiseAll_135 ?_
            obtain ⟨⟨r8, s8_f_times⟩, hc8, hF⟩ := ox_clS hF
            refine hq_ci (ws' := (wd_MD_raiseAll q_this q_low q_high q_loaded q_empty q_order q_places q_times q_planOrder q_planTimes q_carriers q_begins cI v_thrown v_tanks v_hasPlan v_cycle v_second v_entered v_done v_took v_stopped v_move v_ends v_onHoist v_began f_order s8_f_times f_loaded f_empty f_places f_low f_high)) (hq_rV (As := [.int i3, .int ((((f_times (i3 - 1).toNatClampNeg) + (f_loaded (i3 - 1).toNatClampNeg)) + (f_low i3.toNatClampNeg)) - 0)]) (rest := []) ⟨hx, hb, hml, hown, hts⟩ (c_MD_raise l dC dI q_this q_low q_high q_loaded q_empty q_order q_places q_times q_planOrder q_planTimes q_carriers q_begins cI _ i3 ((((f_times (i3 - 1).toNatClampNeg) + (f_loaded (i3 - 1).toNatClampNeg)) + (f_low i3.toNatClampNeg)) - 0) v_thrown v_tanks v_hasPlan v_cycle v_second v_entered v_done v_took v_stopped v_move v_ends v_onHoist v_began f_times r8 s8_f_times hc8) (cwV 2 hts (hq_gV tw_196 tw_197 tw_198 tw_176 tw_199) rfl rfl rfl yv_MD_raise ⟨Nat.le_of_ble_eq_true rfl, Nat.le_of_ble_eq_true rfl⟩) hP hD hK [0] rfl 0 rfl rfl [0, 2] rfl rfl rfl hl.1 rfl (Nat.le_of_ble_eq_true rfl) d_MD_raiseAll_136 ⟨Nat.zero_le _, Nat.zero_le _⟩) hP hD hS hA [0, 2] [1, 3, 4, 5, 6, 7] [6, 0, 7, 1, 2, 3, 4, 5] rfl rfl rfl (by decide) rfl rfl (fun H locs hP hD hS => ?_)
            refine lv_if_ne (tgt := 146) hx hb d_MD_raiseAll_139 (by decide) (fun hb9 => ?_) (fun hb9 => ?_)
            · have hF := ox_t hF hb9
              refine lv_iconst (v := 1) hx hb d_MD_raiseAll_146 (by decide) ?_
              refine lv_goto (tgt := 151) hx hb d_MD_raiseAll_147 (by decide) ?_
              refine lv_istore_n (lv' := [(2, .int 1), (4, .int 0), (0, .ref q_this), (1, .int i1), (3, .int i3)]) hx hb d_MD_raiseAll_151 rfl hl (by decide) rfl (fun ls hl => ?_)
              refine lv_aload_n hx hb d_MD_raiseAll_152 rfl (lv_at hl 2 rfl) ?_
              refine lv_iload_n hx hb d_MD_raiseAll_153 rfl (lv_at hl 4 rfl) ?_
              refine lv_iconst (v := 1) hx hb d_MD_raiseAll_154 (by decide) ?_
              refine lv_isub hx hb d_MD_raiseAll_155 ?_
              refine lv_aload_n hx hb d_MD_raiseAll_156 rfl (lv_at hl 2 rfl) ?_
              refine va_get (D := (dC, dI)) (ci := 6) (v := .ref q_times) (C := R_MD) (T := F_MD) (N := 24) hx hb hts uw_MD hown hK hP 0 rfl rfl 8 (by decide) (hts _ tw_190) (fun _ h9 => h9) rfl d_MD_raiseAll_157 ?_
              refine lv_iload_n hx hb d_MD_raiseAll_160 rfl (lv_at hl 4 rfl) ?_
              obtain ⟨hin, hF⟩ := ox_gdS hF
              refine va_iald hx hb hK hP 2 0 rfl rfl hin d_MD_raiseAll_161 ?_
              refine lv_iload hx hb d_MD_raiseAll_162 (lv_at hl 1 rfl) ?_
              refine lv_iadd hx hb d_MD_raiseAll_164 ?_
              refine lv_aload_n hx hb d_MD_raiseAll_165 rfl (lv_at hl 2 rfl) ?_
              refine va_get (D := (dC, dI)) (ci := 6) (v := .ref q_loaded) (C := R_MD) (T := F_MD) (N := 24) hx hb hts uw_MD hown hK hP 0 rfl rfl 4 (by decide) (hts _ tw_170) (fun _ h9 => h9) rfl d_MD_raiseAll_166 ?_
              refine lv_iload_n hx hb d_MD_raiseAll_169 rfl (lv_at hl 4 rfl) ?_
              refine lv_iconst (v := 1) hx hb d_MD_raiseAll_170 (by decide) ?_
              refine lv_isub hx hb d_MD_raiseAll_171 ?_
              obtain ⟨hin, hF⟩ := ox_gdS hF
              refine va_iald hx hb hK hP 3 0 rfl rfl hin d_MD_raiseAll_172 ?_
              refine lv_isub hx hb d_MD_raiseAll_173 ?_
              refine lv_aload_n hx hb d_MD_raiseAll_174 rfl (lv_at hl 2 rfl) ?_
              refine va_get (D := (dC, dI)) (ci := 6) (v := .ref q_high) (C := R_MD) (T := F_MD) (N := 24) hx hb hts uw_MD hown hK hP 0 rfl rfl 3 (by decide) (hts _ tw_169) (fun _ h9 => h9) rfl d_MD_raiseAll_175 ?_
              refine lv_iload_n hx hb d_MD_raiseAll_178 rfl (lv_at hl 4 rfl) ?_
              obtain ⟨hin, hF⟩ := ox_gdS hF
              refine va_iald hx hb hK hP 7 0 rfl rfl hin d_MD_raiseAll_179 ?_
              refine lv_isub hx hb d_MD_raiseAll_180 ?_
              obtain ⟨⟨r10, s10_f_times⟩, hc10, hF⟩ := ox_clS hF
              refine hq_ci (ws' := (wd_MD_raiseAll q_this q_low q_high q_loaded q_empty q_order q_places q_times q_planOrder q_planTimes q_carriers q_begins cI v_thrown v_tanks v_hasPlan v_cycle v_second v_entered v_done v_took v_stopped v_move v_ends v_onHoist v_began f_order s10_f_times f_loaded f_empty f_places f_low f_high)) (hq_rV (As := [.int (i3 - 1), .int ((((s8_f_times i3.toNatClampNeg) + 0) - (f_loaded (i3 - 1).toNatClampNeg)) - (f_high i3.toNatClampNeg))]) (rest := []) ⟨hx, hb, hml, hown, hts⟩ (c_MD_raise l dC dI q_this q_low q_high q_loaded q_empty q_order q_places q_times q_planOrder q_planTimes q_carriers q_begins cI _ (i3 - 1) ((((s8_f_times i3.toNatClampNeg) + 0) - (f_loaded (i3 - 1).toNatClampNeg)) - (f_high i3.toNatClampNeg)) v_thrown v_tanks v_hasPlan v_cycle v_second v_entered v_done v_took v_stopped v_move v_ends v_onHoist v_began s8_f_times r10 s10_f_times hc10) (cwV 2 hts (hq_gV tw_196 tw_197 tw_198 tw_176 tw_199) rfl rfl rfl yv_MD_raise ⟨Nat.le_of_ble_eq_true rfl, Nat.le_of_ble_eq_true rfl⟩) hP hD hK [0] rfl 0 rfl rfl [0, 2] rfl rfl rfl hl.1 rfl (Nat.le_of_ble_eq_true rfl) d_MD_raiseAll_181 ⟨Nat.zero_le _, Nat.zero_le _⟩) hP hD hS hA [0, 2] [1, 3, 4, 5, 6, 7] [6, 0, 7, 1, 2, 3, 4, 5] rfl rfl rfl (by decide) rfl rfl (fun H locs hP hD hS => ?_)
              refine lv_if_ne (tgt := 191) hx hb d_MD_raiseAll_184 (by decide) (fun hb11 => ?_) (fun hb11 => ?_)
              · have hF := ox_t hF hb11
                refine lv_iconst (v := 1) hx hb d_MD_raiseAll_191 (by decide) ?_
                refine lv_goto (tgt := 196) hx hb d_MD_raiseAll_192 (by decide) ?_
                refine lv_istore_n (lv' := [(2, .int 1), (4, .int 0), (0, .ref q_this), (1, .int i1), (3, .int i3)]) hx hb d_MD_raiseAll_196 rfl hl (by decide) rfl (fun ls hl => ?_)
                refine lv_iinc (v := (i3 + 1)) (lv' := [(3, .int (i3 + 1)), (2, .int 1), (4, .int 0), (0, .ref q_this), (1, .int i1)]) hx hb d_MD_raiseAll_197 hl (k := 4) rfl rfl (by decide) rfl (fun ls hl => ?_)
                refine lv_goto (tgt := 75) hx hb d_MD_raiseAll_200 (by decide) ?_
                exact ih.2 i1 1 (i3 + 1) s10_f_times _ _ _ hP hD hS (lv_sub hl [3, 4, 1, 0] rfl) hF
              · have hF := ox_fn hF hb11
                refine lv_iload_n hx hb d_MD_raiseAll_187 rfl (lv_at hl 0 rfl) ?_
                refine lv_if_eq (tgt := 195) hx hb d_MD_raiseAll_188 (by decide) (fun h => absurd h (by decide)) (fun _ => ?_)
                refine lv_iconst (v := 1) hx hb d_MD_raiseAll_191 (by decide) ?_
                refine lv_goto (tgt := 196) hx hb d_MD_raiseAll_192 (by decide) ?_
                refine lv_istore_n (lv' := [(2, .int 1), (4, .int 0), (0, .ref q_this), (1, .int i1), (3, .int i3)]) hx hb d_MD_raiseAll_196 rfl hl (by decide) rfl (fun ls hl => ?_)
                refine lv_iinc (v := (i3 + 1)) (lv' := [(3, .int (i3 + 1)), (2, .int 1), (4, .int 0), (0, .ref q_this), (1, .int i1)]) hx hb d_MD_raiseAll_197 hl (k := 4) rfl rfl (by decide) rfl (fun ls hl => ?_)
                refine lv_goto (tgt := 75) hx hb d_MD_raiseAll_200 (by decide) ?_
                exact ih.2 i1 1 (i3 + 1) s10_f_times _ _ _ hP hD hS (lv_sub hl [3, 4, 1, 0] rfl) hF
            · have hF := ox_fn hF hb9
              refine lv_iload_n hx hb d_MD_raiseAll_142 rfl (lv_at hl 3 rfl) ?_
              refine lv_if_eq (tgt := 150) hx hb d_MD_raiseAll_143 (by decide) (fun hb12 => ?_) (fun hb12 => ?_)
              · have hF := ox_t hF hb12
                refine lv_iconst (v := 0) hx hb d_MD_raiseAll_150 (by decide) ?_
                refine lv_istore_n (lv' := [(2, .int 0), (4, .int 0), (0, .ref q_this), (1, .int i1), (3, .int i3)]) hx hb d_MD_raiseAll_151 rfl hl (by decide) rfl (fun ls hl => ?_)
                refine lv_aload_n hx hb d_MD_raiseAll_152 rfl (lv_at hl 2 rfl) ?_
                refine lv_iload_n hx hb d_MD_raiseAll_153 rfl (lv_at hl 4 rfl) ?_
                refine lv_iconst (v := 1) hx hb d_MD_raiseAll_154 (by decide) ?_
                refine lv_isub hx hb d_MD_raiseAll_155 ?_
                refine lv_aload_n hx hb d_MD_raiseAll_156 rfl (lv_at hl 2 rfl) ?_
                refine va_get (D := (dC, dI)) (ci := 6) (v := .ref q_times) (C := R_MD) (T := F_MD) (N := 24) hx hb hts uw_MD hown hK hP 0 rfl rfl 8 (by decide) (hts _ tw_190) (fun _ h9 => h9) rfl d_MD_raiseAll_157 ?_
                refine lv_iload_n hx hb d_MD_raiseAll_160 rfl (lv_at hl 4 rfl) ?_
                obtain ⟨hin, hF⟩ := ox_gdS hF
                refine va_iald hx hb hK hP 2 0 rfl rfl hin d_MD_raiseAll_161 ?_
                refine lv_iload hx hb d_MD_raiseAll_162 (lv_at hl 1 rfl) ?_
                refine lv_iadd hx hb d_MD_raiseAll_164 ?_
                refine lv_aload_n hx hb d_MD_raiseAll_165 rfl (lv_at hl 2 rfl) ?_
                refine va_get (D := (dC, dI)) (ci := 6) (v := .ref q_loaded) (C := R_MD) (T := F_MD) (N := 24) hx hb hts uw_MD hown hK hP 0 rfl rfl 4 (by decide) (hts _ tw_170) (fun _ h9 => h9) rfl d_MD_raiseAll_166 ?_
                refine lv_iload_n hx hb d_MD_raiseAll_169 rfl (lv_at hl 4 rfl) ?_
                refine lv_iconst (v := 1) hx hb d_MD_raiseAll_170 (by decide) ?_
                refine lv_isub hx hb d_MD_raiseAll_171 ?_
                obtain ⟨hin, hF⟩ := ox_gdS hF
                refine va_iald hx hb hK hP 3 0 rfl rfl hin d_MD_raiseAll_172 ?_
                refine lv_isub hx hb d_MD_raiseAll_173 ?_
                refine lv_aload_n hx hb d_MD_raiseAll_174 rfl (lv_at hl 2 rfl) ?_
                refine va_get (D := (dC, dI)) (ci := 6) (v := .ref q_high) (C := R_MD) (T := F_MD) (N := 24) hx hb hts uw_MD hown hK hP 0 rfl rfl 3 (by decide) (hts _ tw_169) (fun _ h9 => h9) rfl d_MD_raiseAll_175 ?_
                refine lv_iload_n hx hb d_MD_raiseAll_178 rfl (lv_at hl 4 rfl) ?_
                obtain ⟨hin, hF⟩ := ox_gdS hF
                refine va_iald hx hb hK hP 7 0 rfl rfl hin d_MD_raiseAll_179 ?_
                refine lv_isub hx hb d_MD_raiseAll_180 ?_
                obtain ⟨⟨r13, s13_f_times⟩, hc13, hF⟩ := ox_clS hF
                refine hq_ci (ws' := (wd_MD_raiseAll q_this q_low q_high q_loaded q_empty q_order q_places q_times q_planOrder q_planTimes q_carriers q_begins cI v_thrown v_tanks v_hasPlan v_cycle v_second v_entered v_done v_took v_stopped v_move v_ends v_onHoist v_began f_order s13_f_times f_loaded f_empty f_places f_low f_high)) (hq_rV (As := [.int (i3 - 1), .int ((((s8_f_times i3.toNatClampNeg) + 0) - (f_loaded (i3 - 1).toNatClampNeg)) - (f_high i3.toNatClampNeg))]) (rest := []) ⟨hx, hb, hml, hown, hts⟩ (c_MD_raise l dC dI q_this q_low q_high q_loaded q_empty q_order q_places q_times q_planOrder q_planTimes q_carriers q_begins cI _ (i3 - 1) ((((s8_f_times i3.toNatClampNeg) + 0) - (f_loaded (i3 - 1).toNatClampNeg)) - (f_high i3.toNatClampNeg)) v_thrown v_tanks v_hasPlan v_cycle v_second v_entered v_done v_took v_stopped v_move v_ends v_onHoist v_began s8_f_times r13 s13_f_times hc13) (cwV 2 hts (hq_gV tw_196 tw_197 tw_198 tw_176 tw_199) rfl rfl rfl yv_MD_raise ⟨Nat.le_of_ble_eq_true rfl, Nat.le_of_ble_eq_true rfl⟩) hP hD hK [0] rfl 0 rfl rfl [0, 2] rfl rfl rfl hl.1 rfl (Nat.le_of_ble_eq_true rfl) d_MD_raiseAll_181 ⟨Nat.zero_le _, Nat.zero_le _⟩) hP hD hS hA [0, 2] [1, 3, 4, 5, 6, 7] [6, 0, 7, 1, 2, 3, 4, 5] rfl rfl rfl (by decide) rfl rfl (fun H locs hP hD hS => ?_)
                refine lv_if_ne (tgt := 191) hx hb d_MD_raiseAll_184 (by decide) (fun hb14 => ?_) (fun hb14 => ?_)
                · have hF := ox_t hF hb14
                  refine lv_iconst (v := 1) hx hb d_MD_raiseAll_191 (by decide) ?_
                  refine lv_goto (tgt := 196) hx hb d_MD_raiseAll_192 (by decide) ?_
                  refine lv_istore_n (lv' := [(2, .int 1), (4, .int 0), (0, .ref q_this), (1, .int i1), (3, .int i3)]) hx hb d_MD_raiseAll_196 rfl hl (by decide) rfl (fun ls hl => ?_)
                  refine lv_iinc (v := (i3 + 1)) (lv' := [(3, .int (i3 + 1)), (2, .int 1), (4, .int 0), (0, .ref q_this), (1, .int i1)]) hx hb d_MD_raiseAll_197 hl (k := 4) rfl rfl (by decide) rfl (fun ls hl => ?_)
                  refine lv_goto (tgt := 75) hx hb d_MD_raiseAll_200 (by decide) ?_
                  exact ih.2 i1 1 (i3 + 1) s13_f_times _ _ _ hP hD hS (lv_sub hl [3, 4, 1, 0] rfl) hF
                · have hF := ox_fn hF hb14
                  refine lv_iload_n hx hb d_MD_raiseAll_187 rfl (lv_at hl 0 rfl) ?_
                  refine lv_if_eq (tgt := 195) hx hb d_MD_raiseAll_188 (by decide) (fun _ => ?_) (fun h => absurd (by decide) h)
                  refine lv_iconst (v := 0) hx hb d_MD_raiseAll_195 (by decide) ?_
                  refine lv_istore_n (lv' := [(2, .int 0), (4, .int 0), (0, .ref q_this), (1, .int i1), (3, .int i3)]) hx hb d_MD_raiseAll_196 rfl hl (by decide) rfl (fun ls hl => ?_)
                  refine lv_iinc (v := (i3 + 1)) (lv' := [(3, .int (i3 + 1)), (2, .int 0), (4, .int 0), (0, .ref q_this), (1, .int i1)]) hx hb d_MD_raiseAll_197 hl (k := 4) rfl rfl (by decide) rfl (fun ls hl => ?_)
                  refine lv_goto (tgt := 75) hx hb d_MD_raiseAll_200 (by decide) ?_
                  exact ih.2 i1 0 (i3 + 1) s13_f_times _ _ _ hP hD hS (lv_sub hl [3, 4, 1, 0] rfl) hF
              · have hF := ox_f hF hb12
                refine lv_iconst (v := 1) hx hb d_MD_raiseAll_146 (by decide) ?_
                refine lv_goto (tgt := 151) hx hb d_MD_raiseAll_147 (by decide) ?_
                refine lv_istore_n (lv' := [(2, .int 1), (4, .int 0), (0, .ref q_this), (1, .int i1), (3, .int i3)]) hx hb d_MD_raiseAll_151 rfl hl (by decide) rfl (fun ls hl => ?_)
                refine lv_aload_n hx hb d_MD_raiseAll_152 rfl (lv_at hl 2 rfl) ?_
                refine lv_iload_n hx hb d_MD_raiseAll_153 rfl (lv_at hl 4 rfl) ?_
                refine lv_iconst (v := 1) hx hb d_MD_raiseAll_154 (by decide) ?_
                refine lv_isub hx hb d_MD_raiseAll_155 ?_
                refine lv_aload_n hx hb d_MD_raiseAll_156 rfl (lv_at hl 2 rfl) ?_
                refine va_get (D := (dC, dI)) (ci := 6) (v := .ref q_times) (C := R_MD) (T := F_MD) (N := 24) hx hb hts uw_MD hown hK hP 0 rfl rfl 8 (by decide) (hts _ tw_190) (fun _ h9 => h9) rfl d_MD_raiseAll_157 ?_
                refine lv_iload_n hx hb d_MD_raiseAll_160 rfl (lv_at hl 4 rfl) ?_
                obtain ⟨hin, hF⟩ := ox_gdS hF
                refine va_iald hx hb hK hP 2 0 rfl rfl hin d_MD_raiseAll_161 ?_
                refine lv_iload hx hb d_MD_raiseAll_162 (lv_at hl 1 rfl) ?_
                refine lv_iadd hx hb d_MD_raiseAll_164 ?_
                refine lv_aload_n hx hb d_MD_raiseAll_165 rfl (lv_at hl 2 rfl) ?_
                refine va_get (D := (dC, dI)) (ci := 6) (v := .ref q_loaded) (C := R_MD) (T := F_MD) (N := 24) hx hb hts uw_MD hown hK hP 0 rfl rfl 4 (by decide) (hts _ tw_170) (fun _ h9 => h9) rfl d_MD_raiseAll_166 ?_
                refine lv_iload_n hx hb d_MD_raiseAll_169 rfl (lv_at hl 4 rfl) ?_
                refine lv_iconst (v := 1) hx hb d_MD_raiseAll_170 (by decide) ?_
                refine lv_isub hx hb d_MD_raiseAll_171 ?_
                obtain ⟨hin, hF⟩ := ox_gdS hF
                refine va_iald hx hb hK hP 3 0 rfl rfl hin d_MD_raiseAll_172 ?_
                refine lv_isub hx hb d_MD_raiseAll_173 ?_
                refine lv_aload_n hx hb d_MD_raiseAll_174 rfl (lv_at hl 2 rfl) ?_
                refine va_get (D := (dC, dI)) (ci := 6) (v := .ref q_high) (C := R_MD) (T := F_MD) (N := 24) hx hb hts uw_MD hown hK hP 0 rfl rfl 3 (by decide) (hts _ tw_169) (fun _ h9 => h9) rfl d_MD_raiseAll_175 ?_
                refine lv_iload_n hx hb d_MD_raiseAll_178 rfl (lv_at hl 4 rfl) ?_
                obtain ⟨hin, hF⟩ := ox_gdS hF
                refine va_iald hx hb hK hP 7 0 rfl rfl hin d_MD_raiseAll_179 ?_
                refine lv_isub hx hb d_MD_raiseAll_180 ?_
                obtain ⟨⟨r15, s15_f_times⟩, hc15, hF⟩ := ox_clS hF
                refine hq_ci (ws' := (wd_MD_raiseAll q_this q_low q_high q_loaded q_empty q_order q_places q_times q_planOrder q_planTimes q_carriers q_begins cI v_thrown v_tanks v_hasPlan v_cycle v_second v_entered v_done v_took v_stopped v_move v_ends v_onHoist v_began f_order s15_f_times f_loaded f_empty f_places f_low f_high)) (hq_rV (As := [.int (i3 - 1), .int ((((s8_f_times i3.toNatClampNeg) + 0) - (f_loaded (i3 - 1).toNatClampNeg)) - (f_high i3.toNatClampNeg))]) (rest := []) ⟨hx, hb, hml, hown, hts⟩ (c_MD_raise l dC dI q_this q_low q_high q_loaded q_empty q_order q_places q_times q_planOrder q_planTimes q_carriers q_begins cI _ (i3 - 1) ((((s8_f_times i3.toNatClampNeg) + 0) - (f_loaded (i3 - 1).toNatClampNeg)) - (f_high i3.toNatClampNeg)) v_thrown v_tanks v_hasPlan v_cycle v_second v_entered v_done v_took v_stopped v_move v_ends v_onHoist v_began s8_f_times r15 s15_f_times hc15) (cwV 2 hts (hq_gV tw_196 tw_197 tw_198 tw_176 tw_199) rfl rfl rfl yv_MD_raise ⟨Nat.le_of_ble_eq_true rfl, Nat.le_of_ble_eq_true rfl⟩) hP hD hK [0] rfl 0 rfl rfl [0, 2] rfl rfl rfl hl.1 rfl (Nat.le_of_ble_eq_true rfl) d_MD_raiseAll_181 ⟨Nat.zero_le _, Nat.zero_le _⟩) hP hD hS hA [0, 2] [1, 3, 4, 5, 6, 7] [6, 0, 7, 1, 2, 3, 4, 5] rfl rfl rfl (by decide) rfl rfl (fun H locs hP hD hS => ?_)
                refine lv_if_ne (tgt := 191) hx hb d_MD_raiseAll_184 (by decide) (fun hb16 => ?_) (fun hb16 => ?_)
                · have hF := ox_t hF hb16
                  refine lv_iconst (v := 1) hx hb d_MD_raiseAll_191 (by decide) ?_
                  refine lv_goto (tgt := 196) hx hb d_MD_raiseAll_192 (by decide) ?_
                  refine lv_istore_n (lv' := [(2, .int 1), (4, .int 0), (0, .ref q_this), (1, .int i1), (3, .int i3)]) hx hb d_MD_raiseAll_196 rfl hl (by decide) rfl (fun ls hl => ?_)
                  refine lv_iinc (v := (i3 + 1)) (lv' := [(3, .int (i3 + 1)), (2, .int 1), (4, .int 0), (0, .ref q_this), (1, .int i1)]) hx hb d_MD_raiseAll_197 hl (k := 4) rfl rfl (by decide) rfl (fun ls hl => ?_)
                  refine lv_goto (tgt := 75) hx hb d_MD_raiseAll_200 (by decide) ?_
                  exact ih.2 i1 1 (i3 + 1) s15_f_times _ _ _ hP hD hS (lv_sub hl [3, 4, 1, 0] rfl) hF
                · have hF := ox_fn hF hb16
                  refine lv_iload_n hx hb d_MD_raiseAll_187 rfl (lv_at hl 0 rfl) ?_
                  refine lv_if_eq (tgt := 195) hx hb d_MD_raiseAll_188 (by decide) (fun h => absurd h (by decide)) (fun _ => ?_)
                  refine lv_iconst (v := 1) hx hb d_MD_raiseAll_191 (by decide) ?_
                  refine lv_goto (tgt := 196) hx hb d_MD_raiseAll_192 (by decide) ?_
                  refine lv_istore_n (lv' := [(2, .int 1), (4, .int 0), (0, .ref q_this), (1, .int i1), (3, .int i3)]) hx hb d_MD_raiseAll_196 rfl hl (by decide) rfl (fun ls hl => ?_)
                  refine lv_iinc (v := (i3 + 1)) (lv' := [(3, .int (i3 + 1)), (2, .int 1), (4, .int 0), (0, .ref q_this), (1, .int i1)]) hx hb d_MD_raiseAll_197 hl (k := 4) rfl rfl (by decide) rfl (fun ls hl => ?_)
                  refine lv_goto (tgt := 75) hx hb d_MD_raiseAll_200 (by decide) ?_
                  exact ih.2 i1 1 (i3 + 1) s15_f_times _ _ _ hP hD hS (lv_sub hl [3, 4, 1, 0] rfl) hF
          · have hF := ox_f hF hb7
            refine lv_iload_n hx hb d_MD_raiseAll_100 rfl (lv_at hl 1 rfl) ?_
            refine lv_goto (tgt := 105) hx hb d_MD_raiseAll_101 (by decide) ?_
            refine lv_istore (lv' := [(4, .int i1), (0, .ref q_this), (1, .int i1), (2, .int i2), (3, .int i3)]) hx hb d_MD_raiseAll_105 hl (by decide) rfl (fun ls hl => ?_)
            refine lv_aload_n hx hb d_MD_raiseAll_107 rfl (lv_at hl 1 rfl) ?_
            refine lv_iload_n hx hb d_MD_raiseAll_108 rfl (lv_at hl 4 rfl) ?_
            refine lv_aload_n hx hb d_MD_raiseAll_109 rfl (lv_at hl 1 rfl) ?_
            refine va_get (D := (dC, dI)) (ci := 6) (v := .ref q_times) (C := R_MD) (T := F_MD) (N := 24) hx hb hts uw_MD hown hK hP 0 rfl rfl 8 (by decide) (hts _ tw_190) (fun _ h9 => h9) rfl d_MD_raiseAll_110 ?_
            refine lv_iload_n hx hb d_MD_raiseAll_113 rfl (lv_at hl 4 rfl) ?_
            refine lv_iconst (v := 1) hx hb d_MD_raiseAll_114 (by decide) ?_
            refine lv_isub hx hb d_MD_raiseAll_115 ?_
            obtain ⟨hin, hF⟩ := ox_gdS hF
            refine va_iald hx hb hK hP 2 0 rfl rfl hin d_MD_raiseAll_116 ?_
            refine lv_aload_n hx hb d_MD_raiseAll_117 rfl (lv_at hl 1 rfl) ?_
            refine va_get (D := (dC, dI)) (ci := 6) (v := .ref q_loaded) (C := R_MD) (T := F_MD) (N := 24) hx hb hts uw_MD hown hK hP 0 rfl rfl 4 (by decide) (hts _ tw_170) (fun _ h9 => h9) rfl d_MD_raiseAll_118 ?_
            refine lv_iload_n hx hb d_MD_raiseAll_121 rfl (lv_at hl 4 rfl) ?_
            refine lv_iconst (v := 1) hx hb d_MD_raiseAll_122 (by decide) ?_
            refine lv_isub hx hb d_MD_raiseAll_123 ?_
            obtain ⟨hin, hF⟩ := ox_gdS hF
            refine va_iald hx hb hK hP 3 0 rfl rfl hin d_MD_raiseAll_124 ?_
            refine lv_iadd hx hb d_MD_raiseAll_125 ?_
            refine lv_aload_n hx hb d_MD_raiseAll_126 rfl (lv_at hl 1 rfl) ?_
            refine va_get (D := (dC, dI)) (ci := 6) (v := .ref q_low) (C := R_MD) (T := F_MD) (N := 24) hx hb hts uw_MD hown hK hP 0 rfl rfl 2 (by decide) (hts _ tw_168) (fun _ h9 => h9) rfl d_MD_raiseAll_127 ?_
            refine lv_iload_n hx hb d_MD_raiseAll_130 rfl (lv_at hl 4 rfl) ?_
            obtain ⟨hin, hF⟩ := ox_gdS hF
            refine va_iald hx hb hK hP 6 0 rfl rfl hin d_MD_raiseAll_131 ?_
            refine lv_iadd hx hb d_MD_raiseAll_132 ?_
            refine lv_iload hx hb d_MD_raiseAll_133 (lv_at hl 0 rfl) ?_
            refine lv_isub hx hb d_MD_raiseAll_135 ?_
            obtain ⟨⟨r17, s17_f_times⟩, hc17, hF⟩ := ox_clS hF
            refine hq_ci (ws' := (wd_MD_raiseAll q_this q_low q_high q_loaded q_empty q_order q_places q_times q_planOrder q_planTimes q_carriers q_begins cI v_thrown v_tanks v_hasPlan v_cycle v_second v_entered v_done v_took v_stopped v_move v_ends v_onHoist v_began f_order s17_f_times f_loaded f_empty f_places f_low f_high)) (hq_rV (As := [.int i3, .int ((((f_times (i3 - 1).toNatClampNeg) + (f_loaded (i3 - 1).toNatClampNeg)) + (f_low i3.toNatClampNeg)) - i1)]) (rest := []) ⟨hx, hb, hml, hown, hts⟩ (c_MD_raise l dC dI q_this q_low q_high q_loaded q_empty q_order q_places q_times q_planOrder q_planTimes q_carriers q_begins cI _ i3 ((((f_times (i3 - 1).toNatClampNeg) + (f_loaded (i3 - 1).toNatClampNeg)) + (f_low i3.toNatClampNeg)) - i1) v_thrown v_tanks v_hasPlan v_cycle v_second v_entered v_done v_took v_stopped v_move v_ends v_onHoist v_began f_times r17 s17_f_times hc17) (cwV 2 hts (hq_gV tw_196 tw_197 tw_198 tw_176 tw_199) rfl rfl rfl yv_MD_raise ⟨Nat.le_of_ble_eq_true rfl, Nat.le_of_ble_eq_true rfl⟩) hP hD hK [0] rfl 0 rfl rfl [0, 2] rfl rfl rfl hl.1 rfl (Nat.le_of_ble_eq_true rfl) d_MD_raiseAll_136 ⟨Nat.zero_le _, Nat.zero_le _⟩) hP hD hS hA [0, 2] [1, 3, 4, 5, 6, 7] [6, 0, 7, 1, 2, 3, 4, 5] rfl rfl rfl (by decide) rfl rfl (fun H locs hP hD hS => ?_)
            refine lv_if_ne (tgt := 146) hx hb d_MD_raiseAll_139 (by decide) (fun hb18 => ?_) (fun hb18 => ?_)
            · have hF := ox_t hF hb18
              refine lv_iconst (v := 1) hx hb d_MD_raiseAll_146 (by decide) ?_
              refine lv_goto (tgt := 151) hx hb d_MD_raiseAll_147 (by decide) ?_
              refine lv_istore_n (lv' := [(2, .int 1), (4, .int i1), (0, .ref q_this), (1, .int i1), (3, .int i3)]) hx hb d_MD_raiseAll_151 rfl hl (by decide) rfl (fun ls hl => ?_)
              refine lv_aload_n hx hb d_MD_raiseAll_152 rfl (lv_at hl 2 rfl) ?_
              refine lv_iload_n hx hb d_MD_raiseAll_153 rfl (lv_at hl 4 rfl) ?_
              refine lv_iconst (v := 1) hx hb d_MD_raiseAll_154 (by decide) ?_
              refine lv_isub hx hb d_MD_raiseAll_155 ?_
              refine lv_aload_n hx hb d_MD_raiseAll_156 rfl (lv_at hl 2 rfl) ?_
              refine va_get (D := (dC, dI)) (ci := 6) (v := .ref q_times) (C := R_MD) (T := F_MD) (N := 24) hx hb hts uw_MD hown hK hP 0 rfl rfl 8 (by decide) (hts _ tw_190) (fun _ h9 => h9) rfl d_MD_raiseAll_157 ?_
              refine lv_iload_n hx hb d_MD_raiseAll_160 rfl (lv_at hl 4 rfl) ?_
              obtain ⟨hin, hF⟩ := ox_gdS hF
              refine va_iald hx hb hK hP 2 0 rfl rfl hin d_MD_raiseAll_161 ?_
              refine lv_iload hx hb d_MD_raiseAll_162 (lv_at hl 1 rfl) ?_
              refine lv_iadd hx hb d_MD_raiseAll_164 ?_
              refine lv_aload_n hx hb d_MD_raiseAll_165 rfl (lv_at hl 2 rfl) ?_
              refine va_get (D := (dC, dI)) (ci := 6) (v := .ref q_loaded) (C := R_MD) (T := F_MD) (N := 24) hx hb hts uw_MD hown hK hP 0 rfl rfl 4 (by decide) (hts _ tw_170) (fun _ h9 => h9) rfl d_MD_raiseAll_166 ?_
              refine lv_iload_n hx hb d_MD_raiseAll_169 rfl (lv_at hl 4 rfl) ?_
              refine lv_iconst (v := 1) hx hb d_MD_raiseAll_170 (by decide) ?_
              refine lv_isub hx hb d_MD_raiseAll_171 ?_
              obtain ⟨hin, hF⟩ := ox_gdS hF
              refine va_iald hx hb hK hP 3 0 rfl rfl hin d_MD_raiseAll_172 ?_
              refine lv_isub hx hb d_MD_raiseAll_173 ?_
              refine lv_aload_n hx hb d_MD_raiseAll_174 rfl (lv_at hl 2 rfl) ?_
              refine va_get (D := (dC, dI)) (ci := 6) (v := .ref q_high) (C := R_MD) (T := F_MD) (N := 24) hx hb hts uw_MD hown hK hP 0 rfl rfl 3 (by decide) (hts _ tw_169) (fun _ h9 => h9) rfl d_MD_raiseAll_175 ?_
              refine lv_iload_n hx hb d_MD_raiseAll_178 rfl (lv_at hl 4 rfl) ?_
              obtain ⟨hin, hF⟩ := ox_gdS hF
              refine va_iald hx hb hK hP 7 0 rfl rfl hin d_MD_raiseAll_179 ?_
              refine lv_isub hx hb d_MD_raiseAll_180 ?_
              obtain ⟨⟨r19, s19_f_times⟩, hc19, hF⟩ := ox_clS hF
              refine hq_ci (ws' := (wd_MD_raiseAll q_this q_low q_high q_loaded q_empty q_order q_places q_times q_planOrder q_planTimes q_carriers q_begins cI v_thrown v_tanks v_hasPlan v_cycle v_second v_entered v_done v_took v_stopped v_move v_ends v_onHoist v_began f_order s19_f_times f_loaded f_empty f_places f_low f_high)) (hq_rV (As := [.int (i3 - 1), .int ((((s17_f_times i3.toNatClampNeg) + i1) - (f_loaded (i3 - 1).toNatClampNeg)) - (f_high i3.toNatClampNeg))]) (rest := []) ⟨hx, hb, hml, hown, hts⟩ (c_MD_raise l dC dI q_this q_low q_high q_loaded q_empty q_order q_places q_times q_planOrder q_planTimes q_carriers q_begins cI _ (i3 - 1) ((((s17_f_times i3.toNatClampNeg) + i1) - (f_loaded (i3 - 1).toNatClampNeg)) - (f_high i3.toNatClampNeg)) v_thrown v_tanks v_hasPlan v_cycle v_second v_entered v_done v_took v_stopped v_move v_ends v_onHoist v_began s17_f_times r19 s19_f_times hc19) (cwV 2 hts (hq_gV tw_196 tw_197 tw_198 tw_176 tw_199) rfl rfl rfl yv_MD_raise ⟨Nat.le_of_ble_eq_true rfl, Nat.le_of_ble_eq_true rfl⟩) hP hD hK [0] rfl 0 rfl rfl [0, 2] rfl rfl rfl hl.1 rfl (Nat.le_of_ble_eq_true rfl) d_MD_raiseAll_181 ⟨Nat.zero_le _, Nat.zero_le _⟩) hP hD hS hA [0, 2] [1, 3, 4, 5, 6, 7] [6, 0, 7, 1, 2, 3, 4, 5] rfl rfl rfl (by decide) rfl rfl (fun H locs hP hD hS => ?_)
              refine lv_if_ne (tgt := 191) hx hb d_MD_raiseAll_184 (by decide) (fun hb20 => ?_) (fun hb20 => ?_)
              · have hF := ox_t hF hb20
                refine lv_iconst (v := 1) hx hb d_MD_raiseAll_191 (by decide) ?_
                refine lv_goto (tgt := 196) hx hb d_MD_raiseAll_192 (by decide) ?_
                refine lv_istore_n (lv' := [(2, .int 1), (4, .int i1), (0, .ref q_this), (1, .int i1), (3, .int i3)]) hx hb d_MD_raiseAll_196 rfl hl (by decide) rfl (fun ls hl => ?_)
                refine lv_iinc (v := (i3 + 1)) (lv' := [(3, .int (i3 + 1)), (2, .int 1), (4, .int i1), (0, .ref q_this), (1, .int i1)]) hx hb d_MD_raiseAll_197 hl (k := 4) rfl rfl (by decide) rfl (fun ls hl => ?_)
                refine lv_goto (tgt := 75) hx hb d_MD_raiseAll_200 (by decide) ?_
                exact ih.2 i1 1 (i3 + 1) s19_f_times _ _ _ hP hD hS (lv_sub hl [3, 4, 1, 0] rfl) hF
              · have hF := ox_fn hF hb20
                refine lv_iload_n hx hb d_MD_raiseAll_187 rfl (lv_at hl 0 rfl) ?_
                refine lv_if_eq (tgt := 195) hx hb d_MD_raiseAll_188 (by decide) (fun h => absurd h (by decide)) (fun _ => ?_)
                refine lv_iconst (v := 1) hx hb d_MD_raiseAll_191 (by decide) ?_
                refine lv_goto (tgt := 196) hx hb d_MD_raiseAll_192 (by decide) ?_
                refine lv_istore_n (lv' := [(2, .int 1), (4, .int i1), (0, .ref q_this), (1, .int i1), (3, .int i3)]) hx hb d_MD_raiseAll_196 rfl hl (by decide) rfl (fun ls hl => ?_)
                refine lv_iinc (v := (i3 + 1)) (lv' := [(3, .int (i3 + 1)), (2, .int 1), (4, .int i1), (0, .ref q_this), (1, .int i1)]) hx hb d_MD_raiseAll_197 hl (k := 4) rfl rfl (by decide) rfl (fun ls hl => ?_)
                refine lv_goto (tgt := 75) hx hb d_MD_raiseAll_200 (by decide) ?_
                exact ih.2 i1 1 (i3 + 1) s19_f_times _ _ _ hP hD hS (lv_sub hl [3, 4, 1, 0] rfl) hF
            · have hF := ox_fn hF hb18
              refine lv_iload_n hx hb d_MD_raiseAll_142 rfl (lv_at hl 3 rfl) ?_
              refine lv_if_eq (tgt := 150) hx hb d_MD_raiseAll_143 (by decide) (fun hb21 => ?_) (fun hb21 => ?_)
              · have hF := ox_t hF hb21
                refine lv_iconst (v := 0) hx hb d_MD_raiseAll_150 (by decide) ?_
                refine lv_istore_n (lv' := [(2, .int 0), (4, .int i1), (0, .ref q_this), (1, .int i1), (3, .int i3)]) hx hb d_MD_raiseAll_151 rfl hl (by decide) rfl (fun ls hl => ?_)
                refine lv_aload_n hx hb d_MD_raiseAll_152 rfl (lv_at hl 2 rfl) ?_
                refine lv_iload_n hx hb d_MD_raiseAll_153 rfl (lv_at hl 4 rfl) ?_
                refine lv_iconst (v := 1) hx hb d_MD_raiseAll_154 (by decide) ?_
                refine lv_isub hx hb d_MD_raiseAll_155 ?_
                refine lv_aload_n hx hb d_MD_raiseAll_156 rfl (lv_at hl 2 rfl) ?_
                refine va_get (D := (dC, dI)) (ci := 6) (v := .ref q_times) (C := R_MD) (T := F_MD) (N := 24) hx hb hts uw_MD hown hK hP 0 rfl rfl 8 (by decide) (hts _ tw_190) (fun _ h9 => h9) rfl d_MD_raiseAll_157 ?_
                refine lv_iload_n hx hb d_MD_raiseAll_160 rfl (lv_at hl 4 rfl) ?_
                obtain ⟨hin, hF⟩ := ox_gdS hF
                refine va_iald hx hb hK hP 2 0 rfl rfl hin d_MD_raiseAll_161 ?_
                refine lv_iload hx hb d_MD_raiseAll_162 (lv_at hl 1 rfl) ?_
                refine lv_iadd hx hb d_MD_raiseAll_164 ?_
                refine lv_aload_n hx hb d_MD_raiseAll_165 rfl (lv_at hl 2 rfl) ?_
                refine va_get (D := (dC, dI)) (ci := 6) (v := .ref q_loaded) (C := R_MD) (T := F_MD) (N := 24) hx hb hts uw_MD hown hK hP 0 rfl rfl 4 (by decide) (hts _ tw_170) (fun _ h9 => h9) rfl d_MD_raiseAll_166 ?_
                refine lv_iload_n hx hb d_MD_raiseAll_169 rfl (lv_at hl 4 rfl) ?_
                refine lv_iconst (v := 1) hx hb d_MD_raiseAll_170 (by decide) ?_
                refine lv_isub hx hb d_MD_raiseAll_171 ?_
                obtain ⟨hin, hF⟩ := ox_gdS hF
                refine va_iald hx hb hK hP 3 0 rfl rfl hin d_MD_raiseAll_172 ?_
                refine lv_isub hx hb d_MD_raiseAll_173 ?_
                refine lv_aload_n hx hb d_MD_raiseAll_174 rfl (lv_at hl 2 rfl) ?_
                refine va_get (D := (dC, dI)) (ci := 6) (v := .ref q_high) (C := R_MD) (T := F_MD) (N := 24) hx hb hts uw_MD hown hK hP 0 rfl rfl 3 (by decide) (hts _ tw_169) (fun _ h9 => h9) rfl d_MD_raiseAll_175 ?_
                refine lv_iload_n hx hb d_MD_raiseAll_178 rfl (lv_at hl 4 rfl) ?_
                obtain ⟨hin, hF⟩ := ox_gdS hF
                refine va_iald hx hb hK hP 7 0 rfl rfl hin d_MD_raiseAll_179 ?_
                refine lv_isub hx hb d_MD_raiseAll_180 ?_
                obtain ⟨⟨r22, s22_f_times⟩, hc22, hF⟩ := ox_clS hF
                refine hq_ci (ws' := (wd_MD_raiseAll q_this q_low q_high q_loaded q_empty q_order q_places q_times q_planOrder q_planTimes q_carriers q_begins cI v_thrown v_tanks v_hasPlan v_cycle v_second v_entered v_done v_took v_stopped v_move v_ends v_onHoist v_began f_order s22_f_times f_loaded f_empty f_places f_low f_high)) (hq_rV (As := [.int (i3 - 1), .int ((((s17_f_times i3.toNatClampNeg) + i1) - (f_loaded (i3 - 1).toNatClampNeg)) - (f_high i3.toNatClampNeg))]) (rest := []) ⟨hx, hb, hml, hown, hts⟩ (c_MD_raise l dC dI q_this q_low q_high q_loaded q_empty q_order q_places q_times q_planOrder q_planTimes q_carriers q_begins cI _ (i3 - 1) ((((s17_f_times i3.toNatClampNeg) + i1) - (f_loaded (i3 - 1).toNatClampNeg)) - (f_high i3.toNatClampNeg)) v_thrown v_tanks v_hasPlan v_cycle v_second v_entered v_done v_took v_stopped v_move v_ends v_onHoist v_began s17_f_times r22 s22_f_times hc22) (cwV 2 hts (hq_gV tw_196 tw_197 tw_198 tw_176 tw_199) rfl rfl rfl yv_MD_raise ⟨Nat.le_of_ble_eq_true rfl, Nat.le_of_ble_eq_true rfl⟩) hP hD hK [0] rfl 0 rfl rfl [0, 2] rfl rfl rfl hl.1 rfl (Nat.le_of_ble_eq_true rfl) d_MD_raiseAll_181 ⟨Nat.zero_le _, Nat.zero_le _⟩) hP hD hS hA [0, 2] [1, 3, 4, 5, 6, 7] [6, 0, 7, 1, 2, 3, 4, 5] rfl rfl rfl (by decide) rfl rfl (fun H locs hP hD hS => ?_)
                refine lv_if_ne (tgt := 191) hx hb d_MD_raiseAll_184 (by decide) (fun hb23 => ?_) (fun hb23 => ?_)
                · have hF := ox_t hF hb23
                  refine lv_iconst (v := 1) hx hb d_MD_raiseAll_191 (by decide) ?_
                  refine lv_goto (tgt := 196) hx hb d_MD_raiseAll_192 (by decide) ?_
                  refine lv_istore_n (lv' := [(2, .int 1), (4, .int i1), (0, .ref q_this), (1, .int i1), (3, .int i3)]) hx hb d_MD_raiseAll_196 rfl hl (by decide) rfl (fun ls hl => ?_)
                  refine lv_iinc (v := (i3 + 1)) (lv' := [(3, .int (i3 + 1)), (2, .int 1), (4, .int i1), (0, .ref q_this), (1, .int i1)]) hx hb d_MD_raiseAll_197 hl (k := 4) rfl rfl (by decide) rfl (fun ls hl => ?_)
                  refine lv_goto (tgt := 75) hx hb d_MD_raiseAll_200 (by decide) ?_
                  exact ih.2 i1 1 (i3 + 1) s22_f_times _ _ _ hP hD hS (lv_sub hl [3, 4, 1, 0] rfl) hF
                · have hF := ox_fn hF hb23
                  refine lv_iload_n hx hb d_MD_raiseAll_187 rfl (lv_at hl 0 rfl) ?_
                  refine lv_if_eq (tgt := 195) hx hb d_MD_raiseAll_188 (by decide) (fun _ => ?_) (fun h => absurd (by decide) h)
                  refine lv_iconst (v := 0) hx hb d_MD_raiseAll_195 (by decide) ?_
                  refine lv_istore_n (lv' := [(2, .int 0), (4, .int i1), (0, .ref q_this), (1, .int i1), (3, .int i3)]) hx hb d_MD_raiseAll_196 rfl hl (by decide) rfl (fun ls hl => ?_)
                  refine lv_iinc (v := (i3 + 1)) (lv' := [(3, .int (i3 + 1)), (2, .int 0), (4, .int i1), (0, .ref q_this), (1, .int i1)]) hx hb d_MD_raiseAll_197 hl (k := 4) rfl rfl (by decide) rfl (fun ls hl => ?_)
                  refine lv_goto (tgt := 75) hx hb d_MD_raiseAll_200 (by decide) ?_
                  exact ih.2 i1 0 (i3 + 1) s22_f_times _ _ _ hP hD hS (lv_sub hl [3, 4, 1, 0] rfl) hF
              · have hF := ox_f hF hb21
                refine lv_iconst (v := 1) hx hb d_MD_raiseAll_146 (by decide) ?_
                refine lv_goto (tgt := 151) hx hb d_MD_raiseAll_147 (by decide) ?_
                refine lv_istore_n (lv' := [(2, .int 1), (4, .int i1), (0, .ref q_this), (1, .int i1), (3, .int i3)]) hx hb d_MD_raiseAll_151 rfl hl (by decide) rfl (fun ls hl => ?_)
                refine lv_aload_n hx hb d_MD_raiseAll_152 rfl (lv_at hl 2 rfl) ?_
                refine lv_iload_n hx hb d_MD_raiseAll_153 rfl (lv_at hl 4 rfl) ?_
                refine lv_iconst (v := 1) hx hb d_MD_raiseAll_154 (by decide) ?_
                refine lv_isub hx hb d_MD_raiseAll_155 ?_
                refine lv_aload_n hx hb d_MD_raiseAll_156 rfl (lv_at hl 2 rfl) ?_
                refine va_get (D := (dC, dI)) (ci := 6) (v := .ref q_times) (C := R_MD) (T := F_MD) (N := 24) hx hb hts uw_MD hown hK hP 0 rfl rfl 8 (by decide) (hts _ tw_190) (fun _ h9 => h9) rfl d_MD_raiseAll_157 ?_
                refine lv_iload_n hx hb d_MD_raiseAll_160 rfl (lv_at hl 4 rfl) ?_
                obtain ⟨hin, hF⟩ := ox_gdS hF
                refine va_iald hx hb hK hP 2 0 rfl rfl hin d_MD_raiseAll_161 ?_
                refine lv_iload hx hb d_MD_raiseAll_162 (lv_at hl 1 rfl) ?_
                refine lv_iadd hx hb d_MD_raiseAll_164 ?_
                refine lv_aload_n hx hb d_MD_raiseAll_165 rfl (lv_at hl 2 rfl) ?_
                refine va_get (D := (dC, dI)) (ci := 6) (v := .ref q_loaded) (C := R_MD) (T := F_MD) (N := 24) hx hb hts uw_MD hown hK hP 0 rfl rfl 4 (by decide) (hts _ tw_170) (fun _ h9 => h9) rfl d_MD_raiseAll_166 ?_
                refine lv_iload_n hx hb d_MD_raiseAll_169 rfl (lv_at hl 4 rfl) ?_
                refine lv_iconst (v := 1) hx hb d_MD_raiseAll_170 (by decide) ?_
                refine lv_isub hx hb d_MD_raiseAll_171 ?_
                obtain ⟨hin, hF⟩ := ox_gdS hF
                refine va_iald hx hb hK hP 3 0 rfl rfl hin d_MD_raiseAll_172 ?_
                refine lv_isub hx hb d_MD_raiseAll_173 ?_
                refine lv_aload_n hx hb d_MD_raiseAll_174 rfl (lv_at hl 2 rfl) ?_
                refine va_get (D := (dC, dI)) (ci := 6) (v := .ref q_high) (C := R_MD) (T := F_MD) (N := 24) hx hb hts uw_MD hown hK hP 0 rfl rfl 3 (by decide) (hts _ tw_169) (fun _ h9 => h9) rfl d_MD_raiseAll_175 ?_
                refine lv_iload_n hx hb d_MD_raiseAll_178 rfl (lv_at hl 4 rfl) ?_
                obtain ⟨hin, hF⟩ := ox_gdS hF
                refine va_iald hx hb hK hP 7 0 rfl rfl hin d_MD_raiseAll_179 ?_
                refine lv_isub hx hb d_MD_raiseAll_180 ?_
                obtain ⟨⟨r24, s24_f_times⟩, hc24, hF⟩ := ox_clS hF
                refine hq_ci (ws' := (wd_MD_raiseAll q_this q_low q_high q_loaded q_empty q_order q_places q_times q_planOrder q_planTimes q_carriers q_begins cI v_thrown v_tanks v_hasPlan v_cycle v_second v_entered v_done v_took v_stopped v_move v_ends v_onHoist v_began f_order s24_f_times f_loaded f_empty f_places f_low f_high)) (hq_rV (As := [.int (i3 - 1), .int ((((s17_f_times i3.toNatClampNeg) + i1) - (f_loaded (i3 - 1).toNatClampNeg)) - (f_high i3.toNatClampNeg))]) (rest := []) ⟨hx, hb, hml, hown, hts⟩ (c_MD_raise l dC dI q_this q_low q_high q_loaded q_empty q_order q_places q_times q_planOrder q_planTimes q_carriers q_begins cI _ (i3 - 1) ((((s17_f_times i3.toNatClampNeg) + i1) - (f_loaded (i3 - 1).toNatClampNeg)) - (f_high i3.toNatClampNeg)) v_thrown v_tanks v_hasPlan v_cycle v_second v_entered v_done v_took v_stopped v_move v_ends v_onHoist v_began s17_f_times r24 s24_f_times hc24) (cwV 2 hts (hq_gV tw_196 tw_197 tw_198 tw_176 tw_199) rfl rfl rfl yv_MD_raise ⟨Nat.le_of_ble_eq_true rfl, Nat.le_of_ble_eq_true rfl⟩) hP hD hK [0] rfl 0 rfl rfl [0, 2] rfl rfl rfl hl.1 rfl (Nat.le_of_ble_eq_true rfl) d_MD_raiseAll_181 ⟨Nat.zero_le _, Nat.zero_le _⟩) hP hD hS hA [0, 2] [1, 3, 4, 5, 6, 7] [6, 0, 7, 1, 2, 3, 4, 5] rfl rfl rfl (by decide) rfl rfl (fun H locs hP hD hS => ?_)
                refine lv_if_ne (tgt := 191) hx hb d_MD_raiseAll_184 (by decide) (fun hb25 => ?_) (fun hb25 => ?_)
                · have hF := ox_t hF hb25
                  refine lv_iconst (v := 1) hx hb d_MD_raiseAll_191 (by decide) ?_
                  refine lv_goto (tgt := 196) hx hb d_MD_raiseAll_192 (by decide) ?_
                  refine lv_istore_n (lv' := [(2, .int 1), (4, .int i1), (0, .ref q_this), (1, .int i1), (3, .int i3)]) hx hb d_MD_raiseAll_196 rfl hl (by decide) rfl (fun ls hl => ?_)
                  refine lv_iinc (v := (i3 + 1)) (lv' := [(3, .int (i3 + 1)), (2, .int 1), (4, .int i1), (0, .ref q_this), (1, .int i1)]) hx hb d_MD_raiseAll_197 hl (k := 4) rfl rfl (by decide) rfl (fun ls hl => ?_)
                  refine lv_goto (tgt := 75) hx hb d_MD_raiseAll_200 (by decide) ?_
                  exact ih.2 i1 1 (i3 + 1) s24_f_times _ _ _ hP hD hS (lv_sub hl [3, 4, 1, 0] rfl) hF
                · have hF := ox_fn hF hb25
                  refine lv_iload_n hx hb d_MD_raiseAll_187 rfl (lv_at hl 0 rfl) ?_
                  refine lv_if_eq (tgt := 195) hx hb d_MD_raiseAll_188 (by decide) (fun h => absurd h (by decide)) (fun _ => ?_)
                  refine lv_iconst (v := 1) hx hb d_MD_raiseAll_191 (by decide) ?_
                  refine lv_goto (tgt := 196) hx hb d_MD_raiseAll_192 (by decide) ?_
                  refine lv_istore_n (lv' := [(2, .int 1), (4, .int i1), (0, .ref q_this), (1, .int i1), (3, .int i3)]) hx hb d_MD_raiseAll_196 rfl hl (by decide) rfl (fun ls hl => ?_)
                  refine lv_iinc (v := (i3 + 1)) (lv' := [(3, .int (i3 + 1)), (2, .int 1), (4, .int i1), (0, .ref q_this), (1, .int i1)]) hx hb d_MD_raiseAll_197 hl (k := 4) rfl rfl (by decide) rfl (fun ls hl => ?_)
                  refine lv_goto (tgt := 75) hx hb d_MD_raiseAll_200 (by decide) ?_
                  exact ih.2 i1 1 (i3 + 1) s24_f_times _ _ _ hP hD hS (lv_sub hl [3, 4, 1, 0] rfl) hF
  refine lv_iconst (v := 0) hx hb d_MD_raiseAll_0 (by decide) ?_
  refine lv_istore_n (lv' := [(2, .int 0), (0, .ref q_this), (1, .int a1)]) hx hb d_MD_raiseAll_1 rfl hl (by decide) rfl (fun ls hl => ?_)
  refine lv_iconst (v := 0) hx hb d_MD_raiseAll_2 (by decide) ?_
  refine lv_istore_n (lv' := [(3, .int 0), (2, .int 0), (0, .ref q_this), (1, .int a1)]) hx hb d_MD_raiseAll_3 rfl hl (by decide) rfl (fun ls hl => ?_)
  exact (loop z).1 a1 0 0 f_times _ _ _ hP hD hS (lv_sub hl [2, 3, 1, 0] rfl) hF
abbrev wd_MD_fits (q_this : Nat) (q_low : Nat) (q_high : Nat) (q_loaded : Nat) (q_empty : Nat) (q_order : Nat) (q_places : Nat) (q_times : Nat) (q_planOrder : Nat) (q_planTimes : Nat) (q_carriers : Nat) (q_begins : Nat) (cI : ClassId) (v_thrown : Int32) (v_tanks : Int32) (v_hasPlan : Int32) (v_cycle : Int32) (v_second : Int32) (v_entered : Int32) (v_done : Int32) (v_took : Int32) (v_stopped : Int32) (v_move : Int32) (v_ends : Int32) (v_onHoist : Int32) (v_began : Int32) (f_times : Nat → Int32) (f_order : Nat → Int32) (f_loaded : Nat → Int32) (f_empty : Nat → Int32) (f_places : Nat → Int32) (f_low : Nat → Int32) (f_high : Nat → Int32) : va_W := [(q_this, .inr (6, [.int v_thrown, .int v_tanks, .ref q_low, .ref q_high, .ref q_loaded, .ref q_empty, .ref q_order, .ref q_places, .ref q_times, .int v_hasPlan, .int v_cycle, .ref q_planOrder, .ref q_planTimes, .int v_second, .int v_entered, .int v_done, .int v_took, .int v_stopped, .ref q_carriers, .ref q_begins, .int v_move, .int v_ends, .int v_onHoist, .int v_began])), (q_times, .inl (cI, 6, .inl f_times)), (q_order, .inl (cI, 6, .inl f_order)), (q_loaded, .inl (cI, 6, .inl f_loaded)), (q_empty, .inl (cI, 49, .inl f_empty)), (q_places, .inl (cI, 6, .inl f_places)), (q_low, .inl (cI, 6, .inl f_low)), (q_high, .inl (cI, 6, .inl f_high))]
set_option maxHeartbeats 4000000 in
set_option maxRecDepth 100000 in
theorem c_MD_fits (l : Launch) (dC : Nat → ClassId) (dI : Nat → Nat → Nat) (q_this : Nat) (q_low : Nat) (q_high : Nat) (q_loaded : Nat) (q_empty : Nat) (q_order : Nat) (q_places : Nat) (q_times : Nat) (q_planOrder : Nat) (q_planTimes : Nat) (q_carriers : Nat) (q_begins : Nat) (cI : ClassId) (sz : Nat) (z : Nat) (a1 : Int32) (v_thrown : Int32) (v_tanks : Int32) (v_hasPlan : Int32) (v_cycle : Int32) (v_second : Int32) (v_entered : Int32) (v_done : Int32) (v_took : Int32) (v_stopped : Int32) (v_move : Int32) (v_ends : Int32) (v_onHoist : Int32) (v_began : Int32) (f_times : Nat → Int32) (f_order : Nat → Int32) (f_loaded : Nat → Int32) (f_empty : Nat → Int32) (f_places : Nat → Int32) (f_low : Nat → Int32) (f_high : Nat → Int32) (rr : Int32) (n_f_times : Nat → Int32) (hF : fn_MD_fits z a1 v_tanks f_times f_order f_loaded f_empty f_places f_low f_high = some (rr, n_f_times)) : Met l y_MD_fits w_MD_fits ({ frames := 2, cells := 0, slots := 0, locals := 46 }) (hq_Pc (dC, dI) vwCl [(cI, .int)] (wd_MD_fits q_this q_low q_high q_loaded q_empty q_order q_places q_times q_planOrder q_planTimes q_carriers q_begins cI v_thrown v_tanks v_hasPlan v_cycle v_second v_entered v_done v_took v_stopped v_move v_ends v_onHoist v_began f_times f_order f_loaded f_empty f_places f_low f_high) sz [.ref q_this, .int a1]) (hq_Qi (dC, dI) vwCl [(cI, .int)] (wd_MD_fits q_this q_low q_high q_loaded q_empty q_order q_places q_times q_planOrder q_planTimes q_carriers q_begins cI v_thrown v_tanks v_hasPlan v_cycle v_second v_entered v_done v_took v_stopped v_move v_ends v_onHoist v_began n_f_times f_order f_loaded f_empty f_places f_low f_high) rr (va_A (wd_MD_fits q_this q_low q_high q_loaded q_empty q_order q_places q_times q_planOrder q_planTimes q_carriers q_begins cI v_thrown v_tanks v_hasPlan v_cycle v_second v_entered v_done v_took v_stopped v_move v_ends v_onHoist v_began f_times f_order f_loaded f_empty f_places f_low f_high) sz)) 0 0 (va_A (wd_MD_fits q_this q_low q_high q_loaded q_empty q_order q_places q_times q_planOrder q_planTimes q_carriers q_begins cI v_thrown v_tanks v_hasPlan v_cycle v_second v_entered v_done v_took v_stopped v_move v_ends v_onHoist v_began f_times f_order f_loaded f_empty f_places f_low f_high) sz) := by
  refine hq_met (Qc := (hq_Qi (dC, dI) vwCl [(cI, .int)] (wd_MD_fits q_this q_low q_high q_loaded q_empty q_order q_places q_times q_planOrder q_planTimes q_carriers q_begins cI v_thrown v_tanks v_hasPlan v_cycle v_second v_entered v_done v_took v_stopped v_move v_ends v_onHoist v_began n_f_times f_order f_loaded f_empty f_places f_low f_high) rr)) (cc := b_MD_fits) (maxL := 5) (ret := some .boolean) (by decide) rfl (Nat.le_of_ble_eq_true rfl) ?_
  intro p e s m args below meth c A ls hx hb hr hml hts hown hlocks hnm hP hD hK hA hS hl
  have hts : ∀ w ∈ tb0, w.before args s = true := fun w h => hts w (List.mem_cons_of_mem _ h)
  have hown : s.vm.findClass R_MD = some m.cls := hown
  have hl : lv_has ls 5 [(0, .ref q_this), (1, .int a1)] := hl
  unfold fn_MD_fits at hF
  have loop : ∀ fu : Nat, (∀ (i1 : Int32) (i2 : Int32) (i3 : Int32) (i4 : Int32) (f_times : Nat → Int32) (H : Heap) (locs : List Loc) (ls : Array Slot), va_P (dC, dI) vwCl (wd_MD_fits q_this q_low q_high q_loaded q_empty q_order q_places q_times q_planOrder q_planTimes q_carriers q_begins cI v_thrown v_tanks v_hasPlan v_cycle v_second v_entered v_done v_took v_stopped v_move v_ends v_onHoist v_began f_times f_order f_loaded f_empty f_places f_low f_high) H → va_D A (wd_MD_fits q_this q_low q_high q_loaded q_empty q_order q_places q_times q_planOrder q_planTimes q_carriers q_begins cI v_thrown v_tanks v_hasPlan v_cycle v_second v_entered v_done v_took v_stopped v_move v_ends v_onHoist v_began f_times f_order f_loaded f_empty f_places f_low f_high) → va_S A s.heap H locs → lv_has ls 5 [(0, .ref q_this), (1, .int i1), (2, .int i2)] → lp_MD_fits z v_tanks f_order f_loaded f_empty f_places f_low f_high fu 0 i1 i2 i3 i4 f_times = some (rr, n_f_times) → W p l e ({ frames := 2, cells := 0, slots := 0, locals := 46 }) s m args below meth c H locs 0 0 (MQ below ((hq_Qi (dC, dI) vwCl [(cI, .int)] (wd_MD_fits q_this q_low q_high q_loaded q_empty q_order q_places q_times q_planOrder q_planTimes q_carriers q_begins cI v_thrown v_tanks v_hasPlan v_cycle v_second v_entered v_done v_took v_stopped v_move v_ends v_onHoist v_began n_f_times f_order f_loaded f_empty f_places f_low f_high) rr) A) args s 0 0 A) (F0 m 2 ls [])) ∧ (∀ (i1 : Int32) (i2 : Int32) (i3 : Int32) (i4 : Int32) (f_times : Nat → Int32) (H : Heap) (locs : List Loc) (ls : Array Slot), va_P (dC, dI) vwCl (wd_MD_fits q_this q_low q_high q_loaded q_empty q_order q_places q_times q_planOrder q_planTimes q_carriers q_begins cI v_thrown v_tanks v_hasPlan v_cycle v_second v_entered v_done v_took v_stopped v_move v_ends v_onHoist v_began f_times f_order f_loaded f_empty f_places f_low f_high) H → va_D A (wd_MD_fits q_this q_low q_high q_loaded q_empty q_order q_places q_times q_planOrder q_planTimes q_carriers q_begins cI v_thrown v_tanks v_hasPlan v_cycle v_second v_entered v_done v_took v_stopped v_move v_ends v_onHoist v_began f_times f_order f_loaded f_empty f_places f_low f_high) → va_S A s.heap H locs → lv_has ls 5 [(0, .ref q_this), (1, .int i1), (2, .int i2)] → lp_MD_fits z v_tanks f_order f_loaded f_empty f_places f_low f_high fu 1 i1 i2 i3 i4 f_times = some (rr, n_f_times) → W p l e ({ frames := 2, cells := 0, slots := 0, locals := 46 }) s m args below meth c H locs 0 0 (MQ below ((hq_Qi (dC, dI) vwCl [(cI, .int)] (wd_MD_fits q_this q_low q_high q_loaded q_empty q_order q_places q_times q_planOrder q_planTimes q_carriers q_begins cI v_thrown v_tanks v_hasPlan v_cycle v_second v_entered v_done v_took v_stopped v_move v_ends v_onHoist v_began n_f_times f_order f_loaded f_empty f_places f_low f_high) rr) A) args s 0 0 A) (F0 m 25 ls [])) ∧ (∀ (i1 : Int32) (i2 : Int32) (i3 : Int32) (i4 : Int32) (f_times : Nat → Int32) (H : Heap) (locs : List Loc) (ls : Array Slot), va_P (dC, dI) vwCl (wd_MD_fits q_this q_low q_high q_loaded q_empty q_order q_places q_times q_planOrder q_planTimes q_carriers q_begins cI v_thrown v_tanks v_hasPlan v_cycle v_second v_entered v_done v_took v_stopped v_move v_ends v_onHoist v_began f_times f_order f_loaded f_empty f_places f_low f_high) H → va_D A (wd_MD_fits q_this q_low q_high q_loaded q_empty q_order q_places q_times q_planOrder q_planTimes q_carriers q_begins cI v_thrown v_tanks v_hasPlan v_cycle v_second v_entered v_done v_took v_stopped v_move v_ends v_onHoist v_began f_times f_order f_loaded f_empty f_places f_low f_high) → va_S A s.heap H locs → lv_has ls 5 [(0, .ref q_this), (1, .int i1), (2, .int i2), (3, .int i3), (4, .int i4)] → lp_MD_fits z v_tanks f_order f_loaded f_empty f_places f_low f_high fu 2 i1 i2 i3 i4 f_times = some (rr, n_f_times) → W p l e ({ frames := 2, cells := 0, slots := 0, locals := 46 }) s m args below meth c H locs 0 0 (MQ below ((hq_Qi (dC, dI) vwCl [(cI, .int)] (wd_MD_fits q_this q_low q_high q_loaded q_empty q_order q_places q_times q_planOrder q_planTimes q_carriers q_begins cI v_thrown v_tanks v_hasPlan v_cycle v_second v_entered v_done v_took v_stopped v_move v_ends v_onHoist v_began n_f_times f_order f_loaded f_empty f_places f_low f_high) rr) A) args s 0 0 A) (F0 m 102 ls [])) := by
    intro fu
    induction fu with
    | zero => exact ⟨(fun _ _ _ _ _ _ _ _ _ _ _ _ h => by cases h), (fun _ _ _ _ _ _ _ _ _ _ _ _ h => by cases h), (fun _ _ _ _ _ _ _ _ _ _ _ _ h => by cases h)⟩
    | succ fu ih =>
      refine ⟨?_, ?_, ?_⟩
      · intro i1 i2 i3 i4 f_times H locs ls hP hD hS hl hF
        have hF : st_MD_fits z v_tanks f_order f_loaded f_empty f_places f_low f_high (lp_MD_fits z v_tanks f_order f_loaded f_empty f_places f_low f_high fu) 0 i1 i2 i3 i4 f_times = some (rr, n_f_times) := hF
        unfold st_MD_fits at hF
        try dsimp only at hF
        refine lv_iload_n hx hb d_MD_fits_2 rfl (lv_at hl 2 rfl) ?_
        refine lv_aload_n hx hb d_MD_fits_3 rfl (lv_at hl 0 rfl) ?_
        refine va_get (D := (dC, dI)) (ci := 6) (v := .int v_tanks) (C := R_MD) (T := F_MD) (N := 24) hx hb hts uw_MD hown hK hP 0 rfl rfl 1 (by decide) (hts _ tw_172) (fun _ h9 => h9) rfl d_MD_fits_4 ?_
        refine lv_icmp_gt (tgt := 23) hx hb d_MD_fits_7 (by decide) (fun hb1 => ?_) (fun hb1 => ?_)
        · have hF := ox_t hF hb1
          refine lv_iconst (v := 0) hx hb d_MD_fits_23 (by decide) ?_
          refine lv_istore_n (lv' := [(2, .int 0), (0, .ref q_this), (1, .int i1)]) hx hb d_MD_fits_24 rfl hl (by decide) rfl (fun ls hl => ?_)
          exact ih.2.1 i1 0 0 0 f_times _ _ _ hP hD hS (lv_sub hl [1, 2, 0] rfl) hF
        · have hF := ox_f hF hb1
          refine lv_aload_n hx hb d_MD_fits_10 rfl (lv_at hl 0 rfl) ?_
          refine va_get (D := (dC, dI)) (ci := 6) (v := .ref q_times) (C := R_MD) (T := F_MD) (N := 24) hx hb hts uw_MD hown hK hP 0 rfl rfl 8 (by decide) (hts _ tw_190) (fun _ h9 => h9) rfl d_MD_fits_11 ?_
          refine lv_iload_n hx hb d_MD_fits_14 rfl (lv_at hl 2 rfl) ?_
          refine lv_iconst (v := 0) hx hb d_MD_fits_15 (by decide) ?_
          obtain ⟨hin, hF⟩ := ox_gdS hF
          refine va_iast hx hb hK hP hD hS 1 0 rfl rfl hin d_MD_fits_16 (fun H locs hP hD hS => ?_)
          have hP : va_P (dC, dI) vwCl (wd_MD_fits q_this q_low q_high q_loaded q_empty q_order q_places q_times q_planOrder q_planTimes q_carriers q_begins cI v_thrown v_tanks v_hasPlan v_cycle v_second v_entered v_done v_took v_stopped v_move v_ends v_onHoist v_began (upd f_times i2.toNatClampNeg 0) f_order f_loaded f_empty f_places f_low f_high) H := hP
          have hD : va_D A (wd_MD_fits q_this q_low q_high q_loaded q_empty q_order q_places q_times q_planOrder q_planTimes q_carriers q_begins cI v_thrown v_tanks v_hasPlan v_cycle v_second v_entered v_done v_took v_stopped v_move v_ends v_onHoist v_began (upd f_times i2.toNatClampNeg 0) f_order f_loaded f_empty f_places f_low f_high) := hD
          refine lv_iinc (v := (i2 + 1)) (lv' := [(2, .int (i2 + 1)), (0, .ref q_this), (1, .int i1)]) hx hb d_MD_fits_17 hl (k := 2) rfl rfl (by decide) rfl (fun ls hl => ?_)
          refine lv_goto (tgt := 2) hx hb d_MD_fits_20 (by decide) ?_
          exact ih.1 i1 (i2 + 1) 0 0 (upd f_times i2.toNatClampNeg 0) _ _ _ hP hD hS (lv_sub hl [1, 2, 0] rfl) hF
      · intro i1 i2 i3 i4 f_times H locs ls hP hD hS hl hF
        have hF : st_MD_fits z v_tanks f_order f_loaded f_empty f_places f_low f_high (lp_MD_fits z v_tanks f_order f_loaded f_empty f_places f_low f_high fu) 1 i1 i2 i3 i4 f_times = some (rr, n_f_times) := hF
        unfold st_MD_fits at hF
        try dsimp only at hF
        refine lv_iload_n hx hb d_MD_fits_25 rfl (lv_at hl 2 rfl) ?_
        refine lv_bipush (v := 9) hx hb d_MD_fits_26 (by decide) ?_
        refine lv_icmp_ge (tgt := 45) hx hb d_MD_fits_28 (by decide) (fun hb2 => ?_) (fun hb2 => ?_)
        · have hF := ox_t hF hb2
          refine lv_iload_n hx hb d_MD_fits_45 rfl (lv_at hl 2 rfl) ?_
          refine lv_bipush (v := 9) hx hb d_MD_fits_46 (by decide) ?_
          refine lv_icmp_ge (tgt := 97) hx hb d_MD_fits_48 (by decide) (fun _ => ?_) (fun h => absurd hb2 h)
          refine lv_iconst (v := 0) hx hb d_MD_fits_97 (by decide) ?_
          refine lv_istore_n (lv' := [(3, .int 0), (0, .ref q_this), (1, .int i1), (2, .int i2)]) hx hb d_MD_fits_98 rfl hl (by decide) rfl (fun ls hl => ?_)
          refine lv_iconst (v := 0) hx hb d_MD_fits_99 (by decide) ?_
          refine lv_istore (lv' := [(4, .int 0), (3, .int 0), (0, .ref q_this), (1, .int i1), (2, .int i2)]) hx hb d_MD_fits_100 hl (by decide) rfl (fun ls hl => ?_)
          exact ih.2.2 i1 i2 0 0 f_times _ _ _ hP hD hS (lv_sub hl [2, 3, 4, 1, 0] rfl) hF
        · have hF := ox_f hF hb2
          refine lv_aload_n hx hb d_MD_fits_31 rfl (lv_at hl 0 rfl) ?_
          refine lv_iload_n hx hb d_MD_fits_32 rfl (lv_at hl 1 rfl) ?_
          obtain ⟨⟨r3, s3_f_times⟩, hc3, hF⟩ := ox_clS hF
          refine hq_ci (ws' := (wd_MD_fits q_this q_low q_high q_loaded q_empty q_order q_places q_times q_planOrder q_planTimes q_carriers q_begins cI v_thrown v_tanks v_hasPlan v_cycle v_second v_entered v_done v_took v_stopped v_move v_ends v_onHoist v_began s3_f_times f_order f_loaded f_empty f_places f_low f_high)) (hq_rV (As := [.int i1]) (rest := []) ⟨hx, hb, hml, hown, hts⟩ (c_MD_raiseAll l dC dI q_this q_low q_high q_loaded q_empty q_order q_places q_times q_planOrder q_planTimes q_carriers q_begins cI _ z i1 v_thrown v_tanks v_hasPlan v_cycle v_second v_entered v_done v_took v_stopped v_move v_ends v_onHoist v_began f_order f_times f_loaded f_empty f_places f_low f_high r3 s3_f_times hc3) (cwV 1 hts (hq_gV tw_201 tw_202 tw_203 tw_176 tw_204) rfl rfl rfl yv_MD_raiseAll ⟨Nat.le_of_ble_eq_true rfl, Nat.le_of_ble_eq_true rfl⟩) hP hD hK [0] rfl 0 rfl rfl [0, 2, 1, 3, 4, 5, 6, 7] rfl rfl rfl hl.1 rfl (Nat.le_of_ble_eq_true rfl) d_MD_fits_33 ⟨Nat.zero_le _, Nat.zero_le _⟩) hP hD hS hA [0, 2, 1, 3, 4, 5, 6, 7] [] [0, 2, 1, 3, 4, 5, 6, 7] rfl rfl rfl (by decide) rfl rfl (fun H locs hP hD hS => ?_)
          refine lv_if_eq (tgt := 45) hx hb d_MD_fits_36 (by decide) (fun hb4 => ?_) (fun hb4 => ?_)
          · have hF := ox_t hF hb4
            refine lv_iload_n hx hb d_MD_fits_45 rfl (lv_at hl 2 rfl) ?_
            refine lv_bipush (v := 9) hx hb d_MD_fits_46 (by decide) ?_
            refine lv_icmp_ge (tgt := 97) hx hb d_MD_fits_48 (by decide) (fun h => absurd h hb2) (fun _ => ?_)
            refine lv_aload_n hx hb d_MD_fits_51 rfl (lv_at hl 0 rfl) ?_
            refine va_get (D := (dC, dI)) (ci := 6) (v := .ref q_times) (C := R_MD) (T := F_MD) (N := 24) hx hb hts uw_MD hown hK hP 0 rfl rfl 8 (by decide) (hts _ tw_190) (fun _ h9 => h9) rfl d_MD_fits_52 ?_
            refine lv_iconst (v := 0) hx hb d_MD_fits_55 (by decide) ?_
            have hin : vp_in 0 6 := by unfold vp_in; decide
            refine va_iald hx hb hK hP 1 0 rfl rfl hin d_MD_fits_56 ?_
            refine lv_if_ne (tgt := 97) hx hb d_MD_fits_57 (by decide) (fun hb5 => ?_) (fun hb5 => ?_)
            · have hF := ox_t hF hb5
              refine lv_iconst (v := 0) hx hb d_MD_fits_97 (by decide) ?_
              refine lv_istore_n (lv' := [(3, .int 0), (0, .ref q_this), (1, .int i1), (2, .int i2)]) hx hb d_MD_fits_98 rfl hl (by decide) rfl (fun ls hl => ?_)
              refine lv_iconst (v := 0) hx hb d_MD_fits_99 (by decide) ?_
              refine lv_istore (lv' := [(4, .int 0), (3, .int 0), (0, .ref q_this), (1, .int i1), (2, .int i2)]) hx hb d_MD_fits_100 hl (by decide) rfl (fun ls hl => ?_)
              exact ih.2.2 i1 i2 0 0 s3_f_times _ _ _ hP hD hS (lv_sub hl [2, 3, 4, 1, 0] rfl) hF
            · have hF := ox_fn hF hb5
              refine lv_aload_n hx hb d_MD_fits_60 rfl (lv_at hl 0 rfl) ?_
              refine va_get (D := (dC, dI)) (ci := 6) (v := .ref q_times) (C := R_MD) (T := F_MD) (N := 24) hx hb hts uw_MD hown hK hP 0 rfl rfl 8 (by decide) (hts _ tw_190) (fun _ h9 => h9) rfl d_MD_fits_61 ?_
              refine lv_aload_n hx hb d_MD_fits_64 rfl (lv_at hl 0 rfl) ?_
              refine va_get (D := (dC, dI)) (ci := 6) (v := .ref q_order) (C := R_MD) (T := F_MD) (N := 24) hx hb hts uw_MD hown hK hP 0 rfl rfl 6 (by decide) (hts _ tw_191) (fun _ h9 => h9) rfl d_MD_fits_65 ?_
              refine lv_aload_n hx hb d_MD_fits_68 rfl (lv_at hl 0 rfl) ?_
              refine va_get (D := (dC, dI)) (ci := 6) (v := .int v_tanks) (C := R_MD) (T := F_MD) (N := 24) hx hb hts uw_MD hown hK hP 0 rfl rfl 1 (by decide) (hts _ tw_172) (fun _ h9 => h9) rfl d_MD_fits_69 ?_
              obtain ⟨hin, hF⟩ := ox_gdS hF
              refine va_iald hx hb hK hP 2 0 rfl rfl hin d_MD_fits_72 ?_
              obtain ⟨hin, hF⟩ := ox_gdS hF
              refine va_iald hx hb hK hP 1 0 rfl rfl hin d_MD_fits_73 ?_
              refine lv_aload_n hx hb d_MD_fits_74 rfl (lv_at hl 0 rfl) ?_
              refine lv_aload_n hx hb d_MD_fits_75 rfl (lv_at hl 0 rfl) ?_
              refine va_get (D := (dC, dI)) (ci := 6) (v := .ref q_order) (C := R_MD) (T := F_MD) (N := 24) hx hb hts uw_MD hown hK hP 0 rfl rfl 6 (by decide) (hts _ tw_191) (fun _ h9 => h9) rfl d_MD_fits_76 ?_
              refine lv_aload_n hx hb d_MD_fits_79 rfl (lv_at hl 0 rfl) ?_
              refine va_get (D := (dC, dI)) (ci := 6) (v := .int v_tanks) (C := R_MD) (T := F_MD) (N := 24) hx hb hts uw_MD hown hK hP 0 rfl rfl 1 (by decide) (hts _ tw_172) (fun _ h9 => h9) rfl d_MD_fits_80 ?_
              obtain ⟨hin, hF⟩ := ox_gdS hF
              refine va_iald hx hb hK hP 2 0 rfl rfl hin d_MD_fits_83 ?_
              refine lv_iconst (v := 0) hx hb d_MD_fits_84 (by decide) ?_
              obtain ⟨r6, hc6, hF⟩ := ox_clS hF
              refine hq_ci (ws' := (wd_MD_fits q_this q_low q_high q_loaded q_empty q_order q_places q_times q_planOrder q_planTimes q_carriers q_begins cI v_thrown v_tanks v_hasPlan v_cycle v_second v_entered v_done v_took v_stopped v_move v_ends v_onHoist v_began s3_f_times f_order f_loaded f_empty f_places f_low f_high)) (hq_rV (As := [.int (f_order v_tanks.toNatClampNeg), .int 0]) (rest := [.int (s3_f_times (f_order v_tanks.toNatClampNeg).toNatClampNeg)]) ⟨hx, hb, hml, hown, hts⟩ (c_MD_behind l dC dI q_this q_low q_high q_loaded q_empty q_order q_places q_times q_planOrder q_planTimes q_carriers q_begins cI _ (f_order v_tanks.toNatClampNeg) 0 v_thrown v_tanks v_hasPlan v_cycle v_second v_entered v_done v_took v_stopped v_move v_ends v_onHoist v_began f_loaded f_empty r6 hc6) (cwV 2 hts (hq_gV tw_192 tw_193 tw_194 tw_176 tw_195) rfl rfl rfl yv_MD_behind ⟨Nat.le_of_ble_eq_true rfl, Nat.le_of_ble_eq_true rfl⟩) hP hD hK [0] rfl 0 rfl rfl [0, 3, 4] rfl rfl rfl hl.1 rfl (Nat.le_of_ble_eq_true rfl) d_MD_fits_85 ⟨Nat.zero_le _, Nat.zero_le _⟩) hP hD hS hA [0, 3, 4] [1, 2, 5, 6, 7] [5, 0, 1, 6, 7, 2, 3, 4] rfl rfl rfl (by decide) rfl rfl (fun H locs hP hD hS => ?_)
              refine lv_iadd hx hb d_MD_fits_88 ?_
              refine lv_iload_n hx hb d_MD_fits_89 rfl (lv_at hl 1 rfl) ?_
              refine lv_icmp_gt (tgt := 97) hx hb d_MD_fits_90 (by decide) (fun hb7 => ?_) (fun hb7 => ?_)
              · have hF := ox_t hF hb7
                refine lv_iconst (v := 0) hx hb d_MD_fits_97 (by decide) ?_
                refine lv_istore_n (lv' := [(3, .int 0), (0, .ref q_this), (1, .int i1), (2, .int i2)]) hx hb d_MD_fits_98 rfl hl (by decide) rfl (fun ls hl => ?_)
                refine lv_iconst (v := 0) hx hb d_MD_fits_99 (by decide) ?_
                refine lv_istore (lv' := [(4, .int 0), (3, .int 0), (0, .ref q_this), (1, .int i1), (2, .int i2)]) hx hb d_MD_fits_100 hl (by decide) rfl (fun ls hl => ?_)
                exact ih.2.2 i1 i2 0 0 s3_f_times _ _ _ hP hD hS (lv_sub hl [2, 3, 4, 1, 0] rfl) hF
              · have hF := ox_f hF hb7
                refine lv_iconst (v := 1) hx hb d_MD_fits_93 (by decide) ?_
                refine lv_goto (tgt := 98) hx hb d_MD_fits_94 (by decide) ?_
                refine lv_istore_n (lv' := [(3, .int 1), (0, .ref q_this), (1, .int i1), (2, .int i2)]) hx hb d_MD_fits_98 rfl hl (by decide) rfl (fun ls hl => ?_)
                refine lv_iconst (v := 0) hx hb d_MD_fits_99 (by decide) ?_
                refine lv_istore (lv' := [(4, .int 0), (3, .int 1), (0, .ref q_this), (1, .int i1), (2, .int i2)]) hx hb d_MD_fits_100 hl (by decide) rfl (fun ls hl => ?_)
                exact ih.2.2 i1 i2 1 0 s3_f_times _ _ _ hP hD hS (lv_sub hl [2, 3, 4, 1, 0] rfl) hF
          · have hF := ox_f hF hb4
            refine lv_iinc (v := (i2 + 1)) (lv' := [(2, .int (i2 + 1)), (0, .ref q_this), (1, .int i1)]) hx hb d_MD_fits_39 hl (k := 2) rfl rfl (by decide) rfl (fun ls hl => ?_)
            refine lv_goto (tgt := 25) hx hb d_MD_fits_42 (by decide) ?_
            exact ih.2.1 i1 (i2 + 1) 0 0 s3_f_times _ _ _ hP hD hS (lv_sub hl [1, 2, 0] rfl) hF
      · intro i1 i2 i3 i4 f_times H locs ls hP hD hS hl hF
        have hF : st_MD_fits z v_tanks f_order f_loaded f_empty f_places f_low f_high (lp_MD_fits z v_tanks f_order f_loaded f_empty f_places f_low f_high fu) 2 i1 i2 i3 i4 f_times = some (rr, n_f_times) := hF
        unfold st_MD_fits at hF
        try dsimp only at hF
        refine lv_iload hx hb d_MD_fits_102 (lv_at hl 4 rfl) ?_
        refine lv_aload_n hx hb d_MD_fits_104 rfl (lv_at hl 0 rfl) ?_
        refine va_get (D := (dC, dI)) (ci := 6) (v := .int v_tanks) (C := R_MD) (T := F_MD) (N := 24) hx hb hts uw_MD hown hK hP 0 rfl rfl 1 (by decide) (hts _ tw_172) (fun _ h9 => h9) rfl d_MD_fits_105 ?_
        refine lv_icmp_gt (tgt := 138) hx hb d_MD_fits_108 (by decide) (fun hb8 => ?_) (fun hb8 => ?_)
        · have hF := ox_t hF hb8
          refine lv_iload_n hx hb d_MD_fits_138 rfl (lv_at hl 3 rfl) ?_
          obtain ⟨hbg, hF⟩ := ox_bgS hF
          cases hF
          exact hq_zret hx hb hr hbg hlocks hP hD hK hS d_MD_fits_139
        · have hF := ox_f hF hb8
          refine lv_iload_n hx hb d_MD_fits_111 rfl (lv_at hl 3 rfl) ?_
          refine lv_if_eq (tgt := 130) hx hb d_MD_fits_112 (by decide) (fun hb9 => ?_) (fun hb9 => ?_)
          · have hF := ox_t hF hb9
            refine lv_iconst (v := 0) hx hb d_MD_fits_130 (by decide) ?_
            refine lv_istore_n (lv' := [(3, .int 0), (0, .ref q_this), (1, .int i1), (2, .int i2), (4, .int i4)]) hx hb d_MD_fits_131 rfl hl (by decide) rfl (fun ls hl => ?_)
            refine lv_iinc (v := (i4 + 1)) (lv' := [(4, .int (i4 + 1)), (3, .int 0), (0, .ref q_this), (1, .int i1), (2, .int i2)]) hx hb d_MD_fits_132 hl (k := 4) rfl rfl (by decide) rfl (fun ls hl => ?_)
            refine lv_goto (tgt := 102) hx hb d_MD_fits_135 (by decide) ?_
            exact ih.2.2 i1 i2 0 (i4 + 1) f_times _ _ _ hP hD hS (lv_sub hl [2, 3, 4, 1, 0] rfl) hF
          · have hF := ox_f hF hb9
            refine lv_aload_n hx hb d_MD_fits_115 rfl (lv_at hl 0 rfl) ?_
            refine va_get (D := (dC, dI)) (ci := 6) (v := .ref q_times) (C := R_MD) (T := F_MD) (N := 24) hx hb hts uw_MD hown hK hP 0 rfl rfl 8 (by decide) (hts _ tw_190) (fun _ h9 => h9) rfl d_MD_fits_116 ?_
            refine lv_iload hx hb d_MD_fits_119 (lv_at hl 4 rfl) ?_
            obtain ⟨hin, hF⟩ := ox_gdS hF
            refine va_iald hx hb hK hP 1 0 rfl rfl hin d_MD_fits_121 ?_
            refine lv_iload_n hx hb d_MD_fits_122 rfl (lv_at hl 1 rfl) ?_
            refine lv_icmp_ge (tgt := 130) hx hb d_MD_fits_123 (by decide) (fun hb10 => ?_) (fun hb10 => ?_)
            · have hF := ox_t hF hb10
              refine lv_iconst (v := 0) hx hb d_MD_fits_130 (by decide) ?_
              refine lv_istore_n (lv' := [(3, .int 0), (0, .ref q_this), (1, .int i1), (2, .int i2), (4, .int i4)]) hx hb d_MD_fits_131 rfl hl (by decide) rfl (fun ls hl => ?_)
              refine lv_iinc (v := (i4 + 1)) (lv' := [(4, .int (i4 + 1)), (3, .int 0), (0, .ref q_this), (1, .int i1), (2, .int i2)]) hx hb d_MD_fits_132 hl (k := 4) rfl rfl (by decide) rfl (fun ls hl => ?_)
              refine lv_goto (tgt := 102) hx hb d_MD_fits_135 (by decide) ?_
              exact ih.2.2 i1 i2 0 (i4 + 1) f_times _ _ _ hP hD hS (lv_sub hl [2, 3, 4, 1, 0] rfl) hF
            · have hF := ox_f hF hb10
              refine lv_iconst (v := 1) hx hb d_MD_fits_126 (by decide) ?_
              refine lv_goto (tgt := 131) hx hb d_MD_fits_127 (by decide) ?_
              refine lv_istore_n (lv' := [(3, .int 1), (0, .ref q_this), (1, .int i1), (2, .int i2), (4, .int i4)]) hx hb d_MD_fits_131 rfl hl (by decide) rfl (fun ls hl => ?_)
              refine lv_iinc (v := (i4 + 1)) (lv' := [(4, .int (i4 + 1)), (3, .int 1), (0, .ref q_this), (1, .int i1), (2, .int i2)]) hx hb d_MD_fits_132 hl (k := 4) rfl rfl (by decide) rfl (fun ls hl => ?_)
              refine lv_goto (tgt := 102) hx hb d_MD_fits_135 (by decide) ?_
              exact ih.2.2 i1 i2 1 (i4 + 1) f_times _ _ _ hP hD hS (lv_sub hl [2, 3, 4, 1, 0] rfl) hF
  refine lv_iconst (v := 0) hx hb d_MD_fits_0 (by decide) ?_
  refine lv_istore_n (lv' := [(2, .int 0), (0, .ref q_this), (1, .int a1)]) hx hb d_MD_fits_1 rfl hl (by decide) rfl (fun ls hl => ?_)
  exact (loop z).1 a1 0 0 0 f_times _ _ _ hP hD hS (lv_sub hl [1, 2, 0] rfl) hF
abbrev wd_MD_seat (q_this : Nat) (q_low : Nat) (q_high : Nat) (q_loaded : Nat) (q_empty : Nat) (q_order : Nat) (q_places : Nat) (q_times : Nat) (q_planOrder : Nat) (q_planTimes : Nat) (q_carriers : Nat) (q_begins : Nat) (cI : ClassId) (v_thrown : Int32) (v_tanks : Int32) (v_hasPlan : Int32) (v_cycle : Int32) (v_second : Int32) (v_entered : Int32) (v_done : Int32) (v_took : Int32) (v_stopped : Int32) (v_move : Int32) (v_ends : Int32) (v_onHoist : Int32) (v_began : Int32) (f_order : Nat → Int32) (f_places : Nat → Int32) : va_W := [(q_this, .inr (6, [.int v_thrown, .int v_tanks, .ref q_low, .ref q_high, .ref q_loaded, .ref q_empty, .ref q_order, .ref q_places, .ref q_times, .int v_hasPlan, .int v_cycle, .ref q_planOrder, .ref q_planTimes, .int v_second, .int v_entered, .int v_done, .int v_took, .int v_stopped, .ref q_carriers, .ref q_begins, .int v_move, .int v_ends, .int v_onHoist, .int v_began])), (q_order, .inl (cI, 6, .inl f_order)), (q_places, .inl (cI, 6, .inl f_places))]
set_option maxHeartbeats 4000000 in
set_option maxRecDepth 100000 in
theorem c_MD_seat (l : Launch) (dC : Nat → ClassId) (dI : Nat → Nat → Nat) (q_this : Nat) (q_low : Nat) (q_high : Nat) (q_loaded : Nat) (q_empty : Nat) (q_order : Nat) (q_places : Nat) (q_times : Nat) (q_planOrder : Nat) (q_planTimes : Nat) (q_carriers : Nat) (q_begins : Nat) (cI : ClassId) (sz : Nat) (z : Nat) (v_thrown : Int32) (v_tanks : Int32) (v_hasPlan : Int32) (v_cycle : Int32) (v_second : Int32) (v_entered : Int32) (v_done : Int32) (v_took : Int32) (v_stopped : Int32) (v_move : Int32) (v_ends : Int32) (v_onHoist : Int32) (v_began : Int32) (f_order : Nat → Int32) (f_places : Nat → Int32) (n_f_places : Nat → Int32) (hF : fn_MD_seat z v_tanks f_order f_places = some n_f_places) : Met l y_MD_seat w_MD_seat ({ frames := 0, cells := 0, slots := 0, locals := 0 }) (hq_Pc (dC, dI) vwCl [(cI, .int)] (wd_MD_seat q_this q_low q_high q_loaded q_empty q_order q_places q_times q_planOrder q_planTimes q_carriers q_begins cI v_thrown v_tanks v_hasPlan v_cycle v_second v_entered v_done v_took v_stopped v_move v_ends v_onHoist v_began f_order f_places) sz [.ref q_this]) (hq_Qv (dC, dI) vwCl [(cI, .int)] (wd_MD_seat q_this q_low q_high q_loaded q_empty q_order q_places q_times q_planOrder q_planTimes q_carriers q_begins cI v_thrown v_tanks v_hasPlan v_cycle v_second v_entered v_done v_took v_stopped v_move v_ends v_onHoist v_began f_order n_f_places) (va_A (wd_MD_seat q_this q_low q_high q_loaded q_empty q_order q_places q_times q_planOrder q_planTimes q_carriers q_begins cI v_thrown v_tanks v_hasPlan v_cycle v_second v_entered v_done v_took v_stopped v_move v_ends v_onHoist v_began f_order f_places) sz)) 0 0 (va_A (wd_MD_seat q_this q_low q_high q_loaded q_empty q_order q_places q_times q_planOrder q_planTimes q_carriers q_begins cI v_thrown v_tanks v_hasPlan v_cycle v_second v_entered v_done v_took v_stopped v_move v_ends v_onHoist v_began f_order f_places) sz) := by
  refine hq_met (Qc := (hq_Qv (dC, dI) vwCl [(cI, .int)] (wd_MD_seat q_this q_low q_high q_loaded q_empty q_order q_places q_times q_planOrder q_planTimes q_carriers q_begins cI v_thrown v_tanks v_hasPlan v_cycle v_second v_entered v_done v_took v_stopped v_move v_ends v_onHoist v_began f_order n_f_places))) (cc := b_MD_seat) (maxL := 2) (ret := none) (by decide) rfl (Nat.le_of_ble_eq_true rfl) ?_
  intro p e s m args below meth c A ls hx hb hr hml hts hown hlocks hnm hP hD hK hA hS hl
  have hts : ∀ w ∈ tb0, w.before args s = true := fun w h => hts w (List.mem_cons_of_mem _ h)
  have hown : s.vm.findClass R_MD = some m.cls := hown
  have hl : lv_has ls 2 [(0, .ref q_this)] := hl
  unfold fn_MD_seat at hF
  have loop : ∀ fu : Nat, (∀ (i1 : Int32) (f_places : Nat → Int32) (H : Heap) (locs : List Loc) (ls : Array Slot), va_P (dC, dI) vwCl (wd_MD_seat q_this q_low q_high q_loaded q_empty q_order q_places q_times q_planOrder q_planTimes q_carriers q_begins cI v_thrown v_tanks v_hasPlan v_cycle v_second v_entered v_done v_took v_stopped v_move v_ends v_onHoist v_began f_order f_places) H → va_D A (wd_MD_seat q_this q_low q_high q_loaded q_empty q_order q_places q_times q_planOrder q_planTimes q_carriers q_begins cI v_thrown v_tanks v_hasPlan v_cycle v_second v_entered v_done v_took v_stopped v_move v_ends v_onHoist v_began f_order f_places) → va_S A s.heap H locs → lv_has ls 2 [(0, .ref q_this), (1, .int i1)] → lp_MD_seat v_tanks f_order fu 0 i1 f_places = some n_f_places → W p l e ({ frames := 0, cells := 0, slots := 0, locals := 0 }) s m args below meth c H locs 0 0 (MQ below ((hq_Qv (dC, dI) vwCl [(cI, .int)] (wd_MD_seat q_this q_low q_high q_loaded q_empty q_order q_places q_times q_planOrder q_planTimes q_carriers q_begins cI v_thrown v_tanks v_hasPlan v_cycle v_second v_entered v_done v_took v_stopped v_move v_ends v_onHoist v_began f_order n_f_places)) A) args s 0 0 A) (F0 m 2 ls [])) := by
    intro fu
    induction fu with
    | zero => exact (fun _ _ _ _ _ _ _ _ _ h => by cases h)
    | succ fu ih =>
      intro i1 f_places H locs ls hP hD hS hl hF
      have hF : st_MD_seat v_tanks f_order (lp_MD_seat v_tanks f_order fu) 0 i1 f_places = some n_f_places := hF
      unfold st_MD_seat at hF
      try dsimp only at hF
      refine lv_iload_n hx hb d_MD_seat_2 rfl (lv_at hl 1 rfl) ?_
      refine lv_aload_n hx hb d_MD_seat_3 rfl (lv_at hl 0 rfl) ?_
      refine va_get (D := (dC, dI)) (ci := 6) (v := .int v_tanks) (C := R_MD) (T := F_MD) (N := 24) hx hb hts uw_MD hown hK hP 0 rfl rfl 1 (by decide) (hts _ tw_172) (fun _ h9 => h9) rfl d_MD_seat_4 ?_
      refine lv_icmp_gt (tgt := 28) hx hb d_MD_seat_7 (by decide) (fun hb1 => ?_) (fun hb1 => ?_)
      · have hF := ox_t hF hb1
        cases hF
        exact hq_vret hx hb hr hlocks hP hD hK hS d_MD_seat_28
      · have hF := ox_f hF hb1
        refine lv_aload_n hx hb d_MD_seat_10 rfl (lv_at hl 0 rfl) ?_
        refine va_get (D := (dC, dI)) (ci := 6) (v := .ref q_places) (C := R_MD) (T := F_MD) (N := 24) hx hb hts uw_MD hown hK hP 0 rfl rfl 7 (by decide) (hts _ tw_200) (fun _ h9 => h9) rfl d_MD_seat_11 ?_
        refine lv_aload_n hx hb d_MD_seat_14 rfl (lv_at hl 0 rfl) ?_
        refine va_get (D := (dC, dI)) (ci := 6) (v := .ref q_order) (C := R_MD) (T := F_MD) (N := 24) hx hb hts uw_MD hown hK hP 0 rfl rfl 6 (by decide) (hts _ tw_191) (fun _ h9 => h9) rfl d_MD_seat_15 ?_
        refine lv_iload_n hx hb d_MD_seat_18 rfl (lv_at hl 1 rfl) ?_
        obtain ⟨hin, hF⟩ := ox_gdS hF
        refine va_iald hx hb hK hP 1 0 rfl rfl hin d_MD_seat_19 ?_
        refine lv_iload_n hx hb d_MD_seat_20 rfl (lv_at hl 1 rfl) ?_
        obtain ⟨hin, hF⟩ := ox_gdS hF
        refine va_iast hx hb hK hP hD hS 2 0 rfl rfl hin d_MD_seat_21 (fun H locs hP hD hS => ?_)
        have hP : va_P (dC, dI) vwCl (wd_MD_seat q_this q_low q_high q_loaded q_empty q_order q_places q_times q_planOrder q_planTimes q_carriers q_begins cI v_thrown v_tanks v_hasPlan v_cycle v_second v_entered v_done v_took v_stopped v_move v_ends v_onHoist v_began f_order (upd f_places (f_order i1.toNatClampNeg).toNatClampNeg i1)) H := hP
        have hD : va_D A (wd_MD_seat q_this q_low q_high q_loaded q_empty q_order q_places q_times q_planOrder q_planTimes q_carriers q_begins cI v_thrown v_tanks v_hasPlan v_cycle v_second v_entered v_done v_took v_stopped v_move v_ends v_onHoist v_began f_order (upd f_places (f_order i1.toNatClampNeg).toNatClampNeg i1)) := hD
        refine lv_iinc (v := (i1 + 1)) (lv' := [(1, .int (i1 + 1)), (0, .ref q_this)]) hx hb d_MD_seat_22 hl (k := 1) rfl rfl (by decide) rfl (fun ls hl => ?_)
        refine lv_goto (tgt := 2) hx hb d_MD_seat_25 (by decide) ?_
        exact ih (i1 + 1) (upd f_places (f_order i1.toNatClampNeg).toNatClampNeg i1) _ _ _ hP hD hS (lv_sub hl [1, 0] rfl) hF
  refine lv_iconst (v := 0) hx hb d_MD_seat_0 (by decide) ?_
  refine lv_istore_n (lv' := [(1, .int 0), (0, .ref q_this)]) hx hb d_MD_seat_1 rfl hl (by decide) rfl (fun ls hl => ?_)
  exact (loop z) 0 f_places _ _ _ hP hD hS (lv_sub hl [1, 0] rfl) hF
abbrev wd_MD_leastOf (q_this : Nat) (q_low : Nat) (q_high : Nat) (q_loaded : Nat) (q_empty : Nat) (q_order : Nat) (q_places : Nat) (q_times : Nat) (q_planOrder : Nat) (q_planTimes : Nat) (q_carriers : Nat) (q_begins : Nat) (cI : ClassId) (v_thrown : Int32) (v_tanks : Int32) (v_hasPlan : Int32) (v_cycle : Int32) (v_second : Int32) (v_entered : Int32) (v_done : Int32) (v_took : Int32) (v_stopped : Int32) (v_move : Int32) (v_ends : Int32) (v_onHoist : Int32) (v_began : Int32) (f_order : Nat → Int32) (f_places : Nat → Int32) (f_loaded : Nat → Int32) (f_empty : Nat → Int32) (f_times : Nat → Int32) (f_low : Nat → Int32) (f_high : Nat → Int32) : va_W := [(q_this, .inr (6, [.int v_thrown, .int v_tanks, .ref q_low, .ref q_high, .ref q_loaded, .ref q_empty, .ref q_order, .ref q_places, .ref q_times, .int v_hasPlan, .int v_cycle, .ref q_planOrder, .ref q_planTimes, .int v_second, .int v_entered, .int v_done, .int v_took, .int v_stopped, .ref q_carriers, .ref q_begins, .int v_move, .int v_ends, .int v_onHoist, .int v_began])), (q_order, .inl (cI, 6, .inl f_order)), (q_places, .inl (cI, 6, .inl f_places)), (q_loaded, .inl (cI, 6, .inl f_loaded)), (q_empty, .inl (cI, 49, .inl f_empty)), (q_times, .inl (cI, 6, .inl f_times)), (q_low, .inl (cI, 6, .inl f_low)), (q_high, .inl (cI, 6, .inl f_high))]
set_option maxHeartbeats 4000000 in
set_option maxRecDepth 100000 in
theorem c_MD_leastOf (l : Launch) (dC : Nat → ClassId) (dI : Nat → Nat → Nat) (q_this : Nat) (q_low : Nat) (q_high : Nat) (q_loaded : Nat) (q_empty : Nat) (q_order : Nat) (q_places : Nat) (q_times : Nat) (q_planOrder : Nat) (q_planTimes : Nat) (q_carriers : Nat) (q_begins : Nat) (cI : ClassId) (sz : Nat) (z : Nat) (a1 : Int32) (v_thrown : Int32) (v_tanks : Int32) (v_hasPlan : Int32) (v_cycle : Int32) (v_second : Int32) (v_entered : Int32) (v_done : Int32) (v_took : Int32) (v_stopped : Int32) (v_move : Int32) (v_ends : Int32) (v_onHoist : Int32) (v_began : Int32) (f_order : Nat → Int32) (f_places : Nat → Int32) (f_loaded : Nat → Int32) (f_empty : Nat → Int32) (f_times : Nat → Int32) (f_low : Nat → Int32) (f_high : Nat → Int32) (rr : Int32) (n_f_places : Nat → Int32) (n_f_times : Nat → Int32) (hF : fn_MD_leastOf z a1 v_tanks f_order f_places f_loaded f_empty f_times f_low f_high = some (rr, n_f_places, n_f_times)) : Met l y_MD_leastOf w_MD_leastOf ({ frames := 3, cells := 0, slots := 0, locals := 70 }) (hq_Pc (dC, dI) vwCl [(cI, .int)] (wd_MD_leastOf q_this q_low q_high q_loaded q_empty q_order q_places q_times q_planOrder q_planTimes q_carriers q_begins cI v_thrown v_tanks v_hasPlan v_cycle v_second v_entered v_done v_took v_stopped v_move v_ends v_onHoist v_began f_order f_places f_loaded f_empty f_times f_low f_high) sz [.ref q_this, .int a1]) (hq_Qi (dC, dI) vwCl [(cI, .int)] (wd_MD_leastOf q_this q_low q_high q_loaded q_empty q_order q_places q_times q_planOrder q_planTimes q_carriers q_begins cI v_thrown v_tanks v_hasPlan v_cycle v_second v_entered v_done v_took v_stopped v_move v_ends v_onHoist v_began f_order n_f_places f_loaded f_empty n_f_times f_low f_high) rr (va_A (wd_MD_leastOf q_this q_low q_high q_loaded q_empty q_order q_places q_times q_planOrder q_planTimes q_carriers q_begins cI v_thrown v_tanks v_hasPlan v_cycle v_second v_entered v_done v_took v_stopped v_move v_ends v_onHoist v_began f_order f_places f_loaded f_empty f_times f_low f_high) sz)) 0 0 (va_A (wd_MD_leastOf q_this q_low q_high q_loaded q_empty q_order q_places q_times q_planOrder q_planTimes q_carriers q_begins cI v_thrown v_tanks v_hasPlan v_cycle v_second v_entered v_done v_took v_stopped v_move v_ends v_onHoist v_began f_order f_places f_loaded f_empty f_times f_low f_high) sz) := by
  refine hq_met (Qc := (hq_Qi (dC, dI) vwCl [(cI, .int)] (wd_MD_leastOf q_this q_low q_high q_loaded q_empty q_order q_places q_times q_planOrder q_planTimes q_carriers q_begins cI v_thrown v_tanks v_hasPlan v_cycle v_second v_entered v_done v_took v_stopped v_move v_ends v_onHoist v_began f_order n_f_places f_loaded f_empty n_f_times f_low f_high) rr)) (cc := b_MD_leastOf) (maxL := 4) (ret := some .int) (by decide) rfl (Nat.le_of_ble_eq_true rfl) ?_
  intro p e s m args below meth c A ls hx hb hr hml hts hown hlocks hnm hP hD hK hA hS hl
  have hts : ∀ w ∈ tb0, w.before args s = true := fun w h => hts w (List.mem_cons_of_mem _ h)
  have hown : s.vm.findClass R_MD = some m.cls := hown
  have hl : lv_has ls 4 [(0, .ref q_this), (1, .int a1)] := hl
  unfold fn_MD_leastOf at hF
  have loop : ∀ fu : Nat, (∀ (i1 : Int32) (i2 : Int32) (i3 : Int32) (f_places : Nat → Int32) (f_times : Nat → Int32) (H : Heap) (locs : List Loc) (ls : Array Slot), va_P (dC, dI) vwCl (wd_MD_leastOf q_this q_low q_high q_loaded q_empty q_order q_places q_times q_planOrder q_planTimes q_carriers q_begins cI v_thrown v_tanks v_hasPlan v_cycle v_second v_entered v_done v_took v_stopped v_move v_ends v_onHoist v_began f_order f_places f_loaded f_empty f_times f_low f_high) H → va_D A (wd_MD_leastOf q_this q_low q_high q_loaded q_empty q_order q_places q_times q_planOrder q_planTimes q_carriers q_begins cI v_thrown v_tanks v_hasPlan v_cycle v_second v_entered v_done v_took v_stopped v_move v_ends v_onHoist v_began f_order f_places f_loaded f_empty f_times f_low f_high) → va_S A s.heap H locs → lv_has ls 4 [(0, .ref q_this), (1, .int i1), (2, .int i2), (3, .int i3)] → lp_MD_leastOf z v_tanks f_order f_loaded f_empty f_low f_high fu 0 i1 i2 i3 f_places f_times = some (rr, n_f_places, n_f_times) → W p l e ({ frames := 3, cells := 0, slots := 0, locals := 70 }) s m args below meth c H locs 0 0 (MQ below ((hq_Qi (dC, dI) vwCl [(cI, .int)] (wd_MD_leastOf q_this q_low q_high q_loaded q_empty q_order q_places q_times q_planOrder q_planTimes q_carriers q_begins cI v_thrown v_tanks v_hasPlan v_cycle v_second v_entered v_done v_took v_stopped v_move v_ends v_onHoist v_began f_order n_f_places f_loaded f_empty n_f_times f_low f_high) rr) A) args s 0 0 A) (F0 m 8 ls [])) ∧ (∀ (i1 : Int32) (i2 : Int32) (i3 : Int32) (f_places : Nat → Int32) (f_times : Nat → Int32) (H : Heap) (locs : List Loc) (ls : Array Slot), va_P (dC, dI) vwCl (wd_MD_leastOf q_this q_low q_high q_loaded q_empty q_order q_places q_times q_planOrder q_planTimes q_carriers q_begins cI v_thrown v_tanks v_hasPlan v_cycle v_second v_entered v_done v_took v_stopped v_move v_ends v_onHoist v_began f_order f_places f_loaded f_empty f_times f_low f_high) H → va_D A (wd_MD_leastOf q_this q_low q_high q_loaded q_empty q_order q_places q_times q_planOrder q_planTimes q_carriers q_begins cI v_thrown v_tanks v_hasPlan v_cycle v_second v_entered v_done v_took v_stopped v_move v_ends v_onHoist v_began f_order f_places f_loaded f_empty f_times f_low f_high) → va_S A s.heap H locs → lv_has ls 4 [(0, .ref q_this), (1, .int i1), (2, .int i2), (3, .int i3)] → lp_MD_leastOf z v_tanks f_order f_loaded f_empty f_low f_high fu 1 i1 i2 i3 f_places f_times = some (rr, n_f_places, n_f_times) → W p l e ({ frames := 3, cells := 0, slots := 0, locals := 70 }) s m args below meth c H locs 0 0 (MQ below ((hq_Qi (dC, dI) vwCl [(cI, .int)] (wd_MD_leastOf q_this q_low q_high q_loaded q_empty q_order q_places q_times q_planOrder q_planTimes q_carriers q_begins cI v_thrown v_tanks v_hasPlan v_cycle v_second v_entered v_done v_took v_stopped v_move v_ends v_onHoist v_began f_order n_f_places f_loaded f_empty n_f_times f_low f_high) rr) A) args s 0 0 A) (F0 m 66 ls [])) := by
    intro fu
    induction fu with
    | zero => exact ⟨(fun _ _ _ _ _ _ _ _ _ _ _ _ h => by cases h), (fun _ _ _ _ _ _ _ _ _ _ _ _ h => by cases h)⟩
    | succ fu ih =>
      refine ⟨?_, ?_⟩
      · intro i1 i2 i3 f_places f_times H locs ls hP hD hS hl hF
        have hF : st_MD_leastOf z v_tanks f_order f_loaded f_empty f_low f_high (lp_MD_leastOf z v_tanks f_order f_loaded f_empty f_low f_high fu) 0 i1 i2 i3 f_places f_times = some (rr, n_f_places, n_f_times) := hF
        unfold st_MD_leastOf at hF
        try dsimp only at hF
        refine lv_iload_n hx hb d_MD_leastOf_8 rfl (lv_at hl 3 rfl) ?_
        refine lv_aload_n hx hb d_MD_leastOf_9 rfl (lv_at hl 0 rfl) ?_
        refine va_get (D := (dC, dI)) (ci := 6) (v := .int v_tanks) (C := R_MD) (T := F_MD) (N := 24) hx hb hts uw_MD hown hK hP 0 rfl rfl 1 (by decide) (hts _ tw_172) (fun _ h9 => h9) rfl d_MD_leastOf_10 ?_
        refine lv_icmp_gt (tgt := 55) hx hb d_MD_leastOf_13 (by decide) (fun hb2 => ?_) (fun hb2 => ?_)
        · have hF := ox_t hF hb2
          refine lv_iload_n hx hb d_MD_leastOf_55 rfl (lv_at hl 2 rfl) ?_
          refine lv_iconst (v := 1) hx hb d_MD_leastOf_56 (by decide) ?_
          refine lv_icmp_ge (tgt := 64) hx hb d_MD_leastOf_57 (by decide) (fun hb3 => ?_) (fun hb3 => ?_)
          · have hF := ox_t hF hb3
            refine lv_iload_n hx hb d_MD_leastOf_64 rfl (lv_at hl 2 rfl) ?_
            refine lv_istore_n (lv' := [(3, .int i2), (0, .ref q_this), (1, .int i1), (2, .int i2)]) hx hb d_MD_leastOf_65 rfl hl (by decide) rfl (fun ls hl => ?_)
            exact ih.2 i1 i2 i2 f_places f_times _ _ _ hP hD hS (lv_sub hl [1, 2, 3, 0] rfl) hF
          · have hF := ox_f hF hb3
            refine lv_iconst (v := 1) hx hb d_MD_leastOf_60 (by decide) ?_
            refine lv_goto (tgt := 65) hx hb d_MD_leastOf_61 (by decide) ?_
            refine lv_istore_n (lv' := [(3, .int 1), (0, .ref q_this), (1, .int i1), (2, .int i2)]) hx hb d_MD_leastOf_65 rfl hl (by decide) rfl (fun ls hl => ?_)
            exact ih.2 i1 i2 1 f_places f_times _ _ _ hP hD hS (lv_sub hl [1, 2, 3, 0] rfl) hF
        · have hF := ox_f hF hb2
          refine lv_iload_n hx hb d_MD_leastOf_16 rfl (lv_at hl 2 rfl) ?_
          refine lv_aload_n hx hb d_MD_leastOf_17 rfl (lv_at hl 0 rfl) ?_
          refine lv_aload_n hx hb d_MD_leastOf_18 rfl (lv_at hl 0 rfl) ?_
          refine va_get (D := (dC, dI)) (ci := 6) (v := .ref q_order) (C := R_MD) (T := F_MD) (N := 24) hx hb hts uw_MD hown hK hP 0 rfl rfl 6 (by decide) (hts _ tw_191) (fun _ h9 => h9) rfl d_MD_leastOf_19 ?_
          refine lv_iload_n hx hb d_MD_leastOf_22 rfl (lv_at hl 3 rfl) ?_
          obtain ⟨hin, hF⟩ := ox_gdS hF
          refine va_iald hx hb hK hP 1 0 rfl rfl hin d_MD_leastOf_23 ?_
          refine lv_iload_n hx hb d_MD_leastOf_24 rfl (lv_at hl 3 rfl) ?_
          refine lv_aload_n hx hb d_MD_leastOf_25 rfl (lv_at hl 0 rfl) ?_
          refine va_get (D := (dC, dI)) (ci := 6) (v := .int v_tanks) (C := R_MD) (T := F_MD) (N := 24) hx hb hts uw_MD hown hK hP 0 rfl rfl 1 (by decide) (hts _ tw_172) (fun _ h9 => h9) rfl d_MD_leastOf_26 ?_
          refine lv_icmp_ne (tgt := 36) hx hb d_MD_leastOf_29 (by decide) (fun hb4 => ?_) (fun hb4 => ?_)
          · have hF := ox_t hF hb4
            refine lv_aload_n hx hb d_MD_leastOf_36 rfl (lv_at hl 0 rfl) ?_
            refine va_get (D := (dC, dI)) (ci := 6) (v := .ref q_order) (C := R_MD) (T := F_MD) (N := 24) hx hb hts uw_MD hown hK hP 0 rfl rfl 6 (by decide) (hts _ tw_191) (fun _ h9 => h9) rfl d_MD_leastOf_37 ?_
            refine lv_iload_n hx hb d_MD_leastOf_40 rfl (lv_at hl 3 rfl) ?_
            refine lv_iconst (v := 1) hx hb d_MD_leastOf_41 (by decide) ?_
            refine lv_iadd hx hb d_MD_leastOf_42 ?_
            obtain ⟨hin, hF⟩ := ox_gdS hF
            refine va_iald hx hb hK hP 1 0 rfl rfl hin d_MD_leastOf_43 ?_
            obtain ⟨r5, hc5, hF⟩ := ox_clS hF
            refine hq_ci (ws' := (wd_MD_leastOf q_this q_low q_high q_loaded q_empty q_order q_places q_times q_planOrder q_planTimes q_carriers q_begins cI v_thrown v_tanks v_hasPlan v_cycle v_second v_entered v_done v_took v_stopped v_move v_ends v_onHoist v_began f_order f_places f_loaded f_empty f_times f_low f_high)) (hq_rV (As := [.int (f_order i3.toNatClampNeg), .int (f_order (i3 + 1).toNatClampNeg)]) (rest := [.int i2]) ⟨hx, hb, hml, hown, hts⟩ (c_MD_behind l dC dI q_this q_low q_high q_loaded q_empty q_order q_places q_times q_planOrder q_planTimes q_carriers q_begins cI _ (f_order i3.toNatClampNeg) (f_order (i3 + 1).toNatClampNeg) v_thrown v_tanks v_hasPlan v_cycle v_second v_entered v_done v_took v_stopped v_move v_ends v_onHoist v_began f_loaded f_empty r5 hc5) (cwV 2 hts (hq_gV tw_192 tw_193 tw_194 tw_176 tw_195) rfl rfl rfl yv_MD_behind ⟨Nat.le_of_ble_eq_true rfl, Nat.le_of_ble_eq_true rfl⟩) hP hD hK [0] rfl 0 rfl rfl [0, 3, 4] rfl rfl rfl hl.1 rfl (Nat.le_of_ble_eq_true rfl) d_MD_leastOf_44 ⟨Nat.zero_le _, Nat.zero_le _⟩) hP hD hS hA [0, 3, 4] [1, 2, 5, 6, 7] [5, 0, 1, 6, 7, 2, 3, 4] rfl rfl rfl (by decide) rfl rfl (fun H locs hP hD hS => ?_)
            refine lv_iadd hx hb d_MD_leastOf_47 ?_
            refine lv_istore_n (lv' := [(2, .int (i2 + r5)), (0, .ref q_this), (1, .int i1), (3, .int i3)]) hx hb d_MD_leastOf_48 rfl hl (by decide) rfl (fun ls hl => ?_)
            refine lv_iinc (v := (i3 + 1)) (lv' := [(3, .int (i3 + 1)), (2, .int (i2 + r5)), (0, .ref q_this), (1, .int i1)]) hx hb d_MD_leastOf_49 hl (k := 3) rfl rfl (by decide) rfl (fun ls hl => ?_)
            refine lv_goto (tgt := 8) hx hb d_MD_leastOf_52 (by decide) ?_
            exact ih.1 i1 (i2 + r5) (i3 + 1) f_places f_times _ _ _ hP hD hS (lv_sub hl [2, 3, 1, 0] rfl) hF
          · have hF := ox_fn hF hb4
            refine lv_iconst (v := 0) hx hb d_MD_leastOf_32 (by decide) ?_
            refine lv_goto (tgt := 44) hx hb d_MD_leastOf_33 (by decide) ?_
            obtain ⟨r6, hc6, hF⟩ := ox_clS hF
            refine hq_ci (ws' := (wd_MD_leastOf q_this q_low q_high q_loaded q_empty q_order q_places q_times q_planOrder q_planTimes q_carriers q_begins cI v_thrown v_tanks v_hasPlan v_cycle v_second v_entered v_done v_took v_stopped v_move v_ends v_onHoist v_began f_order f_places f_loaded f_empty f_times f_low f_high)) (hq_rV (As := [.int (f_order i3.toNatClampNeg), .int 0]) (rest := [.int i2]) ⟨hx, hb, hml, hown, hts⟩ (c_MD_behind l dC dI q_this q_low q_high q_loaded q_empty q_order q_places q_times q_planOrder q_planTimes q_carriers q_begins cI _ (f_order i3.toNatClampNeg) 0 v_thrown v_tanks v_hasPlan v_cycle v_second v_entered v_done v_took v_stopped v_move v_ends v_onHoist v_began f_loaded f_empty r6 hc6) (cwV 2 hts (hq_gV tw_192 tw_193 tw_194 tw_176 tw_195) rfl rfl rfl yv_MD_behind ⟨Nat.le_of_ble_eq_true rfl, Nat.le_of_ble_eq_true rfl⟩) hP hD hK [0] rfl 0 rfl rfl [0, 3, 4] rfl rfl rfl hl.1 rfl (Nat.le_of_ble_eq_true rfl) d_MD_leastOf_44 ⟨Nat.zero_le _, Nat.zero_le _⟩) hP hD hS hA [0, 3, 4] [1, 2, 5, 6, 7] [5, 0, 1, 6, 7, 2, 3, 4] rfl rfl rfl (by decide) rfl rfl (fun H locs hP hD hS => ?_)
            refine lv_iadd hx hb d_MD_leastOf_47 ?_
            refine lv_istore_n (lv' := [(2, .int (i2 + r6)), (0, .ref q_this), (1, .int i1), (3, .int i3)]) hx hb d_MD_leastOf_48 rfl hl (by decide) rfl (fun ls hl => ?_)
            refine lv_iinc (v := (i3 + 1)) (lv' := [(3, .int (i3 + 1)), (2, .int (i2 + r6)), (0, .ref q_this), (1, .int i1)]) hx hb d_MD_leastOf_49 hl (k := 3) rfl rfl (by decide) rfl (fun ls hl => ?_)
            refine lv_goto (tgt := 8) hx hb d_MD_leastOf_52 (by decide) ?_
            exact ih.1 i1 (i2 + r6) (i3 + 1) f_places f_times _ _ _ hP hD hS (lv_sub hl [2, 3, 1, 0] rfl) hF
      · intro i1 i2 i3 f_places f_times H locs ls hP hD hS hl hF
        have hF : st_MD_leastOf z v_tanks f_order f_loaded f_empty f_low f_high (lp_MD_leastOf z v_tanks f_order f_loaded f_empty f_low f_high fu) 1 i1 i2 i3 f_places f_times = some (rr, n_f_places, n_f_times) := hF
        unfold st_MD_leastOf at hF
        try dsimp only at hF
        refine lv_iload_n hx hb d_MD_leastOf_66 rfl (lv_at hl 3 rfl) ?_
        refine lv_iload_n hx hb d_MD_leastOf_67 rfl (lv_at hl 1 rfl) ?_
        refine lv_icmp_gt (tgt := 87) hx hb d_MD_leastOf_68 (by decide) (fun hb7 => ?_) (fun hb7 => ?_)
        · have hF := ox_t hF hb7
          refine lv_iconst (v := (-1)) hx hb d_MD_leastOf_87 (by decide) ?_
          cases hF
          exact hq_iret hx hb hr hlocks hP hD hK hS d_MD_leastOf_88
        · have hF := ox_f hF hb7
          refine lv_aload_n hx hb d_MD_leastOf_71 rfl (lv_at hl 0 rfl) ?_
          refine lv_iload_n hx hb d_MD_leastOf_72 rfl (lv_at hl 3 rfl) ?_
          obtain ⟨⟨r8, s8_f_times⟩, hc8, hF⟩ := ox_clS hF
          refine hq_ci (ws' := (wd_MD_leastOf q_this q_low q_high q_loaded q_empty q_order q_places q_times q_planOrder q_planTimes q_carriers q_begins cI v_thrown v_tanks v_hasPlan v_cycle v_second v_entered v_done v_took v_stopped v_move v_ends v_onHoist v_began f_order f_places f_loaded f_empty s8_f_times f_low f_high)) (hq_rV (As := [.int i3]) (rest := []) ⟨hx, hb, hml, hown, hts⟩ (c_MD_fits l dC dI q_this q_low q_high q_loaded q_empty q_order q_places q_times q_planOrder q_planTimes q_carriers q_begins cI _ z i3 v_thrown v_tanks v_hasPlan v_cycle v_second v_entered v_done v_took v_stopped v_move v_ends v_onHoist v_began f_times f_order f_loaded f_empty f_places f_low f_high r8 s8_f_times hc8) (cwV 1 hts (hq_gV tw_205 tw_206 tw_207 tw_176 tw_208) rfl rfl rfl yv_MD_fits ⟨Nat.le_of_ble_eq_true rfl, Nat.le_of_ble_eq_true rfl⟩) hP hD hK [0] rfl 0 rfl rfl [0, 5, 1, 3, 4, 2, 6, 7] rfl rfl rfl hl.1 rfl (Nat.le_of_ble_eq_true rfl) d_MD_leastOf_73 ⟨Nat.zero_le _, Nat.zero_le _⟩) hP hD hS hA [0, 5, 1, 3, 4, 2, 6, 7] [] [0, 2, 5, 3, 4, 1, 6, 7] rfl rfl rfl (by decide) rfl rfl (fun H locs hP hD hS => ?_)
          refine lv_if_eq (tgt := 81) hx hb d_MD_leastOf_76 (by decide) (fun hb9 => ?_) (fun hb9 => ?_)
          · have hF := ox_t hF hb9
            refine lv_iinc (v := (i3 + 1)) (lv' := [(3, .int (i3 + 1)), (0, .ref q_this), (1, .int i1), (2, .int i2)]) hx hb d_MD_leastOf_81 hl (k := 3) rfl rfl (by decide) rfl (fun ls hl => ?_)
            refine lv_goto (tgt := 66) hx hb d_MD_leastOf_84 (by decide) ?_
            exact ih.2 i1 i2 (i3 + 1) f_places s8_f_times _ _ _ hP hD hS (lv_sub hl [1, 2, 3, 0] rfl) hF
          · have hF := ox_f hF hb9
            refine lv_iload_n hx hb d_MD_leastOf_79 rfl (lv_at hl 3 rfl) ?_
            cases hF
            exact hq_iret hx hb hr hlocks hP hD hK hS d_MD_leastOf_80
  refine lv_aload_n hx hb d_MD_leastOf_0 rfl (lv_at hl 0 rfl) ?_
  obtain ⟨s1_f_places, hc1, hF⟩ := ox_clS hF
  refine hq_cv (ws' := (wd_MD_leastOf q_this q_low q_high q_loaded q_empty q_order q_places q_times q_planOrder q_planTimes q_carriers q_begins cI v_thrown v_tanks v_hasPlan v_cycle v_second v_entered v_done v_took v_stopped v_move v_ends v_onHoist v_began f_order s1_f_places f_loaded f_empty f_times f_low f_high)) (hq_rV (As := []) (rest := []) ⟨hx, hb, hml, hown, hts⟩ (c_MD_seat l dC dI q_this q_low q_high q_loaded q_empty q_order q_places q_times q_planOrder q_planTimes q_carriers q_begins cI _ z v_thrown v_tanks v_hasPlan v_cycle v_second v_entered v_done v_took v_stopped v_move v_ends v_onHoist v_began f_order f_places s1_f_places hc1) (cwV 0 hts (hq_gV tw_209 tw_210 tw_211 tw_176 tw_212) rfl rfl rfl yv_MD_seat ⟨Nat.le_of_ble_eq_true rfl, Nat.le_of_ble_eq_true rfl⟩) hP hD hK [0] rfl 0 rfl rfl [0, 1, 2] rfl rfl rfl hl.1 rfl (Nat.le_of_ble_eq_true rfl) d_MD_leastOf_1 ⟨Nat.zero_le _, Nat.zero_le _⟩) hP hD hS hA [0, 1, 2] [3, 4, 5, 6, 7] [5, 6, 7, 0, 1, 2, 3, 4] rfl rfl rfl (by decide) rfl rfl (fun H locs hP hD hS => ?_)
  refine lv_iconst (v := 0) hx hb d_MD_leastOf_4 (by decide) ?_
  refine lv_istore_n (lv' := [(2, .int 0), (0, .ref q_this), (1, .int a1)]) hx hb d_MD_leastOf_5 rfl hl (by decide) rfl (fun ls hl => ?_)
  refine lv_iconst (v := 0) hx hb d_MD_leastOf_6 (by decide) ?_
  refine lv_istore_n (lv' := [(3, .int 0), (2, .int 0), (0, .ref q_this), (1, .int a1)]) hx hb d_MD_leastOf_7 rfl hl (by decide) rfl (fun ls hl => ?_)
  exact (loop z).1 a1 0 0 s1_f_places f_times _ _ _ hP hD hS (lv_sub hl [2, 3, 1, 0] rfl) hF
abbrev wd_MD_isOrder (q_this : Nat) (q_low : Nat) (q_high : Nat) (q_loaded : Nat) (q_empty : Nat) (q_order : Nat) (q_places : Nat) (q_times : Nat) (q_planOrder : Nat) (q_planTimes : Nat) (q_carriers : Nat) (q_begins : Nat) (cI : ClassId) (v_thrown : Int32) (v_tanks : Int32) (v_hasPlan : Int32) (v_cycle : Int32) (v_second : Int32) (v_entered : Int32) (v_done : Int32) (v_took : Int32) (v_stopped : Int32) (v_move : Int32) (v_ends : Int32) (v_onHoist : Int32) (v_began : Int32) (f_order : Nat → Int32) : va_W := [(q_this, .inr (6, [.int v_thrown, .int v_tanks, .ref q_low, .ref q_high, .ref q_loaded, .ref q_empty, .ref q_order, .ref q_places, .ref q_times, .int v_hasPlan, .int v_cycle, .ref q_planOrder, .ref q_planTimes, .int v_second, .int v_entered, .int v_done, .int v_took, .int v_stopped, .ref q_carriers, .ref q_begins, .int v_move, .int v_ends, .int v_onHoist, .int v_began])), (q_order, .inl (cI, 6, .inl f_order))]
set_option maxHeartbeats 4000000 in
set_option maxRecDepth 100000 in
theorem c_MD_isOrder (l : Launch) (dC : Nat → ClassId) (dI : Nat → Nat → Nat) (q_this : Nat) (q_low : Nat) (q_high : Nat) (q_loaded : Nat) (q_empty : Nat) (q_order : Nat) (q_places : Nat) (q_times : Nat) (q_planOrder : Nat) (q_planTimes : Nat) (q_carriers : Nat) (q_begins : Nat) (cI : ClassId) (sz : Nat) (z : Nat) (v_thrown : Int32) (v_tanks : Int32) (v_hasPlan : Int32) (v_cycle : Int32) (v_second : Int32) (v_entered : Int32) (v_done : Int32) (v_took : Int32) (v_stopped : Int32) (v_move : Int32) (v_ends : Int32) (v_onHoist : Int32) (v_began : Int32) (f_order : Nat → Int32) (rr : Int32) (hF : fn_MD_isOrder z v_tanks f_order = some rr) : Met l y_MD_isOrder w_MD_isOrder ({ frames := 1, cells := 0, slots := 0, locals := 22 }) (hq_Pc (dC, dI) vwCl [(cI, .int)] (wd_MD_isOrder q_this q_low q_high q_loaded q_empty q_order q_places q_times q_planOrder q_planTimes q_carriers q_begins cI v_thrown v_tanks v_hasPlan v_cycle v_second v_entered v_done v_took v_stopped v_move v_ends v_onHoist v_began f_order) sz [.ref q_this]) (hq_Qi (dC, dI) vwCl [(cI, .int)] (wd_MD_isOrder q_this q_low q_high q_loaded q_empty q_order q_places q_times q_planOrder q_planTimes q_carriers q_begins cI v_thrown v_tanks v_hasPlan v_cycle v_second v_entered v_done v_took v_stopped v_move v_ends v_onHoist v_began f_order) rr (va_A (wd_MD_isOrder q_this q_low q_high q_loaded q_empty q_order q_places q_times q_planOrder q_planTimes q_carriers q_begins cI v_thrown v_tanks v_hasPlan v_cycle v_second v_entered v_done v_took v_stopped v_move v_ends v_onHoist v_began f_order) sz)) 0 0 (va_A (wd_MD_isOrder q_this q_low q_high q_loaded q_empty q_order q_places q_times q_planOrder q_planTimes q_carriers q_begins cI v_thrown v_tanks v_hasPlan v_cycle v_second v_entered v_done v_took v_stopped v_move v_ends v_onHoist v_began f_order) sz) := by
  refine hq_met (Qc := (hq_Qi (dC, dI) vwCl [(cI, .int)] (wd_MD_isOrder q_this q_low q_high q_loaded q_empty q_order q_places q_times q_planOrder q_planTimes q_carriers q_begins cI v_thrown v_tanks v_hasPlan v_cycle v_second v_entered v_done v_took v_stopped v_move v_ends v_onHoist v_began f_order) rr)) (cc := b_MD_isOrder) (maxL := 4) (ret := some .boolean) (by decide) rfl (Nat.le_of_ble_eq_true rfl) ?_
  intro p e s m args below meth c A ls hx hb hr hml hts hown hlocks hnm hP hD hK hA hS hl
  have hts : ∀ w ∈ tb0, w.before args s = true := fun w h => hts w (List.mem_cons_of_mem _ h)
  have hown : s.vm.findClass R_MD = some m.cls := hown
  have hl : lv_has ls 4 [(0, .ref q_this)] := hl
  unfold fn_MD_isOrder at hF
  have loop : ∀ fu : Nat, (∀ (i1 : Int32) (i2 : Int32) (i3 : Int32) (H : Heap) (locs : List Loc) (ls : Array Slot), va_P (dC, dI) vwCl (wd_MD_isOrder q_this q_low q_high q_loaded q_empty q_order q_places q_times q_planOrder q_planTimes q_carriers q_begins cI v_thrown v_tanks v_hasPlan v_cycle v_second v_entered v_done v_took v_stopped v_move v_ends v_onHoist v_began f_order) H → va_D A (wd_MD_isOrder q_this q_low q_high q_loaded q_empty q_order q_places q_times q_planOrder q_planTimes q_carriers q_begins cI v_thrown v_tanks v_hasPlan v_cycle v_second v_entered v_done v_took v_stopped v_move v_ends v_onHoist v_began f_order) → va_S A s.heap H locs → lv_has ls 4 [(0, .ref q_this), (1, .int i1), (2, .int i2)] → lp_MD_isOrder v_tanks f_order fu 0 i1 i2 i3 = some rr → W p l e ({ frames := 1, cells := 0, slots := 0, locals := 22 }) s m args below meth c H locs 0 0 (MQ below ((hq_Qi (dC, dI) vwCl [(cI, .int)] (wd_MD_isOrder q_this q_low q_high q_loaded q_empty q_order q_places q_times q_planOrder q_planTimes q_carriers q_begins cI v_thrown v_tanks v_hasPlan v_cycle v_second v_entered v_done v_took v_stopped v_move v_ends v_onHoist v_began f_order) rr) A) args s 0 0 A) (F0 m 17 ls [])) ∧ (∀ (i1 : Int32) (i2 : Int32) (i3 : Int32) (H : Heap) (locs : List Loc) (ls : Array Slot), va_P (dC, dI) vwCl (wd_MD_isOrder q_this q_low q_high q_loaded q_empty q_order q_places q_times q_planOrder q_planTimes q_carriers q_begins cI v_thrown v_tanks v_hasPlan v_cycle v_second v_entered v_done v_took v_stopped v_move v_ends v_onHoist v_began f_order) H → va_D A (wd_MD_isOrder q_this q_low q_high q_loaded q_empty q_order q_places q_times q_planOrder q_planTimes q_carriers q_begins cI v_thrown v_tanks v_hasPlan v_cycle v_second v_entered v_done v_took v_stopped v_move v_ends v_onHoist v_began f_order) → va_S A s.heap H locs → lv_has ls 4 [(0, .ref q_this), (1, .int i1), (2, .int i2), (3, .int i3)] → lp_MD_isOrder v_tanks f_order fu 1 i1 i2 i3 = some rr → W p l e ({ frames := 1, cells := 0, slots := 0, locals := 22 }) s m args below meth c H locs 0 0 (MQ below ((hq_Qi (dC, dI) vwCl [(cI, .int)] (wd_MD_isOrder q_this q_low q_high q_loaded q_empty q_order q_places q_times q_planOrder q_planTimes q_carriers q_begins cI v_thrown v_tanks v_hasPlan v_cycle v_second v_entered v_done v_took v_stopped v_move v_ends v_onHoist v_began f_order) rr) A) args s 0 0 A) (F0 m 54 ls [])) := by
    intro fu
    induction fu with
    | zero => exact ⟨(fun _ _ _ _ _ _ _ _ _ _ h => by cases h), (fun _ _ _ _ _ _ _ _ _ _ h => by cases h)⟩
    | succ fu ih =>
      refine ⟨?_, ?_⟩
      · intro i1 i2 i3 H locs ls hP hD hS hl hF
        have hF : st_MD_isOrder v_tanks f_order (lp_MD_isOrder v_tanks f_order fu) 0 i1 i2 i3 = some rr := hF
        unfold st_MD_isOrder at hF
        try dsimp only at hF
        refine lv_iload_n hx hb d_MD_isOrder_17 rfl (lv_at hl 2 rfl) ?_
        refine lv_aload_n hx hb d_MD_isOrder_18 rfl (lv_at hl 0 rfl) ?_
        refine va_get (D := (dC, dI)) (ci := 6) (v := .int v_tanks) (C := R_MD) (T := F_MD) (N := 24) hx hb hts uw_MD hown hK hP 0 rfl rfl 1 (by decide) (hts _ tw_172) (fun _ h9 => h9) rfl d_MD_isOrder_19 ?_
        refine lv_icmp_gt (tgt := 96) hx hb d_MD_isOrder_22 (by decide) (fun hb2 => ?_) (fun hb2 => ?_)
        · have hF := ox_t hF hb2
          refine lv_iload_n hx hb d_MD_isOrder_96 rfl (lv_at hl 1 rfl) ?_
          obtain ⟨hbg, hF⟩ := ox_bgS hF
          cases hF
          exact hq_zret hx hb hr hbg hlocks hP hD hK hS d_MD_isOrder_97
        · have hF := ox_f hF hb2
          refine lv_iload_n hx hb d_MD_isOrder_25 rfl (lv_at hl 1 rfl) ?_
          refine lv_if_eq (tgt := 50) hx hb d_MD_isOrder_26 (by decide) (fun hb3 => ?_) (fun hb3 => ?_)
          · have hF := ox_t hF hb3
            refine lv_iconst (v := 0) hx hb d_MD_isOrder_50 (by decide) ?_
            refine lv_istore_n (lv' := [(1, .int 0), (0, .ref q_this), (2, .int i2)]) hx hb d_MD_isOrder_51 rfl hl (by decide) rfl (fun ls hl => ?_)
            refine lv_iconst (v := 1) hx hb d_MD_isOrder_52 (by decide) ?_
            refine lv_istore_n (lv' := [(3, .int 1), (1, .int 0), (0, .ref q_this), (2, .int i2)]) hx hb d_MD_isOrder_53 rfl hl (by decide) rfl (fun ls hl => ?_)
            exact ih.2 0 i2 1 _ _ _ hP hD hS (lv_sub hl [2, 1, 3, 0] rfl) hF
          · have hF := ox_f hF hb3
            refine lv_aload_n hx hb d_MD_isOrder_29 rfl (lv_at hl 0 rfl) ?_
            refine va_get (D := (dC, dI)) (ci := 6) (v := .ref q_order) (C := R_MD) (T := F_MD) (N := 24) hx hb hts uw_MD hown hK hP 0 rfl rfl 6 (by decide) (hts _ tw_191) (fun _ h9 => h9) rfl d_MD_isOrder_30 ?_
            refine lv_iload_n hx hb d_MD_isOrder_33 rfl (lv_at hl 2 rfl) ?_
            obtain ⟨hin, hF⟩ := ox_gdS hF
            refine va_iald hx hb hK hP 1 0 rfl rfl hin d_MD_isOrder_34 ?_
            refine lv_iconst (v := 1) hx hb d_MD_isOrder_35 (by decide) ?_
            refine lv_aload_n hx hb d_MD_isOrder_36 rfl (lv_at hl 0 rfl) ?_
            refine va_get (D := (dC, dI)) (ci := 6) (v := .int v_tanks) (C := R_MD) (T := F_MD) (N := 24) hx hb hts uw_MD hown hK hP 0 rfl rfl 1 (by decide) (hts _ tw_172) (fun _ h9 => h9) rfl d_MD_isOrder_37 ?_
            obtain ⟨r4, hc4, hF⟩ := ox_clS hF
            refine hq_ci (ws' := (wd_MD_isOrder q_this q_low q_high q_loaded q_empty q_order q_places q_times q_planOrder q_planTimes q_carriers q_begins cI v_thrown v_tanks v_hasPlan v_cycle v_second v_entered v_done v_took v_stopped v_move v_ends v_onHoist v_began f_order)) (hq_rS (As := [.int (f_order i2.toNatClampNeg), .int 1, .int v_tanks]) (rest := []) ⟨hx, hb, hml, hown, hts⟩ (c_MD_in l dC dI _ (f_order i2.toNatClampNeg) 1 v_tanks r4 hc4) ⟨callB_of 3 hts (hq_g1 tw_177) rfl rfl rfl (hts _ tw_176) (hts _ tw_174) yd_MD_in ⟨Nat.le_of_ble_eq_true rfl, Nat.le_of_ble_eq_true rfl⟩, hts _ tw_175⟩ hP hD hK [] rfl [] rfl rfl rfl hl.1 rfl (Nat.le_of_ble_eq_true rfl) d_MD_isOrder_40 ⟨Nat.zero_le _, Nat.zero_le _⟩) hP hD hS hA [] [0, 1] [0, 1] rfl rfl rfl (by decide) rfl rfl (fun H locs hP hD hS => ?_)
            refine lv_if_eq (tgt := 50) hx hb d_MD_isOrder_43 (by decide) (fun hb5 => ?_) (fun hb5 => ?_)
            · have hF := ox_t hF hb5
              refine lv_iconst (v := 0) hx hb d_MD_isOrder_50 (by decide) ?_
              refine lv_istore_n (lv' := [(1, .int 0), (0, .ref q_this), (2, .int i2)]) hx hb d_MD_isOrder_51 rfl hl (by decide) rfl (fun ls hl => ?_)
              refine lv_iconst (v := 1) hx hb d_MD_isOrder_52 (by decide) ?_
              refine lv_istore_n (lv' := [(3, .int 1), (1, .int 0), (0, .ref q_this), (2, .int i2)]) hx hb d_MD_isOrder_53 rfl hl (by decide) rfl (fun ls hl => ?_)
              exact ih.2 0 i2 1 _ _ _ hP hD hS (lv_sub hl [2, 1, 3, 0] rfl) hF
            · have hF := ox_f hF hb5
              refine lv_iconst (v := 1) hx hb d_MD_isOrder_46 (by decide) ?_
              refine lv_goto (tgt := 51) hx hb d_MD_isOrder_47 (by decide) ?_
              refine lv_istore_n (lv' := [(1, .int 1), (0, .ref q_this), (2, .int i2)]) hx hb d_MD_isOrder_51 rfl hl (by decide) rfl (fun ls hl => ?_)
              refine lv_iconst (v := 1) hx hb d_MD_isOrder_52 (by decide) ?_
              refine lv_istore_n (lv' := [(3, .int 1), (1, .int 1), (0, .ref q_this), (2, .int i2)]) hx hb d_MD_isOrder_53 rfl hl (by decide) rfl (fun ls hl => ?_)
              exact ih.2 1 i2 1 _ _ _ hP hD hS (lv_sub hl [2, 1, 3, 0] rfl) hF
      · intro i1 i2 i3 H locs ls hP hD hS hl hF
        have hF : st_MD_isOrder v_tanks f_order (lp_MD_isOrder v_tanks f_order fu) 1 i1 i2 i3 = some rr := hF
        unfold st_MD_isOrder at hF
        try dsimp only at hF
        refine lv_iload_n hx hb d_MD_isOrder_54 rfl (lv_at hl 3 rfl) ?_
        refine lv_iload_n hx hb d_MD_isOrder_55 rfl (lv_at hl 2 rfl) ?_
        refine lv_icmp_ge (tgt := 90) hx hb d_MD_isOrder_56 (by decide) (fun hb6 => ?_) (fun hb6 => ?_)
        · have hF := ox_t hF hb6
          refine lv_iinc (v := (i2 + 1)) (lv' := [(2, .int (i2 + 1)), (0, .ref q_this), (1, .int i1), (3, .int i3)]) hx hb d_MD_isOrder_90 hl (k := 2) rfl rfl (by decide) rfl (fun ls hl => ?_)
          refine lv_goto (tgt := 17) hx hb d_MD_isOrder_93 (by decide) ?_
          exact ih.1 i1 (i2 + 1) 0 _ _ _ hP hD hS (lv_sub hl [1, 2, 0] rfl) hF
        · have hF := ox_f hF hb6
          refine lv_iload_n hx hb d_MD_isOrder_59 rfl (lv_at hl 1 rfl) ?_
          refine lv_if_eq (tgt := 82) hx hb d_MD_isOrder_60 (by decide) (fun hb7 => ?_) (fun hb7 => ?_)
          · have hF := ox_t hF hb7
            refine lv_iconst (v := 0) hx hb d_MD_isOrder_82 (by decide) ?_
            refine lv_istore_n (lv' := [(1, .int 0), (0, .ref q_this), (2, .int i2), (3, .int i3)]) hx hb d_MD_isOrder_83 rfl hl (by decide) rfl (fun ls hl => ?_)
            refine lv_iinc (v := (i3 + 1)) (lv' := [(3, .int (i3 + 1)), (1, .int 0), (0, .ref q_this), (2, .int i2)]) hx hb d_MD_isOrder_84 hl (k := 3) rfl rfl (by decide) rfl (fun ls hl => ?_)
            refine lv_goto (tgt := 54) hx hb d_MD_isOrder_87 (by decide) ?_
            exact ih.2 0 i2 (i3 + 1) _ _ _ hP hD hS (lv_sub hl [2, 1, 3, 0] rfl) hF
          · have hF := ox_f hF hb7
            refine lv_aload_n hx hb d_MD_isOrder_63 rfl (lv_at hl 0 rfl) ?_
            refine va_get (D := (dC, dI)) (ci := 6) (v := .ref q_order) (C := R_MD) (T := F_MD) (N := 24) hx hb hts uw_MD hown hK hP 0 rfl rfl 6 (by decide) (hts _ tw_191) (fun _ h9 => h9) rfl d_MD_isOrder_64 ?_
            refine lv_iload_n hx hb d_MD_isOrder_67 rfl (lv_at hl 3 rfl) ?_
            obtain ⟨hin, hF⟩ := ox_gdS hF
            refine va_iald hx hb hK hP 1 0 rfl rfl hin d_MD_isOrder_68 ?_
            refine lv_aload_n hx hb d_MD_isOrder_69 rfl (lv_at hl 0 rfl) ?_
            refine va_get (D := (dC, dI)) (ci := 6) (v := .ref q_order) (C := R_MD) (T := F_MD) (N := 24) hx hb hts uw_MD hown hK hP 0 rfl rfl 6 (by decide) (hts _ tw_191) (fun _ h9 => h9) rfl d_MD_isOrder_70 ?_
            refine lv_iload_n hx hb d_MD_isOrder_73 rfl (lv_at hl 2 rfl) ?_
            obtain ⟨hin, hF⟩ := ox_gdS hF
            refine va_iald hx hb hK hP 1 0 rfl rfl hin d_MD_isOrder_74 ?_
            refine lv_icmp_eq (tgt := 82) hx hb d_MD_isOrder_75 (by decide) (fun hb8 => ?_) (fun hb8 => ?_)
            · have hF := ox_t hF hb8
              refine lv_iconst (v := 0) hx hb d_MD_isOrder_82 (by decide) ?_
              refine lv_istore_n (lv' := [(1, .int 0), (0, .ref q_this), (2, .int i2), (3, .int i3)]) hx hb d_MD_isOrder_83 rfl hl (by decide) rfl (fun ls hl => ?_)
              refine lv_iinc (v := (i3 + 1)) (lv' := [(3, .int (i3 + 1)), (1, .int 0), (0, .ref q_this), (2, .int i2)]) hx hb d_MD_isOrder_84 hl (k := 3) rfl rfl (by decide) rfl (fun ls hl => ?_)
              refine lv_goto (tgt := 54) hx hb d_MD_isOrder_87 (by decide) ?_
              exact ih.2 0 i2 (i3 + 1) _ _ _ hP hD hS (lv_sub hl [2, 1, 3, 0] rfl) hF
            · have hF := ox_f hF hb8
              refine lv_iconst (v := 1) hx hb d_MD_isOrder_78 (by decide) ?_
              refine lv_goto (tgt := 83) hx hb d_MD_isOrder_79 (by decide) ?_
              refine lv_istore_n (lv' := [(1, .int 1), (0, .ref q_this), (2, .int i2), (3, .int i3)]) hx hb d_MD_isOrder_83 rfl hl (by decide) rfl (fun ls hl => ?_)
              refine lv_iinc (v := (i3 + 1)) (lv' := [(3, .int (i3 + 1)), (1, .int 1), (0, .ref q_this), (2, .int i2)]) hx hb d_MD_isOrder_84 hl (k := 3) rfl rfl (by decide) rfl (fun ls hl => ?_)
              refine lv_goto (tgt := 54) hx hb d_MD_isOrder_87 (by decide) ?_
              exact ih.2 1 i2 (i3 + 1) _ _ _ hP hD hS (lv_sub hl [2, 1, 3, 0] rfl) hF
  refine lv_aload_n hx hb d_MD_isOrder_0 rfl (lv_at hl 0 rfl) ?_
  refine va_get (D := (dC, dI)) (ci := 6) (v := .ref q_order) (C := R_MD) (T := F_MD) (N := 24) hx hb hts uw_MD hown hK hP 0 rfl rfl 6 (by decide) (hts _ tw_191) (fun _ h9 => h9) rfl d_MD_isOrder_1 ?_
  refine lv_iconst (v := 0) hx hb d_MD_isOrder_4 (by decide) ?_
  have hin : vp_in 0 6 := by unfold vp_in; decide
  refine va_iald hx hb hK hP 1 0 rfl rfl hin d_MD_isOrder_5 ?_
  refine lv_if_ne (tgt := 13) hx hb d_MD_isOrder_6 (by decide) (fun hb1 => ?_) (fun hb1 => ?_)
  · have hF := ox_t hF hb1
    refine lv_iconst (v := 0) hx hb d_MD_isOrder_13 (by decide) ?_
    refine lv_istore_n (lv' := [(1, .int 0), (0, .ref q_this)]) hx hb d_MD_isOrder_14 rfl hl (by decide) rfl (fun ls hl => ?_)
    refine lv_iconst (v := 1) hx hb d_MD_isOrder_15 (by decide) ?_
    refine lv_istore_n (lv' := [(2, .int 1), (1, .int 0), (0, .ref q_this)]) hx hb d_MD_isOrder_16 rfl hl (by decide) rfl (fun ls hl => ?_)
    exact (loop z).1 0 1 0 _ _ _ hP hD hS (lv_sub hl [2, 1, 0] rfl) hF
  · have hF := ox_fn hF hb1
    refine lv_iconst (v := 1) hx hb d_MD_isOrder_9 (by decide) ?_
    refine lv_goto (tgt := 14) hx hb d_MD_isOrder_10 (by decide) ?_
    refine lv_istore_n (lv' := [(1, .int 1), (0, .ref q_this)]) hx hb d_MD_isOrder_14 rfl hl (by decide) rfl (fun ls hl => ?_)
    refine lv_iconst (v := 1) hx hb d_MD_isOrder_15 (by decide) ?_
    refine lv_istore_n (lv' := [(2, .int 1), (1, .int 1), (0, .ref q_this)]) hx hb d_MD_isOrder_16 rfl hl (by decide) rfl (fun ls hl => ?_)
    exact (loop z).1 1 1 0 _ _ _ hP hD hS (lv_sub hl [2, 1, 0] rfl) hF
abbrev wd_MD_takeOrder (q_this : Nat) (q_low : Nat) (q_high : Nat) (q_loaded : Nat) (q_empty : Nat) (q_order : Nat) (q_places : Nat) (q_times : Nat) (q_planOrder : Nat) (q_planTimes : Nat) (q_carriers : Nat) (q_begins : Nat) (cI : ClassId) (v_thrown : Int32) (v_tanks : Int32) (v_hasPlan : Int32) (v_cycle : Int32) (v_second : Int32) (v_entered : Int32) (v_done : Int32) (v_took : Int32) (v_stopped : Int32) (v_move : Int32) (v_ends : Int32) (v_onHoist : Int32) (v_began : Int32) (f_order : Nat → Int32) : va_W := [(q_this, .inr (6, [.int v_thrown, .int v_tanks, .ref q_low, .ref q_high, .ref q_loaded, .ref q_empty, .ref q_order, .ref q_places, .ref q_times, .int v_hasPlan, .int v_cycle, .ref q_planOrder, .ref q_planTimes, .int v_second, .int v_entered, .int v_done, .int v_took, .int v_stopped, .ref q_carriers, .ref q_begins, .int v_move, .int v_ends, .int v_onHoist, .int v_began])), (q_order, .inl (cI, 6, .inl f_order))]
set_option maxHeartbeats 4000000 in
set_option maxRecDepth 100000 in
theorem c_MD_takeOrder (l : Launch) (dC : Nat → ClassId) (dI : Nat → Nat → Nat) (q_this : Nat) (q_low : Nat) (q_high : Nat) (q_loaded : Nat) (q_empty : Nat) (q_order : Nat) (q_places : Nat) (q_times : Nat) (q_planOrder : Nat) (q_planTimes : Nat) (q_carriers : Nat) (q_begins : Nat) (cI : ClassId) (sz : Nat) (z : Nat) (a1 : Int32) (v_thrown : Int32) (v_tanks : Int32) (v_hasPlan : Int32) (v_cycle : Int32) (v_second : Int32) (v_entered : Int32) (v_done : Int32) (v_took : Int32) (v_stopped : Int32) (v_move : Int32) (v_ends : Int32) (v_onHoist : Int32) (v_began : Int32) (f_order : Nat → Int32) (rr : Int32) (n_f_order : Nat → Int32) (hF : fn_MD_takeOrder z a1 v_tanks f_order = some (rr, n_f_order)) : Met l y_MD_takeOrder w_MD_takeOrder ({ frames := 2, cells := 0, slots := 0, locals := 45 }) (hq_Pc (dC, dI) vwCl [(cI, .int)] (wd_MD_takeOrder q_this q_low q_high q_loaded q_empty q_order q_places q_times q_planOrder q_planTimes q_carriers q_begins cI v_thrown v_tanks v_hasPlan v_cycle v_second v_entered v_done v_took v_stopped v_move v_ends v_onHoist v_began f_order) sz [.ref q_this, .int a1]) (hq_Qi (dC, dI) vwCl [(cI, .int)] (wd_MD_takeOrder q_this q_low q_high q_loaded q_empty q_order q_places q_times q_planOrder q_planTimes q_carriers q_begins cI v_thrown v_tanks v_hasPlan v_cycle v_second v_entered v_done v_took v_stopped v_move v_ends v_onHoist v_began n_f_order) rr (va_A (wd_MD_takeOrder q_this q_low q_high q_loaded q_empty q_order q_places q_times q_planOrder q_planTimes q_carriers q_begins cI v_thrown v_tanks v_hasPlan v_cycle v_second v_entered v_done v_took v_stopped v_move v_ends v_onHoist v_began f_order) sz)) 0 0 (va_A (wd_MD_takeOrder q_this q_low q_high q_loaded q_empty q_order q_places q_times q_planOrder q_planTimes q_carriers q_begins cI v_thrown v_tanks v_hasPlan v_cycle v_second v_entered v_done v_took v_stopped v_move v_ends v_onHoist v_began f_order) sz) := by
  refine hq_met (Qc := (hq_Qi (dC, dI) vwCl [(cI, .int)] (wd_MD_takeOrder q_this q_low q_high q_loaded q_empty q_order q_places q_times q_planOrder q_planTimes q_carriers q_begins cI v_thrown v_tanks v_hasPlan v_cycle v_second v_entered v_done v_took v_stopped v_move v_ends v_onHoist v_began n_f_order) rr)) (cc := b_MD_takeOrder) (maxL := 4) (ret := some .boolean) (by decide) rfl (Nat.le_of_ble_eq_true rfl) ?_
  intro p e s m args below meth c A ls hx hb hr hml hts hown hlocks hnm hP hD hK hA hS hl
  have hts : ∀ w ∈ tb0, w.before args s = true := fun w h => hts w (List.mem_cons_of_mem _ h)
  have hown : s.vm.findClass R_MD = some m.cls := hown
  have hl : lv_has ls 4 [(0, .ref q_this), (1, .int a1)] := hl
  unfold fn_MD_takeOrder at hF
  have loop : ∀ fu : Nat, (∀ (i1 : Int32) (i2 : Int32) (i3 : Int32) (f_order : Nat → Int32) (H : Heap) (locs : List Loc) (ls : Array Slot), va_P (dC, dI) vwCl (wd_MD_takeOrder q_this q_low q_high q_loaded q_empty q_order q_places q_times q_planOrder q_planTimes q_carriers q_begins cI v_thrown v_tanks v_hasPlan v_cycle v_second v_entered v_done v_took v_stopped v_move v_ends v_onHoist v_began f_order) H → va_D A (wd_MD_takeOrder q_this q_low q_high q_loaded q_empty q_order q_places q_times q_planOrder q_planTimes q_carriers q_begins cI v_thrown v_tanks v_hasPlan v_cycle v_second v_entered v_done v_took v_stopped v_move v_ends v_onHoist v_began f_order) → va_S A s.heap H locs → lv_has ls 4 [(0, .ref q_this), (1, .int i1), (2, .int i2), (3, .int i3)] → lp_MD_takeOrder z v_tanks fu 0 i1 i2 i3 f_order = some (rr, n_f_order) → W p l e ({ frames := 2, cells := 0, slots := 0, locals := 45 }) s m args below meth c H locs 0 0 (MQ below ((hq_Qi (dC, dI) vwCl [(cI, .int)] (wd_MD_takeOrder q_this q_low q_high q_loaded q_empty q_order q_places q_times q_planOrder q_planTimes q_carriers q_begins cI v_thrown v_tanks v_hasPlan v_cycle v_second v_entered v_done v_took v_stopped v_move v_ends v_onHoist v_began n_f_order) rr) A) args s 0 0 A) (F0 m 14 ls [])) := by
    intro fu
    induction fu with
    | zero => exact (fun _ _ _ _ _ _ _ _ _ _ _ h => by cases h)
    | succ fu ih =>
      intro i1 i2 i3 f_order H locs ls hP hD hS hl hF
      have hF : st_MD_takeOrder z v_tanks (lp_MD_takeOrder z v_tanks fu) 0 i1 i2 i3 f_order = some (rr, n_f_order) := hF
      unfold st_MD_takeOrder at hF
      try dsimp only at hF
      refine lv_iload_n hx hb d_MD_takeOrder_14 rfl (lv_at hl 3 rfl) ?_
      refine lv_if_le (tgt := 39) hx hb d_MD_takeOrder_15 (by decide) (fun hb1 => ?_) (fun hb1 => ?_)
      · have hF := ox_t hF hb1
        refine lv_iload_n hx hb d_MD_takeOrder_39 rfl (lv_at hl 1 rfl) ?_
        refine lv_if_le (tgt := 58) hx hb d_MD_takeOrder_40 (by decide) (fun hb2 => ?_) (fun hb2 => ?_)
        · have hF := ox_t hF hb2
          refine lv_iconst (v := 0) hx hb d_MD_takeOrder_58 (by decide) ?_
          cases hF
          exact hq_zret hx hb hr (by decide) hlocks hP hD hK hS d_MD_takeOrder_59
        · have hF := ox_f hF hb2
          refine lv_iload_n hx hb d_MD_takeOrder_43 rfl (lv_at hl 2 rfl) ?_
          refine lv_if_ne (tgt := 58) hx hb d_MD_takeOrder_44 (by decide) (fun hb3 => ?_) (fun hb3 => ?_)
          · have hF := ox_t hF hb3
            refine lv_iconst (v := 0) hx hb d_MD_takeOrder_58 (by decide) ?_
            cases hF
            exact hq_zret hx hb hr (by decide) hlocks hP hD hK hS d_MD_takeOrder_59
          · have hF := ox_fn hF hb3
            refine lv_aload_n hx hb d_MD_takeOrder_47 rfl (lv_at hl 0 rfl) ?_
            obtain ⟨r4, hc4, hF⟩ := ox_clS hF
            refine hq_ci (ws' := (wd_MD_takeOrder q_this q_low q_high q_loaded q_empty q_order q_places q_times q_planOrder q_planTimes q_carriers q_begins cI v_thrown v_tanks v_hasPlan v_cycle v_second v_entered v_done v_took v_stopped v_move v_ends v_onHoist v_began f_order)) (hq_rV (As := []) (rest := []) ⟨hx, hb, hml, hown, hts⟩ (c_MD_isOrder l dC dI q_this q_low q_high q_loaded q_empty q_order q_places q_times q_planOrder q_planTimes q_carriers q_begins cI _ z v_thrown v_tanks v_hasPlan v_cycle v_second v_entered v_done v_took v_stopped v_move v_ends v_onHoist v_began f_order r4 hc4) (cwV 0 hts (hq_gV tw_213 tw_214 tw_215 tw_176 tw_216) rfl rfl rfl yv_MD_isOrder ⟨Nat.le_of_ble_eq_true rfl, Nat.le_of_ble_eq_true rfl⟩) hP hD hK [0] rfl 0 rfl rfl [0, 1] rfl rfl rfl hl.1 rfl (Nat.le_of_ble_eq_true rfl) d_MD_takeOrder_48 ⟨Nat.zero_le _, Nat.zero_le _⟩) hP hD hS hA [0, 1] [] [0, 1] rfl rfl rfl (by decide) rfl rfl (fun H locs hP hD hS => ?_)
            refine lv_if_eq (tgt := 58) hx hb d_MD_takeOrder_51 (by decide) (fun hb5 => ?_) (fun hb5 => ?_)
            · have hF := ox_t hF hb5
              refine lv_iconst (v := 0) hx hb d_MD_takeOrder_58 (by decide) ?_
              cases hF
              exact hq_zret hx hb hr (by decide) hlocks hP hD hK hS d_MD_takeOrder_59
            · have hF := ox_f hF hb5
              refine lv_iconst (v := 1) hx hb d_MD_takeOrder_54 (by decide) ?_
              refine lv_goto (tgt := 59) hx hb d_MD_takeOrder_55 (by decide) ?_
              cases hF
              exact hq_zret hx hb hr (by decide) hlocks hP hD hK hS d_MD_takeOrder_59
      · have hF := ox_f hF hb1
        refine lv_aload_n hx hb d_MD_takeOrder_18 rfl (lv_at hl 0 rfl) ?_
        refine va_get (D := (dC, dI)) (ci := 6) (v := .ref q_order) (C := R_MD) (T := F_MD) (N := 24) hx hb hts uw_MD hown hK hP 0 rfl rfl 6 (by decide) (hts _ tw_191) (fun _ h9 => h9) rfl d_MD_takeOrder_19 ?_
        refine lv_iload_n hx hb d_MD_takeOrder_22 rfl (lv_at hl 3 rfl) ?_
        refine lv_iload_n hx hb d_MD_takeOrder_23 rfl (lv_at hl 2 rfl) ?_
        refine lv_bipush (v := 10) hx hb d_MD_takeOrder_24 (by decide) ?_
        refine lv_irem hx hb d_MD_takeOrder_26 (by decide) ?_
        obtain ⟨hin, hF⟩ := ox_gdS hF
        refine va_iast hx hb hK hP hD hS 1 0 rfl rfl hin d_MD_takeOrder_27 (fun H locs hP hD hS => ?_)
        have hP : va_P (dC, dI) vwCl (wd_MD_takeOrder q_this q_low q_high q_loaded q_empty q_order q_places q_times q_planOrder q_planTimes q_carriers q_begins cI v_thrown v_tanks v_hasPlan v_cycle v_second v_entered v_done v_took v_stopped v_move v_ends v_onHoist v_began (upd f_order i3.toNatClampNeg (i2 - i2 / 10 * 10))) H := hP
        have hD : va_D A (wd_MD_takeOrder q_this q_low q_high q_loaded q_empty q_order q_places q_times q_planOrder q_planTimes q_carriers q_begins cI v_thrown v_tanks v_hasPlan v_cycle v_second v_entered v_done v_took v_stopped v_move v_ends v_onHoist v_began (upd f_order i3.toNatClampNeg (i2 - i2 / 10 * 10))) := hD
        refine lv_iload_n hx hb d_MD_takeOrder_28 rfl (lv_at hl 2 rfl) ?_
        refine lv_bipush (v := 10) hx hb d_MD_takeOrder_29 (by decide) ?_
        refine lv_idiv hx hb d_MD_takeOrder_31 (by decide) ?_
        refine lv_istore_n (lv' := [(2, .int (i2 / 10)), (0, .ref q_this), (1, .int i1), (3, .int i3)]) hx hb d_MD_takeOrder_32 rfl hl (by decide) rfl (fun ls hl => ?_)
        refine lv_iinc (v := (i3 + (-1))) (lv' := [(3, .int (i3 + (-1))), (2, .int (i2 / 10)), (0, .ref q_this), (1, .int i1)]) hx hb d_MD_takeOrder_33 hl (k := 3) rfl rfl (by decide) rfl (fun ls hl => ?_)
        refine lv_goto (tgt := 14) hx hb d_MD_takeOrder_36 (by decide) ?_
        exact ih i1 (i2 / 10) (i3 + (-1)) (upd f_order i3.toNatClampNeg (i2 - i2 / 10 * 10)) _ _ _ hP hD hS (lv_sub hl [2, 3, 1, 0] rfl) hF
  refine lv_iload_n hx hb d_MD_takeOrder_0 rfl (lv_at hl 1 rfl) ?_
  refine lv_istore_n (lv' := [(2, .int a1), (0, .ref q_this), (1, .int a1)]) hx hb d_MD_takeOrder_1 rfl hl (by decide) rfl (fun ls hl => ?_)
  refine lv_aload_n hx hb d_MD_takeOrder_2 rfl (lv_at hl 1 rfl) ?_
  refine va_get (D := (dC, dI)) (ci := 6) (v := .ref q_order) (C := R_MD) (T := F_MD) (N := 24) hx hb hts uw_MD hown hK hP 0 rfl rfl 6 (by decide) (hts _ tw_191) (fun _ h9 => h9) rfl d_MD_takeOrder_3 ?_
  refine lv_iconst (v := 0) hx hb d_MD_takeOrder_6 (by decide) ?_
  refine lv_iconst (v := 0) hx hb d_MD_takeOrder_7 (by decide) ?_
  have hin : vp_in 0 6 := by unfold vp_in; decide
  refine va_iast hx hb hK hP hD hS 1 0 rfl rfl hin d_MD_takeOrder_8 (fun H locs hP hD hS => ?_)
  have hP : va_P (dC, dI) vwCl (wd_MD_takeOrder q_this q_low q_high q_loaded q_empty q_order q_places q_times q_planOrder q_planTimes q_carriers q_begins cI v_thrown v_tanks v_hasPlan v_cycle v_second v_entered v_done v_took v_stopped v_move v_ends v_onHoist v_began (upd f_order 0 0)) H := hP
  have hD : va_D A (wd_MD_takeOrder q_this q_low q_high q_loaded q_empty q_order q_places q_times q_planOrder q_planTimes q_carriers q_begins cI v_thrown v_tanks v_hasPlan v_cycle v_second v_entered v_done v_took v_stopped v_move v_ends v_onHoist v_began (upd f_order 0 0)) := hD
  refine lv_aload_n hx hb d_MD_takeOrder_9 rfl (lv_at hl 1 rfl) ?_
  refine va_get (D := (dC, dI)) (ci := 6) (v := .int v_tanks) (C := R_MD) (T := F_MD) (N := 24) hx hb hts uw_MD hown hK hP 0 rfl rfl 1 (by decide) (hts _ tw_172) (fun _ h9 => h9) rfl d_MD_takeOrder_10 ?_
  refine lv_istore_n (lv' := [(3, .int v_tanks), (2, .int a1), (0, .ref q_this), (1, .int a1)]) hx hb d_MD_takeOrder_13 rfl hl (by decide) rfl (fun ls hl => ?_)
  exact (loop z) a1 a1 v_tanks (upd f_order 0 0) _ _ _ hP hD hS (lv_sub hl [2, 3, 1, 0] rfl) hF
abbrev wd_MD_least (q_this : Nat) (q_low : Nat) (q_high : Nat) (q_loaded : Nat) (q_empty : Nat) (q_order : Nat) (q_places : Nat) (q_times : Nat) (q_planOrder : Nat) (q_planTimes : Nat) (q_carriers : Nat) (q_begins : Nat) (cI : ClassId) (v_thrown : Int32) (v_tanks : Int32) (v_hasPlan : Int32) (v_cycle : Int32) (v_second : Int32) (v_entered : Int32) (v_done : Int32) (v_took : Int32) (v_stopped : Int32) (v_move : Int32) (v_ends : Int32) (v_onHoist : Int32) (v_began : Int32) (f_empty : Nat → Int32) (f_loaded : Nat → Int32) (f_order : Nat → Int32) (f_places : Nat → Int32) (f_times : Nat → Int32) (f_low : Nat → Int32) (f_high : Nat → Int32) : va_W := [(q_this, .inr (6, [.int v_thrown, .int v_tanks, .ref q_low, .ref q_high, .ref q_loaded, .ref q_empty, .ref q_order, .ref q_places, .ref q_times, .int v_hasPlan, .int v_cycle, .ref q_planOrder, .ref q_planTimes, .int v_second, .int v_entered, .int v_done, .int v_took, .int v_stopped, .ref q_carriers, .ref q_begins, .int v_move, .int v_ends, .int v_onHoist, .int v_began])), (q_empty, .inl (cI, 49, .inl f_empty)), (q_loaded, .inl (cI, 6, .inl f_loaded)), (q_order, .inl (cI, 6, .inl f_order)), (q_places, .inl (cI, 6, .inl f_places)), (q_times, .inl (cI, 6, .inl f_times)), (q_low, .inl (cI, 6, .inl f_low)), (q_high, .inl (cI, 6, .inl f_high))]
set_option maxHeartbeats 4000000 in
set_option maxRecDepth 100000 in
theorem c_MD_least (l : Launch) (dC : Nat → ClassId) (dI : Nat → Nat → Nat) (q_this : Nat) (q_low : Nat) (q_high : Nat) (q_loaded : Nat) (q_empty : Nat) (q_order : Nat) (q_places : Nat) (q_times : Nat) (q_planOrder : Nat) (q_planTimes : Nat) (q_carriers : Nat) (q_begins : Nat) (cI : ClassId) (sz : Nat) (z : Nat) (a1 : Int32) (v_thrown : Int32) (v_tanks : Int32) (v_hasPlan : Int32) (v_cycle : Int32) (v_second : Int32) (v_entered : Int32) (v_done : Int32) (v_took : Int32) (v_stopped : Int32) (v_move : Int32) (v_ends : Int32) (v_onHoist : Int32) (v_began : Int32) (f_empty : Nat → Int32) (f_loaded : Nat → Int32) (f_order : Nat → Int32) (f_places : Nat → Int32) (f_times : Nat → Int32) (f_low : Nat → Int32) (f_high : Nat → Int32) (rr : Int32) (n_v_thrown : Int32) (n_f_order : Nat → Int32) (n_f_places : Nat → Int32) (n_f_times : Nat → Int32) (hF : fn_MD_least z a1 v_thrown v_tanks f_empty f_loaded f_order f_places f_times f_low f_high = some (rr, n_v_thrown, n_f_order, n_f_places, n_f_times)) : Met l y_MD_least w_MD_least ({ frames := 4, cells := 0, slots := 0, locals := 93 }) (hq_Pc (dC, dI) vwCl [(cI, .int)] (wd_MD_least q_this q_low q_high q_loaded q_empty q_order q_places q_times q_planOrder q_planTimes q_carriers q_begins cI v_thrown v_tanks v_hasPlan v_cycle v_second v_entered v_done v_took v_stopped v_move v_ends v_onHoist v_began f_empty f_loaded f_order f_places f_times f_low f_high) sz [.ref q_this, .int a1]) (hq_Qi (dC, dI) vwCl [(cI, .int)] (wd_MD_least q_this q_low q_high q_loaded q_empty q_order q_places q_times q_planOrder q_planTimes q_carriers q_begins cI n_v_thrown v_tanks v_hasPlan v_cycle v_second v_entered v_done v_took v_stopped v_move v_ends v_onHoist v_began f_empty f_loaded n_f_order n_f_places n_f_times f_low f_high) rr (va_A (wd_MD_least q_this q_low q_high q_loaded q_empty q_order q_places q_times q_planOrder q_planTimes q_carriers q_begins cI v_thrown v_tanks v_hasPlan v_cycle v_second v_entered v_done v_took v_stopped v_move v_ends v_onHoist v_began f_empty f_loaded f_order f_places f_times f_low f_high) sz)) 0 0 (va_A (wd_MD_least q_this q_low q_high q_loaded q_empty q_order q_places q_times q_planOrder q_planTimes q_carriers q_begins cI v_thrown v_tanks v_hasPlan v_cycle v_second v_entered v_done v_took v_stopped v_move v_ends v_onHoist v_began f_empty f_loaded f_order f_places f_times f_low f_high) sz) := by
  refine hq_met (Qc := (hq_Qi (dC, dI) vwCl [(cI, .int)] (wd_MD_least q_this q_low q_high q_loaded q_empty q_order q_places q_times q_planOrder q_planTimes q_carriers q_begins cI n_v_thrown v_tanks v_hasPlan v_cycle v_second v_entered v_done v_took v_stopped v_move v_ends v_onHoist v_began f_empty f_loaded n_f_order n_f_places n_f_times f_low f_high) rr)) (cc := b_MD_least) (maxL := 3) (ret := some .int) (by decide) rfl (Nat.le_of_ble_eq_true rfl) ?_
  intro p e s m args below meth c A ls hx hb hr hml hts hown hlocks hnm hP hD hK hA hS hl
  have hts : ∀ w ∈ tb0, w.before args s = true := fun w h => hts w (List.mem_cons_of_mem _ h)
  have hown : s.vm.findClass R_MD = some m.cls := hown
  have hl : lv_has ls 3 [(0, .ref q_this), (1, .int a1)] := hl
  unfold fn_MD_least at hF
  refine lv_aload_n hx hb d_MD_least_0 rfl (lv_at hl 0 rfl) ?_
  obtain ⟨r1, hc1, hF⟩ := ox_clS hF
  refine hq_ci (ws' := (wd_MD_least q_this q_low q_high q_loaded q_empty q_order q_places q_times q_planOrder q_planTimes q_carriers q_begins cI v_thrown v_tanks v_hasPlan v_cycle v_second v_entered v_done v_took v_stopped v_move v_ends v_onHoist v_began f_empty f_loaded f_order f_places f_times f_low f_high)) (hq_rV (As := []) (rest := []) ⟨hx, hb, hml, hown, hts⟩ (c_MD_readiness l dC dI q_this q_low q_high q_loaded q_empty q_order q_places q_times q_planOrder q_planTimes q_carriers q_begins cI _ z v_thrown v_tanks v_hasPlan v_cycle v_second v_entered v_done v_took v_stopped v_move v_ends v_onHoist v_began f_empty f_loaded r1 hc1) (cwV 0 hts (hq_gV tw_186 tw_187 tw_188 tw_176 tw_189) rfl rfl rfl yv_MD_readiness ⟨Nat.le_of_ble_eq_true rfl, Nat.le_of_ble_eq_true rfl⟩) hP hD hK [0] rfl 0 rfl rfl [0, 1, 2] rfl rfl rfl hl.1 rfl (Nat.le_of_ble_eq_true rfl) d_MD_least_1 ⟨Nat.zero_le _, Nat.zero_le _⟩) hP hD hS hA [0, 1, 2] [3, 4, 5, 6, 7] [5, 6, 7, 0, 1, 2, 3, 4] rfl rfl rfl (by decide) rfl rfl (fun H locs hP hD hS => ?_)
  refine lv_if_ne (tgt := 11) hx hb d_MD_least_4 (by decide) (fun hb2 => ?_) (fun hb2 => ?_)
  · have hF := ox_t hF hb2
    refine lv_iconst (v := 0) hx hb d_MD_least_11 (by decide) ?_
    refine lv_istore_n (lv' := [(2, .int 0), (0, .ref q_this), (1, .int a1)]) hx hb d_MD_least_12 rfl hl (by decide) rfl (fun ls hl => ?_)
    refine lv_aload_n hx hb d_MD_least_13 rfl (lv_at hl 1 rfl) ?_
    refine lv_iload_n hx hb d_MD_least_14 rfl (lv_at hl 0 rfl) ?_
    refine lv_if_ne (tgt := 22) hx hb d_MD_least_15 (by decide) (fun h => absurd (by decide) h) (fun _ => ?_)
    refine lv_iconst (v := 1) hx hb d_MD_least_18 (by decide) ?_
    refine lv_goto (tgt := 23) hx hb d_MD_least_19 (by decide) ?_
    refine lv_iload_n hx hb d_MD_least_23 rfl (lv_at hl 0 rfl) ?_
    refine lv_if_eq (tgt := 39) hx hb d_MD_least_24 (by decide) (fun _ => ?_) (fun h => absurd (by decide) h)
    refine lv_iconst (v := 0) hx hb d_MD_least_39 (by decide) ?_
    obtain ⟨⟨r3, s3_v_thrown⟩, hc3, hF⟩ := ox_clS hF
    refine hq_ci (ws' := (wd_MD_least q_this q_low q_high q_loaded q_empty q_order q_places q_times q_planOrder q_planTimes q_carriers q_begins cI s3_v_thrown v_tanks v_hasPlan v_cycle v_second v_entered v_done v_took v_stopped v_move v_ends v_onHoist v_began f_empty f_loaded f_order f_places f_times f_low f_high)) (hq_rV (As := [.int 1, .int 0]) (rest := []) ⟨hx, hb, hml, hown, hts⟩ (c_MD_refuse l dC dI q_this q_low q_high q_loaded q_empty q_order q_places q_times q_planOrder q_planTimes q_carriers q_begins _ 1 0 v_thrown v_tanks v_hasPlan v_cycle v_second v_entered v_done v_took v_stopped v_move v_ends v_onHoist v_began r3 s3_v_thrown hc3) (cwV 2 hts (hq_gV tw_178 tw_179 tw_180 tw_176 tw_181) rfl rfl rfl yv_MD_refuse ⟨Nat.le_of_ble_eq_true rfl, Nat.le_of_ble_eq_true rfl⟩) hP hD hK [] rfl 0 rfl rfl [0] rfl rfl rfl hl.1 rfl (Nat.le_of_ble_eq_true rfl) d_MD_least_40 ⟨Nat.zero_le _, Nat.zero_le _⟩) hP hD hS hA [0] [1, 2, 3, 4, 5, 6, 7] [7, 0, 1, 2, 3, 4, 5, 6] rfl rfl rfl (by decide) rfl rfl (fun H locs hP hD hS => ?_)
    refine lv_if_eq (tgt := 48) hx hb d_MD_least_43 (by decide) (fun hb4 => ?_) (fun hb4 => ?_)
    · have hF := ox_t hF hb4
      refine lv_aload_n hx hb d_MD_least_48 rfl (lv_at hl 1 rfl) ?_
      refine lv_sipush (v := 2000) hx hb d_MD_least_49 (by decide) ?_
      obtain ⟨⟨r5, s5_f_places, s5_f_times⟩, hc5, hF⟩ := ox_clS hF
      refine hq_ci (ws' := (wd_MD_least q_this q_low q_high q_loaded q_empty q_order q_places q_times q_planOrder q_planTimes q_carriers q_begins cI s3_v_thrown v_tanks v_hasPlan v_cycle v_second v_entered v_done v_took v_stopped v_move v_ends v_onHoist v_began f_empty f_loaded f_order s5_f_places s5_f_times f_low f_high)) (hq_rV (As := [.int 2000]) (rest := []) ⟨hx, hb, hml, hown, hts⟩ (c_MD_leastOf l dC dI q_this q_low q_high q_loaded q_empty q_order q_places q_times q_planOrder q_planTimes q_carriers q_begins cI _ z 2000 s3_v_thrown v_tanks v_hasPlan v_cycle v_second v_entered v_done v_took v_stopped v_move v_ends v_onHoist v_began f_order f_places f_loaded f_empty f_times f_low f_high r5 s5_f_places s5_f_times hc5) (cwV 1 hts (hq_gV tw_217 tw_218 tw_219 tw_176 tw_220) rfl rfl rfl yv_MD_leastOf ⟨Nat.le_of_ble_eq_true rfl, Nat.le_of_ble_eq_true rfl⟩) hP hD hK [0] rfl 0 rfl rfl [0, 3, 4, 2, 1, 5, 6, 7] rfl rfl rfl hl.1 rfl (Nat.le_of_ble_eq_true rfl) d_MD_least_52 ⟨Nat.zero_le _, Nat.zero_le _⟩) hP hD hS hA [0, 3, 4, 2, 1, 5, 6, 7] [] [0, 4, 3, 1, 2, 5, 6, 7] rfl rfl rfl (by decide) rfl rfl (fun H locs hP hD hS => ?_)
      cases hF
      exact hq_iret hx hb hr hlocks hP hD hK hS d_MD_least_55
    · have hF := ox_f hF hb4
      refine lv_iconst (v := 0) hx hb d_MD_least_46 (by decide) ?_
      cases hF
      exact hq_iret hx hb hr hlocks hP hD hK hS d_MD_least_47
  · have hF := ox_fn hF hb2
    refine lv_iconst (v := 1) hx hb d_MD_least_7 (by decide) ?_
    refine lv_goto (tgt := 12) hx hb d_MD_least_8 (by decide) ?_
    refine lv_istore_n (lv' := [(2, .int 1), (0, .ref q_this), (1, .int a1)]) hx hb d_MD_least_12 rfl hl (by decide) rfl (fun ls hl => ?_)
    refine lv_aload_n hx hb d_MD_least_13 rfl (lv_at hl 1 rfl) ?_
    refine lv_iload_n hx hb d_MD_least_14 rfl (lv_at hl 0 rfl) ?_
    refine lv_if_ne (tgt := 22) hx hb d_MD_least_15 (by decide) (fun _ => ?_) (fun h => absurd h (by decide))
    refine lv_iconst (v := 0) hx hb d_MD_least_22 (by decide) ?_
    refine lv_iload_n hx hb d_MD_least_23 rfl (lv_at hl 0 rfl) ?_
    refine lv_if_eq (tgt := 39) hx hb d_MD_least_24 (by decide) (fun h => absurd h (by decide)) (fun _ => ?_)
    refine lv_aload_n hx hb d_MD_least_27 rfl (lv_at hl 1 rfl) ?_
    refine lv_iload_n hx hb d_MD_least_28 rfl (lv_at hl 2 rfl) ?_
    obtain ⟨⟨r6, s6_f_order⟩, hc6, hF⟩ := ox_clS hF
    refine hq_ci (ws' := (wd_MD_least q_this q_low q_high q_loaded q_empty q_order q_places q_times q_planOrder q_planTimes q_carriers q_begins cI v_thrown v_tanks v_hasPlan v_cycle v_second v_entered v_done v_took v_stopped v_move v_ends v_onHoist v_began f_empty f_loaded s6_f_order f_places f_times f_low f_high)) (hq_rV (As := [.int a1]) (rest := [.int 0, .ref q_this]) ⟨hx, hb, hml, hown, hts⟩ (c_MD_takeOrder l dC dI q_this q_low q_high q_loaded q_empty q_order q_places q_times q_planOrder q_planTimes q_carriers q_begins cI _ z a1 v_thrown v_tanks v_hasPlan v_cycle v_second v_entered v_done v_took v_stopped v_move v_ends v_onHoist v_began f_order r6 s6_f_order hc6) (cwV 1 hts (hq_gV tw_221 tw_222 tw_223 tw_176 tw_224) rfl rfl rfl yv_MD_takeOrder ⟨Nat.le_of_ble_eq_true rfl, Nat.le_of_ble_eq_true rfl⟩) hP hD hK [0] rfl 0 rfl rfl [0, 3] rfl rfl rfl hl.1 rfl (Nat.le_of_ble_eq_true rfl) d_MD_least_29 ⟨Nat.zero_le _, Nat.zero_le _⟩) hP hD hS hA [0, 3] [1, 2, 4, 5, 6, 7] [6, 0, 1, 7, 2, 3, 4, 5] rfl rfl rfl (by decide) rfl rfl (fun H locs hP hD hS => ?_)
    refine lv_if_ne (tgt := 39) hx hb d_MD_least_32 (by decide) (fun hb7 => ?_) (fun hb7 => ?_)
    · have hF := ox_t hF hb7
      refine lv_iconst (v := 0) hx hb d_MD_least_39 (by decide) ?_
      obtain ⟨⟨r8, s8_v_thrown⟩, hc8, hF⟩ := ox_clS hF
      refine hq_ci (ws' := (wd_MD_least q_this q_low q_high q_loaded q_empty q_order q_places q_times q_planOrder q_planTimes q_carriers q_begins cI s8_v_thrown v_tanks v_hasPlan v_cycle v_second v_entered v_done v_took v_stopped v_move v_ends v_onHoist v_began f_empty f_loaded s6_f_order f_places f_times f_low f_high)) (hq_rV (As := [.int 0, .int 0]) (rest := []) ⟨hx, hb, hml, hown, hts⟩ (c_MD_refuse l dC dI q_this q_low q_high q_loaded q_empty q_order q_places q_times q_planOrder q_planTimes q_carriers q_begins _ 0 0 v_thrown v_tanks v_hasPlan v_cycle v_second v_entered v_done v_took v_stopped v_move v_ends v_onHoist v_began r8 s8_v_thrown hc8) (cwV 2 hts (hq_gV tw_178 tw_179 tw_180 tw_176 tw_181) rfl rfl rfl yv_MD_refuse ⟨Nat.le_of_ble_eq_true rfl, Nat.le_of_ble_eq_true rfl⟩) hP hD hK [] rfl 0 rfl rfl [0] rfl rfl rfl hl.1 rfl (Nat.le_of_ble_eq_true rfl) d_MD_least_40 ⟨Nat.zero_le _, Nat.zero_le _⟩) hP hD hS hA [0] [1, 2, 3, 4, 5, 6, 7] [7, 0, 1, 2, 3, 4, 5, 6] rfl rfl rfl (by decide) rfl rfl (fun H locs hP hD hS => ?_)
      refine lv_if_eq (tgt := 48) hx hb d_MD_least_43 (by decide) (fun hb9 => ?_) (fun hb9 => ?_)
      · have hF := ox_t hF hb9
        refine lv_aload_n hx hb d_MD_least_48 rfl (lv_at hl 1 rfl) ?_
        refine lv_sipush (v := 2000) hx hb d_MD_least_49 (by decide) ?_
        obtain ⟨⟨r10, s10_f_places, s10_f_times⟩, hc10, hF⟩ := ox_clS hF
        refine hq_ci (ws' := (wd_MD_least q_this q_low q_high q_loaded q_empty q_order q_places q_times q_planOrder q_planTimes q_carriers q_begins cI s8_v_thrown v_tanks v_hasPlan v_cycle v_second v_entered v_done v_took v_stopped v_move v_ends v_onHoist v_began f_empty f_loaded s6_f_order s10_f_places s10_f_times f_low f_high)) (hq_rV (As := [.int 2000]) (rest := []) ⟨hx, hb, hml, hown, hts⟩ (c_MD_leastOf l dC dI q_this q_low q_high q_loaded q_empty q_order q_places q_times q_planOrder q_planTimes q_carriers q_begins cI _ z 2000 s8_v_thrown v_tanks v_hasPlan v_cycle v_second v_entered v_done v_took v_stopped v_move v_ends v_onHoist v_began s6_f_order f_places f_loaded f_empty f_times f_low f_high r10 s10_f_places s10_f_times hc10) (cwV 1 hts (hq_gV tw_217 tw_218 tw_219 tw_176 tw_220) rfl rfl rfl yv_MD_leastOf ⟨Nat.le_of_ble_eq_true rfl, Nat.le_of_ble_eq_true rfl⟩) hP hD hK [0] rfl 0 rfl rfl [0, 3, 4, 2, 1, 5, 6, 7] rfl rfl rfl hl.1 rfl (Nat.le_of_ble_eq_true rfl) d_MD_least_52 ⟨Nat.zero_le _, Nat.zero_le _⟩) hP hD hS hA [0, 3, 4, 2, 1, 5, 6, 7] [] [0, 4, 3, 1, 2, 5, 6, 7] rfl rfl rfl (by decide) rfl rfl (fun H locs hP hD hS => ?_)
        cases hF
        exact hq_iret hx hb hr hlocks hP hD hK hS d_MD_least_55
      · have hF := ox_f hF hb9
        refine lv_iconst (v := 0) hx hb d_MD_least_46 (by decide) ?_
        cases hF
        exact hq_iret hx hb hr hlocks hP hD hK hS d_MD_least_47
    · have hF := ox_fn hF hb7
      refine lv_iconst (v := 1) hx hb d_MD_least_35 (by decide) ?_
      refine lv_goto (tgt := 40) hx hb d_MD_least_36 (by decide) ?_
      obtain ⟨⟨r11, s11_v_thrown⟩, hc11, hF⟩ := ox_clS hF
      refine hq_ci (ws' := (wd_MD_least q_this q_low q_high q_loaded q_empty q_order q_places q_times q_planOrder q_planTimes q_carriers q_begins cI s11_v_thrown v_tanks v_hasPlan v_cycle v_second v_entered v_done v_took v_stopped v_move v_ends v_onHoist v_began f_empty f_loaded s6_f_order f_places f_times f_low f_high)) (hq_rV (As := [.int 0, .int 1]) (rest := []) ⟨hx, hb, hml, hown, hts⟩ (c_MD_refuse l dC dI q_this q_low q_high q_loaded q_empty q_order q_places q_times q_planOrder q_planTimes q_carriers q_begins _ 0 1 v_thrown v_tanks v_hasPlan v_cycle v_second v_entered v_done v_took v_stopped v_move v_ends v_onHoist v_began r11 s11_v_thrown hc11) (cwV 2 hts (hq_gV tw_178 tw_179 tw_180 tw_176 tw_181) rfl rfl rfl yv_MD_refuse ⟨Nat.le_of_ble_eq_true rfl, Nat.le_of_ble_eq_true rfl⟩) hP hD hK [] rfl 0 rfl rfl [0] rfl rfl rfl hl.1 rfl (Nat.le_of_ble_eq_true rfl) d_MD_least_40 ⟨Nat.zero_le _, Nat.zero_le _⟩) hP hD hS hA [0] [1, 2, 3, 4, 5, 6, 7] [7, 0, 1, 2, 3, 4, 5, 6] rfl rfl rfl (by decide) rfl rfl (fun H locs hP hD hS => ?_)
      refine lv_if_eq (tgt := 48) hx hb d_MD_least_43 (by decide) (fun hb12 => ?_) (fun hb12 => ?_)
      · have hF := ox_t hF hb12
        refine lv_aload_n hx hb d_MD_least_48 rfl (lv_at hl 1 rfl) ?_
        refine lv_sipush (v := 2000) hx hb d_MD_least_49 (by decide) ?_
        obtain ⟨⟨r13, s13_f_places, s13_f_times⟩, hc13, hF⟩ := ox_clS hF
        refine hq_ci (ws' := (wd_MD_least q_this q_low q_high q_loaded q_empty q_order q_places q_times q_planOrder q_planTimes q_carriers q_begins cI s11_v_thrown v_tanks v_hasPlan v_cycle v_second v_entered v_done v_took v_stopped v_move v_ends v_onHoist v_began f_empty f_loaded s6_f_order s13_f_places s13_f_times f_low f_high)) (hq_rV (As := [.int 2000]) (rest := []) ⟨hx, hb, hml, hown, hts⟩ (c_MD_leastOf l dC dI q_this q_low q_high q_loaded q_empty q_order q_places q_times q_planOrder q_planTimes q_carriers q_begins cI _ z 2000 s11_v_thrown v_tanks v_hasPlan v_cycle v_second v_entered v_done v_took v_stopped v_move v_ends v_onHoist v_began s6_f_order f_places f_loaded f_empty f_times f_low f_high r13 s13_f_places s13_f_times hc13) (cwV 1 hts (hq_gV tw_217 tw_218 tw_219 tw_176 tw_220) rfl rfl rfl yv_MD_leastOf ⟨Nat.le_of_ble_eq_true rfl, Nat.le_of_ble_eq_true rfl⟩) hP hD hK [0] rfl 0 rfl rfl [0, 3, 4, 2, 1, 5, 6, 7] rfl rfl rfl hl.1 rfl (Nat.le_of_ble_eq_true rfl) d_MD_least_52 ⟨Nat.zero_le _, Nat.zero_le _⟩) hP hD hS hA [0, 3, 4, 2, 1, 5, 6, 7] [] [0, 4, 3, 1, 2, 5, 6, 7] rfl rfl rfl (by decide) rfl rfl (fun H locs hP hD hS => ?_)
        cases hF
        exact hq_iret hx hb hr hlocks hP hD hK hS d_MD_least_55
      · have hF := ox_f hF hb12
        refine lv_iconst (v := 0) hx hb d_MD_least_46 (by decide) ?_
        cases hF
        exact hq_iret hx hb hr hlocks hP hD hK hS d_MD_least_47
abbrev wd_MD_keep (q_this : Nat) (q_low : Nat) (q_high : Nat) (q_loaded : Nat) (q_empty : Nat) (q_order : Nat) (q_places : Nat) (q_times : Nat) (q_planOrder : Nat) (q_planTimes : Nat) (q_carriers : Nat) (q_begins : Nat) (cI : ClassId) (v_thrown : Int32) (v_tanks : Int32) (v_hasPlan : Int32) (v_cycle : Int32) (v_second : Int32) (v_entered : Int32) (v_done : Int32) (v_took : Int32) (v_stopped : Int32) (v_move : Int32) (v_ends : Int32) (v_onHoist : Int32) (v_began : Int32) (f_order : Nat → Int32) (f_planOrder : Nat → Int32) (f_times : Nat → Int32) (f_planTimes : Nat → Int32) : va_W := [(q_this, .inr (6, [.int v_thrown, .int v_tanks, .ref q_low, .ref q_high, .ref q_loaded, .ref q_empty, .ref q_order, .ref q_places, .ref q_times, .int v_hasPlan, .int v_cycle, .ref q_planOrder, .ref q_planTimes, .int v_second, .int v_entered, .int v_done, .int v_took, .int v_stopped, .ref q_carriers, .ref q_begins, .int v_move, .int v_ends, .int v_onHoist, .int v_began])), (q_order, .inl (cI, 6, .inl f_order)), (q_planOrder, .inl (cI, 6, .inl f_planOrder)), (q_times, .inl (cI, 6, .inl f_times)), (q_planTimes, .inl (cI, 6, .inl f_planTimes))]
set_option maxHeartbeats 4000000 in
set_option maxRecDepth 100000 in
theorem c_MD_keep (l : Launch) (dC : Nat → ClassId) (dI : Nat → Nat → Nat) (q_this : Nat) (q_low : Nat) (q_high : Nat) (q_loaded : Nat) (q_empty : Nat) (q_order : Nat) (q_places : Nat) (q_times : Nat) (q_planOrder : Nat) (q_planTimes : Nat) (q_carriers : Nat) (q_begins : Nat) (cI : ClassId) (sz : Nat) (z : Nat) (a1 : Int32) (v_thrown : Int32) (v_tanks : Int32) (v_hasPlan : Int32) (v_cycle : Int32) (v_second : Int32) (v_entered : Int32) (v_done : Int32) (v_took : Int32) (v_stopped : Int32) (v_move : Int32) (v_ends : Int32) (v_onHoist : Int32) (v_began : Int32) (f_order : Nat → Int32) (f_planOrder : Nat → Int32) (f_times : Nat → Int32) (f_planTimes : Nat → Int32) (n_v_hasPlan : Int32) (n_v_cycle : Int32) (n_f_planOrder : Nat → Int32) (n_f_planTimes : Nat → Int32) (hF : fn_MD_keep z a1 v_tanks v_hasPlan v_cycle f_order f_planOrder f_times f_planTimes = some (n_v_hasPlan, n_v_cycle, n_f_planOrder, n_f_planTimes)) : Met l y_MD_keep w_MD_keep ({ frames := 0, cells := 0, slots := 0, locals := 0 }) (hq_Pc (dC, dI) vwCl [(cI, .int)] (wd_MD_keep q_this q_low q_high q_loaded q_empty q_order q_places q_times q_planOrder q_planTimes q_carriers q_begins cI v_thrown v_tanks v_hasPlan v_cycle v_second v_entered v_done v_took v_stopped v_move v_ends v_onHoist v_began f_order f_planOrder f_times f_planTimes) sz [.ref q_this, .int a1]) (hq_Qv (dC, dI) vwCl [(cI, .int)] (wd_MD_keep q_this q_low q_high q_loaded q_empty q_order q_places q_times q_planOrder q_planTimes q_carriers q_begins cI v_thrown v_tanks n_v_hasPlan n_v_cycle v_second v_entered v_done v_took v_stopped v_move v_ends v_onHoist v_began f_order n_f_planOrder f_times n_f_planTimes) (va_A (wd_MD_keep q_this q_low q_high q_loaded q_empty q_order q_places q_times q_planOrder q_planTimes q_carriers q_begins cI v_thrown v_tanks v_hasPlan v_cycle v_second v_entered v_done v_took v_stopped v_move v_ends v_onHoist v_began f_order f_planOrder f_times f_planTimes) sz)) 0 0 (va_A (wd_MD_keep q_this q_low q_high q_loaded q_empty q_order q_places q_times q_planOrder q_planTimes q_carriers q_begins cI v_thrown v_tanks v_hasPlan v_cycle v_second v_entered v_done v_took v_stopped v_move v_ends v_onHoist v_began f_order f_planOrder f_times f_planTimes) sz) := by
  refine hq_met (Qc := (hq_Qv (dC, dI) vwCl [(cI, .int)] (wd_MD_keep q_this q_low q_high q_loaded q_empty q_order q_places q_times q_planOrder q_planTimes q_carriers q_begins cI v_thrown v_tanks n_v_hasPlan n_v_cycle v_second v_entered v_done v_took v_stopped v_move v_ends v_onHoist v_began f_order n_f_planOrder f_times n_f_planTimes))) (cc := b_MD_keep) (maxL := 3) (ret := none) (by decide) rfl (Nat.le_of_ble_eq_true rfl) ?_
  intro p e s m args below meth c A ls hx hb hr hml hts hown hlocks hnm hP hD hK hA hS hl
  have hts : ∀ w ∈ tb0, w.before args s = true := fun w h => hts w (List.mem_cons_of_mem _ h)
  have hown : s.vm.findClass R_MD = some m.cls := hown
  have hl : lv_has ls 3 [(0, .ref q_this), (1, .int a1)] := hl
  unfold fn_MD_keep at hF
  have loop : ∀ fu : Nat, (∀ (i1 : Int32) (i2 : Int32) (v_hasPlan : Int32) (v_cycle : Int32) (f_planOrder : Nat → Int32) (f_planTimes : Nat → Int32) (H : Heap) (locs : List Loc) (ls : Array Slot), va_P (dC, dI) vwCl (wd_MD_keep q_this q_low q_high q_loaded q_empty q_order q_places q_times q_planOrder q_planTimes q_carriers q_begins cI v_thrown v_tanks v_hasPlan v_cycle v_second v_entered v_done v_took v_stopped v_move v_ends v_onHoist v_began f_order f_planOrder f_times f_planTimes) H → va_D A (wd_MD_keep q_this q_low q_high q_loaded q_empty q_order q_places q_times q_planOrder q_planTimes q_carriers q_begins cI v_thrown v_tanks v_hasPlan v_cycle v_second v_entered v_done v_took v_stopped v_move v_ends v_onHoist v_began f_order f_planOrder f_times f_planTimes) → va_S A s.heap H locs → lv_has ls 3 [(0, .ref q_this), (1, .int i1), (2, .int i2)] → lp_MD_keep v_tanks f_order f_times fu 0 i1 i2 v_hasPlan v_cycle f_planOrder f_planTimes = some (n_v_hasPlan, n_v_cycle, n_f_planOrder, n_f_planTimes) → W p l e ({ frames := 0, cells := 0, slots := 0, locals := 0 }) s m args below meth c H locs 0 0 (MQ below ((hq_Qv (dC, dI) vwCl [(cI, .int)] (wd_MD_keep q_this q_low q_high q_loaded q_empty q_order q_places q_times q_planOrder q_planTimes q_carriers q_begins cI v_thrown v_tanks n_v_hasPlan n_v_cycle v_second v_entered v_done v_took v_stopped v_move v_ends v_onHoist v_began f_order n_f_planOrder f_times n_f_planTimes)) A) args s 0 0 A) (F0 m 12 ls [])) := by
    intro fu
    induction fu with
    | zero => exact (fun _ _ _ _ _ _ _ _ _ _ _ _ _ h => by cases h)
    | succ fu ih =>
      intro i1 i2 v_hasPlan v_cycle f_planOrder f_planTimes H locs ls hP hD hS hl hF
      have hF : st_MD_keep v_tanks f_order f_times (lp_MD_keep v_tanks f_order f_times fu) 0 i1 i2 v_hasPlan v_cycle f_planOrder f_planTimes = some (n_v_hasPlan, n_v_cycle, n_f_planOrder, n_f_planTimes) := hF
      unfold st_MD_keep at hF
      try dsimp only at hF
      refine lv_iload_n hx hb d_MD_keep_12 rfl (lv_at hl 2 rfl) ?_
      refine lv_aload_n hx hb d_MD_keep_13 rfl (lv_at hl 0 rfl) ?_
      refine va_get (D := (dC, dI)) (ci := 6) (v := .int v_tanks) (C := R_MD) (T := F_MD) (N := 24) hx hb hts uw_MD hown hK hP 0 rfl rfl 1 (by decide) (hts _ tw_172) (fun _ h9 => h9) rfl d_MD_keep_14 ?_
      refine lv_icmp_gt (tgt := 50) hx hb d_MD_keep_17 (by decide) (fun hb1 => ?_) (fun hb1 => ?_)
      · have hF := ox_t hF hb1
        cases hF
        exact hq_vret hx hb hr hlocks hP hD hK hS d_MD_keep_50
      · have hF := ox_f hF hb1
        refine lv_aload_n hx hb d_MD_keep_20 rfl (lv_at hl 0 rfl) ?_
        refine va_get (D := (dC, dI)) (ci := 6) (v := .ref q_planOrder) (C := R_MD) (T := F_MD) (N := 24) hx hb hts uw_MD hown hK hP 0 rfl rfl 11 (by decide) (hts _ tw_225) (fun _ h9 => h9) rfl d_MD_keep_21 ?_
        refine lv_iload_n hx hb d_MD_keep_24 rfl (lv_at hl 2 rfl) ?_
        refine lv_aload_n hx hb d_MD_keep_25 rfl (lv_at hl 0 rfl) ?_
        refine va_get (D := (dC, dI)) (ci := 6) (v := .ref q_order) (C := R_MD) (T := F_MD) (N := 24) hx hb hts uw_MD hown hK hP 0 rfl rfl 6 (by decide) (hts _ tw_191) (fun _ h9 => h9) rfl d_MD_keep_26 ?_
        refine lv_iload_n hx hb d_MD_keep_29 rfl (lv_at hl 2 rfl) ?_
        obtain ⟨hin, hF⟩ := ox_gdS hF
        refine va_iald hx hb hK hP 1 0 rfl rfl hin d_MD_keep_30 ?_
        obtain ⟨hin, hF⟩ := ox_gdS hF
        refine va_iast hx hb hK hP hD hS 2 0 rfl rfl hin d_MD_keep_31 (fun H locs hP hD hS => ?_)
        have hP : va_P (dC, dI) vwCl (wd_MD_keep q_this q_low q_high q_loaded q_empty q_order q_places q_times q_planOrder q_planTimes q_carriers q_begins cI v_thrown v_tanks v_hasPlan v_cycle v_second v_entered v_done v_took v_stopped v_move v_ends v_onHoist v_began f_order (upd f_planOrder i2.toNatClampNeg (f_order i2.toNatClampNeg)) f_times f_planTimes) H := hP
        have hD : va_D A (wd_MD_keep q_this q_low q_high q_loaded q_empty q_order q_places q_times q_planOrder q_planTimes q_carriers q_begins cI v_thrown v_tanks v_hasPlan v_cycle v_second v_entered v_done v_took v_stopped v_move v_ends v_onHoist v_began f_order (upd f_planOrder i2.toNatClampNeg (f_order i2.toNatClampNeg)) f_times f_planTimes) := hD
        refine lv_aload_n hx hb d_MD_keep_32 rfl (lv_at hl 0 rfl) ?_
        refine va_get (D := (dC, dI)) (ci := 6) (v := .ref q_planTimes) (C := R_MD) (T := F_MD) (N := 24) hx hb hts uw_MD hown hK hP 0 rfl rfl 12 (by decide) (hts _ tw_226) (fun _ h9 => h9) rfl d_MD_keep_33 ?_
        refine lv_iload_n hx hb d_MD_keep_36 rfl (lv_at hl 2 rfl) ?_
        refine lv_aload_n hx hb d_MD_keep_37 rfl (lv_at hl 0 rfl) ?_
        refine va_get (D := (dC, dI)) (ci := 6) (v := .ref q_times) (C := R_MD) (T := F_MD) (N := 24) hx hb hts uw_MD hown hK hP 0 rfl rfl 8 (by decide) (hts _ tw_190) (fun _ h9 => h9) rfl d_MD_keep_38 ?_
        refine lv_iload_n hx hb d_MD_keep_41 rfl (lv_at hl 2 rfl) ?_
        obtain ⟨hin, hF⟩ := ox_gdS hF
        refine va_iald hx hb hK hP 3 0 rfl rfl hin d_MD_keep_42 ?_
        obtain ⟨hin, hF⟩ := ox_gdS hF
        refine va_iast hx hb hK hP hD hS 4 0 rfl rfl hin d_MD_keep_43 (fun H locs hP hD hS => ?_)
        have hP : va_P (dC, dI) vwCl (wd_MD_keep q_this q_low q_high q_loaded q_empty q_order q_places q_times q_planOrder q_planTimes q_carriers q_begins cI v_thrown v_tanks v_hasPlan v_cycle v_second v_entered v_done v_took v_stopped v_move v_ends v_onHoist v_began f_order (upd f_planOrder i2.toNatClampNeg (f_order i2.toNatClampNeg)) f_times (upd f_planTimes i2.toNatClampNeg (f_times i2.toNatClampNeg))) H := hP
        have hD : va_D A (wd_MD_keep q_this q_low q_high q_loaded q_empty q_order q_places q_times q_planOrder q_planTimes q_carriers q_begins cI v_thrown v_tanks v_hasPlan v_cycle v_second v_entered v_done v_took v_stopped v_move v_ends v_onHoist v_began f_order (upd f_planOrder i2.toNatClampNeg (f_order i2.toNatClampNeg)) f_times (upd f_planTimes i2.toNatClampNeg (f_times i2.toNatClampNeg))) := hD
        refine lv_iinc (v := (i2 + 1)) (lv' := [(2, .int (i2 + 1)), (0, .ref q_this), (1, .int i1)]) hx hb d_MD_keep_44 hl (k := 2) rfl rfl (by decide) rfl (fun ls hl => ?_)
        refine lv_goto (tgt := 12) hx hb d_MD_keep_47 (by decide) ?_
        exact ih i1 (i2 + 1) v_hasPlan v_cycle (upd f_planOrder i2.toNatClampNeg (f_order i2.toNatClampNeg)) (upd f_planTimes i2.toNatClampNeg (f_times i2.toNatClampNeg)) _ _ _ hP hD hS (lv_sub hl [1, 2, 0] rfl) hF
  refine lv_aload_n hx hb d_MD_keep_0 rfl (lv_at hl 0 rfl) ?_
  refine lv_iload_n hx hb d_MD_keep_1 rfl (lv_at hl 1 rfl) ?_
  refine va_put (D := (dC, dI)) (ci := 6) (v := .int a1) (ty := .int) (C := R_MD) (T := F_MD) (N := 24) hx hb hts uw_MD t_MD t_MD_ok n_MD hown hK hP hD hS 0 rfl rfl 10 (by decide) (hts _ tw_227) (fun _ h9 => h9) rfl (by decide +kernel) rfl rfl (Nat.le_of_ble_eq_true rfl) d_MD_keep_2 (fun H locs hP hD hS => ?_)
  have hP : va_P (dC, dI) vwCl (wd_MD_keep q_this q_low q_high q_loaded q_empty q_order q_places q_times q_planOrder q_planTimes q_carriers q_begins cI v_thrown v_tanks v_hasPlan a1 v_second v_entered v_done v_took v_stopped v_move v_ends v_onHoist v_began f_order f_planOrder f_times f_planTimes) H := hP
  have hD : va_D A (wd_MD_keep q_this q_low q_high q_loaded q_empty q_order q_places q_times q_planOrder q_planTimes q_carriers q_begins cI v_thrown v_tanks v_hasPlan a1 v_second v_entered v_done v_took v_stopped v_move v_ends v_onHoist v_began f_order f_planOrder f_times f_planTimes) := hD
  refine lv_aload_n hx hb d_MD_keep_5 rfl (lv_at hl 0 rfl) ?_
  refine lv_iconst (v := 1) hx hb d_MD_keep_6 (by decide) ?_
  refine va_put (D := (dC, dI)) (ci := 6) (v := .int 1) (ty := .boolean) (C := R_MD) (T := F_MD) (N := 24) hx hb hts uw_MD t_MD t_MD_ok n_MD hown hK hP hD hS 0 rfl rfl 9 (by decide) (hts _ tw_173) (fun _ h9 => h9) rfl (by decide +kernel) rfl rfl (Nat.le_of_ble_eq_true rfl) d_MD_keep_7 (fun H locs hP hD hS => ?_)
  have hP : va_P (dC, dI) vwCl (wd_MD_keep q_this q_low q_high q_loaded q_empty q_order q_places q_times q_planOrder q_planTimes q_carriers q_begins cI v_thrown v_tanks 1 a1 v_second v_entered v_done v_took v_stopped v_move v_ends v_onHoist v_began f_order f_planOrder f_times f_planTimes) H := hP
  have hD : va_D A (wd_MD_keep q_this q_low q_high q_loaded q_empty q_order q_places q_times q_planOrder q_planTimes q_carriers q_begins cI v_thrown v_tanks 1 a1 v_second v_entered v_done v_took v_stopped v_move v_ends v_onHoist v_began f_order f_planOrder f_times f_planTimes) := hD
  refine lv_iconst (v := 0) hx hb d_MD_keep_10 (by decide) ?_
  refine lv_istore_n (lv' := [(2, .int 0), (0, .ref q_this), (1, .int a1)]) hx hb d_MD_keep_11 rfl hl (by decide) rfl (fun ls hl => ?_)
  exact (loop z) a1 0 1 a1 f_planOrder f_planTimes _ _ _ hP hD hS (lv_sub hl [1, 2, 0] rfl) hF
abbrev wd_MD_emptyLine (q_this : Nat) (q_low : Nat) (q_high : Nat) (q_loaded : Nat) (q_empty : Nat) (q_order : Nat) (q_places : Nat) (q_times : Nat) (q_planOrder : Nat) (q_planTimes : Nat) (q_carriers : Nat) (q_begins : Nat) (cI : ClassId) (v_thrown : Int32) (v_tanks : Int32) (v_hasPlan : Int32) (v_cycle : Int32) (v_second : Int32) (v_entered : Int32) (v_done : Int32) (v_took : Int32) (v_stopped : Int32) (v_move : Int32) (v_ends : Int32) (v_onHoist : Int32) (v_began : Int32) (f_carriers : Nat → Int32) : va_W := [(q_this, .inr (6, [.int v_thrown, .int v_tanks, .ref q_low, .ref q_high, .ref q_loaded, .ref q_empty, .ref q_order, .ref q_places, .ref q_times, .int v_hasPlan, .int v_cycle, .ref q_planOrder, .ref q_planTimes, .int v_second, .int v_entered, .int v_done, .int v_took, .int v_stopped, .ref q_carriers, .ref q_begins, .int v_move, .int v_ends, .int v_onHoist, .int v_began])), (q_carriers, .inl (cI, 7, .inl f_carriers))]
set_option maxHeartbeats 4000000 in
set_option maxRecDepth 100000 in
theorem c_MD_emptyLine (l : Launch) (dC : Nat → ClassId) (dI : Nat → Nat → Nat) (q_this : Nat) (q_low : Nat) (q_high : Nat) (q_loaded : Nat) (q_empty : Nat) (q_order : Nat) (q_places : Nat) (q_times : Nat) (q_planOrder : Nat) (q_planTimes : Nat) (q_carriers : Nat) (q_begins : Nat) (cI : ClassId) (sz : Nat) (z : Nat) (v_thrown : Int32) (v_tanks : Int32) (v_hasPlan : Int32) (v_cycle : Int32) (v_second : Int32) (v_entered : Int32) (v_done : Int32) (v_took : Int32) (v_stopped : Int32) (v_move : Int32) (v_ends : Int32) (v_onHoist : Int32) (v_began : Int32) (f_carriers : Nat → Int32) (n_v_second : Int32) (n_v_entered : Int32) (n_v_done : Int32) (n_v_took : Int32) (n_v_stopped : Int32) (n_v_move : Int32) (n_v_onHoist : Int32) (n_f_carriers : Nat → Int32) (hF : fn_MD_emptyLine z v_second v_entered v_done v_took v_stopped v_move v_onHoist f_carriers = some (n_v_second, n_v_entered, n_v_done, n_v_took, n_v_stopped, n_v_move, n_v_onHoist, n_f_carriers)) : Met l y_MD_emptyLine w_MD_emptyLine ({ frames := 0, cells := 0, slots := 0, locals := 0 }) (hq_Pc (dC, dI) vwCl [(cI, .int)] (wd_MD_emptyLine q_this q_low q_high q_loaded q_empty q_order q_places q_times q_planOrder q_planTimes q_carriers q_begins cI v_thrown v_tanks v_hasPlan v_cycle v_second v_entered v_done v_took v_stopped v_move v_ends v_onHoist v_began f_carriers) sz [.ref q_this]) (hq_Qv (dC, dI) vwCl [(cI, .int)] (wd_MD_emptyLine q_this q_low q_high q_loaded q_empty q_order q_places q_times q_planOrder q_planTimes q_carriers q_begins cI v_thrown v_tanks v_hasPlan v_cycle n_v_second n_v_entered n_v_done n_v_took n_v_stopped n_v_move v_ends n_v_onHoist v_began n_f_carriers) (va_A (wd_MD_emptyLine q_this q_low q_high q_loaded q_empty q_order q_places q_times q_planOrder q_planTimes q_carriers q_begins cI v_thrown v_tanks v_hasPlan v_cycle v_second v_entered v_done v_took v_stopped v_move v_ends v_onHoist v_began f_carriers) sz)) 0 0 (va_A (wd_MD_emptyLine q_this q_low q_high q_loaded q_empty q_order q_places q_times q_planOrder q_planTimes q_carriers q_begins cI v_thrown v_tanks v_hasPlan v_cycle v_second v_entered v_done v_took v_stopped v_move v_ends v_onHoist v_began f_carriers) sz) := by
  refine hq_met (Qc := (hq_Qv (dC, dI) vwCl [(cI, .int)] (wd_MD_emptyLine q_this q_low q_high q_loaded q_empty q_order q_places q_times q_planOrder q_planTimes q_carriers q_begins cI v_thrown v_tanks v_hasPlan v_cycle n_v_second n_v_entered n_v_done n_v_took n_v_stopped n_v_move v_ends n_v_onHoist v_began n_f_carriers))) (cc := b_MD_emptyLine) (maxL := 2) (ret := none) (by decide) rfl (Nat.le_of_ble_eq_true rfl) ?_
  intro p e s m args below meth c A ls hx hb hr hml hts hown hlocks hnm hP hD hK hA hS hl
  have hts : ∀ w ∈ tb0, w.before args s = true := fun w h => hts w (List.mem_cons_of_mem _ h)
  have hown : s.vm.findClass R_MD = some m.cls := hown
  have hl : lv_has ls 2 [(0, .ref q_this)] := hl
  unfold fn_MD_emptyLine at hF
  have loop : ∀ fu : Nat, (∀ (i1 : Int32) (v_second : Int32) (v_entered : Int32) (v_done : Int32) (v_took : Int32) (v_stopped : Int32) (v_move : Int32) (v_onHoist : Int32) (f_carriers : Nat → Int32) (H : Heap) (locs : List Loc) (ls : Array Slot), va_P (dC, dI) vwCl (wd_MD_emptyLine q_this q_low q_high q_loaded q_empty q_order q_places q_times q_planOrder q_planTimes q_carriers q_begins cI v_thrown v_tanks v_hasPlan v_cycle v_second v_entered v_done v_took v_stopped v_move v_ends v_onHoist v_began f_carriers) H → va_D A (wd_MD_emptyLine q_this q_low q_high q_loaded q_empty q_order q_places q_times q_planOrder q_planTimes q_carriers q_begins cI v_thrown v_tanks v_hasPlan v_cycle v_second v_entered v_done v_took v_stopped v_move v_ends v_onHoist v_began f_carriers) → va_S A s.heap H locs → lv_has ls 2 [(0, .ref q_this), (1, .int i1)] → lp_MD_emptyLine fu 0 i1 v_second v_entered v_done v_took v_stopped v_move v_onHoist f_carriers = some (n_v_second, n_v_entered, n_v_done, n_v_took, n_v_stopped, n_v_move, n_v_onHoist, n_f_carriers) → W p l e ({ frames := 0, cells := 0, slots := 0, locals := 0 }) s m args below meth c H locs 0 0 (MQ below ((hq_Qv (dC, dI) vwCl [(cI, .int)] (wd_MD_emptyLine q_this q_low q_high q_loaded q_empty q_order q_places q_times q_planOrder q_planTimes q_carriers q_begins cI v_thrown v_tanks v_hasPlan v_cycle n_v_second n_v_entered n_v_done n_v_took n_v_stopped n_v_move v_ends n_v_onHoist v_began n_f_carriers)) A) args s 0 0 A) (F0 m 37 ls [])) := by
    intro fu
    induction fu with
    | zero => exact (fun _ _ _ _ _ _ _ _ _ _ _ _ _ _ _ _ h => by cases h)
    | succ fu ih =>
      intro i1 v_second v_entered v_done v_took v_stopped v_move v_onHoist f_carriers H locs ls hP hD hS hl hF
      have hF : st_MD_emptyLine (lp_MD_emptyLine fu) 0 i1 v_second v_entered v_done v_took v_stopped v_move v_onHoist f_carriers = some (n_v_second, n_v_entered, n_v_done, n_v_took, n_v_stopped, n_v_move, n_v_onHoist, n_f_carriers) := hF
      unfold st_MD_emptyLine at hF
      try dsimp only at hF
      refine lv_iload_n hx hb d_MD_emptyLine_37 rfl (lv_at hl 1 rfl) ?_
      refine lv_bipush (v := 7) hx hb d_MD_emptyLine_38 (by decide) ?_
      refine lv_icmp_ge (tgt := 56) hx hb d_MD_emptyLine_40 (by decide) (fun hb1 => ?_) (fun hb1 => ?_)
      · have hF := ox_t hF hb1
        cases hF
        exact hq_vret hx hb hr hlocks hP hD hK hS d_MD_emptyLine_56
      · have hF := ox_f hF hb1
        refine lv_aload_n hx hb d_MD_emptyLine_43 rfl (lv_at hl 0 rfl) ?_
        refine va_get (D := (dC, dI)) (ci := 6) (v := .ref q_carriers) (C := R_MD) (T := F_MD) (N := 24) hx hb hts uw_MD hown hK hP 0 rfl rfl 18 (by decide) (hts _ tw_228) (fun _ h9 => h9) rfl d_MD_emptyLine_44 ?_
        refine lv_iload_n hx hb d_MD_emptyLine_47 rfl (lv_at hl 1 rfl) ?_
        refine lv_iconst (v := 0) hx hb d_MD_emptyLine_48 (by decide) ?_
        obtain ⟨hin, hF⟩ := ox_gdS hF
        refine va_iast hx hb hK hP hD hS 1 0 rfl rfl hin d_MD_emptyLine_49 (fun H locs hP hD hS => ?_)
        have hP : va_P (dC, dI) vwCl (wd_MD_emptyLine q_this q_low q_high q_loaded q_empty q_order q_places q_times q_planOrder q_planTimes q_carriers q_begins cI v_thrown v_tanks v_hasPlan v_cycle v_second v_entered v_done v_took v_stopped v_move v_ends v_onHoist v_began (upd f_carriers i1.toNatClampNeg 0)) H := hP
        have hD : va_D A (wd_MD_emptyLine q_this q_low q_high q_loaded q_empty q_order q_places q_times q_planOrder q_planTimes q_carriers q_begins cI v_thrown v_tanks v_hasPlan v_cycle v_second v_entered v_done v_took v_stopped v_move v_ends v_onHoist v_began (upd f_carriers i1.toNatClampNeg 0)) := hD
        refine lv_iinc (v := (i1 + 1)) (lv' := [(1, .int (i1 + 1)), (0, .ref q_this)]) hx hb d_MD_emptyLine_50 hl (k := 1) rfl rfl (by decide) rfl (fun ls hl => ?_)
        refine lv_goto (tgt := 37) hx hb d_MD_emptyLine_53 (by decide) ?_
        exact ih (i1 + 1) v_second v_entered v_done v_took v_stopped v_move v_onHoist (upd f_carriers i1.toNatClampNeg 0) _ _ _ hP hD hS (lv_sub hl [1, 0] rfl) hF
  refine lv_aload_n hx hb d_MD_emptyLine_0 rfl (lv_at hl 0 rfl) ?_
  refine lv_iconst (v := 0) hx hb d_MD_emptyLine_1 (by decide) ?_
  refine va_put (D := (dC, dI)) (ci := 6) (v := .int 0) (ty := .int) (C := R_MD) (T := F_MD) (N := 24) hx hb hts uw_MD t_MD t_MD_ok n_MD hown hK hP hD hS 0 rfl rfl 13 (by decide) (hts _ tw_229) (fun _ h9 => h9) rfl (by decide +kernel) rfl rfl (Nat.le_of_ble_eq_true rfl) d_MD_emptyLine_2 (fun H locs hP hD hS => ?_)
  have hP : va_P (dC, dI) vwCl (wd_MD_emptyLine q_this q_low q_high q_loaded q_empty q_order q_places q_times q_planOrder q_planTimes q_carriers q_begins cI v_thrown v_tanks v_hasPlan v_cycle 0 v_entered v_done v_took v_stopped v_move v_ends v_onHoist v_began f_carriers) H := hP
  have hD : va_D A (wd_MD_emptyLine q_this q_low q_high q_loaded q_empty q_order q_places q_times q_planOrder q_planTimes q_carriers q_begins cI v_thrown v_tanks v_hasPlan v_cycle 0 v_entered v_done v_took v_stopped v_move v_ends v_onHoist v_began f_carriers) := hD
  refine lv_aload_n hx hb d_MD_emptyLine_5 rfl (lv_at hl 0 rfl) ?_
  refine lv_iconst (v := 0) hx hb d_MD_emptyLine_6 (by decide) ?_
  refine va_put (D := (dC, dI)) (ci := 6) (v := .int 0) (ty := .int) (C := R_MD) (T := F_MD) (N := 24) hx hb hts uw_MD t_MD t_MD_ok n_MD hown hK hP hD hS 0 rfl rfl 14 (by decide) (hts _ tw_230) (fun _ h9 => h9) rfl (by decide +kernel) rfl rfl (Nat.le_of_ble_eq_true rfl) d_MD_emptyLine_7 (fun H locs hP hD hS => ?_)
  have hP : va_P (dC, dI) vwCl (wd_MD_emptyLine q_this q_low q_high q_loaded q_empty q_order q_places q_times q_planOrder q_planTimes q_carriers q_begins cI v_thrown v_tanks v_hasPlan v_cycle 0 0 v_done v_took v_stopped v_move v_ends v_onHoist v_began f_carriers) H := hP
  have hD : va_D A (wd_MD_emptyLine q_this q_low q_high q_loaded q_empty q_order q_places q_times q_planOrder q_planTimes q_carriers q_begins cI v_thrown v_tanks v_hasPlan v_cycle 0 0 v_done v_took v_stopped v_move v_ends v_onHoist v_began f_carriers) := hD
  refine lv_aload_n hx hb d_MD_emptyLine_10 rfl (lv_at hl 0 rfl) ?_
  refine lv_iconst (v := 0) hx hb d_MD_emptyLine_11 (by decide) ?_
  refine va_put (D := (dC, dI)) (ci := 6) (v := .int 0) (ty := .int) (C := R_MD) (T := F_MD) (N := 24) hx hb hts uw_MD t_MD t_MD_ok n_MD hown hK hP hD hS 0 rfl rfl 15 (by decide) (hts _ tw_231) (fun _ h9 => h9) rfl (by decide +kernel) rfl rfl (Nat.le_of_ble_eq_true rfl) d_MD_emptyLine_12 (fun H locs hP hD hS => ?_)
  have hP : va_P (dC, dI) vwCl (wd_MD_emptyLine q_this q_low q_high q_loaded q_empty q_order q_places q_times q_planOrder q_planTimes q_carriers q_begins cI v_thrown v_tanks v_hasPlan v_cycle 0 0 0 v_took v_stopped v_move v_ends v_onHoist v_began f_carriers) H := hP
  have hD : va_D A (wd_MD_emptyLine q_this q_low q_high q_loaded q_empty q_order q_places q_times q_planOrder q_planTimes q_carriers q_begins cI v_thrown v_tanks v_hasPlan v_cycle 0 0 0 v_took v_stopped v_move v_ends v_onHoist v_began f_carriers) := hD
  refine lv_aload_n hx hb d_MD_emptyLine_15 rfl (lv_at hl 0 rfl) ?_
  refine lv_iconst (v := 0) hx hb d_MD_emptyLine_16 (by decide) ?_
  refine va_put (D := (dC, dI)) (ci := 6) (v := .int 0) (ty := .int) (C := R_MD) (T := F_MD) (N := 24) hx hb hts uw_MD t_MD t_MD_ok n_MD hown hK hP hD hS 0 rfl rfl 16 (by decide) (hts _ tw_232) (fun _ h9 => h9) rfl (by decide +kernel) rfl rfl (Nat.le_of_ble_eq_true rfl) d_MD_emptyLine_17 (fun H locs hP hD hS => ?_)
  have hP : va_P (dC, dI) vwCl (wd_MD_emptyLine q_this q_low q_high q_loaded q_empty q_order q_places q_times q_planOrder q_planTimes q_carriers q_begins cI v_thrown v_tanks v_hasPlan v_cycle 0 0 0 0 v_stopped v_move v_ends v_onHoist v_began f_carriers) H := hP
  have hD : va_D A (wd_MD_emptyLine q_this q_low q_high q_loaded q_empty q_order q_places q_times q_planOrder q_planTimes q_carriers q_begins cI v_thrown v_tanks v_hasPlan v_cycle 0 0 0 0 v_stopped v_move v_ends v_onHoist v_began f_carriers) := hD
  refine lv_aload_n hx hb d_MD_emptyLine_20 rfl (lv_at hl 0 rfl) ?_
  refine lv_iconst (v := 0) hx hb d_MD_emptyLine_21 (by decide) ?_
  refine va_put (D := (dC, dI)) (ci := 6) (v := .int 0) (ty := .boolean) (C := R_MD) (T := F_MD) (N := 24) hx hb hts uw_MD t_MD t_MD_ok n_MD hown hK hP hD hS 0 rfl rfl 17 (by decide) (hts _ tw_233) (fun _ h9 => h9) rfl (by decide +kernel) rfl rfl (Nat.le_of_ble_eq_true rfl) d_MD_emptyLine_22 (fun H locs hP hD hS => ?_)
  have hP : va_P (dC, dI) vwCl (wd_MD_emptyLine q_this q_low q_high q_loaded q_empty q_order q_places q_times q_planOrder q_planTimes q_carriers q_begins cI v_thrown v_tanks v_hasPlan v_cycle 0 0 0 0 0 v_move v_ends v_onHoist v_began f_carriers) H := hP
  have hD : va_D A (wd_MD_emptyLine q_this q_low q_high q_loaded q_empty q_order q_places q_times q_planOrder q_planTimes q_carriers q_begins cI v_thrown v_tanks v_hasPlan v_cycle 0 0 0 0 0 v_move v_ends v_onHoist v_began f_carriers) := hD
  refine lv_aload_n hx hb d_MD_emptyLine_25 rfl (lv_at hl 0 rfl) ?_
  refine lv_iconst (v := (-1)) hx hb d_MD_emptyLine_26 (by decide) ?_
  refine va_put (D := (dC, dI)) (ci := 6) (v := .int (-1)) (ty := .int) (C := R_MD) (T := F_MD) (N := 24) hx hb hts uw_MD t_MD t_MD_ok n_MD hown hK hP hD hS 0 rfl rfl 20 (by decide) (hts _ tw_234) (fun _ h9 => h9) rfl (by decide +kernel) rfl rfl (Nat.le_of_ble_eq_true rfl) d_MD_emptyLine_27 (fun H locs hP hD hS => ?_)
  have hP : va_P (dC, dI) vwCl (wd_MD_emptyLine q_this q_low q_high q_loaded q_empty q_order q_places q_times q_planOrder q_planTimes q_carriers q_begins cI v_thrown v_tanks v_hasPlan v_cycle 0 0 0 0 0 (-1) v_ends v_onHoist v_began f_carriers) H := hP
  have hD : va_D A (wd_MD_emptyLine q_this q_low q_high q_loaded q_empty q_order q_places q_times q_planOrder q_planTimes q_carriers q_begins cI v_thrown v_tanks v_hasPlan v_cycle 0 0 0 0 0 (-1) v_ends v_onHoist v_began f_carriers) := hD
  refine lv_aload_n hx hb d_MD_emptyLine_30 rfl (lv_at hl 0 rfl) ?_
  refine lv_iconst (v := 0) hx hb d_MD_emptyLine_31 (by decide) ?_
  refine va_put (D := (dC, dI)) (ci := 6) (v := .int 0) (ty := .int) (C := R_MD) (T := F_MD) (N := 24) hx hb hts uw_MD t_MD t_MD_ok n_MD hown hK hP hD hS 0 rfl rfl 22 (by decide) (hts _ tw_235) (fun _ h9 => h9) rfl (by decide +kernel) rfl rfl (Nat.le_of_ble_eq_true rfl) d_MD_emptyLine_32 (fun H locs hP hD hS => ?_)
  have hP : va_P (dC, dI) vwCl (wd_MD_emptyLine q_this q_low q_high q_loaded q_empty q_order q_places q_times q_planOrder q_planTimes q_carriers q_begins cI v_thrown v_tanks v_hasPlan v_cycle 0 0 0 0 0 (-1) v_ends 0 v_began f_carriers) H := hP
  have hD : va_D A (wd_MD_emptyLine q_this q_low q_high q_loaded q_empty q_order q_places q_times q_planOrder q_planTimes q_carriers q_begins cI v_thrown v_tanks v_hasPlan v_cycle 0 0 0 0 0 (-1) v_ends 0 v_began f_carriers) := hD
  refine lv_iconst (v := 0) hx hb d_MD_emptyLine_35 (by decide) ?_
  refine lv_istore_n (lv' := [(1, .int 0), (0, .ref q_this)]) hx hb d_MD_emptyLine_36 rfl hl (by decide) rfl (fun ls hl => ?_)
  exact (loop z) 0 0 0 0 0 0 (-1) 0 f_carriers _ _ _ hP hD hS (lv_sub hl [1, 0] rfl) hF
abbrev wd_MD_solve (q_this : Nat) (q_low : Nat) (q_high : Nat) (q_loaded : Nat) (q_empty : Nat) (q_order : Nat) (q_places : Nat) (q_times : Nat) (q_planOrder : Nat) (q_planTimes : Nat) (q_carriers : Nat) (q_begins : Nat) (cI : ClassId) (v_thrown : Int32) (v_tanks : Int32) (v_hasPlan : Int32) (v_cycle : Int32) (v_second : Int32) (v_entered : Int32) (v_done : Int32) (v_took : Int32) (v_stopped : Int32) (v_move : Int32) (v_ends : Int32) (v_onHoist : Int32) (v_began : Int32) (f_empty : Nat → Int32) (f_loaded : Nat → Int32) (f_carriers : Nat → Int32) (f_order : Nat → Int32) (f_places : Nat → Int32) (f_times : Nat → Int32) (f_low : Nat → Int32) (f_high : Nat → Int32) (f_planOrder : Nat → Int32) (f_planTimes : Nat → Int32) : va_W := [(q_this, .inr (6, [.int v_thrown, .int v_tanks, .ref q_low, .ref q_high, .ref q_loaded, .ref q_empty, .ref q_order, .ref q_places, .ref q_times, .int v_hasPlan, .int v_cycle, .ref q_planOrder, .ref q_planTimes, .int v_second, .int v_entered, .int v_done, .int v_took, .int v_stopped, .ref q_carriers, .ref q_begins, .int v_move, .int v_ends, .int v_onHoist, .int v_began])), (q_empty, .inl (cI, 49, .inl f_empty)), (q_loaded, .inl (cI, 6, .inl f_loaded)), (q_carriers, .inl (cI, 7, .inl f_carriers)), (q_order, .inl (cI, 6, .inl f_order)), (q_places, .inl (cI, 6, .inl f_places)), (q_times, .inl (cI, 6, .inl f_times)), (q_low, .inl (cI, 6, .inl f_low)), (q_high, .inl (cI, 6, .inl f_high)), (q_planOrder, .inl (cI, 6, .inl f_planOrder)), (q_planTimes, .inl (cI, 6, .inl f_planTimes))]
set_option maxHeartbeats 4000000 in
set_option maxRecDepth 100000 in
theorem c_MD_solve (l : Launch) (dC : Nat → ClassId) (dI : Nat → Nat → Nat) (q_this : Nat) (q_low : Nat) (q_high : Nat) (q_loaded : Nat) (q_empty : Nat) (q_order : Nat) (q_places : Nat) (q_times : Nat) (q_planOrder : Nat) (q_planTimes : Nat) (q_carriers : Nat) (q_begins : Nat) (cI : ClassId) (sz : Nat) (z : Nat) (v_thrown : Int32) (v_tanks : Int32) (v_hasPlan : Int32) (v_cycle : Int32) (v_second : Int32) (v_entered : Int32) (v_done : Int32) (v_took : Int32) (v_stopped : Int32) (v_move : Int32) (v_ends : Int32) (v_onHoist : Int32) (v_began : Int32) (f_empty : Nat → Int32) (f_loaded : Nat → Int32) (f_carriers : Nat → Int32) (f_order : Nat → Int32) (f_places : Nat → Int32) (f_times : Nat → Int32) (f_low : Nat → Int32) (f_high : Nat → Int32) (f_planOrder : Nat → Int32) (f_planTimes : Nat → Int32) (rr : Int32) (n_v_thrown : Int32) (n_v_hasPlan : Int32) (n_v_cycle : Int32) (n_v_second : Int32) (n_v_entered : Int32) (n_v_done : Int32) (n_v_took : Int32) (n_v_stopped : Int32) (n_v_move : Int32) (n_v_onHoist : Int32) (n_f_carriers : Nat → Int32) (n_f_order : Nat → Int32) (n_f_places : Nat → Int32) (n_f_times : Nat → Int32) (n_f_planOrder : Nat → Int32) (n_f_planTimes : Nat → Int32) (hF : fn_MD_solve z v_thrown v_tanks v_hasPlan v_cycle v_second v_entered v_done v_took v_stopped v_move v_onHoist f_empty f_loaded f_carriers f_order f_places f_times f_low f_high f_planOrder f_planTimes = some (rr, n_v_thrown, n_v_hasPlan, n_v_cycle, n_v_second, n_v_entered, n_v_done, n_v_took, n_v_stopped, n_v_move, n_v_onHoist, n_f_carriers, n_f_order, n_f_places, n_f_times, n_f_planOrder, n_f_planTimes)) : Met l y_MD_solve w_MD_solve ({ frames := 4, cells := 0, slots := 0, locals := 93 }) (hq_Pc (dC, dI) vwCl [(cI, .int)] (wd_MD_solve q_this q_low q_high q_loaded q_empty q_order q_places q_times q_planOrder q_planTimes q_carriers q_begins cI v_thrown v_tanks v_hasPlan v_cycle v_second v_entered v_done v_took v_stopped v_move v_ends v_onHoist v_began f_empty f_loaded f_carriers f_order f_places f_times f_low f_high f_planOrder f_planTimes) sz [.ref q_this]) (hq_Qi (dC, dI) vwCl [(cI, .int)] (wd_MD_solve q_this q_low q_high q_loaded q_empty q_order q_places q_times q_planOrder q_planTimes q_carriers q_begins cI n_v_thrown v_tanks n_v_hasPlan n_v_cycle n_v_second n_v_entered n_v_done n_v_took n_v_stopped n_v_move v_ends n_v_onHoist v_began f_empty f_loaded n_f_carriers n_f_order n_f_places n_f_times f_low f_high n_f_planOrder n_f_planTimes) rr (va_A (wd_MD_solve q_this q_low q_high q_loaded q_empty q_order q_places q_times q_planOrder q_planTimes q_carriers q_begins cI v_thrown v_tanks v_hasPlan v_cycle v_second v_entered v_done v_took v_stopped v_move v_ends v_onHoist v_began f_empty f_loaded f_carriers f_order f_places f_times f_low f_high f_planOrder f_planTimes) sz)) 0 0 (va_A (wd_MD_solve q_this q_low q_high q_loaded q_empty q_order q_places q_times q_planOrder q_planTimes q_carriers q_begins cI v_thrown v_tanks v_hasPlan v_cycle v_second v_entered v_done v_took v_stopped v_move v_ends v_onHoist v_began f_empty f_loaded f_carriers f_order f_places f_times f_low f_high f_planOrder f_planTimes) sz) := by
  refine hq_met (Qc := (hq_Qi (dC, dI) vwCl [(cI, .int)] (wd_MD_solve q_this q_low q_high q_loaded q_empty q_order q_places q_times q_planOrder q_planTimes q_carriers q_begins cI n_v_thrown v_tanks n_v_hasPlan n_v_cycle n_v_second n_v_entered n_v_done n_v_took n_v_stopped n_v_move v_ends n_v_onHoist v_began f_empty f_loaded n_f_carriers n_f_order n_f_places n_f_times f_low f_high n_f_planOrder n_f_planTimes) rr)) (cc := b_MD_solve) (maxL := 5) (ret := some .int) (by decide) rfl (Nat.le_of_ble_eq_true rfl) ?_
  intro p e s m args below meth c A ls hx hb hr hml hts hown hlocks hnm hP hD hK hA hS hl
  have hts : ∀ w ∈ tb0, w.before args s = true := fun w h => hts w (List.mem_cons_of_mem _ h)
  have hown : s.vm.findClass R_MD = some m.cls := hown
  have hl : lv_has ls 5 [(0, .ref q_this)] := hl
  unfold fn_MD_solve at hF
  have loop : ∀ fu : Nat, (∀ (i1 : Int32) (i2 : Int32) (i3 : Int32) (v_thrown : Int32) (v_hasPlan : Int32) (v_cycle : Int32) (v_second : Int32) (v_entered : Int32) (v_done : Int32) (v_took : Int32) (v_stopped : Int32) (v_move : Int32) (v_onHoist : Int32) (f_carriers : Nat → Int32) (f_order : Nat → Int32) (f_places : Nat → Int32) (f_times : Nat → Int32) (f_planOrder : Nat → Int32) (f_planTimes : Nat → Int32) (H : Heap) (locs : List Loc) (ls : Array Slot), va_P (dC, dI) vwCl (wd_MD_solve q_this q_low q_high q_loaded q_empty q_order q_places q_times q_planOrder q_planTimes q_carriers q_begins cI v_thrown v_tanks v_hasPlan v_cycle v_second v_entered v_done v_took v_stopped v_move v_ends v_onHoist v_began f_empty f_loaded f_carriers f_order f_places f_times f_low f_high f_planOrder f_planTimes) H → va_D A (wd_MD_solve q_this q_low q_high q_loaded q_empty q_order q_places q_times q_planOrder q_planTimes q_carriers q_begins cI v_thrown v_tanks v_hasPlan v_cycle v_second v_entered v_done v_took v_stopped v_move v_ends v_onHoist v_began f_empty f_loaded f_carriers f_order f_places f_times f_low f_high f_planOrder f_planTimes) → va_S A s.heap H locs → lv_has ls 5 [(0, .ref q_this), (1, .int i1), (2, .int i2), (3, .int i3)] → lp_MD_solve z v_tanks f_empty f_loaded f_low f_high fu 0 i1 i2 i3 v_thrown v_hasPlan v_cycle v_second v_entered v_done v_took v_stopped v_move v_onHoist f_carriers f_order f_places f_times f_planOrder f_planTimes = some (rr, n_v_thrown, n_v_hasPlan, n_v_cycle, n_v_second, n_v_entered, n_v_done, n_v_took, n_v_stopped, n_v_move, n_v_onHoist, n_f_carriers, n_f_order, n_f_places, n_f_times, n_f_planOrder, n_f_planTimes) → W p l e ({ frames := 4, cells := 0, slots := 0, locals := 93 }) s m args below meth c H locs 0 0 (MQ below ((hq_Qi (dC, dI) vwCl [(cI, .int)] (wd_MD_solve q_this q_low q_high q_loaded q_empty q_order q_places q_times q_planOrder q_planTimes q_carriers q_begins cI n_v_thrown v_tanks n_v_hasPlan n_v_cycle n_v_second n_v_entered n_v_done n_v_took n_v_stopped n_v_move v_ends n_v_onHoist v_began f_empty f_loaded n_f_carriers n_f_order n_f_places n_f_times f_low f_high n_f_planOrder n_f_planTimes) rr) A) args s 0 0 A) (F0 m 35 ls [])) ∧ (∀ (i1 : Int32) (i2 : Int32) (i3 : Int32) (v_thrown : Int32) (v_hasPlan : Int32) (v_cycle : Int32) (v_second : Int32) (v_entered : Int32) (v_done : Int32) (v_took : Int32) (v_stopped : Int32) (v_move : Int32) (v_onHoist : Int32) (f_carriers : Nat → Int32) (f_order : Nat → Int32) (f_places : Nat → Int32) (f_times : Nat → Int32) (f_planOrder : Nat → Int32) (f_planTimes : Nat → Int32) (H : Heap) (locs : List Loc) (ls : Array Slot), va_P (dC, dI) vwCl (wd_MD_solve q_this q_low q_high q_loaded q_empty q_order q_places q_times q_planOrder q_planTimes q_carriers q_begins cI v_thrown v_tanks v_hasPlan v_cycle v_second v_entered v_done v_took v_stopped v_move v_ends v_onHoist v_began f_empty f_loaded f_carriers f_order f_places f_times f_low f_high f_planOrder f_planTimes) H → va_D A (wd_MD_solve q_this q_low q_high q_loaded q_empty q_order q_places q_times q_planOrder q_planTimes q_carriers q_begins cI v_thrown v_tanks v_hasPlan v_cycle v_second v_entered v_done v_took v_stopped v_move v_ends v_onHoist v_began f_empty f_loaded f_carriers f_order f_places f_times f_low f_high f_planOrder f_planTimes) → va_S A s.heap H locs → lv_has ls 5 [(0, .ref q_this), (1, .int i1), (2, .int i2), (3, .int i3)] → lp_MD_solve z v_tanks f_empty f_loaded f_low f_high fu 1 i1 i2 i3 v_thrown v_hasPlan v_cycle v_second v_entered v_done v_took v_stopped v_move v_onHoist f_carriers f_order f_places f_times f_planOrder f_planTimes = some (rr, n_v_thrown, n_v_hasPlan, n_v_cycle, n_v_second, n_v_entered, n_v_done, n_v_took, n_v_stopped, n_v_move, n_v_onHoist, n_f_carriers, n_f_order, n_f_places, n_f_times, n_f_planOrder, n_f_planTimes) → W p l e ({ frames := 4, cells := 0, slots := 0, locals := 93 }) s m args below meth c H locs 0 0 (MQ below ((hq_Qi (dC, dI) vwCl [(cI, .int)] (wd_MD_solve q_this q_low q_high q_loaded q_empty q_order q_places q_times q_planOrder q_planTimes q_carriers q_begins cI n_v_thrown v_tanks n_v_hasPlan n_v_cycle n_v_second n_v_entered n_v_done n_v_took n_v_stopped n_v_move v_ends n_v_onHoist v_began f_empty f_loaded n_f_carriers n_f_order n_f_places n_f_times f_low f_high n_f_planOrder n_f_planTimes) rr) A) args s 0 0 A) (F0 m 59 ls [])) := by
    intro fu
    induction fu with
    | zero => exact ⟨(fun _ _ _ _ _ _ _ _ _ _ _ _ _ _ _ _ _ _ _ _ _ _ _ _ _ _ h => by cases h), (fun _ _ _ _ _ _ _ _ _ _ _ _ _ _ _ _ _ _ _ _ _ _ _ _ _ _ h => by cases h)⟩
    | succ fu ih =>
      refine ⟨?_, ?_⟩
      · intro i1 i2 i3 v_thrown v_hasPlan v_cycle v_second v_entered v_done v_took v_stopped v_move v_onHoist f_carriers f_order f_places f_times f_planOrder f_planTimes H locs ls hP hD hS hl hF
        have hF : st_MD_solve z v_tanks f_empty f_loaded f_low f_high (lp_MD_solve z v_tanks f_empty f_loaded f_low f_high fu) 0 i1 i2 i3 v_thrown v_hasPlan v_cycle v_second v_entered v_done v_took v_stopped v_move v_onHoist f_carriers f_order f_places f_times f_planOrder f_planTimes = some (rr, n_v_thrown, n_v_hasPlan, n_v_cycle, n_v_second, n_v_entered, n_v_done, n_v_took, n_v_stopped, n_v_move, n_v_onHoist, n_f_carriers, n_f_order, n_f_places, n_f_times, n_f_planOrder, n_f_planTimes) := hF
        unfold st_MD_solve at hF
        try dsimp only at hF
        refine lv_iload_n hx hb d_MD_solve_35 rfl (lv_at hl 3 rfl) ?_
        refine lv_aload_n hx hb d_MD_solve_36 rfl (lv_at hl 0 rfl) ?_
        refine va_get (D := (dC, dI)) (ci := 6) (v := .int v_tanks) (C := R_MD) (T := F_MD) (N := 24) hx hb hts uw_MD hown hK hP 0 rfl rfl 1 (by decide) (hts _ tw_172) (fun _ h9 => h9) rfl d_MD_solve_37 ?_
        refine lv_icmp_ge (tgt := 54) hx hb d_MD_solve_40 (by decide) (fun hb7 => ?_) (fun hb7 => ?_)
        · have hF := ox_t hF hb7
          refine lv_iload_n hx hb d_MD_solve_54 rfl (lv_at hl 2 rfl) ?_
          refine lv_bipush (v := 10) hx hb d_MD_solve_55 (by decide) ?_
          refine lv_idiv hx hb d_MD_solve_57 (by decide) ?_
          refine lv_istore_n (lv' := [(3, .int (i2 / 10)), (0, .ref q_this), (1, .int i1), (2, .int i2)]) hx hb d_MD_solve_58 rfl hl (by decide) rfl (fun ls hl => ?_)
          exact ih.2 i1 i2 (i2 / 10) v_thrown v_hasPlan v_cycle v_second v_entered v_done v_took v_stopped v_move v_onHoist f_carriers f_order f_places f_times f_planOrder f_planTimes _ _ _ hP hD hS (lv_sub hl [1, 2, 3, 0] rfl) hF
        · have hF := ox_f hF hb7
          refine lv_bipush (v := 10) hx hb d_MD_solve_43 (by decide) ?_
          refine lv_iload_n hx hb d_MD_solve_45 rfl (lv_at hl 2 rfl) ?_
          refine lv_imul hx hb d_MD_solve_46 ?_
          refine lv_istore_n (lv' := [(2, .int (10 * i2)), (0, .ref q_this), (1, .int i1), (3, .int i3)]) hx hb d_MD_solve_47 rfl hl (by decide) rfl (fun ls hl => ?_)
          refine lv_iinc (v := (i3 + 1)) (lv' := [(3, .int (i3 + 1)), (2, .int (10 * i2)), (0, .ref q_this), (1, .int i1)]) hx hb d_MD_solve_48 hl (k := 3) rfl rfl (by decide) rfl (fun ls hl => ?_)
          refine lv_goto (tgt := 35) hx hb d_MD_solve_51 (by decide) ?_
          exact ih.1 i1 (10 * i2) (i3 + 1) v_thrown v_hasPlan v_cycle v_second v_entered v_done v_took v_stopped v_move v_onHoist f_carriers f_order f_places f_times f_planOrder f_planTimes _ _ _ hP hD hS (lv_sub hl [2, 3, 1, 0] rfl) hF
      · intro i1 i2 i3 v_thrown v_hasPlan v_cycle v_second v_entered v_done v_took v_stopped v_move v_onHoist f_carriers f_order f_places f_times f_planOrder f_planTimes H locs ls hP hD hS hl hF
        have hF : st_MD_solve z v_tanks f_empty f_loaded f_low f_high (lp_MD_solve z v_tanks f_empty f_loaded f_low f_high fu) 1 i1 i2 i3 v_thrown v_hasPlan v_cycle v_second v_entered v_done v_took v_stopped v_move v_onHoist f_carriers f_order f_places f_times f_planOrder f_planTimes = some (rr, n_v_thrown, n_v_hasPlan, n_v_cycle, n_v_second, n_v_entered, n_v_done, n_v_took, n_v_stopped, n_v_move, n_v_onHoist, n_f_carriers, n_f_order, n_f_places, n_f_times, n_f_planOrder, n_f_planTimes) := hF
        unfold st_MD_solve at hF
        try dsimp only at hF
        refine lv_iload_n hx hb d_MD_solve_59 rfl (lv_at hl 3 rfl) ?_
        refine lv_iload_n hx hb d_MD_solve_60 rfl (lv_at hl 2 rfl) ?_
        refine lv_icmp_ge (tgt := 104) hx hb d_MD_solve_61 (by decide) (fun hb8 => ?_) (fun hb8 => ?_)
        · have hF := ox_t hF hb8
          refine lv_aload_n hx hb d_MD_solve_104 rfl (lv_at hl 0 rfl) ?_
          obtain ⟨⟨s9_v_second, s9_v_entered, s9_v_done, s9_v_took, s9_v_stopped, s9_v_move, s9_v_onHoist, s9_f_carriers⟩, hc9, hF⟩ := ox_clS hF
          refine hq_cv (ws' := (wd_MD_solve q_this q_low q_high q_loaded q_empty q_order q_places q_times q_planOrder q_planTimes q_carriers q_begins cI v_thrown v_tanks v_hasPlan v_cycle s9_v_second s9_v_entered s9_v_done s9_v_took s9_v_stopped s9_v_move v_ends s9_v_onHoist v_began f_empty f_loaded s9_f_carriers f_order f_places f_times f_low f_high f_planOrder f_planTimes)) (hq_rV (As := []) (rest := []) ⟨hx, hb, hml, hown, hts⟩ (c_MD_emptyLine l dC dI q_this q_low q_high q_loaded q_empty q_order q_places q_times q_planOrder q_planTimes q_carriers q_begins cI _ z v_thrown v_tanks v_hasPlan v_cycle v_second v_entered v_done v_took v_stopped v_move v_ends v_onHoist v_began f_carriers s9_v_second s9_v_entered s9_v_done s9_v_took s9_v_stopped s9_v_move s9_v_onHoist s9_f_carriers hc9) (cwV 0 hts (hq_gV tw_236 tw_237 tw_238 tw_176 tw_239) rfl rfl rfl yv_MD_emptyLine ⟨Nat.le_of_ble_eq_true rfl, Nat.le_of_ble_eq_true rfl⟩) hP hD hK [0] rfl 0 rfl rfl [0, 3] rfl rfl rfl hl.1 rfl (Nat.le_of_ble_eq_true rfl) d_MD_solve_105 ⟨Nat.zero_le _, Nat.zero_le _⟩) hP hD hS hA [0, 3] [1, 2, 4, 5, 6, 7, 8, 9, 10] [9, 0, 1, 10, 2, 3, 4, 5, 6, 7, 8] rfl rfl rfl (by decide) rfl rfl (fun H locs hP hD hS => ?_)
          refine lv_aload_n hx hb d_MD_solve_108 rfl (lv_at hl 0 rfl) ?_
          refine va_get (D := (dC, dI)) (ci := 6) (v := .int v_hasPlan) (C := R_MD) (T := F_MD) (N := 24) hx hb hts uw_MD hown hK hP 0 rfl rfl 9 (by decide) (hts _ tw_173) (fun _ h9 => h9) rfl d_MD_solve_109 ?_
          refine lv_if_eq (tgt := 119) hx hb d_MD_solve_112 (by decide) (fun hb10 => ?_) (fun hb10 => ?_)
          · have hF := ox_t hF hb10
            refine lv_iconst (v := (-1)) hx hb d_MD_solve_119 (by decide) ?_
            cases hF
            exact hq_iret hx hb hr hlocks hP hD hK hS d_MD_solve_120
          · have hF := ox_f hF hb10
            refine lv_iload_n hx hb d_MD_solve_115 rfl (lv_at hl 1 rfl) ?_
            refine lv_goto (tgt := 120) hx hb d_MD_solve_116 (by decide) ?_
            cases hF
            exact hq_iret hx hb hr hlocks hP hD hK hS d_MD_solve_120
        · have hF := ox_f hF hb8
          refine lv_aload_n hx hb d_MD_solve_64 rfl (lv_at hl 0 rfl) ?_
          refine lv_iload_n hx hb d_MD_solve_65 rfl (lv_at hl 3 rfl) ?_
          obtain ⟨⟨r11, s11_f_order⟩, hc11, hF⟩ := ox_clS hF
          refine hq_ci (ws' := (wd_MD_solve q_this q_low q_high q_loaded q_empty q_order q_places q_times q_planOrder q_planTimes q_carriers q_begins cI v_thrown v_tanks v_hasPlan v_cycle v_second v_entered v_done v_took v_stopped v_move v_ends v_onHoist v_began f_empty f_loaded f_carriers s11_f_order f_places f_times f_low f_high f_planOrder f_planTimes)) (hq_rV (As := [.int i3]) (rest := []) ⟨hx, hb, hml, hown, hts⟩ (c_MD_takeOrder l dC dI q_this q_low q_high q_loaded q_empty q_order q_places q_times q_planOrder q_planTimes q_carriers q_begins cI _ z i3 v_thrown v_tanks v_hasPlan v_cycle v_second v_entered v_done v_took v_stopped v_move v_ends v_onHoist v_began f_order r11 s11_f_order hc11) (cwV 1 hts (hq_gV tw_221 tw_222 tw_223 tw_176 tw_224) rfl rfl rfl yv_MD_takeOrder ⟨Nat.le_of_ble_eq_true rfl, Nat.le_of_ble_eq_true rfl⟩) hP hD hK [0] rfl 0 rfl rfl [0, 4] rfl rfl rfl hl.1 rfl (Nat.le_of_ble_eq_true rfl) d_MD_solve_66 ⟨Nat.zero_le _, Nat.zero_le _⟩) hP hD hS hA [0, 4] [1, 2, 3, 5, 6, 7, 8, 9, 10] [9, 0, 1, 2, 10, 3, 4, 5, 6, 7, 8] rfl rfl rfl (by decide) rfl rfl (fun H locs hP hD hS => ?_)
          refine lv_if_ne (tgt := 75) hx hb d_MD_solve_69 (by decide) (fun hb12 => ?_) (fun hb12 => ?_)
          · have hF := ox_t hF hb12
            refine lv_aload_n hx hb d_MD_solve_75 rfl (lv_at hl 0 rfl) ?_
            refine lv_iload_n hx hb d_MD_solve_76 rfl (lv_at hl 1 rfl) ?_
            refine lv_iconst (v := 1) hx hb d_MD_solve_77 (by decide) ?_
            refine lv_isub hx hb d_MD_solve_78 ?_
            obtain ⟨⟨r13, s13_f_places, s13_f_times⟩, hc13, hF⟩ := ox_clS hF
            refine hq_ci (ws' := (wd_MD_solve q_this q_low q_high q_loaded q_empty q_order q_places q_times q_planOrder q_planTimes q_carriers q_begins cI v_thrown v_tanks v_hasPlan v_cycle v_second v_entered v_done v_took v_stopped v_move v_ends v_onHoist v_began f_empty f_loaded f_carriers s11_f_order s13_f_places s13_f_times f_low f_high f_planOrder f_planTimes)) (hq_rV (As := [.int (i1 - 1)]) (rest := []) ⟨hx, hb, hml, hown, hts⟩ (c_MD_leastOf l dC dI q_this q_low q_high q_loaded q_empty q_order q_places q_times q_planOrder q_planTimes q_carriers q_begins cI _ z (i1 - 1) v_thrown v_tanks v_hasPlan v_cycle v_second v_entered v_done v_took v_stopped v_move v_ends v_onHoist v_began s11_f_order f_places f_loaded f_empty f_times f_low f_high r13 s13_f_places s13_f_times hc13) (cwV 1 hts (hq_gV tw_217 tw_218 tw_219 tw_176 tw_220) rfl rfl rfl yv_MD_leastOf ⟨Nat.le_of_ble_eq_true rfl, Nat.le_of_ble_eq_true rfl⟩) hP hD hK [0] rfl 0 rfl rfl [0, 4, 5, 2, 1, 6, 7, 8] rfl rfl rfl hl.1 rfl (Nat.le_of_ble_eq_true rfl) d_MD_solve_79 ⟨Nat.zero_le _, Nat.zero_le _⟩) hP hD hS hA [0, 4, 5, 2, 1, 6, 7, 8] [3, 9, 10] [3, 7, 6, 0, 4, 5, 8, 9, 10, 1, 2] rfl rfl rfl (by decide) rfl rfl (fun H locs hP hD hS => ?_)
            refine lv_istore (lv' := [(4, .int r13), (0, .ref q_this), (1, .int i1), (2, .int i2), (3, .int i3)]) hx hb d_MD_solve_82 hl (by decide) rfl (fun ls hl => ?_)
            refine lv_iload hx hb d_MD_solve_84 (lv_at hl 0 rfl) ?_
            refine lv_if_le (tgt := 98) hx hb d_MD_solve_86 (by decide) (fun hb14 => ?_) (fun hb14 => ?_)
            · have hF := ox_t hF hb14
              refine lv_iinc (v := (i3 + 1)) (lv' := [(3, .int (i3 + 1)), (4, .int r13), (0, .ref q_this), (1, .int i1), (2, .int i2)]) hx hb d_MD_solve_98 hl (k := 4) rfl rfl (by decide) rfl (fun ls hl => ?_)
              refine lv_goto (tgt := 59) hx hb d_MD_solve_101 (by decide) ?_
              exact ih.2 i1 i2 (i3 + 1) v_thrown v_hasPlan v_cycle v_second v_entered v_done v_took v_stopped v_move v_onHoist f_carriers s11_f_order s13_f_places s13_f_times f_planOrder f_planTimes _ _ _ hP hD hS (lv_sub hl [2, 3, 4, 0] rfl) hF
            · have hF := ox_f hF hb14
              refine lv_iload hx hb d_MD_solve_89 (lv_at hl 0 rfl) ?_
              refine lv_istore_n (lv' := [(1, .int r13), (4, .int r13), (0, .ref q_this), (2, .int i2), (3, .int i3)]) hx hb d_MD_solve_91 rfl hl (by decide) rfl (fun ls hl => ?_)
              refine lv_aload_n hx hb d_MD_solve_92 rfl (lv_at hl 2 rfl) ?_
              refine lv_iload hx hb d_MD_solve_93 (lv_at hl 1 rfl) ?_
              obtain ⟨⟨s15_v_hasPlan, s15_v_cycle, s15_f_planOrder, s15_f_planTimes⟩, hc15, hF⟩ := ox_clS hF
              refine hq_cv (ws' := (wd_MD_solve q_this q_low q_high q_loaded q_empty q_order q_places q_times q_planOrder q_planTimes q_carriers q_begins cI v_thrown v_tanks s15_v_hasPlan s15_v_cycle v_second v_entered v_done v_took v_stopped v_move v_ends v_onHoist v_began f_empty f_loaded f_carriers s11_f_order s13_f_places s13_f_times f_low f_high s15_f_planOrder s15_f_planTimes)) (hq_rV (As := [.int r13]) (rest := []) ⟨hx, hb, hml, hown, hts⟩ (c_MD_keep l dC dI q_this q_low q_high q_loaded q_empty q_order q_places q_times q_planOrder q_planTimes q_carriers q_begins cI _ z r13 v_thrown v_tanks v_hasPlan v_cycle v_second v_entered v_done v_took v_stopped v_move v_ends v_onHoist v_began s11_f_order f_planOrder s13_f_times f_planTimes s15_v_hasPlan s15_v_cycle s15_f_planOrder s15_f_planTimes hc15) (cwV 1 hts (hq_gV tw_240 tw_241 tw_242 tw_176 tw_243) rfl rfl rfl yv_MD_keep ⟨Nat.le_of_ble_eq_true rfl, Nat.le_of_ble_eq_true rfl⟩) hP hD hK [0] rfl 0 rfl rfl [0, 4, 9, 6, 10] rfl rfl rfl hl.1 rfl (Nat.le_of_ble_eq_true rfl) d_MD_solve_95 ⟨Nat.zero_le _, Nat.zero_le _⟩) hP hD hS hA [0, 4, 9, 6, 10] [1, 2, 3, 5, 7, 8] [6, 0, 1, 2, 7, 3, 9, 4, 5, 8, 10] rfl rfl rfl (by decide) rfl rfl (fun H locs hP hD hS => ?_)
              refine lv_iinc (v := (i3 + 1)) (lv' := [(3, .int (i3 + 1)), (1, .int r13), (4, .int r13), (0, .ref q_this), (2, .int i2)]) hx hb d_MD_solve_98 hl (k := 4) rfl rfl (by decide) rfl (fun ls hl => ?_)
              refine lv_goto (tgt := 59) hx hb d_MD_solve_101 (by decide) ?_
              exact ih.2 r13 i2 (i3 + 1) v_thrown s15_v_hasPlan s15_v_cycle v_second v_entered v_done v_took v_stopped v_move v_onHoist f_carriers s11_f_order s13_f_places s13_f_times s15_f_planOrder s15_f_planTimes _ _ _ hP hD hS (lv_sub hl [3, 1, 4, 0] rfl) hF
          · have hF := ox_fn hF hb12
            refine lv_goto (tgt := 98) hx hb d_MD_solve_72 (by decide) ?_
            refine lv_iinc (v := (i3 + 1)) (lv' := [(3, .int (i3 + 1)), (0, .ref q_this), (1, .int i1), (2, .int i2)]) hx hb d_MD_solve_98 hl (k := 3) rfl rfl (by decide) rfl (fun ls hl => ?_)
            refine lv_goto (tgt := 59) hx hb d_MD_solve_101 (by decide) ?_
            exact ih.2 i1 i2 (i3 + 1) v_thrown v_hasPlan v_cycle v_second v_entered v_done v_took v_stopped v_move v_onHoist f_carriers s11_f_order f_places f_times f_planOrder f_planTimes _ _ _ hP hD hS (lv_sub hl [1, 2, 3, 0] rfl) hF
  refine lv_aload_n hx hb d_MD_solve_0 rfl (lv_at hl 0 rfl) ?_
  refine lv_aload_n hx hb d_MD_solve_1 rfl (lv_at hl 0 rfl) ?_
  obtain ⟨r1, hc1, hF⟩ := ox_clS hF
  refine hq_ci (ws' := (wd_MD_solve q_this q_low q_high q_loaded q_empty q_order q_places q_times q_planOrder q_planTimes q_carriers q_begins cI v_thrown v_tanks v_hasPlan v_cycle v_second v_entered v_done v_took v_stopped v_move v_ends v_onHoist v_began f_empty f_loaded f_carriers f_order f_places f_times f_low f_high f_planOrder f_planTimes)) (hq_rV (As := []) (rest := [.ref q_this]) ⟨hx, hb, hml, hown, hts⟩ (c_MD_readiness l dC dI q_this q_low q_high q_loaded q_empty q_order q_places q_times q_planOrder q_planTimes q_carriers q_begins cI _ z v_thrown v_tanks v_hasPlan v_cycle v_second v_entered v_done v_took v_stopped v_move v_ends v_onHoist v_began f_empty f_loaded r1 hc1) (cwV 0 hts (hq_gV tw_186 tw_187 tw_188 tw_176 tw_189) rfl rfl rfl yv_MD_readiness ⟨Nat.le_of_ble_eq_true rfl, Nat.le_of_ble_eq_true rfl⟩) hP hD hK [0] rfl 0 rfl rfl [0, 1, 2] rfl rfl rfl hl.1 rfl (Nat.le_of_ble_eq_true rfl) d_MD_solve_2 ⟨Nat.zero_le _, Nat.zero_le _⟩) hP hD hS hA [0, 1, 2] [3, 4, 5, 6, 7, 8, 9, 10] [8, 9, 10, 0, 1, 2, 3, 4, 5, 6, 7] rfl rfl rfl (by decide) rfl rfl (fun H locs hP hD hS => ?_)
  refine lv_if_eq (tgt := 12) hx hb d_MD_solve_5 (by decide) (fun hb2 => ?_) (fun hb2 => ?_)
  · have hF := ox_t hF hb2
    refine lv_iconst (v := 0) hx hb d_MD_solve_12 (by decide) ?_
    refine lv_iconst (v := 0) hx hb d_MD_solve_13 (by decide) ?_
    obtain ⟨⟨r3, s3_v_thrown⟩, hc3, hF⟩ := ox_clS hF
    refine hq_ci (ws' := (wd_MD_solve q_this q_low q_high q_loaded q_empty q_order q_places q_times q_planOrder q_planTimes q_carriers q_begins cI s3_v_thrown v_tanks v_hasPlan v_cycle v_second v_entered v_done v_took v_stopped v_move v_ends v_onHoist v_began f_empty f_loaded f_carriers f_order f_places f_times f_low f_high f_planOrder f_planTimes)) (hq_rV (As := [.int 0, .int 0]) (rest := []) ⟨hx, hb, hml, hown, hts⟩ (c_MD_refuse l dC dI q_this q_low q_high q_loaded q_empty q_order q_places q_times q_planOrder q_planTimes q_carriers q_begins _ 0 0 v_thrown v_tanks v_hasPlan v_cycle v_second v_entered v_done v_took v_stopped v_move v_ends v_onHoist v_began r3 s3_v_thrown hc3) (cwV 2 hts (hq_gV tw_178 tw_179 tw_180 tw_176 tw_181) rfl rfl rfl yv_MD_refuse ⟨Nat.le_of_ble_eq_true rfl, Nat.le_of_ble_eq_true rfl⟩) hP hD hK [] rfl 0 rfl rfl [0] rfl rfl rfl hl.1 rfl (Nat.le_of_ble_eq_true rfl) d_MD_solve_14 ⟨Nat.zero_le _, Nat.zero_le _⟩) hP hD hS hA [0] [1, 2, 3, 4, 5, 6, 7, 8, 9, 10] [10, 0, 1, 2, 3, 4, 5, 6, 7, 8, 9] rfl rfl rfl (by decide) rfl rfl (fun H locs hP hD hS => ?_)
    refine lv_if_eq (tgt := 22) hx hb d_MD_solve_17 (by decide) (fun hb4 => ?_) (fun hb4 => ?_)
    · have hF := ox_t hF hb4
      refine lv_aload_n hx hb d_MD_solve_22 rfl (lv_at hl 0 rfl) ?_
      refine lv_iconst (v := 0) hx hb d_MD_solve_23 (by decide) ?_
      refine va_put (D := (dC, dI)) (ci := 6) (v := .int 0) (ty := .boolean) (C := R_MD) (T := F_MD) (N := 24) hx hb hts uw_MD t_MD t_MD_ok n_MD hown hK hP hD hS 0 rfl rfl 9 (by decide) (hts _ tw_173) (fun _ h9 => h9) rfl (by decide +kernel) rfl rfl (Nat.le_of_ble_eq_true rfl) d_MD_solve_24 (fun H locs hP hD hS => ?_)
      have hP : va_P (dC, dI) vwCl (wd_MD_solve q_this q_low q_high q_loaded q_empty q_order q_places q_times q_planOrder q_planTimes q_carriers q_begins cI s3_v_thrown v_tanks 0 v_cycle v_second v_entered v_done v_took v_stopped v_move v_ends v_onHoist v_began f_empty f_loaded f_carriers f_order f_places f_times f_low f_high f_planOrder f_planTimes) H := hP
      have hD : va_D A (wd_MD_solve q_this q_low q_high q_loaded q_empty q_order q_places q_times q_planOrder q_planTimes q_carriers q_begins cI s3_v_thrown v_tanks 0 v_cycle v_second v_entered v_done v_took v_stopped v_move v_ends v_onHoist v_began f_empty f_loaded f_carriers f_order f_places f_times f_low f_high f_planOrder f_planTimes) := hD
      refine lv_sipush (v := 2001) hx hb d_MD_solve_27 (by decide) ?_
      refine lv_istore_n (lv' := [(1, .int 2001), (0, .ref q_this)]) hx hb d_MD_solve_30 rfl hl (by decide) rfl (fun ls hl => ?_)
      refine lv_iconst (v := 1) hx hb d_MD_solve_31 (by decide) ?_
      refine lv_istore_n (lv' := [(2, .int 1), (1, .int 2001), (0, .ref q_this)]) hx hb d_MD_solve_32 rfl hl (by decide) rfl (fun ls hl => ?_)
      refine lv_iconst (v := 0) hx hb d_MD_solve_33 (by decide) ?_
      refine lv_istore_n (lv' := [(3, .int 0), (2, .int 1), (1, .int 2001), (0, .ref q_this)]) hx hb d_MD_solve_34 rfl hl (by decide) rfl (fun ls hl => ?_)
      exact (loop z).1 2001 1 0 s3_v_thrown 0 v_cycle v_second v_entered v_done v_took v_stopped v_move v_onHoist f_carriers f_order f_places f_times f_planOrder f_planTimes _ _ _ hP hD hS (lv_sub hl [3, 2, 1, 0] rfl) hF
    · have hF := ox_f hF hb4
      refine lv_iconst (v := 0) hx hb d_MD_solve_20 (by decide) ?_
      cases hF
      exact hq_iret hx hb hr hlocks hP hD hK hS d_MD_solve_21
  · have hF := ox_f hF hb2
    refine lv_iconst (v := 1) hx hb d_MD_solve_8 (by decide) ?_
    refine lv_goto (tgt := 13) hx hb d_MD_solve_9 (by decide) ?_
    refine lv_iconst (v := 0) hx hb d_MD_solve_13 (by decide) ?_
    obtain ⟨⟨r5, s5_v_thrown⟩, hc5, hF⟩ := ox_clS hF
    refine hq_ci (ws' := (wd_MD_solve q_this q_low q_high q_loaded q_empty q_order q_places q_times q_planOrder q_planTimes q_carriers q_begins cI s5_v_thrown v_tanks v_hasPlan v_cycle v_second v_entered v_done v_took v_stopped v_move v_ends v_onHoist v_began f_empty f_loaded f_carriers f_order f_places f_times f_low f_high f_planOrder f_planTimes)) (hq_rV (As := [.int 1, .int 0]) (rest := []) ⟨hx, hb, hml, hown, hts⟩ (c_MD_refuse l dC dI q_this q_low q_high q_loaded q_empty q_order q_places q_times q_planOrder q_planTimes q_carriers q_begins _ 1 0 v_thrown v_tanks v_hasPlan v_cycle v_second v_entered v_done v_took v_stopped v_move v_ends v_onHoist v_began r5 s5_v_thrown hc5) (cwV 2 hts (hq_gV tw_178 tw_179 tw_180 tw_176 tw_181) rfl rfl rfl yv_MD_refuse ⟨Nat.le_of_ble_eq_true rfl, Nat.le_of_ble_eq_true rfl⟩) hP hD hK [] rfl 0 rfl rfl [0] rfl rfl rfl hl.1 rfl (Nat.le_of_ble_eq_true rfl) d_MD_solve_14 ⟨Nat.zero_le _, Nat.zero_le _⟩) hP hD hS hA [0] [1, 2, 3, 4, 5, 6, 7, 8, 9, 10] [10, 0, 1, 2, 3, 4, 5, 6, 7, 8, 9] rfl rfl rfl (by decide) rfl rfl (fun H locs hP hD hS => ?_)
    refine lv_if_eq (tgt := 22) hx hb d_MD_solve_17 (by decide) (fun hb6 => ?_) (fun hb6 => ?_)
    · have hF := ox_t hF hb6
      refine lv_aload_n hx hb d_MD_solve_22 rfl (lv_at hl 0 rfl) ?_
      refine lv_iconst (v := 0) hx hb d_MD_solve_23 (by decide) ?_
      refine va_put (D := (dC, dI)) (ci := 6) (v := .int 0) (ty := .boolean) (C := R_MD) (T := F_MD) (N := 24) hx hb hts uw_MD t_MD t_MD_ok n_MD hown hK hP hD hS 0 rfl rfl 9 (by decide) (hts _ tw_173) (fun _ h9 => h9) rfl (by decide +kernel) rfl rfl (Nat.le_of_ble_eq_true rfl) d_MD_solve_24 (fun H locs hP hD hS => ?_)
      have hP : va_P (dC, dI) vwCl (wd_MD_solve q_this q_low q_high q_loaded q_empty q_order q_places q_times q_planOrder q_planTimes q_carriers q_begins cI s5_v_thrown v_tanks 0 v_cycle v_second v_entered v_done v_took v_stopped v_move v_ends v_onHoist v_began f_empty f_loaded f_carriers f_order f_places f_times f_low f_high f_planOrder f_planTimes) H := hP
      have hD : va_D A (wd_MD_solve q_this q_low q_high q_loaded q_empty q_order q_places q_times q_planOrder q_planTimes q_carriers q_begins cI s5_v_thrown v_tanks 0 v_cycle v_second v_entered v_done v_took v_stopped v_move v_ends v_onHoist v_began f_empty f_loaded f_carriers f_order f_places f_times f_low f_high f_planOrder f_planTimes) := hD
      refine lv_sipush (v := 2001) hx hb d_MD_solve_27 (by decide) ?_
      refine lv_istore_n (lv' := [(1, .int 2001), (0, .ref q_this)]) hx hb d_MD_solve_30 rfl hl (by decide) rfl (fun ls hl => ?_)
      refine lv_iconst (v := 1) hx hb d_MD_solve_31 (by decide) ?_
      refine lv_istore_n (lv' := [(2, .int 1), (1, .int 2001), (0, .ref q_this)]) hx hb d_MD_solve_32 rfl hl (by decide) rfl (fun ls hl => ?_)
      refine lv_iconst (v := 0) hx hb d_MD_solve_33 (by decide) ?_
      refine lv_istore_n (lv' := [(3, .int 0), (2, .int 1), (1, .int 2001), (0, .ref q_this)]) hx hb d_MD_solve_34 rfl hl (by decide) rfl (fun ls hl => ?_)
      exact (loop z).1 2001 1 0 s5_v_thrown 0 v_cycle v_second v_entered v_done v_took v_stopped v_move v_onHoist f_carriers f_order f_places f_times f_planOrder f_planTimes _ _ _ hP hD hS (lv_sub hl [3, 2, 1, 0] rfl) hF
    · have hF := ox_f hF hb6
      refine lv_iconst (v := 0) hx hb d_MD_solve_20 (by decide) ?_
      cases hF
      exact hq_iret hx hb hr hlocks hP hD hK hS d_MD_solve_21
abbrev wd_MD_soakOf (q_this : Nat) (q_low : Nat) (q_high : Nat) (q_loaded : Nat) (q_empty : Nat) (q_order : Nat) (q_places : Nat) (q_times : Nat) (q_planOrder : Nat) (q_planTimes : Nat) (q_carriers : Nat) (q_begins : Nat) (cI : ClassId) (v_thrown : Int32) (v_tanks : Int32) (v_hasPlan : Int32) (v_cycle : Int32) (v_second : Int32) (v_entered : Int32) (v_done : Int32) (v_took : Int32) (v_stopped : Int32) (v_move : Int32) (v_ends : Int32) (v_onHoist : Int32) (v_began : Int32) (f_planTimes : Nat → Int32) (f_loaded : Nat → Int32) (f_planOrder : Nat → Int32) : va_W := [(q_this, .inr (6, [.int v_thrown, .int v_tanks, .ref q_low, .ref q_high, .ref q_loaded, .ref q_empty, .ref q_order, .ref q_places, .ref q_times, .int v_hasPlan, .int v_cycle, .ref q_planOrder, .ref q_planTimes, .int v_second, .int v_entered, .int v_done, .int v_took, .int v_stopped, .ref q_carriers, .ref q_begins, .int v_move, .int v_ends, .int v_onHoist, .int v_began])), (q_planTimes, .inl (cI, 6, .inl f_planTimes)), (q_loaded, .inl (cI, 6, .inl f_loaded)), (q_planOrder, .inl (cI, 6, .inl f_planOrder))]
set_option maxHeartbeats 4000000 in
set_option maxRecDepth 100000 in
theorem c_MD_soakOf (l : Launch) (dC : Nat → ClassId) (dI : Nat → Nat → Nat) (q_this : Nat) (q_low : Nat) (q_high : Nat) (q_loaded : Nat) (q_empty : Nat) (q_order : Nat) (q_places : Nat) (q_times : Nat) (q_planOrder : Nat) (q_planTimes : Nat) (q_carriers : Nat) (q_begins : Nat) (cI : ClassId) (sz : Nat) (z : Nat) (a1 : Int32) (v_thrown : Int32) (v_tanks : Int32) (v_hasPlan : Int32) (v_cycle : Int32) (v_second : Int32) (v_entered : Int32) (v_done : Int32) (v_took : Int32) (v_stopped : Int32) (v_move : Int32) (v_ends : Int32) (v_onHoist : Int32) (v_began : Int32) (f_planTimes : Nat → Int32) (f_loaded : Nat → Int32) (f_planOrder : Nat → Int32) (rr : Int32) (hF : fn_MD_soakOf z a1 v_tanks v_cycle f_planTimes f_loaded f_planOrder = some rr) : Met l y_MD_soakOf w_MD_soakOf ({ frames := 0, cells := 0, slots := 0, locals := 0 }) (hq_Pc (dC, dI) vwCl [(cI, .int)] (wd_MD_soakOf q_this q_low q_high q_loaded q_empty q_order q_places q_times q_planOrder q_planTimes q_carriers q_begins cI v_thrown v_tanks v_hasPlan v_cycle v_second v_entered v_done v_took v_stopped v_move v_ends v_onHoist v_began f_planTimes f_loaded f_planOrder) sz [.ref q_this, .int a1]) (hq_Qi (dC, dI) vwCl [(cI, .int)] (wd_MD_soakOf q_this q_low q_high q_loaded q_empty q_order q_places q_times q_planOrder q_planTimes q_carriers q_begins cI v_thrown v_tanks v_hasPlan v_cycle v_second v_entered v_done v_took v_stopped v_move v_ends v_onHoist v_began f_planTimes f_loaded f_planOrder) rr (va_A (wd_MD_soakOf q_this q_low q_high q_loaded q_empty q_order q_places q_times q_planOrder q_planTimes q_carriers q_begins cI v_thrown v_tanks v_hasPlan v_cycle v_second v_entered v_done v_took v_stopped v_move v_ends v_onHoist v_began f_planTimes f_loaded f_planOrder) sz)) 0 0 (va_A (wd_MD_soakOf q_this q_low q_high q_loaded q_empty q_order q_places q_times q_planOrder q_planTimes q_carriers q_begins cI v_thrown v_tanks v_hasPlan v_cycle v_second v_entered v_done v_took v_stopped v_move v_ends v_onHoist v_began f_planTimes f_loaded f_planOrder) sz) := by
  refine hq_met (Qc := (hq_Qi (dC, dI) vwCl [(cI, .int)] (wd_MD_soakOf q_this q_low q_high q_loaded q_empty q_order q_places q_times q_planOrder q_planTimes q_carriers q_begins cI v_thrown v_tanks v_hasPlan v_cycle v_second v_entered v_done v_took v_stopped v_move v_ends v_onHoist v_began f_planTimes f_loaded f_planOrder) rr)) (cc := b_MD_soakOf) (maxL := 4) (ret := some .int) (by decide) rfl (Nat.le_of_ble_eq_true rfl) ?_
  intro p e s m args below meth c A ls hx hb hr hml hts hown hlocks hnm hP hD hK hA hS hl
  have hts : ∀ w ∈ tb0, w.before args s = true := fun w h => hts w (List.mem_cons_of_mem _ h)
  have hown : s.vm.findClass R_MD = some m.cls := hown
  have hl : lv_has ls 4 [(0, .ref q_this), (1, .int a1)] := hl
  unfold fn_MD_soakOf at hF
  have loop : ∀ fu : Nat, (∀ (i1 : Int32) (i2 : Int32) (i3 : Int32) (H : Heap) (locs : List Loc) (ls : Array Slot), va_P (dC, dI) vwCl (wd_MD_soakOf q_this q_low q_high q_loaded q_empty q_order q_places q_times q_planOrder q_planTimes q_carriers q_begins cI v_thrown v_tanks v_hasPlan v_cycle v_second v_entered v_done v_took v_stopped v_move v_ends v_onHoist v_began f_planTimes f_loaded f_planOrder) H → va_D A (wd_MD_soakOf q_this q_low q_high q_loaded q_empty q_order q_places q_times q_planOrder q_planTimes q_carriers q_begins cI v_thrown v_tanks v_hasPlan v_cycle v_second v_entered v_done v_took v_stopped v_move v_ends v_onHoist v_began f_planTimes f_loaded f_planOrder) → va_S A s.heap H locs → lv_has ls 4 [(0, .ref q_this), (1, .int i1), (2, .int i2), (3, .int i3)] → lp_MD_soakOf v_tanks v_cycle f_planTimes f_loaded f_planOrder fu 0 i1 i2 i3 = some rr → W p l e ({ frames := 0, cells := 0, slots := 0, locals := 0 }) s m args below meth c H locs 0 0 (MQ below ((hq_Qi (dC, dI) vwCl [(cI, .int)] (wd_MD_soakOf q_this q_low q_high q_loaded q_empty q_order q_places q_times q_planOrder q_planTimes q_carriers q_begins cI v_thrown v_tanks v_hasPlan v_cycle v_second v_entered v_done v_took v_stopped v_move v_ends v_onHoist v_began f_planTimes f_loaded f_planOrder) rr) A) args s 0 0 A) (F0 m 4 ls [])) := by
    intro fu
    induction fu with
    | zero => exact (fun _ _ _ _ _ _ _ _ _ _ h => by cases h)
    | succ fu ih =>
      intro i1 i2 i3 H locs ls hP hD hS hl hF
      have hF : st_MD_soakOf v_tanks v_cycle f_planTimes f_loaded f_planOrder (lp_MD_soakOf v_tanks v_cycle f_planTimes f_loaded f_planOrder fu) 0 i1 i2 i3 = some rr := hF
      unfold st_MD_soakOf at hF
      try dsimp only at hF
      refine lv_iload_n hx hb d_MD_soakOf_4 rfl (lv_at hl 3 rfl) ?_
      refine lv_aload_n hx hb d_MD_soakOf_5 rfl (lv_at hl 0 rfl) ?_
      refine va_get (D := (dC, dI)) (ci := 6) (v := .int v_tanks) (C := R_MD) (T := F_MD) (N := 24) hx hb hts uw_MD hown hK hP 0 rfl rfl 1 (by decide) (hts _ tw_172) (fun _ h9 => h9) rfl d_MD_soakOf_6 ?_
      refine lv_icmp_gt (tgt := 53) hx hb d_MD_soakOf_9 (by decide) (fun hb1 => ?_) (fun hb1 => ?_)
      · have hF := ox_t hF hb1
        refine lv_aload_n hx hb d_MD_soakOf_53 rfl (lv_at hl 0 rfl) ?_
        refine va_get (D := (dC, dI)) (ci := 6) (v := .ref q_planTimes) (C := R_MD) (T := F_MD) (N := 24) hx hb hts uw_MD hown hK hP 0 rfl rfl 12 (by decide) (hts _ tw_226) (fun _ h9 => h9) rfl d_MD_soakOf_54 ?_
        refine lv_iload_n hx hb d_MD_soakOf_57 rfl (lv_at hl 1 rfl) ?_
        obtain ⟨hin, hF⟩ := ox_gdS hF
        refine va_iald hx hb hK hP 1 0 rfl rfl hin d_MD_soakOf_58 ?_
        refine lv_aload_n hx hb d_MD_soakOf_59 rfl (lv_at hl 0 rfl) ?_
        refine va_get (D := (dC, dI)) (ci := 6) (v := .ref q_planTimes) (C := R_MD) (T := F_MD) (N := 24) hx hb hts uw_MD hown hK hP 0 rfl rfl 12 (by decide) (hts _ tw_226) (fun _ h9 => h9) rfl d_MD_soakOf_60 ?_
        refine lv_iload_n hx hb d_MD_soakOf_63 rfl (lv_at hl 1 rfl) ?_
        refine lv_iconst (v := 1) hx hb d_MD_soakOf_64 (by decide) ?_
        refine lv_isub hx hb d_MD_soakOf_65 ?_
        obtain ⟨hin, hF⟩ := ox_gdS hF
        refine va_iald hx hb hK hP 1 0 rfl rfl hin d_MD_soakOf_66 ?_
        refine lv_isub hx hb d_MD_soakOf_67 ?_
        refine lv_aload_n hx hb d_MD_soakOf_68 rfl (lv_at hl 0 rfl) ?_
        refine va_get (D := (dC, dI)) (ci := 6) (v := .ref q_loaded) (C := R_MD) (T := F_MD) (N := 24) hx hb hts uw_MD hown hK hP 0 rfl rfl 4 (by decide) (hts _ tw_170) (fun _ h9 => h9) rfl d_MD_soakOf_69 ?_
        refine lv_iload_n hx hb d_MD_soakOf_72 rfl (lv_at hl 1 rfl) ?_
        refine lv_iconst (v := 1) hx hb d_MD_soakOf_73 (by decide) ?_
        refine lv_isub hx hb d_MD_soakOf_74 ?_
        obtain ⟨hin, hF⟩ := ox_gdS hF
        refine va_iald hx hb hK hP 2 0 rfl rfl hin d_MD_soakOf_75 ?_
        refine lv_isub hx hb d_MD_soakOf_76 ?_
        refine lv_iload_n hx hb d_MD_soakOf_77 rfl (lv_at hl 2 rfl) ?_
        refine lv_if_eq (tgt := 88) hx hb d_MD_soakOf_78 (by decide) (fun hb2 => ?_) (fun hb2 => ?_)
        · have hF := ox_t hF hb2
          refine lv_iconst (v := 0) hx hb d_MD_soakOf_88 (by decide) ?_
          refine lv_iadd hx hb d_MD_soakOf_89 ?_
          cases hF
          exact hq_iret hx hb hr hlocks hP hD hK hS d_MD_soakOf_90
        · have hF := ox_f hF hb2
          refine lv_aload_n hx hb d_MD_soakOf_81 rfl (lv_at hl 0 rfl) ?_
          refine va_get (D := (dC, dI)) (ci := 6) (v := .int v_cycle) (C := R_MD) (T := F_MD) (N := 24) hx hb hts uw_MD hown hK hP 0 rfl rfl 10 (by decide) (hts _ tw_227) (fun _ h9 => h9) rfl d_MD_soakOf_82 ?_
          refine lv_goto (tgt := 89) hx hb d_MD_soakOf_85 (by decide) ?_
          refine lv_iadd hx hb d_MD_soakOf_89 ?_
          cases hF
          exact hq_iret hx hb hr hlocks hP hD hK hS d_MD_soakOf_90
      · have hF := ox_f hF hb1
        refine lv_aload_n hx hb d_MD_soakOf_12 rfl (lv_at hl 0 rfl) ?_
        refine va_get (D := (dC, dI)) (ci := 6) (v := .ref q_planOrder) (C := R_MD) (T := F_MD) (N := 24) hx hb hts uw_MD hown hK hP 0 rfl rfl 11 (by decide) (hts _ tw_225) (fun _ h9 => h9) rfl d_MD_soakOf_13 ?_
        refine lv_iload_n hx hb d_MD_soakOf_16 rfl (lv_at hl 3 rfl) ?_
        obtain ⟨hin, hF⟩ := ox_gdS hF
        refine va_iald hx hb hK hP 3 0 rfl rfl hin d_MD_soakOf_17 ?_
        refine lv_iload_n hx hb d_MD_soakOf_18 rfl (lv_at hl 1 rfl) ?_
        refine lv_iconst (v := 1) hx hb d_MD_soakOf_19 (by decide) ?_
        refine lv_isub hx hb d_MD_soakOf_20 ?_
        refine lv_icmp_ne (tgt := 27) hx hb d_MD_soakOf_21 (by decide) (fun hb3 => ?_) (fun hb3 => ?_)
        · have hF := ox_t hF hb3
          refine lv_iload_n hx hb d_MD_soakOf_27 rfl (lv_at hl 2 rfl) ?_
          refine lv_if_ne (tgt := 41) hx hb d_MD_soakOf_28 (by decide) (fun hb4 => ?_) (fun hb4 => ?_)
          · have hF := ox_t hF hb4
            refine lv_iconst (v := 1) hx hb d_MD_soakOf_41 (by decide) ?_
            refine lv_goto (tgt := 46) hx hb d_MD_soakOf_42 (by decide) ?_
            refine lv_istore_n (lv' := [(2, .int 1), (0, .ref q_this), (1, .int i1), (3, .int i3)]) hx hb d_MD_soakOf_46 rfl hl (by decide) rfl (fun ls hl => ?_)
            refine lv_iinc (v := (i3 + 1)) (lv' := [(3, .int (i3 + 1)), (2, .int 1), (0, .ref q_this), (1, .int i1)]) hx hb d_MD_soakOf_47 hl (k := 3) rfl rfl (by decide) rfl (fun ls hl => ?_)
            refine lv_goto (tgt := 4) hx hb d_MD_soakOf_50 (by decide) ?_
            exact ih i1 1 (i3 + 1) _ _ _ hP hD hS (lv_sub hl [2, 3, 1, 0] rfl) hF
          · have hF := ox_fn hF hb4
            refine lv_aload_n hx hb d_MD_soakOf_31 rfl (lv_at hl 0 rfl) ?_
            refine va_get (D := (dC, dI)) (ci := 6) (v := .ref q_planOrder) (C := R_MD) (T := F_MD) (N := 24) hx hb hts uw_MD hown hK hP 0 rfl rfl 11 (by decide) (hts _ tw_225) (fun _ h9 => h9) rfl d_MD_soakOf_32 ?_
            refine lv_iload_n hx hb d_MD_soakOf_35 rfl (lv_at hl 3 rfl) ?_
            obtain ⟨hin, hF⟩ := ox_gdS hF
            refine va_iald hx hb hK hP 3 0 rfl rfl hin d_MD_soakOf_36 ?_
            refine lv_iload_n hx hb d_MD_soakOf_37 rfl (lv_at hl 1 rfl) ?_
            refine lv_icmp_ne (tgt := 45) hx hb d_MD_soakOf_38 (by decide) (fun hb5 => ?_) (fun hb5 => ?_)
            · have hF := ox_t hF hb5
              refine lv_iconst (v := 0) hx hb d_MD_soakOf_45 (by decide) ?_
              refine lv_istore_n (lv' := [(2, .int 0), (0, .ref q_this), (1, .int i1), (3, .int i3)]) hx hb d_MD_soakOf_46 rfl hl (by decide) rfl (fun ls hl => ?_)
              refine lv_iinc (v := (i3 + 1)) (lv' := [(3, .int (i3 + 1)), (2, .int 0), (0, .ref q_this), (1, .int i1)]) hx hb d_MD_soakOf_47 hl (k := 3) rfl rfl (by decide) rfl (fun ls hl => ?_)
              refine lv_goto (tgt := 4) hx hb d_MD_soakOf_50 (by decide) ?_
              exact ih i1 0 (i3 + 1) _ _ _ hP hD hS (lv_sub hl [2, 3, 1, 0] rfl) hF
            · have hF := ox_fn hF hb5
              refine lv_iconst (v := 1) hx hb d_MD_soakOf_41 (by decide) ?_
              refine lv_goto (tgt := 46) hx hb d_MD_soakOf_42 (by decide) ?_
              refine lv_istore_n (lv' := [(2, .int 1), (0, .ref q_this), (1, .int i1), (3, .int i3)]) hx hb d_MD_soakOf_46 rfl hl (by decide) rfl (fun ls hl => ?_)
              refine lv_iinc (v := (i3 + 1)) (lv' := [(3, .int (i3 + 1)), (2, .int 1), (0, .ref q_this), (1, .int i1)]) hx hb d_MD_soakOf_47 hl (k := 3) rfl rfl (by decide) rfl (fun ls hl => ?_)
              refine lv_goto (tgt := 4) hx hb d_MD_soakOf_50 (by decide) ?_
              exact ih i1 1 (i3 + 1) _ _ _ hP hD hS (lv_sub hl [2, 3, 1, 0] rfl) hF
        · have hF := ox_fn hF hb3
          refine lv_goto (tgt := 53) hx hb d_MD_soakOf_24 (by decide) ?_
          refine lv_aload_n hx hb d_MD_soakOf_53 rfl (lv_at hl 0 rfl) ?_
          refine va_get (D := (dC, dI)) (ci := 6) (v := .ref q_planTimes) (C := R_MD) (T := F_MD) (N := 24) hx hb hts uw_MD hown hK hP 0 rfl rfl 12 (by decide) (hts _ tw_226) (fun _ h9 => h9) rfl d_MD_soakOf_54 ?_
          refine lv_iload_n hx hb d_MD_soakOf_57 rfl (lv_at hl 1 rfl) ?_
          obtain ⟨hin, hF⟩ := ox_gdS hF
          refine va_iald hx hb hK hP 1 0 rfl rfl hin d_MD_soakOf_58 ?_
          refine lv_aload_n hx hb d_MD_soakOf_59 rfl (lv_at hl 0 rfl) ?_
          refine va_get (D := (dC, dI)) (ci := 6) (v := .ref q_planTimes) (C := R_MD) (T := F_MD) (N := 24) hx hb hts uw_MD hown hK hP 0 rfl rfl 12 (by decide) (hts _ tw_226) (fun _ h9 => h9) rfl d_MD_soakOf_60 ?_
          refine lv_iload_n hx hb d_MD_soakOf_63 rfl (lv_at hl 1 rfl) ?_
          refine lv_iconst (v := 1) hx hb d_MD_soakOf_64 (by decide) ?_
          refine lv_isub hx hb d_MD_soakOf_65 ?_
          obtain ⟨hin, hF⟩ := ox_gdS hF
          refine va_iald hx hb hK hP 1 0 rfl rfl hin d_MD_soakOf_66 ?_
          refine lv_isub hx hb d_MD_soakOf_67 ?_
          refine lv_aload_n hx hb d_MD_soakOf_68 rfl (lv_at hl 0 rfl) ?_
          refine va_get (D := (dC, dI)) (ci := 6) (v := .ref q_loaded) (C := R_MD) (T := F_MD) (N := 24) hx hb hts uw_MD hown hK hP 0 rfl rfl 4 (by decide) (hts _ tw_170) (fun _ h9 => h9) rfl d_MD_soakOf_69 ?_
          refine lv_iload_n hx hb d_MD_soakOf_72 rfl (lv_at hl 1 rfl) ?_
          refine lv_iconst (v := 1) hx hb d_MD_soakOf_73 (by decide) ?_
          refine lv_isub hx hb d_MD_soakOf_74 ?_
          obtain ⟨hin, hF⟩ := ox_gdS hF
          refine va_iald hx hb hK hP 2 0 rfl rfl hin d_MD_soakOf_75 ?_
          refine lv_isub hx hb d_MD_soakOf_76 ?_
          refine lv_iload_n hx hb d_MD_soakOf_77 rfl (lv_at hl 2 rfl) ?_
          refine lv_if_eq (tgt := 88) hx hb d_MD_soakOf_78 (by decide) (fun hb6 => ?_) (fun hb6 => ?_)
          · have hF := ox_t hF hb6
            refine lv_iconst (v := 0) hx hb d_MD_soakOf_88 (by decide) ?_
            refine lv_iadd hx hb d_MD_soakOf_89 ?_
            cases hF
            exact hq_iret hx hb hr hlocks hP hD hK hS d_MD_soakOf_90
          · have hF := ox_f hF hb6
            refine lv_aload_n hx hb d_MD_soakOf_81 rfl (lv_at hl 0 rfl) ?_
            refine va_get (D := (dC, dI)) (ci := 6) (v := .int v_cycle) (C := R_MD) (T := F_MD) (N := 24) hx hb hts uw_MD hown hK hP 0 rfl rfl 10 (by decide) (hts _ tw_227) (fun _ h9 => h9) rfl d_MD_soakOf_82 ?_
            refine lv_goto (tgt := 89) hx hb d_MD_soakOf_85 (by decide) ?_
            refine lv_iadd hx hb d_MD_soakOf_89 ?_
            cases hF
            exact hq_iret hx hb hr hlocks hP hD hK hS d_MD_soakOf_90
  refine lv_iconst (v := 0) hx hb d_MD_soakOf_0 (by decide) ?_
  refine lv_istore_n (lv' := [(2, .int 0), (0, .ref q_this), (1, .int a1)]) hx hb d_MD_soakOf_1 rfl hl (by decide) rfl (fun ls hl => ?_)
  refine lv_iconst (v := 0) hx hb d_MD_soakOf_2 (by decide) ?_
  refine lv_istore_n (lv' := [(3, .int 0), (2, .int 0), (0, .ref q_this), (1, .int a1)]) hx hb d_MD_soakOf_3 rfl hl (by decide) rfl (fun ls hl => ?_)
  exact (loop z) a1 0 0 _ _ _ hP hD hS (lv_sub hl [2, 3, 1, 0] rfl) hF
abbrev wd_MD_plan (q_this : Nat) (q_low : Nat) (q_high : Nat) (q_loaded : Nat) (q_empty : Nat) (q_order : Nat) (q_places : Nat) (q_times : Nat) (q_planOrder : Nat) (q_planTimes : Nat) (q_carriers : Nat) (q_begins : Nat) (cI : ClassId) (v_thrown : Int32) (v_tanks : Int32) (v_hasPlan : Int32) (v_cycle : Int32) (v_second : Int32) (v_entered : Int32) (v_done : Int32) (v_took : Int32) (v_stopped : Int32) (v_move : Int32) (v_ends : Int32) (v_onHoist : Int32) (v_began : Int32) (f_planOrder : Nat → Int32) (f_planTimes : Nat → Int32) (f_loaded : Nat → Int32) : va_W := [(q_this, .inr (6, [.int v_thrown, .int v_tanks, .ref q_low, .ref q_high, .ref q_loaded, .ref q_empty, .ref q_order, .ref q_places, .ref q_times, .int v_hasPlan, .int v_cycle, .ref q_planOrder, .ref q_planTimes, .int v_second, .int v_entered, .int v_done, .int v_took, .int v_stopped, .ref q_carriers, .ref q_begins, .int v_move, .int v_ends, .int v_onHoist, .int v_began])), (q_planOrder, .inl (cI, 6, .inl f_planOrder)), (q_planTimes, .inl (cI, 6, .inl f_planTimes)), (q_loaded, .inl (cI, 6, .inl f_loaded))]
set_option maxHeartbeats 4000000 in
set_option maxRecDepth 100000 in
theorem c_MD_plan (l : Launch) (dC : Nat → ClassId) (dI : Nat → Nat → Nat) (q_this : Nat) (q_low : Nat) (q_high : Nat) (q_loaded : Nat) (q_empty : Nat) (q_order : Nat) (q_places : Nat) (q_times : Nat) (q_planOrder : Nat) (q_planTimes : Nat) (q_carriers : Nat) (q_begins : Nat) (cI : ClassId) (sz : Nat) (z : Nat) (a1 : Int32) (a2 : Int32) (v_thrown : Int32) (v_tanks : Int32) (v_hasPlan : Int32) (v_cycle : Int32) (v_second : Int32) (v_entered : Int32) (v_done : Int32) (v_took : Int32) (v_stopped : Int32) (v_move : Int32) (v_ends : Int32) (v_onHoist : Int32) (v_began : Int32) (f_planOrder : Nat → Int32) (f_planTimes : Nat → Int32) (f_loaded : Nat → Int32) (rr : Int32) (n_v_thrown : Int32) (hF : fn_MD_plan z a1 a2 v_thrown v_tanks v_hasPlan v_cycle f_planOrder f_planTimes f_loaded = some (rr, n_v_thrown)) : Met l y_MD_plan w_MD_plan ({ frames := 1, cells := 0, slots := 0, locals := 23 }) (hq_Pc (dC, dI) vwCl [(cI, .int)] (wd_MD_plan q_this q_low q_high q_loaded q_empty q_order q_places q_times q_planOrder q_planTimes q_carriers q_begins cI v_thrown v_tanks v_hasPlan v_cycle v_second v_entered v_done v_took v_stopped v_move v_ends v_onHoist v_began f_planOrder f_planTimes f_loaded) sz [.ref q_this, .int a1, .int a2]) (hq_Qi (dC, dI) vwCl [(cI, .int)] (wd_MD_plan q_this q_low q_high q_loaded q_empty q_order q_places q_times q_planOrder q_planTimes q_carriers q_begins cI n_v_thrown v_tanks v_hasPlan v_cycle v_second v_entered v_done v_took v_stopped v_move v_ends v_onHoist v_began f_planOrder f_planTimes f_loaded) rr (va_A (wd_MD_plan q_this q_low q_high q_loaded q_empty q_order q_places q_times q_planOrder q_planTimes q_carriers q_begins cI v_thrown v_tanks v_hasPlan v_cycle v_second v_entered v_done v_took v_stopped v_move v_ends v_onHoist v_began f_planOrder f_planTimes f_loaded) sz)) 0 0 (va_A (wd_MD_plan q_this q_low q_high q_loaded q_empty q_order q_places q_times q_planOrder q_planTimes q_carriers q_begins cI v_thrown v_tanks v_hasPlan v_cycle v_second v_entered v_done v_took v_stopped v_move v_ends v_onHoist v_began f_planOrder f_planTimes f_loaded) sz) := by
  refine hq_met (Qc := (hq_Qi (dC, dI) vwCl [(cI, .int)] (wd_MD_plan q_this q_low q_high q_loaded q_empty q_order q_places q_times q_planOrder q_planTimes q_carriers q_begins cI n_v_thrown v_tanks v_hasPlan v_cycle v_second v_entered v_done v_took v_stopped v_move v_ends v_onHoist v_began f_planOrder f_planTimes f_loaded) rr)) (cc := b_MD_plan) (maxL := 6) (ret := some .int) (by decide) rfl (Nat.le_of_ble_eq_true rfl) ?_
  intro p e s m args below meth c A ls hx hb hr hml hts hown hlocks hnm hP hD hK hA hS hl
  have hts : ∀ w ∈ tb0, w.before args s = true := fun w h => hts w (List.mem_cons_of_mem _ h)
  have hown : s.vm.findClass R_MD = some m.cls := hown
  have hl : lv_has ls 6 [(0, .ref q_this), (1, .int a1), (2, .int a2)] := hl
  unfold fn_MD_plan at hF
  have loop : ∀ fu : Nat, (∀ (i1 : Int32) (i2 : Int32) (i3 : Int32) (i4 : Int32) (i5 : Int32) (v_thrown : Int32) (H : Heap) (locs : List Loc) (ls : Array Slot), va_P (dC, dI) vwCl (wd_MD_plan q_this q_low q_high q_loaded q_empty q_order q_places q_times q_planOrder q_planTimes q_carriers q_begins cI v_thrown v_tanks v_hasPlan v_cycle v_second v_entered v_done v_took v_stopped v_move v_ends v_onHoist v_began f_planOrder f_planTimes f_loaded) H → va_D A (wd_MD_plan q_this q_low q_high q_loaded q_empty q_order q_places q_times q_planOrder q_planTimes q_carriers q_begins cI v_thrown v_tanks v_hasPlan v_cycle v_second v_entered v_done v_took v_stopped v_move v_ends v_onHoist v_began f_planOrder f_planTimes f_loaded) → va_S A s.heap H locs → lv_has ls 6 [(0, .ref q_this), (1, .int i1), (2, .int i2), (3, .int i3)] → lp_MD_plan z v_tanks v_hasPlan v_cycle f_planOrder f_planTimes f_loaded fu 0 i1 i2 i3 i4 i5 v_thrown = some (rr, n_v_thrown) → W p l e ({ frames := 1, cells := 0, slots := 0, locals := 23 }) s m args below meth c H locs 0 0 (MQ below ((hq_Qi (dC, dI) vwCl [(cI, .int)] (wd_MD_plan q_this q_low q_high q_loaded q_empty q_order q_places q_times q_planOrder q_planTimes q_carriers q_begins cI n_v_thrown v_tanks v_hasPlan v_cycle v_second v_entered v_done v_took v_stopped v_move v_ends v_onHoist v_began f_planOrder f_planTimes f_loaded) rr) A) args s 0 0 A) (F0 m 41 ls [])) ∧ (∀ (i1 : Int32) (i2 : Int32) (i3 : Int32) (i4 : Int32) (i5 : Int32) (v_thrown : Int32) (H : Heap) (locs : List Loc) (ls : Array Slot), va_P (dC, dI) vwCl (wd_MD_plan q_this q_low q_high q_loaded q_empty q_order q_places q_times q_planOrder q_planTimes q_carriers q_begins cI v_thrown v_tanks v_hasPlan v_cycle v_second v_entered v_done v_took v_stopped v_move v_ends v_onHoist v_began f_planOrder f_planTimes f_loaded) H → va_D A (wd_MD_plan q_this q_low q_high q_loaded q_empty q_order q_places q_times q_planOrder q_planTimes q_carriers q_begins cI v_thrown v_tanks v_hasPlan v_cycle v_second v_entered v_done v_took v_stopped v_move v_ends v_onHoist v_began f_planOrder f_planTimes f_loaded) → va_S A s.heap H locs → lv_has ls 6 [(0, .ref q_this), (1, .int i1), (2, .int i2), (3, .int i3)] → lp_MD_plan z v_tanks v_hasPlan v_cycle f_planOrder f_planTimes f_loaded fu 1 i1 i2 i3 i4 i5 v_thrown = some (rr, n_v_thrown) → W p l e ({ frames := 1, cells := 0, slots := 0, locals := 23 }) s m args below meth c H locs 0 0 (MQ below ((hq_Qi (dC, dI) vwCl [(cI, .int)] (wd_MD_plan q_this q_low q_high q_loaded q_empty q_order q_places q_times q_planOrder q_planTimes q_carriers q_begins cI n_v_thrown v_tanks v_hasPlan v_cycle v_second v_entered v_done v_took v_stopped v_move v_ends v_onHoist v_began f_planOrder f_planTimes f_loaded) rr) A) args s 0 0 A) (F0 m 78 ls [])) ∧ (∀ (i1 : Int32) (i2 : Int32) (i3 : Int32) (i4 : Int32) (i5 : Int32) (v_thrown : Int32) (H : Heap) (locs : List Loc) (ls : Array Slot), va_P (dC, dI) vwCl (wd_MD_plan q_this q_low q_high q_loaded q_empty q_order q_places q_times q_planOrder q_planTimes q_carriers q_begins cI v_thrown v_tanks v_hasPlan v_cycle v_second v_entered v_done v_took v_stopped v_move v_ends v_onHoist v_began f_planOrder f_planTimes f_loaded) H → va_D A (wd_MD_plan q_this q_low q_high q_loaded q_empty q_order q_places q_times q_planOrder q_planTimes q_carriers q_begins cI v_thrown v_tanks v_hasPlan v_cycle v_second v_entered v_done v_took v_stopped v_move v_ends v_onHoist v_began f_planOrder f_planTimes f_loaded) → va_S A s.heap H locs → lv_has ls 6 [(0, .ref q_this), (1, .int i1), (2, .int i2), (3, .int i3), (4, .int i4), (5, .int i5)] → lp_MD_plan z v_tanks v_hasPlan v_cycle f_planOrder f_planTimes f_loaded fu 2 i1 i2 i3 i4 i5 v_thrown = some (rr, n_v_thrown) → W p l e ({ frames := 1, cells := 0, slots := 0, locals := 23 }) s m args below meth c H locs 0 0 (MQ below ((hq_Qi (dC, dI) vwCl [(cI, .int)] (wd_MD_plan q_this q_low q_high q_loaded q_empty q_order q_places q_times q_planOrder q_planTimes q_carriers q_begins cI n_v_thrown v_tanks v_hasPlan v_cycle v_second v_entered v_done v_took v_stopped v_move v_ends v_onHoist v_began f_planOrder f_planTimes f_loaded) rr) A) args s 0 0 A) (F0 m 139 ls [])) := by
    intro fu
    induction fu with
    | zero => exact ⟨(fun _ _ _ _ _ _ _ _ _ _ _ _ _ h => by cases h), (fun _ _ _ _ _ _ _ _ _ _ _ _ _ h => by cases h), (fun _ _ _ _ _ _ _ _ _ _ _ _ _ h => by cases h)⟩
    | succ fu ih =>
      refine ⟨?_, ?_, ?_⟩
      · intro i1 i2 i3 i4 i5 v_thrown H locs ls hP hD hS hl hF
        have hF : st_MD_plan z v_tanks v_hasPlan v_cycle f_planOrder f_planTimes f_loaded (lp_MD_plan z v_tanks v_hasPlan v_cycle f_planOrder f_planTimes f_loaded fu) 0 i1 i2 i3 i4 i5 v_thrown = some (rr, n_v_thrown) := hF
        unfold st_MD_plan at hF
        try dsimp only at hF
        refine lv_aload_n hx hb d_MD_plan_41 rfl (lv_at hl 0 rfl) ?_
        refine lv_aload_n hx hb d_MD_plan_42 rfl (lv_at hl 0 rfl) ?_
        refine va_get (D := (dC, dI)) (ci := 6) (v := .int v_hasPlan) (C := R_MD) (T := F_MD) (N := 24) hx hb hts uw_MD hown hK hP 0 rfl rfl 9 (by decide) (hts _ tw_173) (fun _ h9 => h9) rfl d_MD_plan_43 ?_
        refine lv_if_ne (tgt := 53) hx hb d_MD_plan_46 (by decide) (fun hb9 => ?_) (fun hb9 => ?_)
        · have hF := ox_t hF hb9
          refine lv_iconst (v := 0) hx hb d_MD_plan_53 (by decide) ?_
          refine lv_aload_n hx hb d_MD_plan_54 rfl (lv_at hl 0 rfl) ?_
          refine va_get (D := (dC, dI)) (ci := 6) (v := .int v_hasPlan) (C := R_MD) (T := F_MD) (N := 24) hx hb hts uw_MD hown hK hP 0 rfl rfl 9 (by decide) (hts _ tw_173) (fun _ h9 => h9) rfl d_MD_plan_55 ?_
          refine lv_if_eq (tgt := 69) hx hb d_MD_plan_58 (by decide) (fun h => absurd h hb9) (fun _ => ?_)
          refine lv_iload_n hx hb d_MD_plan_61 rfl (lv_at hl 3 rfl) ?_
          refine lv_if_ne (tgt := 69) hx hb d_MD_plan_62 (by decide) (fun hb10 => ?_) (fun hb10 => ?_)
          · have hF := ox_t hF hb10
            refine lv_iconst (v := 0) hx hb d_MD_plan_69 (by decide) ?_
            obtain ⟨⟨r11, s11_v_thrown⟩, hc11, hF⟩ := ox_clS hF
            refine hq_ci (ws' := (wd_MD_plan q_this q_low q_high q_loaded q_empty q_order q_places q_times q_planOrder q_planTimes q_carriers q_begins cI s11_v_thrown v_tanks v_hasPlan v_cycle v_second v_entered v_done v_took v_stopped v_move v_ends v_onHoist v_began f_planOrder f_planTimes f_loaded)) (hq_rV (As := [.int 0, .int 0]) (rest := []) ⟨hx, hb, hml, hown, hts⟩ (c_MD_refuse l dC dI q_this q_low q_high q_loaded q_empty q_order q_places q_times q_planOrder q_planTimes q_carriers q_begins _ 0 0 v_thrown v_tanks v_hasPlan v_cycle v_second v_entered v_done v_took v_stopped v_move v_ends v_onHoist v_began r11 s11_v_thrown hc11) (cwV 2 hts (hq_gV tw_178 tw_179 tw_180 tw_176 tw_181) rfl rfl rfl yv_MD_refuse ⟨Nat.le_of_ble_eq_true rfl, Nat.le_of_ble_eq_true rfl⟩) hP hD hK [] rfl 0 rfl rfl [0] rfl rfl rfl hl.1 rfl (Nat.le_of_ble_eq_true rfl) d_MD_plan_70 ⟨Nat.zero_le _, Nat.zero_le _⟩) hP hD hS hA [0] [1, 2, 3] [3, 0, 1, 2] rfl rfl rfl (by decide) rfl rfl (fun H locs hP hD hS => ?_)
            refine lv_if_eq (tgt := 78) hx hb d_MD_plan_73 (by decide) (fun hb12 => ?_) (fun hb12 => ?_)
            · have hF := ox_t hF hb12
              exact ih.2.1 i1 i2 i3 0 0 s11_v_thrown _ _ _ hP hD hS (lv_sub hl [0, 1, 2, 3] rfl) hF
            · have hF := ox_f hF hb12
              refine lv_iconst (v := 0) hx hb d_MD_plan_76 (by decide) ?_
              cases hF
              exact hq_iret hx hb hr hlocks hP hD hK hS d_MD_plan_77
          · have hF := ox_fn hF hb10
            refine lv_iconst (v := 1) hx hb d_MD_plan_65 (by decide) ?_
            refine lv_goto (tgt := 70) hx hb d_MD_plan_66 (by decide) ?_
            obtain ⟨⟨r13, s13_v_thrown⟩, hc13, hF⟩ := ox_clS hF
            refine hq_ci (ws' := (wd_MD_plan q_this q_low q_high q_loaded q_empty q_order q_places q_times q_planOrder q_planTimes q_carriers q_begins cI s13_v_thrown v_tanks v_hasPlan v_cycle v_second v_entered v_done v_took v_stopped v_move v_ends v_onHoist v_began f_planOrder f_planTimes f_loaded)) (hq_rV (As := [.int 0, .int 1]) (rest := []) ⟨hx, hb, hml, hown, hts⟩ (c_MD_refuse l dC dI q_this q_low q_high q_loaded q_empty q_order q_places q_times q_planOrder q_planTimes q_carriers q_begins _ 0 1 v_thrown v_tanks v_hasPlan v_cycle v_second v_entered v_done v_took v_stopped v_move v_ends v_onHoist v_began r13 s13_v_thrown hc13) (cwV 2 hts (hq_gV tw_178 tw_179 tw_180 tw_176 tw_181) rfl rfl rfl yv_MD_refuse ⟨Nat.le_of_ble_eq_true rfl, Nat.le_of_ble_eq_true rfl⟩) hP hD hK [] rfl 0 rfl rfl [0] rfl rfl rfl hl.1 rfl (Nat.le_of_ble_eq_true rfl) d_MD_plan_70 ⟨Nat.zero_le _, Nat.zero_le _⟩) hP hD hS hA [0] [1, 2, 3] [3, 0, 1, 2] rfl rfl rfl (by decide) rfl rfl (fun H locs hP hD hS => ?_)
            refine lv_if_eq (tgt := 78) hx hb d_MD_plan_73 (by decide) (fun hb14 => ?_) (fun hb14 => ?_)
            · have hF := ox_t hF hb14
              exact ih.2.1 i1 i2 i3 0 0 s13_v_thrown _ _ _ hP hD hS (lv_sub hl [0, 1, 2, 3] rfl) hF
            · have hF := ox_f hF hb14
              refine lv_iconst (v := 0) hx hb d_MD_plan_76 (by decide) ?_
              cases hF
              exact hq_iret hx hb hr hlocks hP hD hK hS d_MD_plan_77
        · have hF := ox_fn hF hb9
          refine lv_iconst (v := 1) hx hb d_MD_plan_49 (by decide) ?_
          refine lv_goto (tgt := 54) hx hb d_MD_plan_50 (by decide) ?_
          refine lv_aload_n hx hb d_MD_plan_54 rfl (lv_at hl 0 rfl) ?_
          refine va_get (D := (dC, dI)) (ci := 6) (v := .int v_hasPlan) (C := R_MD) (T := F_MD) (N := 24) hx hb hts uw_MD hown hK hP 0 rfl rfl 9 (by decide) (hts _ tw_173) (fun _ h9 => h9) rfl d_MD_plan_55 ?_
          refine lv_if_eq (tgt := 69) hx hb d_MD_plan_58 (by decide) (fun _ => ?_) (fun h => absurd hb9 h)
          refine lv_iconst (v := 0) hx hb d_MD_plan_69 (by decide) ?_
          obtain ⟨⟨r15, s15_v_thrown⟩, hc15, hF⟩ := ox_clS hF
          refine hq_ci (ws' := (wd_MD_plan q_this q_low q_high q_loaded q_empty q_order q_places q_times q_planOrder q_planTimes q_carriers q_begins cI s15_v_thrown v_tanks v_hasPlan v_cycle v_second v_entered v_done v_took v_stopped v_move v_ends v_onHoist v_began f_planOrder f_planTimes f_loaded)) (hq_rV (As := [.int 1, .int 0]) (rest := []) ⟨hx, hb, hml, hown, hts⟩ (c_MD_refuse l dC dI q_this q_low q_high q_loaded q_empty q_order q_places q_times q_planOrder q_planTimes q_carriers q_begins _ 1 0 v_thrown v_tanks v_hasPlan v_cycle v_second v_entered v_done v_took v_stopped v_move v_ends v_onHoist v_began r15 s15_v_thrown hc15) (cwV 2 hts (hq_gV tw_178 tw_179 tw_180 tw_176 tw_181) rfl rfl rfl yv_MD_refuse ⟨Nat.le_of_ble_eq_true rfl, Nat.le_of_ble_eq_true rfl⟩) hP hD hK [] rfl 0 rfl rfl [0] rfl rfl rfl hl.1 rfl (Nat.le_of_ble_eq_true rfl) d_MD_plan_70 ⟨Nat.zero_le _, Nat.zero_le _⟩) hP hD hS hA [0] [1, 2, 3] [3, 0, 1, 2] rfl rfl rfl (by decide) rfl rfl (fun H locs hP hD hS => ?_)
          refine lv_if_eq (tgt := 78) hx hb d_MD_plan_73 (by decide) (fun hb16 => ?_) (fun hb16 => ?_)
          · have hF := ox_t hF hb16
            exact ih.2.1 i1 i2 i3 0 0 s15_v_thrown _ _ _ hP hD hS (lv_sub hl [0, 1, 2, 3] rfl) hF
          · have hF := ox_f hF hb16
            refine lv_iconst (v := 0) hx hb d_MD_plan_76 (by decide) ?_
            cases hF
            exact hq_iret hx hb hr hlocks hP hD hK hS d_MD_plan_77
      · intro i1 i2 i3 i4 i5 v_thrown H locs ls hP hD hS hl hF
        have hF : st_MD_plan z v_tanks v_hasPlan v_cycle f_planOrder f_planTimes f_loaded (lp_MD_plan z v_tanks v_hasPlan v_cycle f_planOrder f_planTimes f_loaded fu) 1 i1 i2 i3 i4 i5 v_thrown = some (rr, n_v_thrown) := hF
        unfold st_MD_plan at hF
        try dsimp only at hF
        refine lv_iload_n hx hb d_MD_plan_78 rfl (lv_at hl 2 rfl) ?_
        by_cases hk0 : i2 = 0
        · have hF := ox_t hF hk0
          refine lv_tableIn (tgt := 108) hx hb d_MD_plan_79 (by rw [hk0]; decide) (by rw [hk0]; decide) (by rw [hk0]; rfl) (by decide) ?_
          refine lv_aload_n hx hb d_MD_plan_108 rfl (lv_at hl 0 rfl) ?_
          refine va_get (D := (dC, dI)) (ci := 6) (v := .ref q_planOrder) (C := R_MD) (T := F_MD) (N := 24) hx hb hts uw_MD hown hK hP 0 rfl rfl 11 (by decide) (hts _ tw_225) (fun _ h9 => h9) rfl d_MD_plan_109 ?_
          refine lv_iload_n hx hb d_MD_plan_112 rfl (lv_at hl 1 rfl) ?_
          obtain ⟨hin, hF⟩ := ox_gdS hF
          refine va_iald hx hb hK hP 1 0 rfl rfl hin d_MD_plan_113 ?_
          cases hF
          exact hq_iret hx hb hr hlocks hP hD hK hS d_MD_plan_114
        have hF := ox_f hF hk0
        by_cases hk1 : i2 = 1
        · have hF := ox_t hF hk1
          refine lv_tableIn (tgt := 115) hx hb d_MD_plan_79 (by rw [hk1]; decide) (by rw [hk1]; decide) (by rw [hk1]; rfl) (by decide) ?_
          refine lv_aload_n hx hb d_MD_plan_115 rfl (lv_at hl 0 rfl) ?_
          refine va_get (D := (dC, dI)) (ci := 6) (v := .ref q_planTimes) (C := R_MD) (T := F_MD) (N := 24) hx hb hts uw_MD hown hK hP 0 rfl rfl 12 (by decide) (hts _ tw_226) (fun _ h9 => h9) rfl d_MD_plan_116 ?_
          refine lv_iload_n hx hb d_MD_plan_119 rfl (lv_at hl 1 rfl) ?_
          obtain ⟨hin, hF⟩ := ox_gdS hF
          refine va_iald hx hb hK hP 2 0 rfl rfl hin d_MD_plan_120 ?_
          cases hF
          exact hq_iret hx hb hr hlocks hP hD hK hS d_MD_plan_121
        have hF := ox_f hF hk1
        by_cases hk2 : i2 = 2
        · have hF := ox_t hF hk2
          refine lv_tableIn (tgt := 122) hx hb d_MD_plan_79 (by rw [hk2]; decide) (by rw [hk2]; decide) (by rw [hk2]; rfl) (by decide) ?_
          refine lv_aload_n hx hb d_MD_plan_122 rfl (lv_at hl 0 rfl) ?_
          refine lv_iload_n hx hb d_MD_plan_123 rfl (lv_at hl 1 rfl) ?_
          obtain ⟨r17, hc17, hF⟩ := ox_clS hF
          refine hq_ci (ws' := (wd_MD_plan q_this q_low q_high q_loaded q_empty q_order q_places q_times q_planOrder q_planTimes q_carriers q_begins cI v_thrown v_tanks v_hasPlan v_cycle v_second v_entered v_done v_took v_stopped v_move v_ends v_onHoist v_began f_planOrder f_planTimes f_loaded)) (hq_rV (As := [.int i1]) (rest := []) ⟨hx, hb, hml, hown, hts⟩ (c_MD_soakOf l dC dI q_this q_low q_high q_loaded q_empty q_order q_places q_times q_planOrder q_planTimes q_carriers q_begins cI _ z i1 v_thrown v_tanks v_hasPlan v_cycle v_second v_entered v_done v_took v_stopped v_move v_ends v_onHoist v_began f_planTimes f_loaded f_planOrder r17 hc17) (cwV 1 hts (hq_gV tw_244 tw_245 tw_246 tw_176 tw_247) rfl rfl rfl yv_MD_soakOf ⟨Nat.le_of_ble_eq_true rfl, Nat.le_of_ble_eq_true rfl⟩) hP hD hK [0] rfl 0 rfl rfl [0, 2, 3, 1] rfl rfl rfl hl.1 rfl (Nat.le_of_ble_eq_true rfl) d_MD_plan_124 ⟨Nat.zero_le _, Nat.zero_le _⟩) hP hD hS hA [0, 2, 3, 1] [] [0, 3, 1, 2] rfl rfl rfl (by decide) rfl rfl (fun H locs hP hD hS => ?_)
          cases hF
          exact hq_iret hx hb hr hlocks hP hD hK hS d_MD_plan_127
        have hF := ox_f hF hk2
        by_cases hk3 : i2 = 3
        · have hF := ox_t hF hk3
          refine lv_tableIn (tgt := 128) hx hb d_MD_plan_79 (by rw [hk3]; decide) (by rw [hk3]; decide) (by rw [hk3]; rfl) (by decide) ?_
          refine lv_aload_n hx hb d_MD_plan_128 rfl (lv_at hl 0 rfl) ?_
          refine va_get (D := (dC, dI)) (ci := 6) (v := .int v_cycle) (C := R_MD) (T := F_MD) (N := 24) hx hb hts uw_MD hown hK hP 0 rfl rfl 10 (by decide) (hts _ tw_227) (fun _ h9 => h9) rfl d_MD_plan_129 ?_
          cases hF
          exact hq_iret hx hb hr hlocks hP hD hK hS d_MD_plan_132
        have hF := ox_f hF hk3
        refine lv_tableOut (tgt := 133) hx hb d_MD_plan_79 (hq_out4 hk0 hk1 hk2 hk3) (by decide) ?_
        refine lv_iconst (v := 0) hx hb d_MD_plan_133 (by decide) ?_
        refine lv_istore (lv' := [(4, .int 0), (0, .ref q_this), (1, .int i1), (2, .int i2), (3, .int i3)]) hx hb d_MD_plan_134 hl (by decide) rfl (fun ls hl => ?_)
        refine lv_iconst (v := 1) hx hb d_MD_plan_136 (by decide) ?_
        refine lv_istore (lv' := [(5, .int 1), (4, .int 0), (0, .ref q_this), (1, .int i1), (2, .int i2), (3, .int i3)]) hx hb d_MD_plan_137 hl (by decide) rfl (fun ls hl => ?_)
        exact ih.2.2 i1 i2 i3 0 1 v_thrown _ _ _ hP hD hS (lv_sub hl [2, 3, 4, 5, 1, 0] rfl) hF
      · intro i1 i2 i3 i4 i5 v_thrown H locs ls hP hD hS hl hF
        have hF : st_MD_plan z v_tanks v_hasPlan v_cycle f_planOrder f_planTimes f_loaded (lp_MD_plan z v_tanks v_hasPlan v_cycle f_planOrder f_planTimes f_loaded fu) 2 i1 i2 i3 i4 i5 v_thrown = some (rr, n_v_thrown) := hF
        unfold st_MD_plan at hF
        try dsimp only at hF
        refine lv_iload hx hb d_MD_plan_139 (lv_at hl 5 rfl) ?_
        refine lv_aload_n hx hb d_MD_plan_141 rfl (lv_at hl 0 rfl) ?_
        refine va_get (D := (dC, dI)) (ci := 6) (v := .int v_tanks) (C := R_MD) (T := F_MD) (N := 24) hx hb hts uw_MD hown hK hP 0 rfl rfl 1 (by decide) (hts _ tw_172) (fun _ h9 => h9) rfl d_MD_plan_142 ?_
        refine lv_icmp_gt (tgt := 169) hx hb d_MD_plan_145 (by decide) (fun hb18 => ?_) (fun hb18 => ?_)
        · have hF := ox_t hF hb18
          refine lv_iload hx hb d_MD_plan_169 (lv_at hl 4 rfl) ?_
          cases hF
          exact hq_iret hx hb hr hlocks hP hD hK hS d_MD_plan_171
        · have hF := ox_f hF hb18
          refine lv_bipush (v := 10) hx hb d_MD_plan_148 (by decide) ?_
          refine lv_iload hx hb d_MD_plan_150 (lv_at hl 4 rfl) ?_
          refine lv_imul hx hb d_MD_plan_152 ?_
          refine lv_aload_n hx hb d_MD_plan_153 rfl (lv_at hl 0 rfl) ?_
          refine va_get (D := (dC, dI)) (ci := 6) (v := .ref q_planOrder) (C := R_MD) (T := F_MD) (N := 24) hx hb hts uw_MD hown hK hP 0 rfl rfl 11 (by decide) (hts _ tw_225) (fun _ h9 => h9) rfl d_MD_plan_154 ?_
          refine lv_iload hx hb d_MD_plan_157 (lv_at hl 5 rfl) ?_
          obtain ⟨hin, hF⟩ := ox_gdS hF
          refine va_iald hx hb hK hP 1 0 rfl rfl hin d_MD_plan_159 ?_
          refine lv_iadd hx hb d_MD_plan_160 ?_
          refine lv_istore (lv' := [(4, .int ((10 * i4) + (f_planOrder i5.toNatClampNeg))), (0, .ref q_this), (1, .int i1), (2, .int i2), (3, .int i3), (5, .int i5)]) hx hb d_MD_plan_161 hl (by decide) rfl (fun ls hl => ?_)
          refine lv_iinc (v := (i5 + 1)) (lv' := [(5, .int (i5 + 1)), (4, .int ((10 * i4) + (f_planOrder i5.toNatClampNeg))), (0, .ref q_this), (1, .int i1), (2, .int i2), (3, .int i3)]) hx hb d_MD_plan_163 hl (k := 5) rfl rfl (by decide) rfl (fun ls hl => ?_)
          refine lv_goto (tgt := 139) hx hb d_MD_plan_166 (by decide) ?_
          exact ih.2.2 i1 i2 i3 ((10 * i4) + (f_planOrder i5.toNatClampNeg)) (i5 + 1) v_thrown _ _ _ hP hD hS (lv_sub hl [2, 3, 4, 5, 1, 0] rfl) hF
  refine lv_iload_n hx hb d_MD_plan_0 rfl (lv_at hl 2 rfl) ?_
  refine lv_iconst (v := 0) hx hb d_MD_plan_1 (by decide) ?_
  refine lv_iconst (v := 4) hx hb d_MD_plan_2 (by decide) ?_
  obtain ⟨r1, hc1, hF⟩ := ox_clS hF
  refine hq_ci (ws' := (wd_MD_plan q_this q_low q_high q_loaded q_empty q_order q_places q_times q_planOrder q_planTimes q_carriers q_begins cI v_thrown v_tanks v_hasPlan v_cycle v_second v_entered v_done v_took v_stopped v_move v_ends v_onHoist v_began f_planOrder f_planTimes f_loaded)) (hq_rS (As := [.int a2, .int 0, .int 4]) (rest := []) ⟨hx, hb, hml, hown, hts⟩ (c_MD_in l dC dI _ a2 0 4 r1 hc1) ⟨callB_of 3 hts (hq_g1 tw_177) rfl rfl rfl (hts _ tw_176) (hts _ tw_174) yd_MD_in ⟨Nat.le_of_ble_eq_true rfl, Nat.le_of_ble_eq_true rfl⟩, hts _ tw_175⟩ hP hD hK [] rfl [] rfl rfl rfl hl.1 rfl (Nat.le_of_ble_eq_true rfl) d_MD_plan_3 ⟨Nat.zero_le _, Nat.zero_le _⟩) hP hD hS hA [] [0, 1, 2, 3] [0, 1, 2, 3] rfl rfl rfl (by decide) rfl rfl (fun H locs hP hD hS => ?_)
  refine lv_if_eq (tgt := 39) hx hb d_MD_plan_6 (by decide) (fun hb2 => ?_) (fun hb2 => ?_)
  · have hF := ox_t hF hb2
    refine lv_iconst (v := 0) hx hb d_MD_plan_39 (by decide) ?_
    refine lv_istore_n (lv' := [(3, .int 0), (0, .ref q_this), (1, .int a1), (2, .int a2)]) hx hb d_MD_plan_40 rfl hl (by decide) rfl (fun ls hl => ?_)
    exact (loop z).1 a1 a2 0 0 0 v_thrown _ _ _ hP hD hS (lv_sub hl [1, 2, 3, 0] rfl) hF
  · have hF := ox_f hF hb2
    refine lv_iload_n hx hb d_MD_plan_9 rfl (lv_at hl 2 rfl) ?_
    refine lv_iconst (v := 2) hx hb d_MD_plan_10 (by decide) ?_
    refine lv_icmp_gt (tgt := 35) hx hb d_MD_plan_11 (by decide) (fun hb3 => ?_) (fun hb3 => ?_)
    · have hF := ox_t hF hb3
      refine lv_iconst (v := 1) hx hb d_MD_plan_35 (by decide) ?_
      refine lv_goto (tgt := 40) hx hb d_MD_plan_36 (by decide) ?_
      refine lv_istore_n (lv' := [(3, .int 1), (0, .ref q_this), (1, .int a1), (2, .int a2)]) hx hb d_MD_plan_40 rfl hl (by decide) rfl (fun ls hl => ?_)
      exact (loop z).1 a1 a2 1 0 0 v_thrown _ _ _ hP hD hS (lv_sub hl [1, 2, 3, 0] rfl) hF
    · have hF := ox_f hF hb3
      refine lv_iload_n hx hb d_MD_plan_14 rfl (lv_at hl 1 rfl) ?_
      refine lv_iload_n hx hb d_MD_plan_15 rfl (lv_at hl 2 rfl) ?_
      refine lv_iconst (v := 2) hx hb d_MD_plan_16 (by decide) ?_
      refine lv_icmp_ne (tgt := 24) hx hb d_MD_plan_17 (by decide) (fun hb4 => ?_) (fun hb4 => ?_)
      · have hF := ox_t hF hb4
        refine lv_iconst (v := 0) hx hb d_MD_plan_24 (by decide) ?_
        refine lv_aload_n hx hb d_MD_plan_25 rfl (lv_at hl 0 rfl) ?_
        refine va_get (D := (dC, dI)) (ci := 6) (v := .int v_tanks) (C := R_MD) (T := F_MD) (N := 24) hx hb hts uw_MD hown hK hP 0 rfl rfl 1 (by decide) (hts _ tw_172) (fun _ h9 => h9) rfl d_MD_plan_26 ?_
        obtain ⟨r5, hc5, hF⟩ := ox_clS hF
        refine hq_ci (ws' := (wd_MD_plan q_this q_low q_high q_loaded q_empty q_order q_places q_times q_planOrder q_planTimes q_carriers q_begins cI v_thrown v_tanks v_hasPlan v_cycle v_second v_entered v_done v_took v_stopped v_move v_ends v_onHoist v_began f_planOrder f_planTimes f_loaded)) (hq_rS (As := [.int a1, .int 0, .int v_tanks]) (rest := []) ⟨hx, hb, hml, hown, hts⟩ (c_MD_in l dC dI _ a1 0 v_tanks r5 hc5) ⟨callB_of 3 hts (hq_g1 tw_177) rfl rfl rfl (hts _ tw_176) (hts _ tw_174) yd_MD_in ⟨Nat.le_of_ble_eq_true rfl, Nat.le_of_ble_eq_true rfl⟩, hts _ tw_175⟩ hP hD hK [] rfl [] rfl rfl rfl hl.1 rfl (Nat.le_of_ble_eq_true rfl) d_MD_plan_29 ⟨Nat.zero_le _, Nat.zero_le _⟩) hP hD hS hA [] [0, 1, 2, 3] [0, 1, 2, 3] rfl rfl rfl (by decide) rfl rfl (fun H locs hP hD hS => ?_)
        refine lv_if_eq (tgt := 39) hx hb d_MD_plan_32 (by decide) (fun hb6 => ?_) (fun hb6 => ?_)
        · have hF := ox_t hF hb6
          refine lv_iconst (v := 0) hx hb d_MD_plan_39 (by decide) ?_
          refine lv_istore_n (lv' := [(3, .int 0), (0, .ref q_this), (1, .int a1), (2, .int a2)]) hx hb d_MD_plan_40 rfl hl (by decide) rfl (fun ls hl => ?_)
          exact (loop z).1 a1 a2 0 0 0 v_thrown _ _ _ hP hD hS (lv_sub hl [1, 2, 3, 0] rfl) hF
        · have hF := ox_f hF hb6
          refine lv_iconst (v := 1) hx hb d_MD_plan_35 (by decide) ?_
          refine lv_goto (tgt := 40) hx hb d_MD_plan_36 (by decide) ?_
          refine lv_istore_n (lv' := [(3, .int 1), (0, .ref q_this), (1, .int a1), (2, .int a2)]) hx hb d_MD_plan_40 rfl hl (by decide) rfl (fun ls hl => ?_)
          exact (loop z).1 a1 a2 1 0 0 v_thrown _ _ _ hP hD hS (lv_sub hl [1, 2, 3, 0] rfl) hF
      · have hF := ox_fn hF hb4
        refine lv_iconst (v := 1) hx hb d_MD_plan_20 (by decide) ?_
        refine lv_goto (tgt := 25) hx hb d_MD_plan_21 (by decide) ?_
        refine lv_aload_n hx hb d_MD_plan_25 rfl (lv_at hl 0 rfl) ?_
        refine va_get (D := (dC, dI)) (ci := 6) (v := .int v_tanks) (C := R_MD) (T := F_MD) (N := 24) hx hb hts uw_MD hown hK hP 0 rfl rfl 1 (by decide) (hts _ tw_172) (fun _ h9 => h9) rfl d_MD_plan_26 ?_
        obtain ⟨r7, hc7, hF⟩ := ox_clS hF
        refine hq_ci (ws' := (wd_MD_plan q_this q_low q_high q_loaded q_empty q_order q_places q_times q_planOrder q_planTimes q_carriers q_begins cI v_thrown v_tanks v_hasPlan v_cycle v_second v_entered v_done v_took v_stopped v_move v_ends v_onHoist v_began f_planOrder f_planTimes f_loaded)) (hq_rS (As := [.int a1, .int 1, .int v_tanks]) (rest := []) ⟨hx, hb, hml, hown, hts⟩ (c_MD_in l dC dI _ a1 1 v_tanks r7 hc7) ⟨callB_of 3 hts (hq_g1 tw_177) rfl rfl rfl (hts _ tw_176) (hts _ tw_174) yd_MD_in ⟨Nat.le_of_ble_eq_true rfl, Nat.le_of_ble_eq_true rfl⟩, hts _ tw_175⟩ hP hD hK [] rfl [] rfl rfl rfl hl.1 rfl (Nat.le_of_ble_eq_true rfl) d_MD_plan_29 ⟨Nat.zero_le _, Nat.zero_le _⟩) hP hD hS hA [] [0, 1, 2, 3] [0, 1, 2, 3] rfl rfl rfl (by decide) rfl rfl (fun H locs hP hD hS => ?_)
        refine lv_if_eq (tgt := 39) hx hb d_MD_plan_32 (by decide) (fun hb8 => ?_) (fun hb8 => ?_)
        · have hF := ox_t hF hb8
          refine lv_iconst (v := 0) hx hb d_MD_plan_39 (by decide) ?_
          refine lv_istore_n (lv' := [(3, .int 0), (0, .ref q_this), (1, .int a1), (2, .int a2)]) hx hb d_MD_plan_40 rfl hl (by decide) rfl (fun ls hl => ?_)
          exact (loop z).1 a1 a2 0 0 0 v_thrown _ _ _ hP hD hS (lv_sub hl [1, 2, 3, 0] rfl) hF
        · have hF := ox_f hF hb8
          refine lv_iconst (v := 1) hx hb d_MD_plan_35 (by decide) ?_
          refine lv_goto (tgt := 40) hx hb d_MD_plan_36 (by decide) ?_
          refine lv_istore_n (lv' := [(3, .int 1), (0, .ref q_this), (1, .int a1), (2, .int a2)]) hx hb d_MD_plan_40 rfl hl (by decide) rfl (fun ls hl => ?_)
          exact (loop z).1 a1 a2 1 0 0 v_thrown _ _ _ hP hD hS (lv_sub hl [1, 2, 3, 0] rfl) hF
abbrev wd_MD_endMove (q_this : Nat) (q_low : Nat) (q_high : Nat) (q_loaded : Nat) (q_empty : Nat) (q_order : Nat) (q_places : Nat) (q_times : Nat) (q_planOrder : Nat) (q_planTimes : Nat) (q_carriers : Nat) (q_begins : Nat) (cI : ClassId) (v_thrown : Int32) (v_tanks : Int32) (v_hasPlan : Int32) (v_cycle : Int32) (v_second : Int32) (v_entered : Int32) (v_done : Int32) (v_took : Int32) (v_stopped : Int32) (v_move : Int32) (v_ends : Int32) (v_onHoist : Int32) (v_began : Int32) (f_carriers : Nat → Int32) (f_begins : Nat → Int32) : va_W := [(q_this, .inr (6, [.int v_thrown, .int v_tanks, .ref q_low, .ref q_high, .ref q_loaded, .ref q_empty, .ref q_order, .ref q_places, .ref q_times, .int v_hasPlan, .int v_cycle, .ref q_planOrder, .ref q_planTimes, .int v_second, .int v_entered, .int v_done, .int v_took, .int v_stopped, .ref q_carriers, .ref q_begins, .int v_move, .int v_ends, .int v_onHoist, .int v_began])), (q_carriers, .inl (cI, 7, .inl f_carriers)), (q_begins, .inl (cI, 7, .inl f_begins))]
set_option maxHeartbeats 4000000 in
set_option maxRecDepth 100000 in
theorem c_MD_endMove (l : Launch) (dC : Nat → ClassId) (dI : Nat → Nat → Nat) (q_this : Nat) (q_low : Nat) (q_high : Nat) (q_loaded : Nat) (q_empty : Nat) (q_order : Nat) (q_places : Nat) (q_times : Nat) (q_planOrder : Nat) (q_planTimes : Nat) (q_carriers : Nat) (q_begins : Nat) (cI : ClassId) (sz : Nat) (v_thrown : Int32) (v_tanks : Int32) (v_hasPlan : Int32) (v_cycle : Int32) (v_second : Int32) (v_entered : Int32) (v_done : Int32) (v_took : Int32) (v_stopped : Int32) (v_move : Int32) (v_ends : Int32) (v_onHoist : Int32) (v_began : Int32) (f_carriers : Nat → Int32) (f_begins : Nat → Int32) (n_v_done : Int32) (n_v_took : Int32) (n_v_move : Int32) (n_v_onHoist : Int32) (n_f_carriers : Nat → Int32) (n_f_begins : Nat → Int32) (hF : fn_MD_endMove v_tanks v_second v_done v_took v_move v_onHoist v_began f_carriers f_begins = some (n_v_done, n_v_took, n_v_move, n_v_onHoist, n_f_carriers, n_f_begins)) : Met l y_MD_endMove w_MD_endMove ({ frames := 0, cells := 0, slots := 0, locals := 0 }) (hq_Pc (dC, dI) vwCl [(cI, .int)] (wd_MD_endMove q_this q_low q_high q_loaded q_empty q_order q_places q_times q_planOrder q_planTimes q_carriers q_begins cI v_thrown v_tanks v_hasPlan v_cycle v_second v_entered v_done v_took v_stopped v_move v_ends v_onHoist v_began f_carriers f_begins) sz [.ref q_this]) (hq_Qv (dC, dI) vwCl [(cI, .int)] (wd_MD_endMove q_this q_low q_high q_loaded q_empty q_order q_places q_times q_planOrder q_planTimes q_carriers q_begins cI v_thrown v_tanks v_hasPlan v_cycle v_second v_entered n_v_done n_v_took v_stopped n_v_move v_ends n_v_onHoist v_began n_f_carriers n_f_begins) (va_A (wd_MD_endMove q_this q_low q_high q_loaded q_empty q_order q_places q_times q_planOrder q_planTimes q_carriers q_begins cI v_thrown v_tanks v_hasPlan v_cycle v_second v_entered v_done v_took v_stopped v_move v_ends v_onHoist v_began f_carriers f_begins) sz)) 0 0 (va_A (wd_MD_endMove q_this q_low q_high q_loaded q_empty q_order q_places q_times q_planOrder q_planTimes q_carriers q_begins cI v_thrown v_tanks v_hasPlan v_cycle v_second v_entered v_done v_took v_stopped v_move v_ends v_onHoist v_began f_carriers f_begins) sz) := by
  refine hq_met (Qc := (hq_Qv (dC, dI) vwCl [(cI, .int)] (wd_MD_endMove q_this q_low q_high q_loaded q_empty q_order q_places q_times q_planOrder q_planTimes q_carriers q_begins cI v_thrown v_tanks v_hasPlan v_cycle v_second v_entered n_v_done n_v_took v_stopped n_v_move v_ends n_v_onHoist v_began n_f_carriers n_f_begins))) (cc := b_MD_endMove) (maxL := 1) (ret := none) (by decide) rfl (Nat.le_of_ble_eq_true rfl) ?_
  intro p e s m args below meth c A ls hx hb hr hml hts hown hlocks hnm hP hD hK hA hS hl
  have hts : ∀ w ∈ tb0, w.before args s = true := fun w h => hts w (List.mem_cons_of_mem _ h)
  have hown : s.vm.findClass R_MD = some m.cls := hown
  have hl : lv_has ls 1 [(0, .ref q_this)] := hl
  unfold fn_MD_endMove at hF
  refine lv_aload_n hx hb d_MD_endMove_0 rfl (lv_at hl 0 rfl) ?_
  refine va_get (D := (dC, dI)) (ci := 6) (v := .int v_move) (C := R_MD) (T := F_MD) (N := 24) hx hb hts uw_MD hown hK hP 0 rfl rfl 20 (by decide) (hts _ tw_234) (fun _ h9 => h9) rfl d_MD_endMove_1 ?_
  refine lv_aload_n hx hb d_MD_endMove_4 rfl (lv_at hl 0 rfl) ?_
  refine va_get (D := (dC, dI)) (ci := 6) (v := .int v_tanks) (C := R_MD) (T := F_MD) (N := 24) hx hb hts uw_MD hown hK hP 0 rfl rfl 1 (by decide) (hts _ tw_172) (fun _ h9 => h9) rfl d_MD_endMove_5 ?_
  refine lv_icmp_ne (tgt := 37) hx hb d_MD_endMove_8 (by decide) (fun hb1 => ?_) (fun hb1 => ?_)
  · have hF := ox_t hF hb1
    refine lv_aload_n hx hb d_MD_endMove_37 rfl (lv_at hl 0 rfl) ?_
    refine va_get (D := (dC, dI)) (ci := 6) (v := .ref q_carriers) (C := R_MD) (T := F_MD) (N := 24) hx hb hts uw_MD hown hK hP 0 rfl rfl 18 (by decide) (hts _ tw_228) (fun _ h9 => h9) rfl d_MD_endMove_38 ?_
    refine lv_aload_n hx hb d_MD_endMove_41 rfl (lv_at hl 0 rfl) ?_
    refine va_get (D := (dC, dI)) (ci := 6) (v := .int v_move) (C := R_MD) (T := F_MD) (N := 24) hx hb hts uw_MD hown hK hP 0 rfl rfl 20 (by decide) (hts _ tw_234) (fun _ h9 => h9) rfl d_MD_endMove_42 ?_
    refine lv_iconst (v := 1) hx hb d_MD_endMove_45 (by decide) ?_
    refine lv_iadd hx hb d_MD_endMove_46 ?_
    refine lv_aload_n hx hb d_MD_endMove_47 rfl (lv_at hl 0 rfl) ?_
    refine va_get (D := (dC, dI)) (ci := 6) (v := .int v_onHoist) (C := R_MD) (T := F_MD) (N := 24) hx hb hts uw_MD hown hK hP 0 rfl rfl 22 (by decide) (hts _ tw_235) (fun _ h9 => h9) rfl d_MD_endMove_48 ?_
    obtain ⟨hin, hF⟩ := ox_gdS hF
    refine va_iast hx hb hK hP hD hS 1 0 rfl rfl hin d_MD_endMove_51 (fun H locs hP hD hS => ?_)
    have hP : va_P (dC, dI) vwCl (wd_MD_endMove q_this q_low q_high q_loaded q_empty q_order q_places q_times q_planOrder q_planTimes q_carriers q_begins cI v_thrown v_tanks v_hasPlan v_cycle v_second v_entered v_done v_took v_stopped v_move v_ends v_onHoist v_began (upd f_carriers (v_move + 1).toNatClampNeg v_onHoist) f_begins) H := hP
    have hD : va_D A (wd_MD_endMove q_this q_low q_high q_loaded q_empty q_order q_places q_times q_planOrder q_planTimes q_carriers q_begins cI v_thrown v_tanks v_hasPlan v_cycle v_second v_entered v_done v_took v_stopped v_move v_ends v_onHoist v_began (upd f_carriers (v_move + 1).toNatClampNeg v_onHoist) f_begins) := hD
    refine lv_aload_n hx hb d_MD_endMove_52 rfl (lv_at hl 0 rfl) ?_
    refine va_get (D := (dC, dI)) (ci := 6) (v := .ref q_begins) (C := R_MD) (T := F_MD) (N := 24) hx hb hts uw_MD hown hK hP 0 rfl rfl 19 (by decide) (hts _ tw_248) (fun _ h9 => h9) rfl d_MD_endMove_53 ?_
    refine lv_aload_n hx hb d_MD_endMove_56 rfl (lv_at hl 0 rfl) ?_
    refine va_get (D := (dC, dI)) (ci := 6) (v := .int v_move) (C := R_MD) (T := F_MD) (N := 24) hx hb hts uw_MD hown hK hP 0 rfl rfl 20 (by decide) (hts _ tw_234) (fun _ h9 => h9) rfl d_MD_endMove_57 ?_
    refine lv_iconst (v := 1) hx hb d_MD_endMove_60 (by decide) ?_
    refine lv_iadd hx hb d_MD_endMove_61 ?_
    refine lv_aload_n hx hb d_MD_endMove_62 rfl (lv_at hl 0 rfl) ?_
    refine va_get (D := (dC, dI)) (ci := 6) (v := .int v_began) (C := R_MD) (T := F_MD) (N := 24) hx hb hts uw_MD hown hK hP 0 rfl rfl 23 (by decide) (hts _ tw_249) (fun _ h9 => h9) rfl d_MD_endMove_63 ?_
    obtain ⟨hin, hF⟩ := ox_gdS hF
    refine va_iast hx hb hK hP hD hS 2 0 rfl rfl hin d_MD_endMove_66 (fun H locs hP hD hS => ?_)
    have hP : va_P (dC, dI) vwCl (wd_MD_endMove q_this q_low q_high q_loaded q_empty q_order q_places q_times q_planOrder q_planTimes q_carriers q_begins cI v_thrown v_tanks v_hasPlan v_cycle v_second v_entered v_done v_took v_stopped v_move v_ends v_onHoist v_began (upd f_carriers (v_move + 1).toNatClampNeg v_onHoist) (upd f_begins (v_move + 1).toNatClampNeg v_began)) H := hP
    have hD : va_D A (wd_MD_endMove q_this q_low q_high q_loaded q_empty q_order q_places q_times q_planOrder q_planTimes q_carriers q_begins cI v_thrown v_tanks v_hasPlan v_cycle v_second v_entered v_done v_took v_stopped v_move v_ends v_onHoist v_began (upd f_carriers (v_move + 1).toNatClampNeg v_onHoist) (upd f_begins (v_move + 1).toNatClampNeg v_began)) := hD
    refine lv_aload_n hx hb d_MD_endMove_67 rfl (lv_at hl 0 rfl) ?_
    refine lv_iconst (v := (-1)) hx hb d_MD_endMove_68 (by decide) ?_
    refine va_put (D := (dC, dI)) (ci := 6) (v := .int (-1)) (ty := .int) (C := R_MD) (T := F_MD) (N := 24) hx hb hts uw_MD t_MD t_MD_ok n_MD hown hK hP hD hS 0 rfl rfl 20 (by decide) (hts _ tw_234) (fun _ h9 => h9) rfl (by decide +kernel) rfl rfl (Nat.le_of_ble_eq_true rfl) d_MD_endMove_69 (fun H locs hP hD hS => ?_)
    have hP : va_P (dC, dI) vwCl (wd_MD_endMove q_this q_low q_high q_loaded q_empty q_order q_places q_times q_planOrder q_planTimes q_carriers q_begins cI v_thrown v_tanks v_hasPlan v_cycle v_second v_entered v_done v_took v_stopped (-1) v_ends v_onHoist v_began (upd f_carriers (v_move + 1).toNatClampNeg v_onHoist) (upd f_begins (v_move + 1).toNatClampNeg v_began)) H := hP
    have hD : va_D A (wd_MD_endMove q_this q_low q_high q_loaded q_empty q_order q_places q_times q_planOrder q_planTimes q_carriers q_begins cI v_thrown v_tanks v_hasPlan v_cycle v_second v_entered v_done v_took v_stopped (-1) v_ends v_onHoist v_began (upd f_carriers (v_move + 1).toNatClampNeg v_onHoist) (upd f_begins (v_move + 1).toNatClampNeg v_began)) := hD
    refine lv_aload_n hx hb d_MD_endMove_72 rfl (lv_at hl 0 rfl) ?_
    refine lv_iconst (v := 0) hx hb d_MD_endMove_73 (by decide) ?_
    refine va_put (D := (dC, dI)) (ci := 6) (v := .int 0) (ty := .int) (C := R_MD) (T := F_MD) (N := 24) hx hb hts uw_MD t_MD t_MD_ok n_MD hown hK hP hD hS 0 rfl rfl 22 (by decide) (hts _ tw_235) (fun _ h9 => h9) rfl (by decide +kernel) rfl rfl (Nat.le_of_ble_eq_true rfl) d_MD_endMove_74 (fun H locs hP hD hS => ?_)
    have hP : va_P (dC, dI) vwCl (wd_MD_endMove q_this q_low q_high q_loaded q_empty q_order q_places q_times q_planOrder q_planTimes q_carriers q_begins cI v_thrown v_tanks v_hasPlan v_cycle v_second v_entered v_done v_took v_stopped (-1) v_ends 0 v_began (upd f_carriers (v_move + 1).toNatClampNeg v_onHoist) (upd f_begins (v_move + 1).toNatClampNeg v_began)) H := hP
    have hD : va_D A (wd_MD_endMove q_this q_low q_high q_loaded q_empty q_order q_places q_times q_planOrder q_planTimes q_carriers q_begins cI v_thrown v_tanks v_hasPlan v_cycle v_second v_entered v_done v_took v_stopped (-1) v_ends 0 v_began (upd f_carriers (v_move + 1).toNatClampNeg v_onHoist) (upd f_begins (v_move + 1).toNatClampNeg v_began)) := hD
    cases hF
    exact hq_vret hx hb hr hlocks hP hD hK hS d_MD_endMove_77
  · have hF := ox_fn hF hb1
    refine lv_aload_n hx hb d_MD_endMove_11 rfl (lv_at hl 0 rfl) ?_
    refine lv_dup hx hb d_MD_endMove_12 rfl ?_
    refine va_get (D := (dC, dI)) (ci := 6) (v := .int v_done) (C := R_MD) (T := F_MD) (N := 24) hx hb hts uw_MD hown hK hP 0 rfl rfl 15 (by decide) (hts _ tw_231) (fun _ h9 => h9) rfl d_MD_endMove_13 ?_
    refine lv_iconst (v := 1) hx hb d_MD_endMove_16 (by decide) ?_
    refine lv_iadd hx hb d_MD_endMove_17 ?_
    refine va_put (D := (dC, dI)) (ci := 6) (v := .int (v_done + 1)) (ty := .int) (C := R_MD) (T := F_MD) (N := 24) hx hb hts uw_MD t_MD t_MD_ok n_MD hown hK hP hD hS 0 rfl rfl 15 (by decide) (hts _ tw_231) (fun _ h9 => h9) rfl (by decide +kernel) rfl rfl (Nat.le_of_ble_eq_true rfl) d_MD_endMove_18 (fun H locs hP hD hS => ?_)
    have hP : va_P (dC, dI) vwCl (wd_MD_endMove q_this q_low q_high q_loaded q_empty q_order q_places q_times q_planOrder q_planTimes q_carriers q_begins cI v_thrown v_tanks v_hasPlan v_cycle v_second v_entered (v_done + 1) v_took v_stopped v_move v_ends v_onHoist v_began f_carriers f_begins) H := hP
    have hD : va_D A (wd_MD_endMove q_this q_low q_high q_loaded q_empty q_order q_places q_times q_planOrder q_planTimes q_carriers q_begins cI v_thrown v_tanks v_hasPlan v_cycle v_second v_entered (v_done + 1) v_took v_stopped v_move v_ends v_onHoist v_began f_carriers f_begins) := hD
    refine lv_aload_n hx hb d_MD_endMove_21 rfl (lv_at hl 0 rfl) ?_
    refine lv_aload_n hx hb d_MD_endMove_22 rfl (lv_at hl 0 rfl) ?_
    refine va_get (D := (dC, dI)) (ci := 6) (v := .int v_second) (C := R_MD) (T := F_MD) (N := 24) hx hb hts uw_MD hown hK hP 0 rfl rfl 13 (by decide) (hts _ tw_229) (fun _ h9 => h9) rfl d_MD_endMove_23 ?_
    refine lv_aload_n hx hb d_MD_endMove_26 rfl (lv_at hl 0 rfl) ?_
    refine va_get (D := (dC, dI)) (ci := 6) (v := .int v_began) (C := R_MD) (T := F_MD) (N := 24) hx hb hts uw_MD hown hK hP 0 rfl rfl 23 (by decide) (hts _ tw_249) (fun _ h9 => h9) rfl d_MD_endMove_27 ?_
    refine lv_isub hx hb d_MD_endMove_30 ?_
    refine va_put (D := (dC, dI)) (ci := 6) (v := .int (v_second - v_began)) (ty := .int) (C := R_MD) (T := F_MD) (N := 24) hx hb hts uw_MD t_MD t_MD_ok n_MD hown hK hP hD hS 0 rfl rfl 16 (by decide) (hts _ tw_232) (fun _ h9 => h9) rfl (by decide +kernel) rfl rfl (Nat.le_of_ble_eq_true rfl) d_MD_endMove_31 (fun H locs hP hD hS => ?_)
    have hP : va_P (dC, dI) vwCl (wd_MD_endMove q_this q_low q_high q_loaded q_empty q_order q_places q_times q_planOrder q_planTimes q_carriers q_begins cI v_thrown v_tanks v_hasPlan v_cycle v_second v_entered (v_done + 1) (v_second - v_began) v_stopped v_move v_ends v_onHoist v_began f_carriers f_begins) H := hP
    have hD : va_D A (wd_MD_endMove q_this q_low q_high q_loaded q_empty q_order q_places q_times q_planOrder q_planTimes q_carriers q_begins cI v_thrown v_tanks v_hasPlan v_cycle v_second v_entered (v_done + 1) (v_second - v_began) v_stopped v_move v_ends v_onHoist v_began f_carriers f_begins) := hD
    refine lv_goto (tgt := 67) hx hb d_MD_endMove_34 (by decide) ?_
    refine lv_aload_n hx hb d_MD_endMove_67 rfl (lv_at hl 0 rfl) ?_
    refine lv_iconst (v := (-1)) hx hb d_MD_endMove_68 (by decide) ?_
    refine va_put (D := (dC, dI)) (ci := 6) (v := .int (-1)) (ty := .int) (C := R_MD) (T := F_MD) (N := 24) hx hb hts uw_MD t_MD t_MD_ok n_MD hown hK hP hD hS 0 rfl rfl 20 (by decide) (hts _ tw_234) (fun _ h9 => h9) rfl (by decide +kernel) rfl rfl (Nat.le_of_ble_eq_true rfl) d_MD_endMove_69 (fun H locs hP hD hS => ?_)
    have hP : va_P (dC, dI) vwCl (wd_MD_endMove q_this q_low q_high q_loaded q_empty q_order q_places q_times q_planOrder q_planTimes q_carriers q_begins cI v_thrown v_tanks v_hasPlan v_cycle v_second v_entered (v_done + 1) (v_second - v_began) v_stopped (-1) v_ends v_onHoist v_began f_carriers f_begins) H := hP
    have hD : va_D A (wd_MD_endMove q_this q_low q_high q_loaded q_empty q_order q_places q_times q_planOrder q_planTimes q_carriers q_begins cI v_thrown v_tanks v_hasPlan v_cycle v_second v_entered (v_done + 1) (v_second - v_began) v_stopped (-1) v_ends v_onHoist v_began f_carriers f_begins) := hD
    refine lv_aload_n hx hb d_MD_endMove_72 rfl (lv_at hl 0 rfl) ?_
    refine lv_iconst (v := 0) hx hb d_MD_endMove_73 (by decide) ?_
    refine va_put (D := (dC, dI)) (ci := 6) (v := .int 0) (ty := .int) (C := R_MD) (T := F_MD) (N := 24) hx hb hts uw_MD t_MD t_MD_ok n_MD hown hK hP hD hS 0 rfl rfl 22 (by decide) (hts _ tw_235) (fun _ h9 => h9) rfl (by decide +kernel) rfl rfl (Nat.le_of_ble_eq_true rfl) d_MD_endMove_74 (fun H locs hP hD hS => ?_)
    have hP : va_P (dC, dI) vwCl (wd_MD_endMove q_this q_low q_high q_loaded q_empty q_order q_places q_times q_planOrder q_planTimes q_carriers q_begins cI v_thrown v_tanks v_hasPlan v_cycle v_second v_entered (v_done + 1) (v_second - v_began) v_stopped (-1) v_ends 0 v_began f_carriers f_begins) H := hP
    have hD : va_D A (wd_MD_endMove q_this q_low q_high q_loaded q_empty q_order q_places q_times q_planOrder q_planTimes q_carriers q_begins cI v_thrown v_tanks v_hasPlan v_cycle v_second v_entered (v_done + 1) (v_second - v_began) v_stopped (-1) v_ends 0 v_began f_carriers f_begins) := hD
    cases hF
    exact hq_vret hx hb hr hlocks hP hD hK hS d_MD_endMove_77
abbrev wd_MD_begin (q_this : Nat) (q_low : Nat) (q_high : Nat) (q_loaded : Nat) (q_empty : Nat) (q_order : Nat) (q_places : Nat) (q_times : Nat) (q_planOrder : Nat) (q_planTimes : Nat) (q_carriers : Nat) (q_begins : Nat) (cI : ClassId) (v_thrown : Int32) (v_tanks : Int32) (v_hasPlan : Int32) (v_cycle : Int32) (v_second : Int32) (v_entered : Int32) (v_done : Int32) (v_took : Int32) (v_stopped : Int32) (v_move : Int32) (v_ends : Int32) (v_onHoist : Int32) (v_began : Int32) (f_carriers : Nat → Int32) (f_begins : Nat → Int32) (f_loaded : Nat → Int32) : va_W := [(q_this, .inr (6, [.int v_thrown, .int v_tanks, .ref q_low, .ref q_high, .ref q_loaded, .ref q_empty, .ref q_order, .ref q_places, .ref q_times, .int v_hasPlan, .int v_cycle, .ref q_planOrder, .ref q_planTimes, .int v_second, .int v_entered, .int v_done, .int v_took, .int v_stopped, .ref q_carriers, .ref q_begins, .int v_move, .int v_ends, .int v_onHoist, .int v_began])), (q_carriers, .inl (cI, 7, .inl f_carriers)), (q_begins, .inl (cI, 7, .inl f_begins)), (q_loaded, .inl (cI, 6, .inl f_loaded))]
set_option maxHeartbeats 4000000 in
set_option maxRecDepth 100000 in
theorem c_MD_begin (l : Launch) (dC : Nat → ClassId) (dI : Nat → Nat → Nat) (q_this : Nat) (q_low : Nat) (q_high : Nat) (q_loaded : Nat) (q_empty : Nat) (q_order : Nat) (q_places : Nat) (q_times : Nat) (q_planOrder : Nat) (q_planTimes : Nat) (q_carriers : Nat) (q_begins : Nat) (cI : ClassId) (sz : Nat) (a1 : Int32) (v_thrown : Int32) (v_tanks : Int32) (v_hasPlan : Int32) (v_cycle : Int32) (v_second : Int32) (v_entered : Int32) (v_done : Int32) (v_took : Int32) (v_stopped : Int32) (v_move : Int32) (v_ends : Int32) (v_onHoist : Int32) (v_began : Int32) (f_carriers : Nat → Int32) (f_begins : Nat → Int32) (f_loaded : Nat → Int32) (rr : Int32) (n_v_entered : Int32) (n_v_move : Int32) (n_v_ends : Int32) (n_v_onHoist : Int32) (n_v_began : Int32) (n_f_carriers : Nat → Int32) (hF : fn_MD_begin a1 v_second v_entered v_stopped v_move v_ends v_onHoist v_began f_carriers f_begins f_loaded = some (rr, n_v_entered, n_v_move, n_v_ends, n_v_onHoist, n_v_began, n_f_carriers)) : Met l y_MD_begin w_MD_begin ({ frames := 0, cells := 0, slots := 0, locals := 0 }) (hq_Pc (dC, dI) vwCl [(cI, .int)] (wd_MD_begin q_this q_low q_high q_loaded q_empty q_order q_places q_times q_planOrder q_planTimes q_carriers q_begins cI v_thrown v_tanks v_hasPlan v_cycle v_second v_entered v_done v_took v_stopped v_move v_ends v_onHoist v_began f_carriers f_begins f_loaded) sz [.ref q_this, .int a1]) (hq_Qi (dC, dI) vwCl [(cI, .int)] (wd_MD_begin q_this q_low q_high q_loaded q_empty q_order q_places q_times q_planOrder q_planTimes q_carriers q_begins cI v_thrown v_tanks v_hasPlan v_cycle v_second n_v_entered v_done v_took v_stopped n_v_move n_v_ends n_v_onHoist n_v_began n_f_carriers f_begins f_loaded) rr (va_A (wd_MD_begin q_this q_low q_high q_loaded q_empty q_order q_places q_times q_planOrder q_planTimes q_carriers q_begins cI v_thrown v_tanks v_hasPlan v_cycle v_second v_entered v_done v_took v_stopped v_move v_ends v_onHoist v_began f_carriers f_begins f_loaded) sz)) 0 0 (va_A (wd_MD_begin q_this q_low q_high q_loaded q_empty q_order q_places q_times q_planOrder q_planTimes q_carriers q_begins cI v_thrown v_tanks v_hasPlan v_cycle v_second v_entered v_done v_took v_stopped v_move v_ends v_onHoist v_began f_carriers f_begins f_loaded) sz) := by
  refine hq_met (Qc := (hq_Qi (dC, dI) vwCl [(cI, .int)] (wd_MD_begin q_this q_low q_high q_loaded q_empty q_order q_places q_times q_planOrder q_planTimes q_carriers q_begins cI v_thrown v_tanks v_hasPlan v_cycle v_second n_v_entered v_done v_took v_stopped n_v_move n_v_ends n_v_onHoist n_v_began n_f_carriers f_begins f_loaded) rr)) (cc := b_MD_begin) (maxL := 2) (ret := some .boolean) (by decide) rfl (Nat.le_of_ble_eq_true rfl) ?_
  intro p e s m args below meth c A ls hx hb hr hml hts hown hlocks hnm hP hD hK hA hS hl
  have hts : ∀ w ∈ tb0, w.before args s = true := fun w h => hts w (List.mem_cons_of_mem _ h)
  have hown : s.vm.findClass R_MD = some m.cls := hown
  have hl : lv_has ls 2 [(0, .ref q_this), (1, .int a1)] := hl
  unfold fn_MD_begin at hF
  refine lv_iload_n hx hb d_MD_begin_0 rfl (lv_at hl 1 rfl) ?_
  refine lv_if_ne (tgt := 14) hx hb d_MD_begin_1 (by decide) (fun hb1 => ?_) (fun hb1 => ?_)
  · have hF := ox_t hF hb1
    refine lv_aload_n hx hb d_MD_begin_14 rfl (lv_at hl 0 rfl) ?_
    refine va_get (D := (dC, dI)) (ci := 6) (v := .ref q_carriers) (C := R_MD) (T := F_MD) (N := 24) hx hb hts uw_MD hown hK hP 0 rfl rfl 18 (by decide) (hts _ tw_228) (fun _ h9 => h9) rfl d_MD_begin_15 ?_
    refine lv_iload_n hx hb d_MD_begin_18 rfl (lv_at hl 1 rfl) ?_
    obtain ⟨hin, hF⟩ := ox_gdS hF
    refine va_iald hx hb hK hP 1 0 rfl rfl hin d_MD_begin_19 ?_
    refine lv_if_ne (tgt := 25) hx hb d_MD_begin_20 (by decide) (fun hb2 => ?_) (fun hb2 => ?_)
    · have hF := ox_t hF hb2
      refine lv_iload_n hx hb d_MD_begin_25 rfl (lv_at hl 1 rfl) ?_
      refine lv_if_ne (tgt := 58) hx hb d_MD_begin_26 (by decide) (fun _ => ?_) (fun h => absurd h hb1)
      refine lv_aload_n hx hb d_MD_begin_58 rfl (lv_at hl 0 rfl) ?_
      refine lv_aload_n hx hb d_MD_begin_59 rfl (lv_at hl 0 rfl) ?_
      refine va_get (D := (dC, dI)) (ci := 6) (v := .ref q_carriers) (C := R_MD) (T := F_MD) (N := 24) hx hb hts uw_MD hown hK hP 0 rfl rfl 18 (by decide) (hts _ tw_228) (fun _ h9 => h9) rfl d_MD_begin_60 ?_
      refine lv_iload_n hx hb d_MD_begin_63 rfl (lv_at hl 1 rfl) ?_
      obtain ⟨hin, hF⟩ := ox_gdS hF
      refine va_iald hx hb hK hP 1 0 rfl rfl hin d_MD_begin_64 ?_
      refine va_put (D := (dC, dI)) (ci := 6) (v := .int (f_carriers a1.toNatClampNeg)) (ty := .int) (C := R_MD) (T := F_MD) (N := 24) hx hb hts uw_MD t_MD t_MD_ok n_MD hown hK hP hD hS 0 rfl rfl 22 (by decide) (hts _ tw_235) (fun _ h9 => h9) rfl (by decide +kernel) rfl rfl (Nat.le_of_ble_eq_true rfl) d_MD_begin_65 (fun H locs hP hD hS => ?_)
      have hP : va_P (dC, dI) vwCl (wd_MD_begin q_this q_low q_high q_loaded q_empty q_order q_places q_times q_planOrder q_planTimes q_carriers q_begins cI v_thrown v_tanks v_hasPlan v_cycle v_second v_entered v_done v_took v_stopped v_move v_ends (f_carriers a1.toNatClampNeg) v_began f_carriers f_begins f_loaded) H := hP
      have hD : va_D A (wd_MD_begin q_this q_low q_high q_loaded q_empty q_order q_places q_times q_planOrder q_planTimes q_carriers q_begins cI v_thrown v_tanks v_hasPlan v_cycle v_second v_entered v_done v_took v_stopped v_move v_ends (f_carriers a1.toNatClampNeg) v_began f_carriers f_begins f_loaded) := hD
      refine lv_aload_n hx hb d_MD_begin_68 rfl (lv_at hl 0 rfl) ?_
      refine lv_aload_n hx hb d_MD_begin_69 rfl (lv_at hl 0 rfl) ?_
      refine va_get (D := (dC, dI)) (ci := 6) (v := .ref q_begins) (C := R_MD) (T := F_MD) (N := 24) hx hb hts uw_MD hown hK hP 0 rfl rfl 19 (by decide) (hts _ tw_248) (fun _ h9 => h9) rfl d_MD_begin_70 ?_
      refine lv_iload_n hx hb d_MD_begin_73 rfl (lv_at hl 1 rfl) ?_
      obtain ⟨hin, hF⟩ := ox_gdS hF
      refine va_iald hx hb hK hP 2 0 rfl rfl hin d_MD_begin_74 ?_
      refine va_put (D := (dC, dI)) (ci := 6) (v := .int (f_begins a1.toNatClampNeg)) (ty := .int) (C := R_MD) (T := F_MD) (N := 24) hx hb hts uw_MD t_MD t_MD_ok n_MD hown hK hP hD hS 0 rfl rfl 23 (by decide) (hts _ tw_249) (fun _ h9 => h9) rfl (by decide +kernel) rfl rfl (Nat.le_of_ble_eq_true rfl) d_MD_begin_75 (fun H locs hP hD hS => ?_)
      have hP : va_P (dC, dI) vwCl (wd_MD_begin q_this q_low q_high q_loaded q_empty q_order q_places q_times q_planOrder q_planTimes q_carriers q_begins cI v_thrown v_tanks v_hasPlan v_cycle v_second v_entered v_done v_took v_stopped v_move v_ends (f_carriers a1.toNatClampNeg) (f_begins a1.toNatClampNeg) f_carriers f_begins f_loaded) H := hP
      have hD : va_D A (wd_MD_begin q_this q_low q_high q_loaded q_empty q_order q_places q_times q_planOrder q_planTimes q_carriers q_begins cI v_thrown v_tanks v_hasPlan v_cycle v_second v_entered v_done v_took v_stopped v_move v_ends (f_carriers a1.toNatClampNeg) (f_begins a1.toNatClampNeg) f_carriers f_begins f_loaded) := hD
      refine lv_aload_n hx hb d_MD_begin_78 rfl (lv_at hl 0 rfl) ?_
      refine va_get (D := (dC, dI)) (ci := 6) (v := .ref q_carriers) (C := R_MD) (T := F_MD) (N := 24) hx hb hts uw_MD hown hK hP 0 rfl rfl 18 (by decide) (hts _ tw_228) (fun _ h9 => h9) rfl d_MD_begin_79 ?_
      refine lv_iload_n hx hb d_MD_begin_82 rfl (lv_at hl 1 rfl) ?_
      refine lv_iconst (v := 0) hx hb d_MD_begin_83 (by decide) ?_
      obtain ⟨hin, hF⟩ := ox_gdS hF
      refine va_iast hx hb hK hP hD hS 1 0 rfl rfl hin d_MD_begin_84 (fun H locs hP hD hS => ?_)
      have hP : va_P (dC, dI) vwCl (wd_MD_begin q_this q_low q_high q_loaded q_empty q_order q_places q_times q_planOrder q_planTimes q_carriers q_begins cI v_thrown v_tanks v_hasPlan v_cycle v_second v_entered v_done v_took v_stopped v_move v_ends (f_carriers a1.toNatClampNeg) (f_begins a1.toNatClampNeg) (upd f_carriers a1.toNatClampNeg 0) f_begins f_loaded) H := hP
      have hD : va_D A (wd_MD_begin q_this q_low q_high q_loaded q_empty q_order q_places q_times q_planOrder q_planTimes q_carriers q_begins cI v_thrown v_tanks v_hasPlan v_cycle v_second v_entered v_done v_took v_stopped v_move v_ends (f_carriers a1.toNatClampNeg) (f_begins a1.toNatClampNeg) (upd f_carriers a1.toNatClampNeg 0) f_begins f_loaded) := hD
      refine lv_aload_n hx hb d_MD_begin_85 rfl (lv_at hl 0 rfl) ?_
      refine lv_iload_n hx hb d_MD_begin_86 rfl (lv_at hl 1 rfl) ?_
      refine va_put (D := (dC, dI)) (ci := 6) (v := .int a1) (ty := .int) (C := R_MD) (T := F_MD) (N := 24) hx hb hts uw_MD t_MD t_MD_ok n_MD hown hK hP hD hS 0 rfl rfl 20 (by decide) (hts _ tw_234) (fun _ h9 => h9) rfl (by decide +kernel) rfl rfl (Nat.le_of_ble_eq_true rfl) d_MD_begin_87 (fun H locs hP hD hS => ?_)
      have hP : va_P (dC, dI) vwCl (wd_MD_begin q_this q_low q_high q_loaded q_empty q_order q_places q_times q_planOrder q_planTimes q_carriers q_begins cI v_thrown v_tanks v_hasPlan v_cycle v_second v_entered v_done v_took v_stopped a1 v_ends (f_carriers a1.toNatClampNeg) (f_begins a1.toNatClampNeg) (upd f_carriers a1.toNatClampNeg 0) f_begins f_loaded) H := hP
      have hD : va_D A (wd_MD_begin q_this q_low q_high q_loaded q_empty q_order q_places q_times q_planOrder q_planTimes q_carriers q_begins cI v_thrown v_tanks v_hasPlan v_cycle v_second v_entered v_done v_took v_stopped a1 v_ends (f_carriers a1.toNatClampNeg) (f_begins a1.toNatClampNeg) (upd f_carriers a1.toNatClampNeg 0) f_begins f_loaded) := hD
      refine lv_aload_n hx hb d_MD_begin_90 rfl (lv_at hl 0 rfl) ?_
      refine lv_aload_n hx hb d_MD_begin_91 rfl (lv_at hl 0 rfl) ?_
      refine va_get (D := (dC, dI)) (ci := 6) (v := .int v_second) (C := R_MD) (T := F_MD) (N := 24) hx hb hts uw_MD hown hK hP 0 rfl rfl 13 (by decide) (hts _ tw_229) (fun _ h9 => h9) rfl d_MD_begin_92 ?_
      refine lv_aload_n hx hb d_MD_begin_95 rfl (lv_at hl 0 rfl) ?_
      refine va_get (D := (dC, dI)) (ci := 6) (v := .ref q_loaded) (C := R_MD) (T := F_MD) (N := 24) hx hb hts uw_MD hown hK hP 0 rfl rfl 4 (by decide) (hts _ tw_170) (fun _ h9 => h9) rfl d_MD_begin_96 ?_
      refine lv_iload_n hx hb d_MD_begin_99 rfl (lv_at hl 1 rfl) ?_
      obtain ⟨hin, hF⟩ := ox_gdS hF
      refine va_iald hx hb hK hP 3 0 rfl rfl hin d_MD_begin_100 ?_
      refine lv_iadd hx hb d_MD_begin_101 ?_
      refine va_put (D := (dC, dI)) (ci := 6) (v := .int (v_second + (f_loaded a1.toNatClampNeg))) (ty := .int) (C := R_MD) (T := F_MD) (N := 24) hx hb hts uw_MD t_MD t_MD_ok n_MD hown hK hP hD hS 0 rfl rfl 21 (by decide) (hts _ tw_250) (fun _ h9 => h9) rfl (by decide +kernel) rfl rfl (Nat.le_of_ble_eq_true rfl) d_MD_begin_102 (fun H locs hP hD hS => ?_)
      have hP : va_P (dC, dI) vwCl (wd_MD_begin q_this q_low q_high q_loaded q_empty q_order q_places q_times q_planOrder q_planTimes q_carriers q_begins cI v_thrown v_tanks v_hasPlan v_cycle v_second v_entered v_done v_took v_stopped a1 (v_second + (f_loaded a1.toNatClampNeg)) (f_carriers a1.toNatClampNeg) (f_begins a1.toNatClampNeg) (upd f_carriers a1.toNatClampNeg 0) f_begins f_loaded) H := hP
      have hD : va_D A (wd_MD_begin q_this q_low q_high q_loaded q_empty q_order q_places q_times q_planOrder q_planTimes q_carriers q_begins cI v_thrown v_tanks v_hasPlan v_cycle v_second v_entered v_done v_took v_stopped a1 (v_second + (f_loaded a1.toNatClampNeg)) (f_carriers a1.toNatClampNeg) (f_begins a1.toNatClampNeg) (upd f_carriers a1.toNatClampNeg 0) f_begins f_loaded) := hD
      refine lv_iconst (v := 1) hx hb d_MD_begin_105 (by decide) ?_
      cases hF
      exact hq_zret hx hb hr (by decide) hlocks hP hD hK hS d_MD_begin_106
    · have hF := ox_fn hF hb2
      refine lv_iconst (v := 0) hx hb d_MD_begin_23 (by decide) ?_
      cases hF
      exact hq_zret hx hb hr (by decide) hlocks hP hD hK hS d_MD_begin_24
  · have hF := ox_fn hF hb1
    refine lv_aload_n hx hb d_MD_begin_4 rfl (lv_at hl 0 rfl) ?_
    refine va_get (D := (dC, dI)) (ci := 6) (v := .int v_stopped) (C := R_MD) (T := F_MD) (N := 24) hx hb hts uw_MD hown hK hP 0 rfl rfl 17 (by decide) (hts _ tw_233) (fun _ h9 => h9) rfl d_MD_begin_5 ?_
    refine lv_if_eq (tgt := 25) hx hb d_MD_begin_8 (by decide) (fun hb3 => ?_) (fun hb3 => ?_)
    · have hF := ox_t hF hb3
      refine lv_iload_n hx hb d_MD_begin_25 rfl (lv_at hl 1 rfl) ?_
      refine lv_if_ne (tgt := 58) hx hb d_MD_begin_26 (by decide) (fun h => absurd hb1 h) (fun _ => ?_)
      refine lv_aload_n hx hb d_MD_begin_29 rfl (lv_at hl 0 rfl) ?_
      refine lv_dup hx hb d_MD_begin_30 rfl ?_
      refine va_get (D := (dC, dI)) (ci := 6) (v := .int v_entered) (C := R_MD) (T := F_MD) (N := 24) hx hb hts uw_MD hown hK hP 0 rfl rfl 14 (by decide) (hts _ tw_230) (fun _ h9 => h9) rfl d_MD_begin_31 ?_
      refine lv_iconst (v := 1) hx hb d_MD_begin_34 (by decide) ?_
      refine lv_iadd hx hb d_MD_begin_35 ?_
      refine va_put (D := (dC, dI)) (ci := 6) (v := .int (v_entered + 1)) (ty := .int) (C := R_MD) (T := F_MD) (N := 24) hx hb hts uw_MD t_MD t_MD_ok n_MD hown hK hP hD hS 0 rfl rfl 14 (by decide) (hts _ tw_230) (fun _ h9 => h9) rfl (by decide +kernel) rfl rfl (Nat.le_of_ble_eq_true rfl) d_MD_begin_36 (fun H locs hP hD hS => ?_)
      have hP : va_P (dC, dI) vwCl (wd_MD_begin q_this q_low q_high q_loaded q_empty q_order q_places q_times q_planOrder q_planTimes q_carriers q_begins cI v_thrown v_tanks v_hasPlan v_cycle v_second (v_entered + 1) v_done v_took v_stopped v_move v_ends v_onHoist v_began f_carriers f_begins f_loaded) H := hP
      have hD : va_D A (wd_MD_begin q_this q_low q_high q_loaded q_empty q_order q_places q_times q_planOrder q_planTimes q_carriers q_begins cI v_thrown v_tanks v_hasPlan v_cycle v_second (v_entered + 1) v_done v_took v_stopped v_move v_ends v_onHoist v_began f_carriers f_begins f_loaded) := hD
      refine lv_aload_n hx hb d_MD_begin_39 rfl (lv_at hl 0 rfl) ?_
      refine lv_aload_n hx hb d_MD_begin_40 rfl (lv_at hl 0 rfl) ?_
      refine va_get (D := (dC, dI)) (ci := 6) (v := .int (v_entered + 1)) (C := R_MD) (T := F_MD) (N := 24) hx hb hts uw_MD hown hK hP 0 rfl rfl 14 (by decide) (hts _ tw_230) (fun _ h9 => h9) rfl d_MD_begin_41 ?_
      refine va_put (D := (dC, dI)) (ci := 6) (v := .int (v_entered + 1)) (ty := .int) (C := R_MD) (T := F_MD) (N := 24) hx hb hts uw_MD t_MD t_MD_ok n_MD hown hK hP hD hS 0 rfl rfl 22 (by decide) (hts _ tw_235) (fun _ h9 => h9) rfl (by decide +kernel) rfl rfl (Nat.le_of_ble_eq_true rfl) d_MD_begin_44 (fun H locs hP hD hS => ?_)
      have hP : va_P (dC, dI) vwCl (wd_MD_begin q_this q_low q_high q_loaded q_empty q_order q_places q_times q_planOrder q_planTimes q_carriers q_begins cI v_thrown v_tanks v_hasPlan v_cycle v_second (v_entered + 1) v_done v_took v_stopped v_move v_ends (v_entered + 1) v_began f_carriers f_begins f_loaded) H := hP
      have hD : va_D A (wd_MD_begin q_this q_low q_high q_loaded q_empty q_order q_places q_times q_planOrder q_planTimes q_carriers q_begins cI v_thrown v_tanks v_hasPlan v_cycle v_second (v_entered + 1) v_done v_took v_stopped v_move v_ends (v_entered + 1) v_began f_carriers f_begins f_loaded) := hD
      refine lv_aload_n hx hb d_MD_begin_47 rfl (lv_at hl 0 rfl) ?_
      refine lv_aload_n hx hb d_MD_begin_48 rfl (lv_at hl 0 rfl) ?_
      refine va_get (D := (dC, dI)) (ci := 6) (v := .int v_second) (C := R_MD) (T := F_MD) (N := 24) hx hb hts uw_MD hown hK hP 0 rfl rfl 13 (by decide) (hts _ tw_229) (fun _ h9 => h9) rfl d_MD_begin_49 ?_
      refine va_put (D := (dC, dI)) (ci := 6) (v := .int v_second) (ty := .int) (C := R_MD) (T := F_MD) (N := 24) hx hb hts uw_MD t_MD t_MD_ok n_MD hown hK hP hD hS 0 rfl rfl 23 (by decide) (hts _ tw_249) (fun _ h9 => h9) rfl (by decide +kernel) rfl rfl (Nat.le_of_ble_eq_true rfl) d_MD_begin_52 (fun H locs hP hD hS => ?_)
      have hP : va_P (dC, dI) vwCl (wd_MD_begin q_this q_low q_high q_loaded q_empty q_order q_places q_times q_planOrder q_planTimes q_carriers q_begins cI v_thrown v_tanks v_hasPlan v_cycle v_second (v_entered + 1) v_done v_took v_stopped v_move v_ends (v_entered + 1) v_second f_carriers f_begins f_loaded) H := hP
      have hD : va_D A (wd_MD_begin q_this q_low q_high q_loaded q_empty q_order q_places q_times q_planOrder q_planTimes q_carriers q_begins cI v_thrown v_tanks v_hasPlan v_cycle v_second (v_entered + 1) v_done v_took v_stopped v_move v_ends (v_entered + 1) v_second f_carriers f_begins f_loaded) := hD
      refine lv_goto (tgt := 85) hx hb d_MD_begin_55 (by decide) ?_
      refine lv_aload_n hx hb d_MD_begin_85 rfl (lv_at hl 0 rfl) ?_
      refine lv_iload_n hx hb d_MD_begin_86 rfl (lv_at hl 1 rfl) ?_
      refine va_put (D := (dC, dI)) (ci := 6) (v := .int a1) (ty := .int) (C := R_MD) (T := F_MD) (N := 24) hx hb hts uw_MD t_MD t_MD_ok n_MD hown hK hP hD hS 0 rfl rfl 20 (by decide) (hts _ tw_234) (fun _ h9 => h9) rfl (by decide +kernel) rfl rfl (Nat.le_of_ble_eq_true rfl) d_MD_begin_87 (fun H locs hP hD hS => ?_)
      have hP : va_P (dC, dI) vwCl (wd_MD_begin q_this q_low q_high q_loaded q_empty q_order q_places q_times q_planOrder q_planTimes q_carriers q_begins cI v_thrown v_tanks v_hasPlan v_cycle v_second (v_entered + 1) v_done v_took v_stopped a1 v_ends (v_entered + 1) v_second f_carriers f_begins f_loaded) H := hP
      have hD : va_D A (wd_MD_begin q_this q_low q_high q_loaded q_empty q_order q_places q_times q_planOrder q_planTimes q_carriers q_begins cI v_thrown v_tanks v_hasPlan v_cycle v_second (v_entered + 1) v_done v_took v_stopped a1 v_ends (v_entered + 1) v_second f_carriers f_begins f_loaded) := hD
      refine lv_aload_n hx hb d_MD_begin_90 rfl (lv_at hl 0 rfl) ?_
      refine lv_aload_n hx hb d_MD_begin_91 rfl (lv_at hl 0 rfl) ?_
      refine va_get (D := (dC, dI)) (ci := 6) (v := .int v_second) (C := R_MD) (T := F_MD) (N := 24) hx hb hts uw_MD hown hK hP 0 rfl rfl 13 (by decide) (hts _ tw_229) (fun _ h9 => h9) rfl d_MD_begin_92 ?_
      refine lv_aload_n hx hb d_MD_begin_95 rfl (lv_at hl 0 rfl) ?_
      refine va_get (D := (dC, dI)) (ci := 6) (v := .ref q_loaded) (C := R_MD) (T := F_MD) (N := 24) hx hb hts uw_MD hown hK hP 0 rfl rfl 4 (by decide) (hts _ tw_170) (fun _ h9 => h9) rfl d_MD_begin_96 ?_
      refine lv_iload_n hx hb d_MD_begin_99 rfl (lv_at hl 1 rfl) ?_
      obtain ⟨hin, hF⟩ := ox_gdS hF
      refine va_iald hx hb hK hP 3 0 rfl rfl hin d_MD_begin_100 ?_
      refine lv_iadd hx hb d_MD_begin_101 ?_
      refine va_put (D := (dC, dI)) (ci := 6) (v := .int (v_second + (f_loaded a1.toNatClampNeg))) (ty := .int) (C := R_MD) (T := F_MD) (N := 24) hx hb hts uw_MD t_MD t_MD_ok n_MD hown hK hP hD hS 0 rfl rfl 21 (by decide) (hts _ tw_250) (fun _ h9 => h9) rfl (by decide +kernel) rfl rfl (Nat.le_of_ble_eq_true rfl) d_MD_begin_102 (fun H locs hP hD hS => ?_)
      have hP : va_P (dC, dI) vwCl (wd_MD_begin q_this q_low q_high q_loaded q_empty q_order q_places q_times q_planOrder q_planTimes q_carriers q_begins cI v_thrown v_tanks v_hasPlan v_cycle v_second (v_entered + 1) v_done v_took v_stopped a1 (v_second + (f_loaded a1.toNatClampNeg)) (v_entered + 1) v_second f_carriers f_begins f_loaded) H := hP
      have hD : va_D A (wd_MD_begin q_this q_low q_high q_loaded q_empty q_order q_places q_times q_planOrder q_planTimes q_carriers q_begins cI v_thrown v_tanks v_hasPlan v_cycle v_second (v_entered + 1) v_done v_took v_stopped a1 (v_second + (f_loaded a1.toNatClampNeg)) (v_entered + 1) v_second f_carriers f_begins f_loaded) := hD
      refine lv_iconst (v := 1) hx hb d_MD_begin_105 (by decide) ?_
      cases hF
      exact hq_zret hx hb hr (by decide) hlocks hP hD hK hS d_MD_begin_106
    · have hF := ox_f hF hb3
      refine lv_goto (tgt := 23) hx hb d_MD_begin_11 (by decide) ?_
      refine lv_iconst (v := 0) hx hb d_MD_begin_23 (by decide) ?_
      cases hF
      exact hq_zret hx hb hr (by decide) hlocks hP hD hK hS d_MD_begin_24
abbrev wd_MD_run (q_this : Nat) (q_low : Nat) (q_high : Nat) (q_loaded : Nat) (q_empty : Nat) (q_order : Nat) (q_places : Nat) (q_times : Nat) (q_planOrder : Nat) (q_planTimes : Nat) (q_carriers : Nat) (q_begins : Nat) (cI : ClassId) (v_thrown : Int32) (v_tanks : Int32) (v_hasPlan : Int32) (v_cycle : Int32) (v_second : Int32) (v_entered : Int32) (v_done : Int32) (v_took : Int32) (v_stopped : Int32) (v_move : Int32) (v_ends : Int32) (v_onHoist : Int32) (v_began : Int32) (f_carriers : Nat → Int32) (f_begins : Nat → Int32) (f_planTimes : Nat → Int32) (f_loaded : Nat → Int32) : va_W := [(q_this, .inr (6, [.int v_thrown, .int v_tanks, .ref q_low, .ref q_high, .ref q_loaded, .ref q_empty, .ref q_order, .ref q_places, .ref q_times, .int v_hasPlan, .int v_cycle, .ref q_planOrder, .ref q_planTimes, .int v_second, .int v_entered, .int v_done, .int v_took, .int v_stopped, .ref q_carriers, .ref q_begins, .int v_move, .int v_ends, .int v_onHoist, .int v_began])), (q_carriers, .inl (cI, 7, .inl f_carriers)), (q_begins, .inl (cI, 7, .inl f_begins)), (q_planTimes, .inl (cI, 6, .inl f_planTimes)), (q_loaded, .inl (cI, 6, .inl f_loaded))]
set_option maxHeartbeats 4000000 in
set_option maxRecDepth 100000 in
theorem c_MD_run (l : Launch) (dC : Nat → ClassId) (dI : Nat → Nat → Nat) (q_this : Nat) (q_low : Nat) (q_high : Nat) (q_loaded : Nat) (q_empty : Nat) (q_order : Nat) (q_places : Nat) (q_times : Nat) (q_planOrder : Nat) (q_planTimes : Nat) (q_carriers : Nat) (q_begins : Nat) (cI : ClassId) (sz : Nat) (z : Nat) (a1 : Int32) (v_thrown : Int32) (v_tanks : Int32) (v_hasPlan : Int32) (v_cycle : Int32) (v_second : Int32) (v_entered : Int32) (v_done : Int32) (v_took : Int32) (v_stopped : Int32) (v_move : Int32) (v_ends : Int32) (v_onHoist : Int32) (v_began : Int32) (f_carriers : Nat → Int32) (f_begins : Nat → Int32) (f_planTimes : Nat → Int32) (f_loaded : Nat → Int32) (rr : Int32) (n_v_thrown : Int32) (n_v_second : Int32) (n_v_entered : Int32) (n_v_done : Int32) (n_v_took : Int32) (n_v_move : Int32) (n_v_ends : Int32) (n_v_onHoist : Int32) (n_v_began : Int32) (n_f_carriers : Nat → Int32) (n_f_begins : Nat → Int32) (hF : fn_MD_run z a1 v_thrown v_tanks v_hasPlan v_cycle v_second v_entered v_done v_took v_stopped v_move v_ends v_onHoist v_began f_carriers f_begins f_planTimes f_loaded = some (rr, n_v_thrown, n_v_second, n_v_entered, n_v_done, n_v_took, n_v_move, n_v_ends, n_v_onHoist, n_v_began, n_f_carriers, n_f_begins)) : Met l y_MD_run w_MD_run ({ frames := 1, cells := 0, slots := 0, locals := 22 }) (hq_Pc (dC, dI) vwCl [(cI, .int)] (wd_MD_run q_this q_low q_high q_loaded q_empty q_order q_places q_times q_planOrder q_planTimes q_carriers q_begins cI v_thrown v_tanks v_hasPlan v_cycle v_second v_entered v_done v_took v_stopped v_move v_ends v_onHoist v_began f_carriers f_begins f_planTimes f_loaded) sz [.ref q_this, .int a1]) (hq_Qi (dC, dI) vwCl [(cI, .int)] (wd_MD_run q_this q_low q_high q_loaded q_empty q_order q_places q_times q_planOrder q_planTimes q_carriers q_begins cI n_v_thrown v_tanks v_hasPlan v_cycle n_v_second n_v_entered n_v_done n_v_took v_stopped n_v_move n_v_ends n_v_onHoist n_v_began n_f_carriers n_f_begins f_planTimes f_loaded) rr (va_A (wd_MD_run q_this q_low q_high q_loaded q_empty q_order q_places q_times q_planOrder q_planTimes q_carriers q_begins cI v_thrown v_tanks v_hasPlan v_cycle v_second v_entered v_done v_took v_stopped v_move v_ends v_onHoist v_began f_carriers f_begins f_planTimes f_loaded) sz)) 0 0 (va_A (wd_MD_run q_this q_low q_high q_loaded q_empty q_order q_places q_times q_planOrder q_planTimes q_carriers q_begins cI v_thrown v_tanks v_hasPlan v_cycle v_second v_entered v_done v_took v_stopped v_move v_ends v_onHoist v_began f_carriers f_begins f_planTimes f_loaded) sz) := by
  refine hq_met (Qc := (hq_Qi (dC, dI) vwCl [(cI, .int)] (wd_MD_run q_this q_low q_high q_loaded q_empty q_order q_places q_times q_planOrder q_planTimes q_carriers q_begins cI n_v_thrown v_tanks v_hasPlan v_cycle n_v_second n_v_entered n_v_done n_v_took v_stopped n_v_move n_v_ends n_v_onHoist n_v_began n_f_carriers n_f_begins f_planTimes f_loaded) rr)) (cc := b_MD_run) (maxL := 5) (ret := some .int) (by decide) rfl (Nat.le_of_ble_eq_true rfl) ?_
  intro p e s m args below meth c A ls hx hb hr hml hts hown hlocks hnm hP hD hK hA hS hl
  have hts : ∀ w ∈ tb0, w.before args s = true := fun w h => hts w (List.mem_cons_of_mem _ h)
  have hown : s.vm.findClass R_MD = some m.cls := hown
  have hl : lv_has ls 5 [(0, .ref q_this), (1, .int a1)] := hl
  unfold fn_MD_run at hF
  have loop : ∀ fu : Nat, (∀ (i1 : Int32) (i2 : Int32) (i3 : Int32) (i4 : Int32) (v_thrown : Int32) (v_second : Int32) (v_entered : Int32) (v_done : Int32) (v_took : Int32) (v_move : Int32) (v_ends : Int32) (v_onHoist : Int32) (v_began : Int32) (f_carriers : Nat → Int32) (f_begins : Nat → Int32) (H : Heap) (locs : List Loc) (ls : Array Slot), va_P (dC, dI) vwCl (wd_MD_run q_this q_low q_high q_loaded q_empty q_order q_places q_times q_planOrder q_planTimes q_carriers q_begins cI v_thrown v_tanks v_hasPlan v_cycle v_second v_entered v_done v_took v_stopped v_move v_ends v_onHoist v_began f_carriers f_begins f_planTimes f_loaded) H → va_D A (wd_MD_run q_this q_low q_high q_loaded q_empty q_order q_places q_times q_planOrder q_planTimes q_carriers q_begins cI v_thrown v_tanks v_hasPlan v_cycle v_second v_entered v_done v_took v_stopped v_move v_ends v_onHoist v_began f_carriers f_begins f_planTimes f_loaded) → va_S A s.heap H locs → lv_has ls 5 [(0, .ref q_this), (1, .int i1), (2, .int i2), (3, .int i3)] → lp_MD_run v_tanks v_hasPlan v_cycle v_stopped f_planTimes f_loaded fu 0 i1 i2 i3 i4 v_thrown v_second v_entered v_done v_took v_move v_ends v_onHoist v_began f_carriers f_begins = some (rr, n_v_thrown, n_v_second, n_v_entered, n_v_done, n_v_took, n_v_move, n_v_ends, n_v_onHoist, n_v_began, n_f_carriers, n_f_begins) → W p l e ({ frames := 1, cells := 0, slots := 0, locals := 22 }) s m args below meth c H locs 0 0 (MQ below ((hq_Qi (dC, dI) vwCl [(cI, .int)] (wd_MD_run q_this q_low q_high q_loaded q_empty q_order q_places q_times q_planOrder q_planTimes q_carriers q_begins cI n_v_thrown v_tanks v_hasPlan v_cycle n_v_second n_v_entered n_v_done n_v_took v_stopped n_v_move n_v_ends n_v_onHoist n_v_began n_f_carriers n_f_begins f_planTimes f_loaded) rr) A) args s 0 0 A) (F0 m 48 ls [])) ∧ (∀ (i1 : Int32) (i2 : Int32) (i3 : Int32) (i4 : Int32) (v_thrown : Int32) (v_second : Int32) (v_entered : Int32) (v_done : Int32) (v_took : Int32) (v_move : Int32) (v_ends : Int32) (v_onHoist : Int32) (v_began : Int32) (f_carriers : Nat → Int32) (f_begins : Nat → Int32) (H : Heap) (locs : List Loc) (ls : Array Slot), va_P (dC, dI) vwCl (wd_MD_run q_this q_low q_high q_loaded q_empty q_order q_places q_times q_planOrder q_planTimes q_carriers q_begins cI v_thrown v_tanks v_hasPlan v_cycle v_second v_entered v_done v_took v_stopped v_move v_ends v_onHoist v_began f_carriers f_begins f_planTimes f_loaded) H → va_D A (wd_MD_run q_this q_low q_high q_loaded q_empty q_order q_places q_times q_planOrder q_planTimes q_carriers q_begins cI v_thrown v_tanks v_hasPlan v_cycle v_second v_entered v_done v_took v_stopped v_move v_ends v_onHoist v_began f_carriers f_begins f_planTimes f_loaded) → va_S A s.heap H locs → lv_has ls 5 [(0, .ref q_this), (1, .int i1), (2, .int i2), (3, .int i3), (4, .int i4)] → lp_MD_run v_tanks v_hasPlan v_cycle v_stopped f_planTimes f_loaded fu 1 i1 i2 i3 i4 v_thrown v_second v_entered v_done v_took v_move v_ends v_onHoist v_began f_carriers f_begins = some (rr, n_v_thrown, n_v_second, n_v_entered, n_v_done, n_v_took, n_v_move, n_v_ends, n_v_onHoist, n_v_began, n_f_carriers, n_f_begins) → W p l e ({ frames := 1, cells := 0, slots := 0, locals := 22 }) s m args below meth c H locs 0 0 (MQ below ((hq_Qi (dC, dI) vwCl [(cI, .int)] (wd_MD_run q_this q_low q_high q_loaded q_empty q_order q_places q_times q_planOrder q_planTimes q_carriers q_begins cI n_v_thrown v_tanks v_hasPlan v_cycle n_v_second n_v_entered n_v_done n_v_took v_stopped n_v_move n_v_ends n_v_onHoist n_v_began n_f_carriers n_f_begins f_planTimes f_loaded) rr) A) args s 0 0 A) (F0 m 78 ls [])) := by
    intro fu
    induction fu with
    | zero => exact ⟨(fun _ _ _ _ _ _ _ _ _ _ _ _ _ _ _ _ _ _ _ _ _ _ h => by cases h), (fun _ _ _ _ _ _ _ _ _ _ _ _ _ _ _ _ _ _ _ _ _ _ h => by cases h)⟩
    | succ fu ih =>
      refine ⟨?_, ?_⟩
      · intro i1 i2 i3 i4 v_thrown v_second v_entered v_done v_took v_move v_ends v_onHoist v_began f_carriers f_begins H locs ls hP hD hS hl hF
        have hF : st_MD_run v_tanks v_hasPlan v_cycle v_stopped f_planTimes f_loaded (lp_MD_run v_tanks v_hasPlan v_cycle v_stopped f_planTimes f_loaded fu) 0 i1 i2 i3 i4 v_thrown v_second v_entered v_done v_took v_move v_ends v_onHoist v_began f_carriers f_begins = some (rr, n_v_thrown, n_v_second, n_v_entered, n_v_done, n_v_took, n_v_move, n_v_ends, n_v_onHoist, n_v_began, n_f_carriers, n_f_begins) := hF
        unfold st_MD_run at hF
        try dsimp only at hF
        refine lv_iload_n hx hb d_MD_run_48 rfl (lv_at hl 3 rfl) ?_
        refine lv_iload_n hx hb d_MD_run_49 rfl (lv_at hl 1 rfl) ?_
        refine lv_icmp_ge (tgt := 140) hx hb d_MD_run_50 (by decide) (fun hb10 => ?_) (fun hb10 => ?_)
        · have hF := ox_t hF hb10
          refine lv_iload_n hx hb d_MD_run_140 rfl (lv_at hl 2 rfl) ?_
          cases hF
          exact hq_iret hx hb hr hlocks hP hD hK hS d_MD_run_141
        · have hF := ox_f hF hb10
          refine lv_aload_n hx hb d_MD_run_53 rfl (lv_at hl 0 rfl) ?_
          refine va_get (D := (dC, dI)) (ci := 6) (v := .int v_move) (C := R_MD) (T := F_MD) (N := 24) hx hb hts uw_MD hown hK hP 0 rfl rfl 20 (by decide) (hts _ tw_234) (fun _ h9 => h9) rfl d_MD_run_54 ?_
          refine lv_if_lt (tgt := 75) hx hb d_MD_run_57 (by decide) (fun hb11 => ?_) (fun hb11 => ?_)
          · have hF := ox_t hF hb11
            refine lv_iconst (v := 0) hx hb d_MD_run_75 (by decide) ?_
            refine lv_istore (lv' := [(4, .int 0), (0, .ref q_this), (1, .int i1), (2, .int i2), (3, .int i3)]) hx hb d_MD_run_76 hl (by decide) rfl (fun ls hl => ?_)
            exact ih.2 i1 i2 i3 0 v_thrown v_second v_entered v_done v_took v_move v_ends v_onHoist v_began f_carriers f_begins _ _ _ hP hD hS (lv_sub hl [1, 2, 3, 4, 0] rfl) hF
          · have hF := ox_f hF hb11
            refine lv_aload_n hx hb d_MD_run_60 rfl (lv_at hl 0 rfl) ?_
            refine va_get (D := (dC, dI)) (ci := 6) (v := .int v_second) (C := R_MD) (T := F_MD) (N := 24) hx hb hts uw_MD hown hK hP 0 rfl rfl 13 (by decide) (hts _ tw_229) (fun _ h9 => h9) rfl d_MD_run_61 ?_
            refine lv_aload_n hx hb d_MD_run_64 rfl (lv_at hl 0 rfl) ?_
            refine va_get (D := (dC, dI)) (ci := 6) (v := .int v_ends) (C := R_MD) (T := F_MD) (N := 24) hx hb hts uw_MD hown hK hP 0 rfl rfl 21 (by decide) (hts _ tw_250) (fun _ h9 => h9) rfl d_MD_run_65 ?_
            refine lv_icmp_ne (tgt := 75) hx hb d_MD_run_68 (by decide) (fun hb12 => ?_) (fun hb12 => ?_)
            · have hF := ox_t hF hb12
              refine lv_iconst (v := 0) hx hb d_MD_run_75 (by decide) ?_
              refine lv_istore (lv' := [(4, .int 0), (0, .ref q_this), (1, .int i1), (2, .int i2), (3, .int i3)]) hx hb d_MD_run_76 hl (by decide) rfl (fun ls hl => ?_)
              exact ih.2 i1 i2 i3 0 v_thrown v_second v_entered v_done v_took v_move v_ends v_onHoist v_began f_carriers f_begins _ _ _ hP hD hS (lv_sub hl [1, 2, 3, 4, 0] rfl) hF
            · have hF := ox_fn hF hb12
              refine lv_aload_n hx hb d_MD_run_71 rfl (lv_at hl 0 rfl) ?_
              obtain ⟨⟨s13_v_done, s13_v_took, s13_v_move, s13_v_onHoist, s13_f_carriers, s13_f_begins⟩, hc13, hF⟩ := ox_clS hF
              refine hq_cv (ws' := (wd_MD_run q_this q_low q_high q_loaded q_empty q_order q_places q_times q_planOrder q_planTimes q_carriers q_begins cI v_thrown v_tanks v_hasPlan v_cycle v_second v_entered s13_v_done s13_v_took v_stopped s13_v_move v_ends s13_v_onHoist v_began s13_f_carriers s13_f_begins f_planTimes f_loaded)) (hq_rV (As := []) (rest := []) ⟨hx, hb, hml, hown, hts⟩ (c_MD_endMove l dC dI q_this q_low q_high q_loaded q_empty q_order q_places q_times q_planOrder q_planTimes q_carriers q_begins cI _ v_thrown v_tanks v_hasPlan v_cycle v_second v_entered v_done v_took v_stopped v_move v_ends v_onHoist v_began f_carriers f_begins s13_v_done s13_v_took s13_v_move s13_v_onHoist s13_f_carriers s13_f_begins hc13) (cwV 0 hts (hq_gV tw_251 tw_252 tw_253 tw_176 tw_254) rfl rfl rfl yv_MD_endMove ⟨Nat.le_of_ble_eq_true rfl, Nat.le_of_ble_eq_true rfl⟩) hP hD hK [0] rfl 0 rfl rfl [0, 1, 2] rfl rfl rfl hl.1 rfl (Nat.le_of_ble_eq_true rfl) d_MD_run_72 ⟨Nat.zero_le _, Nat.zero_le _⟩) hP hD hS hA [0, 1, 2] [3, 4] [2, 3, 4, 0, 1] rfl rfl rfl (by decide) rfl rfl (fun H locs hP hD hS => ?_)
              refine lv_iconst (v := 0) hx hb d_MD_run_75 (by decide) ?_
              refine lv_istore (lv' := [(4, .int 0), (0, .ref q_this), (1, .int i1), (2, .int i2), (3, .int i3)]) hx hb d_MD_run_76 hl (by decide) rfl (fun ls hl => ?_)
              exact ih.2 i1 i2 i3 0 v_thrown v_second v_entered s13_v_done s13_v_took s13_v_move v_ends s13_v_onHoist v_began s13_f_carriers s13_f_begins _ _ _ hP hD hS (lv_sub hl [1, 2, 3, 4, 0] rfl) hF
      · intro i1 i2 i3 i4 v_thrown v_second v_entered v_done v_took v_move v_ends v_onHoist v_began f_carriers f_begins H locs ls hP hD hS hl hF
        have hF : st_MD_run v_tanks v_hasPlan v_cycle v_stopped f_planTimes f_loaded (lp_MD_run v_tanks v_hasPlan v_cycle v_stopped f_planTimes f_loaded fu) 1 i1 i2 i3 i4 v_thrown v_second v_entered v_done v_took v_move v_ends v_onHoist v_began f_carriers f_begins = some (rr, n_v_thrown, n_v_second, n_v_entered, n_v_done, n_v_took, n_v_move, n_v_ends, n_v_onHoist, n_v_began, n_f_carriers, n_f_begins) := hF
        unfold st_MD_run at hF
        try dsimp only at hF
        refine lv_iload hx hb d_MD_run_78 (lv_at hl 4 rfl) ?_
        refine lv_aload_n hx hb d_MD_run_80 rfl (lv_at hl 0 rfl) ?_
        refine va_get (D := (dC, dI)) (ci := 6) (v := .int v_tanks) (C := R_MD) (T := F_MD) (N := 24) hx hb hts uw_MD hown hK hP 0 rfl rfl 1 (by decide) (hts _ tw_172) (fun _ h9 => h9) rfl d_MD_run_81 ?_
        refine lv_icmp_gt (tgt := 124) hx hb d_MD_run_84 (by decide) (fun hb14 => ?_) (fun hb14 => ?_)
        · have hF := ox_t hF hb14
          refine lv_aload_n hx hb d_MD_run_124 rfl (lv_at hl 0 rfl) ?_
          refine lv_dup hx hb d_MD_run_125 rfl ?_
          refine va_get (D := (dC, dI)) (ci := 6) (v := .int v_second) (C := R_MD) (T := F_MD) (N := 24) hx hb hts uw_MD hown hK hP 0 rfl rfl 13 (by decide) (hts _ tw_229) (fun _ h9 => h9) rfl d_MD_run_126 ?_
          refine lv_iconst (v := 1) hx hb d_MD_run_129 (by decide) ?_
          refine lv_iadd hx hb d_MD_run_130 ?_
          refine va_put (D := (dC, dI)) (ci := 6) (v := .int (v_second + 1)) (ty := .int) (C := R_MD) (T := F_MD) (N := 24) hx hb hts uw_MD t_MD t_MD_ok n_MD hown hK hP hD hS 0 rfl rfl 13 (by decide) (hts _ tw_229) (fun _ h9 => h9) rfl (by decide +kernel) rfl rfl (Nat.le_of_ble_eq_true rfl) d_MD_run_131 (fun H locs hP hD hS => ?_)
          have hP : va_P (dC, dI) vwCl (wd_MD_run q_this q_low q_high q_loaded q_empty q_order q_places q_times q_planOrder q_planTimes q_carriers q_begins cI v_thrown v_tanks v_hasPlan v_cycle (v_second + 1) v_entered v_done v_took v_stopped v_move v_ends v_onHoist v_began f_carriers f_begins f_planTimes f_loaded) H := hP
          have hD : va_D A (wd_MD_run q_this q_low q_high q_loaded q_empty q_order q_places q_times q_planOrder q_planTimes q_carriers q_begins cI v_thrown v_tanks v_hasPlan v_cycle (v_second + 1) v_entered v_done v_took v_stopped v_move v_ends v_onHoist v_began f_carriers f_begins f_planTimes f_loaded) := hD
          refine lv_iinc (v := (i3 + 1)) (lv' := [(3, .int (i3 + 1)), (0, .ref q_this), (1, .int i1), (2, .int i2), (4, .int i4)]) hx hb d_MD_run_134 hl (k := 3) rfl rfl (by decide) rfl (fun ls hl => ?_)
          refine lv_goto (tgt := 48) hx hb d_MD_run_137 (by decide) ?_
          exact ih.1 i1 i2 (i3 + 1) 0 v_thrown (v_second + 1) v_entered v_done v_took v_move v_ends v_onHoist v_began f_carriers f_begins _ _ _ hP hD hS (lv_sub hl [1, 2, 3, 0] rfl) hF
        · have hF := ox_f hF hb14
          refine lv_aload_n hx hb d_MD_run_87 rfl (lv_at hl 0 rfl) ?_
          refine va_get (D := (dC, dI)) (ci := 6) (v := .ref q_planTimes) (C := R_MD) (T := F_MD) (N := 24) hx hb hts uw_MD hown hK hP 0 rfl rfl 12 (by decide) (hts _ tw_226) (fun _ h9 => h9) rfl d_MD_run_88 ?_
          refine lv_iload hx hb d_MD_run_91 (lv_at hl 4 rfl) ?_
          obtain ⟨hin, hF⟩ := ox_gdS hF
          refine va_iald hx hb hK hP 3 0 rfl rfl hin d_MD_run_93 ?_
          refine lv_aload_n hx hb d_MD_run_94 rfl (lv_at hl 0 rfl) ?_
          refine va_get (D := (dC, dI)) (ci := 6) (v := .int v_second) (C := R_MD) (T := F_MD) (N := 24) hx hb hts uw_MD hown hK hP 0 rfl rfl 13 (by decide) (hts _ tw_229) (fun _ h9 => h9) rfl d_MD_run_95 ?_
          refine lv_aload_n hx hb d_MD_run_98 rfl (lv_at hl 0 rfl) ?_
          refine va_get (D := (dC, dI)) (ci := 6) (v := .int v_cycle) (C := R_MD) (T := F_MD) (N := 24) hx hb hts uw_MD hown hK hP 0 rfl rfl 10 (by decide) (hts _ tw_227) (fun _ h9 => h9) rfl d_MD_run_99 ?_
          obtain ⟨hne, hF⟩ := ox_nzS hF
          refine lv_irem hx hb d_MD_run_102 hne ?_
          refine lv_icmp_ne (tgt := 118) hx hb d_MD_run_103 (by decide) (fun hb15 => ?_) (fun hb15 => ?_)
          · have hF := ox_t hF hb15
            refine lv_iinc (v := (i4 + 1)) (lv' := [(4, .int (i4 + 1)), (0, .ref q_this), (1, .int i1), (2, .int i2), (3, .int i3)]) hx hb d_MD_run_118 hl (k := 4) rfl rfl (by decide) rfl (fun ls hl => ?_)
            refine lv_goto (tgt := 78) hx hb d_MD_run_121 (by decide) ?_
            exact ih.2 i1 i2 i3 (i4 + 1) v_thrown v_second v_entered v_done v_took v_move v_ends v_onHoist v_began f_carriers f_begins _ _ _ hP hD hS (lv_sub hl [1, 2, 3, 4, 0] rfl) hF
          · have hF := ox_fn hF hb15
            refine lv_aload_n hx hb d_MD_run_106 rfl (lv_at hl 0 rfl) ?_
            refine lv_iload hx hb d_MD_run_107 (lv_at hl 4 rfl) ?_
            obtain ⟨⟨r16, s16_v_entered, s16_v_move, s16_v_ends, s16_v_onHoist, s16_v_began, s16_f_carriers⟩, hc16, hF⟩ := ox_clS hF
            refine hq_ci (ws' := (wd_MD_run q_this q_low q_high q_loaded q_empty q_order q_places q_times q_planOrder q_planTimes q_carriers q_begins cI v_thrown v_tanks v_hasPlan v_cycle v_second s16_v_entered v_done v_took v_stopped s16_v_move s16_v_ends s16_v_onHoist s16_v_began s16_f_carriers f_begins f_planTimes f_loaded)) (hq_rV (As := [.int i4]) (rest := []) ⟨hx, hb, hml, hown, hts⟩ (c_MD_begin l dC dI q_this q_low q_high q_loaded q_empty q_order q_places q_times q_planOrder q_planTimes q_carriers q_begins cI _ i4 v_thrown v_tanks v_hasPlan v_cycle v_second v_entered v_done v_took v_stopped v_move v_ends v_onHoist v_began f_carriers f_begins f_loaded r16 s16_v_entered s16_v_move s16_v_ends s16_v_onHoist s16_v_began s16_f_carriers hc16) (cwV 1 hts (hq_gV tw_255 tw_256 tw_257 tw_176 tw_258) rfl rfl rfl yv_MD_begin ⟨Nat.le_of_ble_eq_true rfl, Nat.le_of_ble_eq_true rfl⟩) hP hD hK [0] rfl 0 rfl rfl [0, 1, 2, 4] rfl rfl rfl hl.1 rfl (Nat.le_of_ble_eq_true rfl) d_MD_run_109 ⟨Nat.zero_le _, Nat.zero_le _⟩) hP hD hS hA [0, 1, 2, 4] [3] [1, 2, 3, 0, 4] rfl rfl rfl (by decide) rfl rfl (fun H locs hP hD hS => ?_)
            refine lv_if_eq (tgt := 118) hx hb d_MD_run_112 (by decide) (fun hb17 => ?_) (fun hb17 => ?_)
            · have hF := ox_t hF hb17
              refine lv_iinc (v := (i4 + 1)) (lv' := [(4, .int (i4 + 1)), (0, .ref q_this), (1, .int i1), (2, .int i2), (3, .int i3)]) hx hb d_MD_run_118 hl (k := 4) rfl rfl (by decide) rfl (fun ls hl => ?_)
              refine lv_goto (tgt := 78) hx hb d_MD_run_121 (by decide) ?_
              exact ih.2 i1 i2 i3 (i4 + 1) v_thrown v_second s16_v_entered v_done v_took s16_v_move s16_v_ends s16_v_onHoist s16_v_began s16_f_carriers f_begins _ _ _ hP hD hS (lv_sub hl [1, 2, 3, 4, 0] rfl) hF
            · have hF := ox_f hF hb17
              refine lv_iinc (v := (i2 + 1)) (lv' := [(2, .int (i2 + 1)), (0, .ref q_this), (1, .int i1), (3, .int i3), (4, .int i4)]) hx hb d_MD_run_115 hl (k := 2) rfl rfl (by decide) rfl (fun ls hl => ?_)
              refine lv_iinc (v := (i4 + 1)) (lv' := [(4, .int (i4 + 1)), (2, .int (i2 + 1)), (0, .ref q_this), (1, .int i1), (3, .int i3)]) hx hb d_MD_run_118 hl (k := 4) rfl rfl (by decide) rfl (fun ls hl => ?_)
              refine lv_goto (tgt := 78) hx hb d_MD_run_121 (by decide) ?_
              exact ih.2 i1 (i2 + 1) i3 (i4 + 1) v_thrown v_second s16_v_entered v_done v_took s16_v_move s16_v_ends s16_v_onHoist s16_v_began s16_f_carriers f_begins _ _ _ hP hD hS (lv_sub hl [2, 3, 1, 4, 0] rfl) hF
  refine lv_aload_n hx hb d_MD_run_0 rfl (lv_at hl 0 rfl) ?_
  refine lv_aload_n hx hb d_MD_run_1 rfl (lv_at hl 0 rfl) ?_
  refine va_get (D := (dC, dI)) (ci := 6) (v := .int v_hasPlan) (C := R_MD) (T := F_MD) (N := 24) hx hb hts uw_MD hown hK hP 0 rfl rfl 9 (by decide) (hts _ tw_173) (fun _ h9 => h9) rfl d_MD_run_2 ?_
  refine lv_if_ne (tgt := 12) hx hb d_MD_run_5 (by decide) (fun hb1 => ?_) (fun hb1 => ?_)
  · have hF := ox_t hF hb1
    refine lv_iconst (v := 0) hx hb d_MD_run_12 (by decide) ?_
    refine lv_aload_n hx hb d_MD_run_13 rfl (lv_at hl 0 rfl) ?_
    refine va_get (D := (dC, dI)) (ci := 6) (v := .int v_hasPlan) (C := R_MD) (T := F_MD) (N := 24) hx hb hts uw_MD hown hK hP 0 rfl rfl 9 (by decide) (hts _ tw_173) (fun _ h9 => h9) rfl d_MD_run_14 ?_
    refine lv_if_eq (tgt := 35) hx hb d_MD_run_17 (by decide) (fun h => absurd h hb1) (fun _ => ?_)
    refine lv_iload_n hx hb d_MD_run_20 rfl (lv_at hl 1 rfl) ?_
    refine lv_iconst (v := 0) hx hb d_MD_run_21 (by decide) ?_
    refine lv_sipush (v := 5000) hx hb d_MD_run_22 (by decide) ?_
    obtain ⟨r2, hc2, hF⟩ := ox_clS hF
    refine hq_ci (ws' := (wd_MD_run q_this q_low q_high q_loaded q_empty q_order q_places q_times q_planOrder q_planTimes q_carriers q_begins cI v_thrown v_tanks v_hasPlan v_cycle v_second v_entered v_done v_took v_stopped v_move v_ends v_onHoist v_began f_carriers f_begins f_planTimes f_loaded)) (hq_rS (As := [.int a1, .int 0, .int 5000]) (rest := [.int 0, .ref q_this]) ⟨hx, hb, hml, hown, hts⟩ (c_MD_in l dC dI _ a1 0 5000 r2 hc2) ⟨callB_of 3 hts (hq_g1 tw_177) rfl rfl rfl (hts _ tw_176) (hts _ tw_174) yd_MD_in ⟨Nat.le_of_ble_eq_true rfl, Nat.le_of_ble_eq_true rfl⟩, hts _ tw_175⟩ hP hD hK [] rfl [] rfl rfl rfl hl.1 rfl (Nat.le_of_ble_eq_true rfl) d_MD_run_25 ⟨Nat.zero_le _, Nat.zero_le _⟩) hP hD hS hA [] [0, 1, 2, 3, 4] [0, 1, 2, 3, 4] rfl rfl rfl (by decide) rfl rfl (fun H locs hP hD hS => ?_)
    refine lv_if_ne (tgt := 35) hx hb d_MD_run_28 (by decide) (fun hb3 => ?_) (fun hb3 => ?_)
    · have hF := ox_t hF hb3
      refine lv_iconst (v := 0) hx hb d_MD_run_35 (by decide) ?_
      obtain ⟨⟨r4, s4_v_thrown⟩, hc4, hF⟩ := ox_clS hF
      refine hq_ci (ws' := (wd_MD_run q_this q_low q_high q_loaded q_empty q_order q_places q_times q_planOrder q_planTimes q_carriers q_begins cI s4_v_thrown v_tanks v_hasPlan v_cycle v_second v_entered v_done v_took v_stopped v_move v_ends v_onHoist v_began f_carriers f_begins f_planTimes f_loaded)) (hq_rV (As := [.int 0, .int 0]) (rest := []) ⟨hx, hb, hml, hown, hts⟩ (c_MD_refuse l dC dI q_this q_low q_high q_loaded q_empty q_order q_places q_times q_planOrder q_planTimes q_carriers q_begins _ 0 0 v_thrown v_tanks v_hasPlan v_cycle v_second v_entered v_done v_took v_stopped v_move v_ends v_onHoist v_began r4 s4_v_thrown hc4) (cwV 2 hts (hq_gV tw_178 tw_179 tw_180 tw_176 tw_181) rfl rfl rfl yv_MD_refuse ⟨Nat.le_of_ble_eq_true rfl, Nat.le_of_ble_eq_true rfl⟩) hP hD hK [] rfl 0 rfl rfl [0] rfl rfl rfl hl.1 rfl (Nat.le_of_ble_eq_true rfl) d_MD_run_36 ⟨Nat.zero_le _, Nat.zero_le _⟩) hP hD hS hA [0] [1, 2, 3, 4] [4, 0, 1, 2, 3] rfl rfl rfl (by decide) rfl rfl (fun H locs hP hD hS => ?_)
      refine lv_if_eq (tgt := 44) hx hb d_MD_run_39 (by decide) (fun hb5 => ?_) (fun hb5 => ?_)
      · have hF := ox_t hF hb5
        refine lv_iconst (v := 0) hx hb d_MD_run_44 (by decide) ?_
        refine lv_istore_n (lv' := [(2, .int 0), (0, .ref q_this), (1, .int a1)]) hx hb d_MD_run_45 rfl hl (by decide) rfl (fun ls hl => ?_)
        refine lv_iconst (v := 0) hx hb d_MD_run_46 (by decide) ?_
        refine lv_istore_n (lv' := [(3, .int 0), (2, .int 0), (0, .ref q_this), (1, .int a1)]) hx hb d_MD_run_47 rfl hl (by decide) rfl (fun ls hl => ?_)
        exact (loop z).1 a1 0 0 0 s4_v_thrown v_second v_entered v_done v_took v_move v_ends v_onHoist v_began f_carriers f_begins _ _ _ hP hD hS (lv_sub hl [2, 3, 1, 0] rfl) hF
      · have hF := ox_f hF hb5
        refine lv_iconst (v := 0) hx hb d_MD_run_42 (by decide) ?_
        cases hF
        exact hq_iret hx hb hr hlocks hP hD hK hS d_MD_run_43
    · have hF := ox_fn hF hb3
      refine lv_iconst (v := 1) hx hb d_MD_run_31 (by decide) ?_
      refine lv_goto (tgt := 36) hx hb d_MD_run_32 (by decide) ?_
      obtain ⟨⟨r6, s6_v_thrown⟩, hc6, hF⟩ := ox_clS hF
      refine hq_ci (ws' := (wd_MD_run q_this q_low q_high q_loaded q_empty q_order q_places q_times q_planOrder q_planTimes q_carriers q_begins cI s6_v_thrown v_tanks v_hasPlan v_cycle v_second v_entered v_done v_took v_stopped v_move v_ends v_onHoist v_began f_carriers f_begins f_planTimes f_loaded)) (hq_rV (As := [.int 0, .int 1]) (rest := []) ⟨hx, hb, hml, hown, hts⟩ (c_MD_refuse l dC dI q_this q_low q_high q_loaded q_empty q_order q_places q_times q_planOrder q_planTimes q_carriers q_begins _ 0 1 v_thrown v_tanks v_hasPlan v_cycle v_second v_entered v_done v_took v_stopped v_move v_ends v_onHoist v_began r6 s6_v_thrown hc6) (cwV 2 hts (hq_gV tw_178 tw_179 tw_180 tw_176 tw_181) rfl rfl rfl yv_MD_refuse ⟨Nat.le_of_ble_eq_true rfl, Nat.le_of_ble_eq_true rfl⟩) hP hD hK [] rfl 0 rfl rfl [0] rfl rfl rfl hl.1 rfl (Nat.le_of_ble_eq_true rfl) d_MD_run_36 ⟨Nat.zero_le _, Nat.zero_le _⟩) hP hD hS hA [0] [1, 2, 3, 4] [4, 0, 1, 2, 3] rfl rfl rfl (by decide) rfl rfl (fun H locs hP hD hS => ?_)
      refine lv_if_eq (tgt := 44) hx hb d_MD_run_39 (by decide) (fun hb7 => ?_) (fun hb7 => ?_)
      · have hF := ox_t hF hb7
        refine lv_iconst (v := 0) hx hb d_MD_run_44 (by decide) ?_
        refine lv_istore_n (lv' := [(2, .int 0), (0, .ref q_this), (1, .int a1)]) hx hb d_MD_run_45 rfl hl (by decide) rfl (fun ls hl => ?_)
        refine lv_iconst (v := 0) hx hb d_MD_run_46 (by decide) ?_
        refine lv_istore_n (lv' := [(3, .int 0), (2, .int 0), (0, .ref q_this), (1, .int a1)]) hx hb d_MD_run_47 rfl hl (by decide) rfl (fun ls hl => ?_)
        exact (loop z).1 a1 0 0 0 s6_v_thrown v_second v_entered v_done v_took v_move v_ends v_onHoist v_began f_carriers f_begins _ _ _ hP hD hS (lv_sub hl [2, 3, 1, 0] rfl) hF
      · have hF := ox_f hF hb7
        refine lv_iconst (v := 0) hx hb d_MD_run_42 (by decide) ?_
        cases hF
        exact hq_iret hx hb hr hlocks hP hD hK hS d_MD_run_43
  · have hF := ox_fn hF hb1
    refine lv_iconst (v := 1) hx hb d_MD_run_8 (by decide) ?_
    refine lv_goto (tgt := 13) hx hb d_MD_run_9 (by decide) ?_
    refine lv_aload_n hx hb d_MD_run_13 rfl (lv_at hl 0 rfl) ?_
    refine va_get (D := (dC, dI)) (ci := 6) (v := .int v_hasPlan) (C := R_MD) (T := F_MD) (N := 24) hx hb hts uw_MD hown hK hP 0 rfl rfl 9 (by decide) (hts _ tw_173) (fun _ h9 => h9) rfl d_MD_run_14 ?_
    refine lv_if_eq (tgt := 35) hx hb d_MD_run_17 (by decide) (fun _ => ?_) (fun h => absurd hb1 h)
    refine lv_iconst (v := 0) hx hb d_MD_run_35 (by decide) ?_
    obtain ⟨⟨r8, s8_v_thrown⟩, hc8, hF⟩ := ox_clS hF
    refine hq_ci (ws' := (wd_MD_run q_this q_low q_high q_loaded q_empty q_order q_places q_times q_planOrder q_planTimes q_carriers q_begins cI s8_v_thrown v_tanks v_hasPlan v_cycle v_second v_entered v_done v_took v_stopped v_move v_ends v_onHoist v_began f_carriers f_begins f_planTimes f_loaded)) (hq_rV (As := [.int 1, .int 0]) (rest := []) ⟨hx, hb, hml, hown, hts⟩ (c_MD_refuse l dC dI q_this q_low q_high q_loaded q_empty q_order q_places q_times q_planOrder q_planTimes q_carriers q_begins _ 1 0 v_thrown v_tanks v_hasPlan v_cycle v_second v_entered v_done v_took v_stopped v_move v_ends v_onHoist v_began r8 s8_v_thrown hc8) (cwV 2 hts (hq_gV tw_178 tw_179 tw_180 tw_176 tw_181) rfl rfl rfl yv_MD_refuse ⟨Nat.le_of_ble_eq_true rfl, Nat.le_of_ble_eq_true rfl⟩) hP hD hK [] rfl 0 rfl rfl [0] rfl rfl rfl hl.1 rfl (Nat.le_of_ble_eq_true rfl) d_MD_run_36 ⟨Nat.zero_le _, Nat.zero_le _⟩) hP hD hS hA [0] [1, 2, 3, 4] [4, 0, 1, 2, 3] rfl rfl rfl (by decide) rfl rfl (fun H locs hP hD hS => ?_)
    refine lv_if_eq (tgt := 44) hx hb d_MD_run_39 (by decide) (fun hb9 => ?_) (fun hb9 => ?_)
    · have hF := ox_t hF hb9
      refine lv_iconst (v := 0) hx hb d_MD_run_44 (by decide) ?_
      refine lv_istore_n (lv' := [(2, .int 0), (0, .ref q_this), (1, .int a1)]) hx hb d_MD_run_45 rfl hl (by decide) rfl (fun ls hl => ?_)
      refine lv_iconst (v := 0) hx hb d_MD_run_46 (by decide) ?_
      refine lv_istore_n (lv' := [(3, .int 0), (2, .int 0), (0, .ref q_this), (1, .int a1)]) hx hb d_MD_run_47 rfl hl (by decide) rfl (fun ls hl => ?_)
      exact (loop z).1 a1 0 0 0 s8_v_thrown v_second v_entered v_done v_took v_move v_ends v_onHoist v_began f_carriers f_begins _ _ _ hP hD hS (lv_sub hl [2, 3, 1, 0] rfl) hF
    · have hF := ox_f hF hb9
      refine lv_iconst (v := 0) hx hb d_MD_run_42 (by decide) ?_
      cases hF
      exact hq_iret hx hb hr hlocks hP hD hK hS d_MD_run_43
abbrev wd_MD_stop (q_this : Nat) (q_low : Nat) (q_high : Nat) (q_loaded : Nat) (q_empty : Nat) (q_order : Nat) (q_places : Nat) (q_times : Nat) (q_planOrder : Nat) (q_planTimes : Nat) (q_carriers : Nat) (q_begins : Nat) (v_thrown : Int32) (v_tanks : Int32) (v_hasPlan : Int32) (v_cycle : Int32) (v_second : Int32) (v_entered : Int32) (v_done : Int32) (v_took : Int32) (v_stopped : Int32) (v_move : Int32) (v_ends : Int32) (v_onHoist : Int32) (v_began : Int32) : va_W := [(q_this, .inr (6, [.int v_thrown, .int v_tanks, .ref q_low, .ref q_high, .ref q_loaded, .ref q_empty, .ref q_order, .ref q_places, .ref q_times, .int v_hasPlan, .int v_cycle, .ref q_planOrder, .ref q_planTimes, .int v_second, .int v_entered, .int v_done, .int v_took, .int v_stopped, .ref q_carriers, .ref q_begins, .int v_move, .int v_ends, .int v_onHoist, .int v_began]))]
set_option maxHeartbeats 4000000 in
set_option maxRecDepth 100000 in
theorem c_MD_stop (l : Launch) (dC : Nat → ClassId) (dI : Nat → Nat → Nat) (q_this : Nat) (q_low : Nat) (q_high : Nat) (q_loaded : Nat) (q_empty : Nat) (q_order : Nat) (q_places : Nat) (q_times : Nat) (q_planOrder : Nat) (q_planTimes : Nat) (q_carriers : Nat) (q_begins : Nat) (sz : Nat) (a1 : Int32) (v_thrown : Int32) (v_tanks : Int32) (v_hasPlan : Int32) (v_cycle : Int32) (v_second : Int32) (v_entered : Int32) (v_done : Int32) (v_took : Int32) (v_stopped : Int32) (v_move : Int32) (v_ends : Int32) (v_onHoist : Int32) (v_began : Int32) (n_v_thrown : Int32) (n_v_stopped : Int32) (hF : fn_MD_stop a1 v_thrown v_hasPlan v_stopped = some (n_v_thrown, n_v_stopped)) : Met l y_MD_stop w_MD_stop ({ frames := 1, cells := 0, slots := 0, locals := 22 }) (hq_Pc (dC, dI) vwCl [] (wd_MD_stop q_this q_low q_high q_loaded q_empty q_order q_places q_times q_planOrder q_planTimes q_carriers q_begins v_thrown v_tanks v_hasPlan v_cycle v_second v_entered v_done v_took v_stopped v_move v_ends v_onHoist v_began) sz [.ref q_this, .int a1]) (hq_Qv (dC, dI) vwCl [] (wd_MD_stop q_this q_low q_high q_loaded q_empty q_order q_places q_times q_planOrder q_planTimes q_carriers q_begins n_v_thrown v_tanks v_hasPlan v_cycle v_second v_entered v_done v_took n_v_stopped v_move v_ends v_onHoist v_began) (va_A (wd_MD_stop q_this q_low q_high q_loaded q_empty q_order q_places q_times q_planOrder q_planTimes q_carriers q_begins v_thrown v_tanks v_hasPlan v_cycle v_second v_entered v_done v_took v_stopped v_move v_ends v_onHoist v_began) sz)) 0 0 (va_A (wd_MD_stop q_this q_low q_high q_loaded q_empty q_order q_places q_times q_planOrder q_planTimes q_carriers q_begins v_thrown v_tanks v_hasPlan v_cycle v_second v_entered v_done v_took v_stopped v_move v_ends v_onHoist v_began) sz) := by
  refine hq_met (Qc := (hq_Qv (dC, dI) vwCl [] (wd_MD_stop q_this q_low q_high q_loaded q_empty q_order q_places q_times q_planOrder q_planTimes q_carriers q_begins n_v_thrown v_tanks v_hasPlan v_cycle v_second v_entered v_done v_took n_v_stopped v_move v_ends v_onHoist v_began))) (cc := b_MD_stop) (maxL := 2) (ret := none) (by decide) rfl (Nat.le_of_ble_eq_true rfl) ?_
  intro p e s m args below meth c A ls hx hb hr hml hts hown hlocks hnm hP hD hK hA hS hl
  have hts : ∀ w ∈ tb0, w.before args s = true := fun w h => hts w (List.mem_cons_of_mem _ h)
  have hown : s.vm.findClass R_MD = some m.cls := hown
  have hl : lv_has ls 2 [(0, .ref q_this), (1, .int a1)] := hl
  unfold fn_MD_stop at hF
  refine lv_aload_n hx hb d_MD_stop_0 rfl (lv_at hl 0 rfl) ?_
  refine lv_aload_n hx hb d_MD_stop_1 rfl (lv_at hl 0 rfl) ?_
  refine va_get (D := (dC, dI)) (ci := 6) (v := .int v_hasPlan) (C := R_MD) (T := F_MD) (N := 24) hx hb hts uw_MD hown hK hP 0 rfl rfl 9 (by decide) (hts _ tw_173) (fun _ h9 => h9) rfl d_MD_stop_2 ?_
  refine lv_if_ne (tgt := 12) hx hb d_MD_stop_5 (by decide) (fun hb1 => ?_) (fun hb1 => ?_)
  · have hF := ox_t hF hb1
    refine lv_iconst (v := 0) hx hb d_MD_stop_12 (by decide) ?_
    refine lv_iconst (v := 0) hx hb d_MD_stop_13 (by decide) ?_
    obtain ⟨⟨r2, s2_v_thrown⟩, hc2, hF⟩ := ox_clS hF
    refine hq_ci (ws' := (wd_MD_stop q_this q_low q_high q_loaded q_empty q_order q_places q_times q_planOrder q_planTimes q_carriers q_begins s2_v_thrown v_tanks v_hasPlan v_cycle v_second v_entered v_done v_took v_stopped v_move v_ends v_onHoist v_began)) (hq_rV (As := [.int 0, .int 0]) (rest := []) ⟨hx, hb, hml, hown, hts⟩ (c_MD_refuse l dC dI q_this q_low q_high q_loaded q_empty q_order q_places q_times q_planOrder q_planTimes q_carriers q_begins _ 0 0 v_thrown v_tanks v_hasPlan v_cycle v_second v_entered v_done v_took v_stopped v_move v_ends v_onHoist v_began r2 s2_v_thrown hc2) (cwV 2 hts (hq_gV tw_178 tw_179 tw_180 tw_176 tw_181) rfl rfl rfl yv_MD_refuse ⟨Nat.le_of_ble_eq_true rfl, Nat.le_of_ble_eq_true rfl⟩) hP hD hK [] rfl 0 rfl rfl [0] rfl rfl rfl hl.1 rfl (Nat.le_of_ble_eq_true rfl) d_MD_stop_14 ⟨Nat.zero_le _, Nat.zero_le _⟩) hP hD hS hA [0] [] [0] rfl rfl rfl (by decide) rfl rfl (fun H locs hP hD hS => ?_)
    refine lv_if_ne (tgt := 25) hx hb d_MD_stop_17 (by decide) (fun hb3 => ?_) (fun hb3 => ?_)
    · have hF := ox_t hF hb3
      cases hF
      exact hq_vret hx hb hr hlocks hP hD hK hS d_MD_stop_25
    · have hF := ox_fn hF hb3
      refine lv_aload_n hx hb d_MD_stop_20 rfl (lv_at hl 0 rfl) ?_
      refine lv_iload_n hx hb d_MD_stop_21 rfl (lv_at hl 1 rfl) ?_
      obtain ⟨hbg, hF⟩ := ox_bgS hF
      refine va_put (D := (dC, dI)) (ci := 6) (v := .int a1) (ty := .boolean) (C := R_MD) (T := F_MD) (N := 24) hx hb hts uw_MD t_MD t_MD_ok n_MD hown hK hP hD hS 0 rfl rfl 17 (by decide) (hts _ tw_233) (fun _ h9 => h9) rfl (by decide +kernel) (ox_bool hbg).1 (ox_bool hbg).2 (Nat.le_of_ble_eq_true rfl) d_MD_stop_22 (fun H locs hP hD hS => ?_)
      have hP : va_P (dC, dI) vwCl (wd_MD_stop q_this q_low q_high q_loaded q_empty q_order q_places q_times q_planOrder q_planTimes q_carriers q_begins s2_v_thrown v_tanks v_hasPlan v_cycle v_second v_entered v_done v_took a1 v_move v_ends v_onHoist v_began) H := hP
      have hD : va_D A (wd_MD_stop q_this q_low q_high q_loaded q_empty q_order q_places q_times q_planOrder q_planTimes q_carriers q_begins s2_v_thrown v_tanks v_hasPlan v_cycle v_second v_entered v_done v_took a1 v_move v_ends v_onHoist v_began) := hD
      cases hF
      exact hq_vret hx hb hr hlocks hP hD hK hS d_MD_stop_25
  · have hF := ox_fn hF hb1
    refine lv_iconst (v := 1) hx hb d_MD_stop_8 (by decide) ?_
    refine lv_goto (tgt := 13) hx hb d_MD_stop_9 (by decide) ?_
    refine lv_iconst (v := 0) hx hb d_MD_stop_13 (by decide) ?_
    obtain ⟨⟨r4, s4_v_thrown⟩, hc4, hF⟩ := ox_clS hF
    refine hq_ci (ws' := (wd_MD_stop q_this q_low q_high q_loaded q_empty q_order q_places q_times q_planOrder q_planTimes q_carriers q_begins s4_v_thrown v_tanks v_hasPlan v_cycle v_second v_entered v_done v_took v_stopped v_move v_ends v_onHoist v_began)) (hq_rV (As := [.int 1, .int 0]) (rest := []) ⟨hx, hb, hml, hown, hts⟩ (c_MD_refuse l dC dI q_this q_low q_high q_loaded q_empty q_order q_places q_times q_planOrder q_planTimes q_carriers q_begins _ 1 0 v_thrown v_tanks v_hasPlan v_cycle v_second v_entered v_done v_took v_stopped v_move v_ends v_onHoist v_began r4 s4_v_thrown hc4) (cwV 2 hts (hq_gV tw_178 tw_179 tw_180 tw_176 tw_181) rfl rfl rfl yv_MD_refuse ⟨Nat.le_of_ble_eq_true rfl, Nat.le_of_ble_eq_true rfl⟩) hP hD hK [] rfl 0 rfl rfl [0] rfl rfl rfl hl.1 rfl (Nat.le_of_ble_eq_true rfl) d_MD_stop_14 ⟨Nat.zero_le _, Nat.zero_le _⟩) hP hD hS hA [0] [] [0] rfl rfl rfl (by decide) rfl rfl (fun H locs hP hD hS => ?_)
    refine lv_if_ne (tgt := 25) hx hb d_MD_stop_17 (by decide) (fun hb5 => ?_) (fun hb5 => ?_)
    · have hF := ox_t hF hb5
      cases hF
      exact hq_vret hx hb hr hlocks hP hD hK hS d_MD_stop_25
    · have hF := ox_fn hF hb5
      refine lv_aload_n hx hb d_MD_stop_20 rfl (lv_at hl 0 rfl) ?_
      refine lv_iload_n hx hb d_MD_stop_21 rfl (lv_at hl 1 rfl) ?_
      obtain ⟨hbg, hF⟩ := ox_bgS hF
      refine va_put (D := (dC, dI)) (ci := 6) (v := .int a1) (ty := .boolean) (C := R_MD) (T := F_MD) (N := 24) hx hb hts uw_MD t_MD t_MD_ok n_MD hown hK hP hD hS 0 rfl rfl 17 (by decide) (hts _ tw_233) (fun _ h9 => h9) rfl (by decide +kernel) (ox_bool hbg).1 (ox_bool hbg).2 (Nat.le_of_ble_eq_true rfl) d_MD_stop_22 (fun H locs hP hD hS => ?_)
      have hP : va_P (dC, dI) vwCl (wd_MD_stop q_this q_low q_high q_loaded q_empty q_order q_places q_times q_planOrder q_planTimes q_carriers q_begins s4_v_thrown v_tanks v_hasPlan v_cycle v_second v_entered v_done v_took a1 v_move v_ends v_onHoist v_began) H := hP
      have hD : va_D A (wd_MD_stop q_this q_low q_high q_loaded q_empty q_order q_places q_times q_planOrder q_planTimes q_carriers q_begins s4_v_thrown v_tanks v_hasPlan v_cycle v_second v_entered v_done v_took a1 v_move v_ends v_onHoist v_began) := hD
      cases hF
      exact hq_vret hx hb hr hlocks hP hD hK hS d_MD_stop_25
abbrev wd_MD_tank (q_this : Nat) (q_low : Nat) (q_high : Nat) (q_loaded : Nat) (q_empty : Nat) (q_order : Nat) (q_places : Nat) (q_times : Nat) (q_planOrder : Nat) (q_planTimes : Nat) (q_carriers : Nat) (q_begins : Nat) (cI : ClassId) (v_thrown : Int32) (v_tanks : Int32) (v_hasPlan : Int32) (v_cycle : Int32) (v_second : Int32) (v_entered : Int32) (v_done : Int32) (v_took : Int32) (v_stopped : Int32) (v_move : Int32) (v_ends : Int32) (v_onHoist : Int32) (v_began : Int32) (f_carriers : Nat → Int32) : va_W := [(q_this, .inr (6, [.int v_thrown, .int v_tanks, .ref q_low, .ref q_high, .ref q_loaded, .ref q_empty, .ref q_order, .ref q_places, .ref q_times, .int v_hasPlan, .int v_cycle, .ref q_planOrder, .ref q_planTimes, .int v_second, .int v_entered, .int v_done, .int v_took, .int v_stopped, .ref q_carriers, .ref q_begins, .int v_move, .int v_ends, .int v_onHoist, .int v_began])), (q_carriers, .inl (cI, 7, .inl f_carriers))]
set_option maxHeartbeats 4000000 in
set_option maxRecDepth 100000 in
theorem c_MD_tank (l : Launch) (dC : Nat → ClassId) (dI : Nat → Nat → Nat) (q_this : Nat) (q_low : Nat) (q_high : Nat) (q_loaded : Nat) (q_empty : Nat) (q_order : Nat) (q_places : Nat) (q_times : Nat) (q_planOrder : Nat) (q_planTimes : Nat) (q_carriers : Nat) (q_begins : Nat) (cI : ClassId) (sz : Nat) (a1 : Int32) (v_thrown : Int32) (v_tanks : Int32) (v_hasPlan : Int32) (v_cycle : Int32) (v_second : Int32) (v_entered : Int32) (v_done : Int32) (v_took : Int32) (v_stopped : Int32) (v_move : Int32) (v_ends : Int32) (v_onHoist : Int32) (v_began : Int32) (f_carriers : Nat → Int32) (rr : Int32) (n_v_thrown : Int32) (hF : fn_MD_tank a1 v_thrown v_tanks v_hasPlan f_carriers = some (rr, n_v_thrown)) : Met l y_MD_tank w_MD_tank ({ frames := 1, cells := 0, slots := 0, locals := 22 }) (hq_Pc (dC, dI) vwCl [(cI, .int)] (wd_MD_tank q_this q_low q_high q_loaded q_empty q_order q_places q_times q_planOrder q_planTimes q_carriers q_begins cI v_thrown v_tanks v_hasPlan v_cycle v_second v_entered v_done v_took v_stopped v_move v_ends v_onHoist v_began f_carriers) sz [.ref q_this, .int a1]) (hq_Qi (dC, dI) vwCl [(cI, .int)] (wd_MD_tank q_this q_low q_high q_loaded q_empty q_order q_places q_times q_planOrder q_planTimes q_carriers q_begins cI n_v_thrown v_tanks v_hasPlan v_cycle v_second v_entered v_done v_took v_stopped v_move v_ends v_onHoist v_began f_carriers) rr (va_A (wd_MD_tank q_this q_low q_high q_loaded q_empty q_order q_places q_times q_planOrder q_planTimes q_carriers q_begins cI v_thrown v_tanks v_hasPlan v_cycle v_second v_entered v_done v_took v_stopped v_move v_ends v_onHoist v_began f_carriers) sz)) 0 0 (va_A (wd_MD_tank q_this q_low q_high q_loaded q_empty q_order q_places q_times q_planOrder q_planTimes q_carriers q_begins cI v_thrown v_tanks v_hasPlan v_cycle v_second v_entered v_done v_took v_stopped v_move v_ends v_onHoist v_began f_carriers) sz) := by
  refine hq_met (Qc := (hq_Qi (dC, dI) vwCl [(cI, .int)] (wd_MD_tank q_this q_low q_high q_loaded q_empty q_order q_places q_times q_planOrder q_planTimes q_carriers q_begins cI n_v_thrown v_tanks v_hasPlan v_cycle v_second v_entered v_done v_took v_stopped v_move v_ends v_onHoist v_began f_carriers) rr)) (cc := b_MD_tank) (maxL := 2) (ret := some .int) (by decide) rfl (Nat.le_of_ble_eq_true rfl) ?_
  intro p e s m args below meth c A ls hx hb hr hml hts hown hlocks hnm hP hD hK hA hS hl
  have hts : ∀ w ∈ tb0, w.before args s = true := fun w h => hts w (List.mem_cons_of_mem _ h)
  have hown : s.vm.findClass R_MD = some m.cls := hown
  have hl : lv_has ls 2 [(0, .ref q_this), (1, .int a1)] := hl
  unfold fn_MD_tank at hF
  refine lv_aload_n hx hb d_MD_tank_0 rfl (lv_at hl 0 rfl) ?_
  refine lv_aload_n hx hb d_MD_tank_1 rfl (lv_at hl 0 rfl) ?_
  refine va_get (D := (dC, dI)) (ci := 6) (v := .int v_hasPlan) (C := R_MD) (T := F_MD) (N := 24) hx hb hts uw_MD hown hK hP 0 rfl rfl 9 (by decide) (hts _ tw_173) (fun _ h9 => h9) rfl d_MD_tank_2 ?_
  refine lv_if_ne (tgt := 12) hx hb d_MD_tank_5 (by decide) (fun hb1 => ?_) (fun hb1 => ?_)
  · have hF := ox_t hF hb1
    refine lv_iconst (v := 0) hx hb d_MD_tank_12 (by decide) ?_
    refine lv_aload_n hx hb d_MD_tank_13 rfl (lv_at hl 0 rfl) ?_
    refine va_get (D := (dC, dI)) (ci := 6) (v := .int v_hasPlan) (C := R_MD) (T := F_MD) (N := 24) hx hb hts uw_MD hown hK hP 0 rfl rfl 9 (by decide) (hts _ tw_173) (fun _ h9 => h9) rfl d_MD_tank_14 ?_
    refine lv_if_eq (tgt := 36) hx hb d_MD_tank_17 (by decide) (fun h => absurd h hb1) (fun _ => ?_)
    refine lv_iload_n hx hb d_MD_tank_20 rfl (lv_at hl 1 rfl) ?_
    refine lv_iconst (v := 1) hx hb d_MD_tank_21 (by decide) ?_
    refine lv_aload_n hx hb d_MD_tank_22 rfl (lv_at hl 0 rfl) ?_
    refine va_get (D := (dC, dI)) (ci := 6) (v := .int v_tanks) (C := R_MD) (T := F_MD) (N := 24) hx hb hts uw_MD hown hK hP 0 rfl rfl 1 (by decide) (hts _ tw_172) (fun _ h9 => h9) rfl d_MD_tank_23 ?_
    obtain ⟨r2, hc2, hF⟩ := ox_clS hF
    refine hq_ci (ws' := (wd_MD_tank q_this q_low q_high q_loaded q_empty q_order q_places q_times q_planOrder q_planTimes q_carriers q_begins cI v_thrown v_tanks v_hasPlan v_cycle v_second v_entered v_done v_took v_stopped v_move v_ends v_onHoist v_began f_carriers)) (hq_rS (As := [.int a1, .int 1, .int v_tanks]) (rest := [.int 0, .ref q_this]) ⟨hx, hb, hml, hown, hts⟩ (c_MD_in l dC dI _ a1 1 v_tanks r2 hc2) ⟨callB_of 3 hts (hq_g1 tw_177) rfl rfl rfl (hts _ tw_176) (hts _ tw_174) yd_MD_in ⟨Nat.le_of_ble_eq_true rfl, Nat.le_of_ble_eq_true rfl⟩, hts _ tw_175⟩ hP hD hK [] rfl [] rfl rfl rfl hl.1 rfl (Nat.le_of_ble_eq_true rfl) d_MD_tank_26 ⟨Nat.zero_le _, Nat.zero_le _⟩) hP hD hS hA [] [0, 1] [0, 1] rfl rfl rfl (by decide) rfl rfl (fun H locs hP hD hS => ?_)
    refine lv_if_ne (tgt := 36) hx hb d_MD_tank_29 (by decide) (fun hb3 => ?_) (fun hb3 => ?_)
    · have hF := ox_t hF hb3
      refine lv_iconst (v := 0) hx hb d_MD_tank_36 (by decide) ?_
      obtain ⟨⟨r4, s4_v_thrown⟩, hc4, hF⟩ := ox_clS hF
      refine hq_ci (ws' := (wd_MD_tank q_this q_low q_high q_loaded q_empty q_order q_places q_times q_planOrder q_planTimes q_carriers q_begins cI s4_v_thrown v_tanks v_hasPlan v_cycle v_second v_entered v_done v_took v_stopped v_move v_ends v_onHoist v_began f_carriers)) (hq_rV (As := [.int 0, .int 0]) (rest := []) ⟨hx, hb, hml, hown, hts⟩ (c_MD_refuse l dC dI q_this q_low q_high q_loaded q_empty q_order q_places q_times q_planOrder q_planTimes q_carriers q_begins _ 0 0 v_thrown v_tanks v_hasPlan v_cycle v_second v_entered v_done v_took v_stopped v_move v_ends v_onHoist v_began r4 s4_v_thrown hc4) (cwV 2 hts (hq_gV tw_178 tw_179 tw_180 tw_176 tw_181) rfl rfl rfl yv_MD_refuse ⟨Nat.le_of_ble_eq_true rfl, Nat.le_of_ble_eq_true rfl⟩) hP hD hK [] rfl 0 rfl rfl [0] rfl rfl rfl hl.1 rfl (Nat.le_of_ble_eq_true rfl) d_MD_tank_37 ⟨Nat.zero_le _, Nat.zero_le _⟩) hP hD hS hA [0] [1] [1, 0] rfl rfl rfl (by decide) rfl rfl (fun H locs hP hD hS => ?_)
      refine lv_if_eq (tgt := 47) hx hb d_MD_tank_40 (by decide) (fun hb5 => ?_) (fun hb5 => ?_)
      · have hF := ox_t hF hb5
        refine lv_aload_n hx hb d_MD_tank_47 rfl (lv_at hl 0 rfl) ?_
        refine va_get (D := (dC, dI)) (ci := 6) (v := .ref q_carriers) (C := R_MD) (T := F_MD) (N := 24) hx hb hts uw_MD hown hK hP 0 rfl rfl 18 (by decide) (hts _ tw_228) (fun _ h9 => h9) rfl d_MD_tank_48 ?_
        refine lv_iload_n hx hb d_MD_tank_51 rfl (lv_at hl 1 rfl) ?_
        obtain ⟨hin, hF⟩ := ox_gdS hF
        refine va_iald hx hb hK hP 1 0 rfl rfl hin d_MD_tank_52 ?_
        cases hF
        exact hq_iret hx hb hr hlocks hP hD hK hS d_MD_tank_53
      · have hF := ox_f hF hb5
        refine lv_iconst (v := 0) hx hb d_MD_tank_43 (by decide) ?_
        refine lv_goto (tgt := 53) hx hb d_MD_tank_44 (by decide) ?_
        cases hF
        exact hq_iret hx hb hr hlocks hP hD hK hS d_MD_tank_53
    · have hF := ox_fn hF hb3
      refine lv_iconst (v := 1) hx hb d_MD_tank_32 (by decide) ?_
      refine lv_goto (tgt := 37) hx hb d_MD_tank_33 (by decide) ?_
      obtain ⟨⟨r6, s6_v_thrown⟩, hc6, hF⟩ := ox_clS hF
      refine hq_ci (ws' := (wd_MD_tank q_this q_low q_high q_loaded q_empty q_order q_places q_times q_planOrder q_planTimes q_carriers q_begins cI s6_v_thrown v_tanks v_hasPlan v_cycle v_second v_entered v_done v_took v_stopped v_move v_ends v_onHoist v_began f_carriers)) (hq_rV (As := [.int 0, .int 1]) (rest := []) ⟨hx, hb, hml, hown, hts⟩ (c_MD_refuse l dC dI q_this q_low q_high q_loaded q_empty q_order q_places q_times q_planOrder q_planTimes q_carriers q_begins _ 0 1 v_thrown v_tanks v_hasPlan v_cycle v_second v_entered v_done v_took v_stopped v_move v_ends v_onHoist v_began r6 s6_v_thrown hc6) (cwV 2 hts (hq_gV tw_178 tw_179 tw_180 tw_176 tw_181) rfl rfl rfl yv_MD_refuse ⟨Nat.le_of_ble_eq_true rfl, Nat.le_of_ble_eq_true rfl⟩) hP hD hK [] rfl 0 rfl rfl [0] rfl rfl rfl hl.1 rfl (Nat.le_of_ble_eq_true rfl) d_MD_tank_37 ⟨Nat.zero_le _, Nat.zero_le _⟩) hP hD hS hA [0] [1] [1, 0] rfl rfl rfl (by decide) rfl rfl (fun H locs hP hD hS => ?_)
      refine lv_if_eq (tgt := 47) hx hb d_MD_tank_40 (by decide) (fun hb7 => ?_) (fun hb7 => ?_)
      · have hF := ox_t hF hb7
        refine lv_aload_n hx hb d_MD_tank_47 rfl (lv_at hl 0 rfl) ?_
        refine va_get (D := (dC, dI)) (ci := 6) (v := .ref q_carriers) (C := R_MD) (T := F_MD) (N := 24) hx hb hts uw_MD hown hK hP 0 rfl rfl 18 (by decide) (hts _ tw_228) (fun _ h9 => h9) rfl d_MD_tank_48 ?_
        refine lv_iload_n hx hb d_MD_tank_51 rfl (lv_at hl 1 rfl) ?_
        obtain ⟨hin, hF⟩ := ox_gdS hF
        refine va_iald hx hb hK hP 1 0 rfl rfl hin d_MD_tank_52 ?_
        cases hF
        exact hq_iret hx hb hr hlocks hP hD hK hS d_MD_tank_53
      · have hF := ox_f hF hb7
        refine lv_iconst (v := 0) hx hb d_MD_tank_43 (by decide) ?_
        refine lv_goto (tgt := 53) hx hb d_MD_tank_44 (by decide) ?_
        cases hF
        exact hq_iret hx hb hr hlocks hP hD hK hS d_MD_tank_53
  · have hF := ox_fn hF hb1
    refine lv_iconst (v := 1) hx hb d_MD_tank_8 (by decide) ?_
    refine lv_goto (tgt := 13) hx hb d_MD_tank_9 (by decide) ?_
    refine lv_aload_n hx hb d_MD_tank_13 rfl (lv_at hl 0 rfl) ?_
    refine va_get (D := (dC, dI)) (ci := 6) (v := .int v_hasPlan) (C := R_MD) (T := F_MD) (N := 24) hx hb hts uw_MD hown hK hP 0 rfl rfl 9 (by decide) (hts _ tw_173) (fun _ h9 => h9) rfl d_MD_tank_14 ?_
    refine lv_if_eq (tgt := 36) hx hb d_MD_tank_17 (by decide) (fun _ => ?_) (fun h => absurd hb1 h)
    refine lv_iconst (v := 0) hx hb d_MD_tank_36 (by decide) ?_
    obtain ⟨⟨r8, s8_v_thrown⟩, hc8, hF⟩ := ox_clS hF
    refine hq_ci (ws' := (wd_MD_tank q_this q_low q_high q_loaded q_empty q_order q_places q_times q_planOrder q_planTimes q_carriers q_begins cI s8_v_thrown v_tanks v_hasPlan v_cycle v_second v_entered v_done v_took v_stopped v_move v_ends v_onHoist v_began f_carriers)) (hq_rV (As := [.int 1, .int 0]) (rest := []) ⟨hx, hb, hml, hown, hts⟩ (c_MD_refuse l dC dI q_this q_low q_high q_loaded q_empty q_order q_places q_times q_planOrder q_planTimes q_carriers q_begins _ 1 0 v_thrown v_tanks v_hasPlan v_cycle v_second v_entered v_done v_took v_stopped v_move v_ends v_onHoist v_began r8 s8_v_thrown hc8) (cwV 2 hts (hq_gV tw_178 tw_179 tw_180 tw_176 tw_181) rfl rfl rfl yv_MD_refuse ⟨Nat.le_of_ble_eq_true rfl, Nat.le_of_ble_eq_true rfl⟩) hP hD hK [] rfl 0 rfl rfl [0] rfl rfl rfl hl.1 rfl (Nat.le_of_ble_eq_true rfl) d_MD_tank_37 ⟨Nat.zero_le _, Nat.zero_le _⟩) hP hD hS hA [0] [1] [1, 0] rfl rfl rfl (by decide) rfl rfl (fun H locs hP hD hS => ?_)
    refine lv_if_eq (tgt := 47) hx hb d_MD_tank_40 (by decide) (fun hb9 => ?_) (fun hb9 => ?_)
    · have hF := ox_t hF hb9
      refine lv_aload_n hx hb d_MD_tank_47 rfl (lv_at hl 0 rfl) ?_
      refine va_get (D := (dC, dI)) (ci := 6) (v := .ref q_carriers) (C := R_MD) (T := F_MD) (N := 24) hx hb hts uw_MD hown hK hP 0 rfl rfl 18 (by decide) (hts _ tw_228) (fun _ h9 => h9) rfl d_MD_tank_48 ?_
      refine lv_iload_n hx hb d_MD_tank_51 rfl (lv_at hl 1 rfl) ?_
      obtain ⟨hin, hF⟩ := ox_gdS hF
      refine va_iald hx hb hK hP 1 0 rfl rfl hin d_MD_tank_52 ?_
      cases hF
      exact hq_iret hx hb hr hlocks hP hD hK hS d_MD_tank_53
    · have hF := ox_f hF hb9
      refine lv_iconst (v := 0) hx hb d_MD_tank_43 (by decide) ?_
      refine lv_goto (tgt := 53) hx hb d_MD_tank_44 (by decide) ?_
      cases hF
      exact hq_iret hx hb hr hlocks hP hD hK hS d_MD_tank_53
abbrev wd_MD_state (q_this : Nat) (q_low : Nat) (q_high : Nat) (q_loaded : Nat) (q_empty : Nat) (q_order : Nat) (q_places : Nat) (q_times : Nat) (q_planOrder : Nat) (q_planTimes : Nat) (q_carriers : Nat) (q_begins : Nat) (cI : ClassId) (v_thrown : Int32) (v_tanks : Int32) (v_hasPlan : Int32) (v_cycle : Int32) (v_second : Int32) (v_entered : Int32) (v_done : Int32) (v_took : Int32) (v_stopped : Int32) (v_move : Int32) (v_ends : Int32) (v_onHoist : Int32) (v_began : Int32) (f_carriers : Nat → Int32) : va_W := [(q_this, .inr (6, [.int v_thrown, .int v_tanks, .ref q_low, .ref q_high, .ref q_loaded, .ref q_empty, .ref q_order, .ref q_places, .ref q_times, .int v_hasPlan, .int v_cycle, .ref q_planOrder, .ref q_planTimes, .int v_second, .int v_entered, .int v_done, .int v_took, .int v_stopped, .ref q_carriers, .ref q_begins, .int v_move, .int v_ends, .int v_onHoist, .int v_began])), (q_carriers, .inl (cI, 7, .inl f_carriers))]
set_option maxHeartbeats 4000000 in
set_option maxRecDepth 100000 in
theorem c_MD_state (l : Launch) (dC : Nat → ClassId) (dI : Nat → Nat → Nat) (q_this : Nat) (q_low : Nat) (q_high : Nat) (q_loaded : Nat) (q_empty : Nat) (q_order : Nat) (q_places : Nat) (q_times : Nat) (q_planOrder : Nat) (q_planTimes : Nat) (q_carriers : Nat) (q_begins : Nat) (cI : ClassId) (sz : Nat) (z : Nat) (a1 : Int32) (v_thrown : Int32) (v_tanks : Int32) (v_hasPlan : Int32) (v_cycle : Int32) (v_second : Int32) (v_entered : Int32) (v_done : Int32) (v_took : Int32) (v_stopped : Int32) (v_move : Int32) (v_ends : Int32) (v_onHoist : Int32) (v_began : Int32) (f_carriers : Nat → Int32) (rr : Int32) (n_v_thrown : Int32) (hF : fn_MD_state z a1 v_thrown v_tanks v_hasPlan v_second v_entered v_done v_took v_move v_onHoist f_carriers = some (rr, n_v_thrown)) : Met l y_MD_state w_MD_state ({ frames := 1, cells := 0, slots := 0, locals := 22 }) (hq_Pc (dC, dI) vwCl [(cI, .int)] (wd_MD_state q_this q_low q_high q_loaded q_empty q_order q_places q_times q_planOrder q_planTimes q_carriers q_begins cI v_thrown v_tanks v_hasPlan v_cycle v_second v_entered v_done v_took v_stopped v_move v_ends v_onHoist v_began f_carriers) sz [.ref q_this, .int a1]) (hq_Qi (dC, dI) vwCl [(cI, .int)] (wd_MD_state q_this q_low q_high q_loaded q_empty q_order q_places q_times q_planOrder q_planTimes q_carriers q_begins cI n_v_thrown v_tanks v_hasPlan v_cycle v_second v_entered v_done v_took v_stopped v_move v_ends v_onHoist v_began f_carriers) rr (va_A (wd_MD_state q_this q_low q_high q_loaded q_empty q_order q_places q_times q_planOrder q_planTimes q_carriers q_begins cI v_thrown v_tanks v_hasPlan v_cycle v_second v_entered v_done v_took v_stopped v_move v_ends v_onHoist v_began f_carriers) sz)) 0 0 (va_A (wd_MD_state q_this q_low q_high q_loaded q_empty q_order q_places q_times q_planOrder q_planTimes q_carriers q_begins cI v_thrown v_tanks v_hasPlan v_cycle v_second v_entered v_done v_took v_stopped v_move v_ends v_onHoist v_began f_carriers) sz) := by
  refine hq_met (Qc := (hq_Qi (dC, dI) vwCl [(cI, .int)] (wd_MD_state q_this q_low q_high q_loaded q_empty q_order q_places q_times q_planOrder q_planTimes q_carriers q_begins cI n_v_thrown v_tanks v_hasPlan v_cycle v_second v_entered v_done v_took v_stopped v_move v_ends v_onHoist v_began f_carriers) rr)) (cc := b_MD_state) (maxL := 4) (ret := some .int) (by decide) rfl (Nat.le_of_ble_eq_true rfl) ?_
  intro p e s m args below meth c A ls hx hb hr hml hts hown hlocks hnm hP hD hK hA hS hl
  have hts : ∀ w ∈ tb0, w.before args s = true := fun w h => hts w (List.mem_cons_of_mem _ h)
  have hown : s.vm.findClass R_MD = some m.cls := hown
  have hl : lv_has ls 4 [(0, .ref q_this), (1, .int a1)] := hl
  unfold fn_MD_state at hF
  have loop : ∀ fu : Nat, (∀ (i1 : Int32) (i2 : Int32) (i3 : Int32) (v_thrown : Int32) (H : Heap) (locs : List Loc) (ls : Array Slot), va_P (dC, dI) vwCl (wd_MD_state q_this q_low q_high q_loaded q_empty q_order q_places q_times q_planOrder q_planTimes q_carriers q_begins cI v_thrown v_tanks v_hasPlan v_cycle v_second v_entered v_done v_took v_stopped v_move v_ends v_onHoist v_began f_carriers) H → va_D A (wd_MD_state q_this q_low q_high q_loaded q_empty q_order q_places q_times q_planOrder q_planTimes q_carriers q_begins cI v_thrown v_tanks v_hasPlan v_cycle v_second v_entered v_done v_took v_stopped v_move v_ends v_onHoist v_began f_carriers) → va_S A s.heap H locs → lv_has ls 4 [(0, .ref q_this), (1, .int i1)] → lp_MD_state v_tanks v_hasPlan v_second v_entered v_done v_took v_move v_onHoist f_carriers fu 0 i1 i2 i3 v_thrown = some (rr, n_v_thrown) → W p l e ({ frames := 1, cells := 0, slots := 0, locals := 22 }) s m args below meth c H locs 0 0 (MQ below ((hq_Qi (dC, dI) vwCl [(cI, .int)] (wd_MD_state q_this q_low q_high q_loaded q_empty q_order q_places q_times q_planOrder q_planTimes q_carriers q_begins cI n_v_thrown v_tanks v_hasPlan v_cycle v_second v_entered v_done v_took v_stopped v_move v_ends v_onHoist v_began f_carriers) rr) A) args s 0 0 A) (F0 m 43 ls [])) ∧ (∀ (i1 : Int32) (i2 : Int32) (i3 : Int32) (v_thrown : Int32) (H : Heap) (locs : List Loc) (ls : Array Slot), va_P (dC, dI) vwCl (wd_MD_state q_this q_low q_high q_loaded q_empty q_order q_places q_times q_planOrder q_planTimes q_carriers q_begins cI v_thrown v_tanks v_hasPlan v_cycle v_second v_entered v_done v_took v_stopped v_move v_ends v_onHoist v_began f_carriers) H → va_D A (wd_MD_state q_this q_low q_high q_loaded q_empty q_order q_places q_times q_planOrder q_planTimes q_carriers q_begins cI v_thrown v_tanks v_hasPlan v_cycle v_second v_entered v_done v_took v_stopped v_move v_ends v_onHoist v_began f_carriers) → va_S A s.heap H locs → lv_has ls 4 [(0, .ref q_this), (1, .int i1), (2, .int i2), (3, .int i3)] → lp_MD_state v_tanks v_hasPlan v_second v_entered v_done v_took v_move v_onHoist f_carriers fu 1 i1 i2 i3 v_thrown = some (rr, n_v_thrown) → W p l e ({ frames := 1, cells := 0, slots := 0, locals := 22 }) s m args below meth c H locs 0 0 (MQ below ((hq_Qi (dC, dI) vwCl [(cI, .int)] (wd_MD_state q_this q_low q_high q_loaded q_empty q_order q_places q_times q_planOrder q_planTimes q_carriers q_begins cI n_v_thrown v_tanks v_hasPlan v_cycle v_second v_entered v_done v_took v_stopped v_move v_ends v_onHoist v_began f_carriers) rr) A) args s 0 0 A) (F0 m 116 ls [])) := by
    intro fu
    induction fu with
    | zero => exact ⟨(fun _ _ _ _ _ _ _ _ _ _ _ h => by cases h), (fun _ _ _ _ _ _ _ _ _ _ _ h => by cases h)⟩
    | succ fu ih =>
      refine ⟨?_, ?_⟩
      · intro i1 i2 i3 v_thrown H locs ls hP hD hS hl hF
        have hF : st_MD_state v_tanks v_hasPlan v_second v_entered v_done v_took v_move v_onHoist f_carriers (lp_MD_state v_tanks v_hasPlan v_second v_entered v_done v_took v_move v_onHoist f_carriers fu) 0 i1 i2 i3 v_thrown = some (rr, n_v_thrown) := hF
        unfold st_MD_state at hF
        try dsimp only at hF
        refine lv_iload_n hx hb d_MD_state_43 rfl (lv_at hl 1 rfl) ?_
        by_cases hk0 : i1 = 0
        · have hF := ox_t hF hk0
          refine lv_tableIn (tgt := 84) hx hb d_MD_state_44 (by rw [hk0]; decide) (by rw [hk0]; decide) (by rw [hk0]; rfl) (by decide) ?_
          refine lv_aload_n hx hb d_MD_state_84 rfl (lv_at hl 0 rfl) ?_
          refine va_get (D := (dC, dI)) (ci := 6) (v := .int v_second) (C := R_MD) (T := F_MD) (N := 24) hx hb hts uw_MD hown hK hP 0 rfl rfl 13 (by decide) (hts _ tw_229) (fun _ h9 => h9) rfl d_MD_state_85 ?_
          cases hF
          exact hq_iret hx hb hr hlocks hP hD hK hS d_MD_state_88
        have hF := ox_f hF hk0
        by_cases hk1 : i1 = 1
        · have hF := ox_t hF hk1
          refine lv_tableIn (tgt := 89) hx hb d_MD_state_44 (by rw [hk1]; decide) (by rw [hk1]; decide) (by rw [hk1]; rfl) (by decide) ?_
          refine lv_aload_n hx hb d_MD_state_89 rfl (lv_at hl 0 rfl) ?_
          refine va_get (D := (dC, dI)) (ci := 6) (v := .int v_entered) (C := R_MD) (T := F_MD) (N := 24) hx hb hts uw_MD hown hK hP 0 rfl rfl 14 (by decide) (hts _ tw_230) (fun _ h9 => h9) rfl d_MD_state_90 ?_
          cases hF
          exact hq_iret hx hb hr hlocks hP hD hK hS d_MD_state_93
        have hF := ox_f hF hk1
        by_cases hk2 : i1 = 2
        · have hF := ox_t hF hk2
          refine lv_tableIn (tgt := 94) hx hb d_MD_state_44 (by rw [hk2]; decide) (by rw [hk2]; decide) (by rw [hk2]; rfl) (by decide) ?_
          refine lv_aload_n hx hb d_MD_state_94 rfl (lv_at hl 0 rfl) ?_
          refine va_get (D := (dC, dI)) (ci := 6) (v := .int v_done) (C := R_MD) (T := F_MD) (N := 24) hx hb hts uw_MD hown hK hP 0 rfl rfl 15 (by decide) (hts _ tw_231) (fun _ h9 => h9) rfl d_MD_state_95 ?_
          cases hF
          exact hq_iret hx hb hr hlocks hP hD hK hS d_MD_state_98
        have hF := ox_f hF hk2
        by_cases hk3 : i1 = 3
        · have hF := ox_t hF hk3
          refine lv_tableIn (tgt := 99) hx hb d_MD_state_44 (by rw [hk3]; decide) (by rw [hk3]; decide) (by rw [hk3]; rfl) (by decide) ?_
          refine lv_aload_n hx hb d_MD_state_99 rfl (lv_at hl 0 rfl) ?_
          refine va_get (D := (dC, dI)) (ci := 6) (v := .int v_onHoist) (C := R_MD) (T := F_MD) (N := 24) hx hb hts uw_MD hown hK hP 0 rfl rfl 22 (by decide) (hts _ tw_235) (fun _ h9 => h9) rfl d_MD_state_100 ?_
          cases hF
          exact hq_iret hx hb hr hlocks hP hD hK hS d_MD_state_103
        have hF := ox_f hF hk3
        by_cases hk4 : i1 = 4
        · have hF := ox_t hF hk4
          refine lv_tableIn (tgt := 104) hx hb d_MD_state_44 (by rw [hk4]; decide) (by rw [hk4]; decide) (by rw [hk4]; rfl) (by decide) ?_
          refine lv_aload_n hx hb d_MD_state_104 rfl (lv_at hl 0 rfl) ?_
          refine va_get (D := (dC, dI)) (ci := 6) (v := .int v_move) (C := R_MD) (T := F_MD) (N := 24) hx hb hts uw_MD hown hK hP 0 rfl rfl 20 (by decide) (hts _ tw_234) (fun _ h9 => h9) rfl d_MD_state_105 ?_
          cases hF
          exact hq_iret hx hb hr hlocks hP hD hK hS d_MD_state_108
        have hF := ox_f hF hk4
        by_cases hk5 : i1 = 5
        · have hF := ox_t hF hk5
          refine lv_tableIn (tgt := 109) hx hb d_MD_state_44 (by rw [hk5]; decide) (by rw [hk5]; decide) (by rw [hk5]; rfl) (by decide) ?_
          refine lv_aload_n hx hb d_MD_state_109 rfl (lv_at hl 0 rfl) ?_
          refine va_get (D := (dC, dI)) (ci := 6) (v := .int v_onHoist) (C := R_MD) (T := F_MD) (N := 24) hx hb hts uw_MD hown hK hP 0 rfl rfl 22 (by decide) (hts _ tw_235) (fun _ h9 => h9) rfl d_MD_state_110 ?_
          refine lv_istore_n (lv' := [(2, .int v_onHoist), (0, .ref q_this), (1, .int i1)]) hx hb d_MD_state_113 rfl hl (by decide) rfl (fun ls hl => ?_)
          refine lv_iconst (v := 1) hx hb d_MD_state_114 (by decide) ?_
          refine lv_istore_n (lv' := [(3, .int 1), (2, .int v_onHoist), (0, .ref q_this), (1, .int i1)]) hx hb d_MD_state_115 rfl hl (by decide) rfl (fun ls hl => ?_)
          exact ih.2 i1 v_onHoist 1 v_thrown _ _ _ hP hD hS (lv_sub hl [2, 3, 1, 0] rfl) hF
        have hF := ox_f hF hk5
        refine lv_tableOut (tgt := 155) hx hb d_MD_state_44 (hq_out6 hk0 hk1 hk2 hk3 hk4 hk5) (by decide) ?_
        refine lv_aload_n hx hb d_MD_state_155 rfl (lv_at hl 0 rfl) ?_
        refine va_get (D := (dC, dI)) (ci := 6) (v := .int v_took) (C := R_MD) (T := F_MD) (N := 24) hx hb hts uw_MD hown hK hP 0 rfl rfl 16 (by decide) (hts _ tw_232) (fun _ h9 => h9) rfl d_MD_state_156 ?_
        cases hF
        exact hq_iret hx hb hr hlocks hP hD hK hS d_MD_state_159
      · intro i1 i2 i3 v_thrown H locs ls hP hD hS hl hF
        have hF : st_MD_state v_tanks v_hasPlan v_second v_entered v_done v_took v_move v_onHoist f_carriers (lp_MD_state v_tanks v_hasPlan v_second v_entered v_done v_took v_move v_onHoist f_carriers fu) 1 i1 i2 i3 v_thrown = some (rr, n_v_thrown) := hF
        unfold st_MD_state at hF
        try dsimp only at hF
        refine lv_iload_n hx hb d_MD_state_116 rfl (lv_at hl 3 rfl) ?_
        refine lv_aload_n hx hb d_MD_state_117 rfl (lv_at hl 0 rfl) ?_
        refine va_get (D := (dC, dI)) (ci := 6) (v := .int v_tanks) (C := R_MD) (T := F_MD) (N := 24) hx hb hts uw_MD hown hK hP 0 rfl rfl 1 (by decide) (hts _ tw_172) (fun _ h9 => h9) rfl d_MD_state_118 ?_
        refine lv_icmp_gt (tgt := 145) hx hb d_MD_state_121 (by decide) (fun hb10 => ?_) (fun hb10 => ?_)
        · have hF := ox_t hF hb10
          refine lv_iload_n hx hb d_MD_state_145 rfl (lv_at hl 2 rfl) ?_
          refine lv_if_ne (tgt := 153) hx hb d_MD_state_146 (by decide) (fun hb11 => ?_) (fun hb11 => ?_)
          · have hF := ox_t hF hb11
            refine lv_iconst (v := 0) hx hb d_MD_state_153 (by decide) ?_
            cases hF
            exact hq_iret hx hb hr hlocks hP hD hK hS d_MD_state_154
          · have hF := ox_fn hF hb11
            refine lv_iconst (v := 1) hx hb d_MD_state_149 (by decide) ?_
            refine lv_goto (tgt := 154) hx hb d_MD_state_150 (by decide) ?_
            cases hF
            exact hq_iret hx hb hr hlocks hP hD hK hS d_MD_state_154
        · have hF := ox_f hF hb10
          refine lv_aload_n hx hb d_MD_state_124 rfl (lv_at hl 0 rfl) ?_
          refine va_get (D := (dC, dI)) (ci := 6) (v := .ref q_carriers) (C := R_MD) (T := F_MD) (N := 24) hx hb hts uw_MD hown hK hP 0 rfl rfl 18 (by decide) (hts _ tw_228) (fun _ h9 => h9) rfl d_MD_state_125 ?_
          refine lv_iload_n hx hb d_MD_state_128 rfl (lv_at hl 3 rfl) ?_
          obtain ⟨hin, hF⟩ := ox_gdS hF
          refine va_iald hx hb hK hP 1 0 rfl rfl hin d_MD_state_129 ?_
          refine lv_if_le (tgt := 137) hx hb d_MD_state_130 (by decide) (fun hb12 => ?_) (fun hb12 => ?_)
          · have hF := ox_t hF hb12
            refine lv_iload_n hx hb d_MD_state_137 rfl (lv_at hl 2 rfl) ?_
            refine lv_istore_n (lv' := [(2, .int i2), (0, .ref q_this), (1, .int i1), (3, .int i3)]) hx hb d_MD_state_138 rfl hl (by decide) rfl (fun ls hl => ?_)
            refine lv_iinc (v := (i3 + 1)) (lv' := [(3, .int (i3 + 1)), (2, .int i2), (0, .ref q_this), (1, .int i1)]) hx hb d_MD_state_139 hl (k := 3) rfl rfl (by decide) rfl (fun ls hl => ?_)
            refine lv_goto (tgt := 116) hx hb d_MD_state_142 (by decide) ?_
            exact ih.2 i1 i2 (i3 + 1) v_thrown _ _ _ hP hD hS (lv_sub hl [2, 3, 1, 0] rfl) hF
          · have hF := ox_f hF hb12
            refine lv_iconst (v := 1) hx hb d_MD_state_133 (by decide) ?_
            refine lv_goto (tgt := 138) hx hb d_MD_state_134 (by decide) ?_
            refine lv_istore_n (lv' := [(2, .int 1), (0, .ref q_this), (1, .int i1), (3, .int i3)]) hx hb d_MD_state_138 rfl hl (by decide) rfl (fun ls hl => ?_)
            refine lv_iinc (v := (i3 + 1)) (lv' := [(3, .int (i3 + 1)), (2, .int 1), (0, .ref q_this), (1, .int i1)]) hx hb d_MD_state_139 hl (k := 3) rfl rfl (by decide) rfl (fun ls hl => ?_)
            refine lv_goto (tgt := 116) hx hb d_MD_state_142 (by decide) ?_
            exact ih.2 i1 1 (i3 + 1) v_thrown _ _ _ hP hD hS (lv_sub hl [2, 3, 1, 0] rfl) hF
  refine lv_aload_n hx hb d_MD_state_0 rfl (lv_at hl 0 rfl) ?_
  refine lv_aload_n hx hb d_MD_state_1 rfl (lv_at hl 0 rfl) ?_
  refine va_get (D := (dC, dI)) (ci := 6) (v := .int v_hasPlan) (C := R_MD) (T := F_MD) (N := 24) hx hb hts uw_MD hown hK hP 0 rfl rfl 9 (by decide) (hts _ tw_173) (fun _ h9 => h9) rfl d_MD_state_2 ?_
  refine lv_if_ne (tgt := 12) hx hb d_MD_state_5 (by decide) (fun hb1 => ?_) (fun hb1 => ?_)
  · have hF := ox_t hF hb1
    refine lv_iconst (v := 0) hx hb d_MD_state_12 (by decide) ?_
    refine lv_aload_n hx hb d_MD_state_13 rfl (lv_at hl 0 rfl) ?_
    refine va_get (D := (dC, dI)) (ci := 6) (v := .int v_hasPlan) (C := R_MD) (T := F_MD) (N := 24) hx hb hts uw_MD hown hK hP 0 rfl rfl 9 (by decide) (hts _ tw_173) (fun _ h9 => h9) rfl d_MD_state_14 ?_
    refine lv_if_eq (tgt := 34) hx hb d_MD_state_17 (by decide) (fun h => absurd h hb1) (fun _ => ?_)
    refine lv_iload_n hx hb d_MD_state_20 rfl (lv_at hl 1 rfl) ?_
    refine lv_iconst (v := 0) hx hb d_MD_state_21 (by decide) ?_
    refine lv_bipush (v := 6) hx hb d_MD_state_22 (by decide) ?_
    obtain ⟨r2, hc2, hF⟩ := ox_clS hF
    refine hq_ci (ws' := (wd_MD_state q_this q_low q_high q_loaded q_empty q_order q_places q_times q_planOrder q_planTimes q_carriers q_begins cI v_thrown v_tanks v_hasPlan v_cycle v_second v_entered v_done v_took v_stopped v_move v_ends v_onHoist v_began f_carriers)) (hq_rS (As := [.int a1, .int 0, .int 6]) (rest := [.int 0, .ref q_this]) ⟨hx, hb, hml, hown, hts⟩ (c_MD_in l dC dI _ a1 0 6 r2 hc2) ⟨callB_of 3 hts (hq_g1 tw_177) rfl rfl rfl (hts _ tw_176) (hts _ tw_174) yd_MD_in ⟨Nat.le_of_ble_eq_true rfl, Nat.le_of_ble_eq_true rfl⟩, hts _ tw_175⟩ hP hD hK [] rfl [] rfl rfl rfl hl.1 rfl (Nat.le_of_ble_eq_true rfl) d_MD_state_24 ⟨Nat.zero_le _, Nat.zero_le _⟩) hP hD hS hA [] [0, 1] [0, 1] rfl rfl rfl (by decide) rfl rfl (fun H locs hP hD hS => ?_)
    refine lv_if_ne (tgt := 34) hx hb d_MD_state_27 (by decide) (fun hb3 => ?_) (fun hb3 => ?_)
    · have hF := ox_t hF hb3
      refine lv_iconst (v := 0) hx hb d_MD_state_34 (by decide) ?_
      obtain ⟨⟨r4, s4_v_thrown⟩, hc4, hF⟩ := ox_clS hF
      refine hq_ci (ws' := (wd_MD_state q_this q_low q_high q_loaded q_empty q_order q_places q_times q_planOrder q_planTimes q_carriers q_begins cI s4_v_thrown v_tanks v_hasPlan v_cycle v_second v_entered v_done v_took v_stopped v_move v_ends v_onHoist v_began f_carriers)) (hq_rV (As := [.int 0, .int 0]) (rest := []) ⟨hx, hb, hml, hown, hts⟩ (c_MD_refuse l dC dI q_this q_low q_high q_loaded q_empty q_order q_places q_times q_planOrder q_planTimes q_carriers q_begins _ 0 0 v_thrown v_tanks v_hasPlan v_cycle v_second v_entered v_done v_took v_stopped v_move v_ends v_onHoist v_began r4 s4_v_thrown hc4) (cwV 2 hts (hq_gV tw_178 tw_179 tw_180 tw_176 tw_181) rfl rfl rfl yv_MD_refuse ⟨Nat.le_of_ble_eq_true rfl, Nat.le_of_ble_eq_true rfl⟩) hP hD hK [] rfl 0 rfl rfl [0] rfl rfl rfl hl.1 rfl (Nat.le_of_ble_eq_true rfl) d_MD_state_35 ⟨Nat.zero_le _, Nat.zero_le _⟩) hP hD hS hA [0] [1] [1, 0] rfl rfl rfl (by decide) rfl rfl (fun H locs hP hD hS => ?_)
      refine lv_if_eq (tgt := 43) hx hb d_MD_state_38 (by decide) (fun hb5 => ?_) (fun hb5 => ?_)
      · have hF := ox_t hF hb5
        exact (loop z).1 a1 0 0 s4_v_thrown _ _ _ hP hD hS (lv_sub hl [0, 1] rfl) hF
      · have hF := ox_f hF hb5
        refine lv_iconst (v := 0) hx hb d_MD_state_41 (by decide) ?_
        cases hF
        exact hq_iret hx hb hr hlocks hP hD hK hS d_MD_state_42
    · have hF := ox_fn hF hb3
      refine lv_iconst (v := 1) hx hb d_MD_state_30 (by decide) ?_
      refine lv_goto (tgt := 35) hx hb d_MD_state_31 (by decide) ?_
      obtain ⟨⟨r6, s6_v_thrown⟩, hc6, hF⟩ := ox_clS hF
      refine hq_ci (ws' := (wd_MD_state q_this q_low q_high q_loaded q_empty q_order q_places q_times q_planOrder q_planTimes q_carriers q_begins cI s6_v_thrown v_tanks v_hasPlan v_cycle v_second v_entered v_done v_took v_stopped v_move v_ends v_onHoist v_began f_carriers)) (hq_rV (As := [.int 0, .int 1]) (rest := []) ⟨hx, hb, hml, hown, hts⟩ (c_MD_refuse l dC dI q_this q_low q_high q_loaded q_empty q_order q_places q_times q_planOrder q_planTimes q_carriers q_begins _ 0 1 v_thrown v_tanks v_hasPlan v_cycle v_second v_entered v_done v_took v_stopped v_move v_ends v_onHoist v_began r6 s6_v_thrown hc6) (cwV 2 hts (hq_gV tw_178 tw_179 tw_180 tw_176 tw_181) rfl rfl rfl yv_MD_refuse ⟨Nat.le_of_ble_eq_true rfl, Nat.le_of_ble_eq_true rfl⟩) hP hD hK [] rfl 0 rfl rfl [0] rfl rfl rfl hl.1 rfl (Nat.le_of_ble_eq_true rfl) d_MD_state_35 ⟨Nat.zero_le _, Nat.zero_le _⟩) hP hD hS hA [0] [1] [1, 0] rfl rfl rfl (by decide) rfl rfl (fun H locs hP hD hS => ?_)
      refine lv_if_eq (tgt := 43) hx hb d_MD_state_38 (by decide) (fun hb7 => ?_) (fun hb7 => ?_)
      · have hF := ox_t hF hb7
        exact (loop z).1 a1 0 0 s6_v_thrown _ _ _ hP hD hS (lv_sub hl [0, 1] rfl) hF
      · have hF := ox_f hF hb7
        refine lv_iconst (v := 0) hx hb d_MD_state_41 (by decide) ?_
        cases hF
        exact hq_iret hx hb hr hlocks hP hD hK hS d_MD_state_42
  · have hF := ox_fn hF hb1
    refine lv_iconst (v := 1) hx hb d_MD_state_8 (by decide) ?_
    refine lv_goto (tgt := 13) hx hb d_MD_state_9 (by decide) ?_
    refine lv_aload_n hx hb d_MD_state_13 rfl (lv_at hl 0 rfl) ?_
    refine va_get (D := (dC, dI)) (ci := 6) (v := .int v_hasPlan) (C := R_MD) (T := F_MD) (N := 24) hx hb hts uw_MD hown hK hP 0 rfl rfl 9 (by decide) (hts _ tw_173) (fun _ h9 => h9) rfl d_MD_state_14 ?_
    refine lv_if_eq (tgt := 34) hx hb d_MD_state_17 (by decide) (fun _ => ?_) (fun h => absurd hb1 h)
    refine lv_iconst (v := 0) hx hb d_MD_state_34 (by decide) ?_
    obtain ⟨⟨r8, s8_v_thrown⟩, hc8, hF⟩ := ox_clS hF
    refine hq_ci (ws' := (wd_MD_state q_this q_low q_high q_loaded q_empty q_order q_places q_times q_planOrder q_planTimes q_carriers q_begins cI s8_v_thrown v_tanks v_hasPlan v_cycle v_second v_entered v_done v_took v_stopped v_move v_ends v_onHoist v_began f_carriers)) (hq_rV (As := [.int 1, .int 0]) (rest := []) ⟨hx, hb, hml, hown, hts⟩ (c_MD_refuse l dC dI q_this q_low q_high q_loaded q_empty q_order q_places q_times q_planOrder q_planTimes q_carriers q_begins _ 1 0 v_thrown v_tanks v_hasPlan v_cycle v_second v_entered v_done v_took v_stopped v_move v_ends v_onHoist v_began r8 s8_v_thrown hc8) (cwV 2 hts (hq_gV tw_178 tw_179 tw_180 tw_176 tw_181) rfl rfl rfl yv_MD_refuse ⟨Nat.le_of_ble_eq_true rfl, Nat.le_of_ble_eq_true rfl⟩) hP hD hK [] rfl 0 rfl rfl [0] rfl rfl rfl hl.1 rfl (Nat.le_of_ble_eq_true rfl) d_MD_state_35 ⟨Nat.zero_le _, Nat.zero_le _⟩) hP hD hS hA [0] [1] [1, 0] rfl rfl rfl (by decide) rfl rfl (fun H locs hP hD hS => ?_)
    refine lv_if_eq (tgt := 43) hx hb d_MD_state_38 (by decide) (fun hb9 => ?_) (fun hb9 => ?_)
    · have hF := ox_t hF hb9
      exact (loop z).1 a1 0 0 s8_v_thrown _ _ _ hP hD hS (lv_sub hl [0, 1] rfl) hF
    · have hF := ox_f hF hb9
      refine lv_iconst (v := 0) hx hb d_MD_state_41 (by decide) ?_
      cases hF
      exact hq_iret hx hb hr hlocks hP hD hK hS d_MD_state_42
