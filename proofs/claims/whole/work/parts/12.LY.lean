abbrev wd_LY_reset (q_this : Nat) (q_low : Nat) (q_high : Nat) (q_loadedSeconds : Nat) (q_emptySeconds : Nat) (qr_emptySeconds : Nat → Nat) (cI : ClassId) (cO : ClassId) (v_tanks : Int32) (f_low : Nat → Int32) (f_high : Nat → Int32) (f_loadedSeconds : Nat → Int32) (f_emptySeconds : Nat → Nat → Int32) : va_W := [(q_this, .inr (0, [.int v_tanks, .ref q_low, .ref q_high, .ref q_loadedSeconds, .ref q_emptySeconds])), (q_low, .inl (cI, 6, .inl f_low)), (q_high, .inl (cI, 6, .inl f_high)), (q_loadedSeconds, .inl (cI, 6, .inl f_loadedSeconds)), (q_emptySeconds, .inl (hq_out cO qr_emptySeconds))] ++ hq_rows cI qr_emptySeconds f_emptySeconds
set_option maxHeartbeats 4000000 in
set_option maxRecDepth 100000 in
theorem c_LY_reset (l : Launch) (dC : Nat → ClassId) (dI : Nat → Nat → Nat) (q_this : Nat) (q_low : Nat) (q_high : Nat) (q_loadedSeconds : Nat) (q_emptySeconds : Nat) (qr_emptySeconds : Nat → Nat) (cI : ClassId) (cO : ClassId) (sz : Nat) (z : Nat) (a1 : Int32) (v_tanks : Int32) (f_low : Nat → Int32) (f_high : Nat → Int32) (f_loadedSeconds : Nat → Int32) (f_emptySeconds : Nat → Nat → Int32) (n_v_tanks : Int32) (n_f_low : Nat → Int32) (n_f_high : Nat → Int32) (n_f_loadedSeconds : Nat → Int32) (n_f_emptySeconds : Nat → Nat → Int32) (hF : fn_LY_reset z a1 v_tanks f_low f_high f_loadedSeconds f_emptySeconds = some (n_v_tanks, n_f_low, n_f_high, n_f_loadedSeconds, n_f_emptySeconds)) : Met l y_LY_reset w_LY_reset ({ frames := 1, cells := 0, slots := 0, locals := 23 }) (hq_Pc (dC, dI) vwCl [(cI, .int), (cO, .array .int)] (wd_LY_reset q_this q_low q_high q_loadedSeconds q_emptySeconds qr_emptySeconds cI cO v_tanks f_low f_high f_loadedSeconds f_emptySeconds) sz [.ref q_this, .int a1]) (hq_Qv (dC, dI) vwCl [(cI, .int), (cO, .array .int)] (wd_LY_reset q_this q_low q_high q_loadedSeconds q_emptySeconds qr_emptySeconds cI cO n_v_tanks n_f_low n_f_high n_f_loadedSeconds n_f_emptySeconds) (va_A (wd_LY_reset q_this q_low q_high q_loadedSeconds q_emptySeconds qr_emptySeconds cI cO v_tanks f_low f_high f_loadedSeconds f_emptySeconds) sz)) 0 0 (va_A (wd_LY_reset q_this q_low q_high q_loadedSeconds q_emptySeconds qr_emptySeconds cI cO v_tanks f_low f_high f_loadedSeconds f_emptySeconds) sz) := by
  refine hq_met (Qc := (hq_Qv (dC, dI) vwCl [(cI, .int), (cO, .array .int)] (wd_LY_reset q_this q_low q_high q_loadedSeconds q_emptySeconds qr_emptySeconds cI cO n_v_tanks n_f_low n_f_high n_f_loadedSeconds n_f_emptySeconds))) (cc := b_LY_reset) (maxL := 3) (ret := none) (by decide) rfl (Nat.le_of_ble_eq_true rfl) ?_
  intro p e s m args below meth c A ls hx hb hr hml hts hown hlocks hnm hP hD hK hA hS hl
  have hts : ∀ w ∈ tb0, w.before args s = true := fun w h => hts w (List.mem_cons_of_mem _ h)
  have hown : s.vm.findClass R_LY = some m.cls := hown
  have hl : lv_has ls 3 [(0, .ref q_this), (1, .int a1)] := hl
  unfold fn_LY_reset at hF
  refine lv_aload_n hx hb d_LY_reset_0 rfl (lv_at hl 0 rfl) ?_
  refine lv_iload_n hx hb d_LY_reset_1 rfl (lv_at hl 1 rfl) ?_
  refine va_put (D := (dC, dI)) (ci := 0) (v := .int a1) (ty := .int) (C := R_LY) (T := F_LY) (N := 5) hx hb hts uw_LY t_LY t_LY_ok n_LY hown hK hP hD hS 0 rfl rfl 0 (by decide) (hts _ tw_0) (fun _ h9 => h9) rfl (by decide +kernel) rfl rfl (Nat.le_of_ble_eq_true rfl) d_LY_reset_2 (fun H locs hP hD hS => ?_)
  have hP : va_P (dC, dI) vwCl (wd_LY_reset q_this q_low q_high q_loadedSeconds q_emptySeconds qr_emptySeconds cI cO a1 f_low f_high f_loadedSeconds f_emptySeconds) H := hP
  have hD : va_D A (wd_LY_reset q_this q_low q_high q_loadedSeconds q_emptySeconds qr_emptySeconds cI cO a1 f_low f_high f_loadedSeconds f_emptySeconds) := hD
  refine lv_aload_n hx hb d_LY_reset_5 rfl (lv_at hl 0 rfl) ?_
  refine va_get (D := (dC, dI)) (ci := 0) (v := .ref q_low) (C := R_LY) (T := F_LY) (N := 5) hx hb hts uw_LY hown hK hP 0 rfl rfl 1 (by decide) (hts _ tw_1) (fun _ h9 => h9) rfl d_LY_reset_6 ?_
  refine lv_iconst (v := 0) hx hb d_LY_reset_9 (by decide) ?_
  obtain ⟨s1_f_p0, hc1, hF⟩ := ox_clS hF
  refine hq_cv (ws' := (wd_LY_reset q_this q_low q_high q_loadedSeconds q_emptySeconds qr_emptySeconds cI cO a1 s1_f_p0 f_high f_loadedSeconds f_emptySeconds)) (hq_rS (As := [.ref q_low, .int 0]) (rest := []) ⟨hx, hb, hml, hown, hts⟩ (c_AR_fill l dC dI q_low cI 6 _ z 0 f_low s1_f_p0 hc1) ⟨callB_of 2 hts (hq_g1 tw_5) rfl rfl rfl (hts _ tw_4) (hts _ tw_2) yd_AR_fill ⟨Nat.le_of_ble_eq_true rfl, Nat.le_of_ble_eq_true rfl⟩, hts _ tw_3⟩ hP hD hK [0] rfl [1] rfl rfl rfl hl.1 rfl (Nat.le_of_ble_eq_true rfl) d_LY_reset_10 ⟨Nat.zero_le _, Nat.zero_le _⟩) hP hD hS hA [1] [0, 2, 3, 4, 5, 6, 7, 8, 9, 10, 11] [0, 11, 1, 2, 3, 4, 5, 6, 7, 8, 9, 10] rfl rfl rfl (by decide) rfl rfl (fun H locs hP hD hS => ?_)
  refine lv_aload_n hx hb d_LY_reset_13 rfl (lv_at hl 0 rfl) ?_
  refine va_get (D := (dC, dI)) (ci := 0) (v := .ref q_high) (C := R_LY) (T := F_LY) (N := 5) hx hb hts uw_LY hown hK hP 0 rfl rfl 2 (by decide) (hts _ tw_6) (fun _ h9 => h9) rfl d_LY_reset_14 ?_
  refine lv_sipush (v := 500) hx hb d_LY_reset_17 (by decide) ?_
  obtain ⟨s2_f_p0, hc2, hF⟩ := ox_clS hF
  refine hq_cv (ws' := (wd_LY_reset q_this q_low q_high q_loadedSeconds q_emptySeconds qr_emptySeconds cI cO a1 s1_f_p0 s2_f_p0 f_loadedSeconds f_emptySeconds)) (hq_rS (As := [.ref q_high, .int 500]) (rest := []) ⟨hx, hb, hml, hown, hts⟩ (c_AR_fill l dC dI q_high cI 6 _ z 500 f_high s2_f_p0 hc2) ⟨callB_of 2 hts (hq_g1 tw_5) rfl rfl rfl (hts _ tw_4) (hts _ tw_2) yd_AR_fill ⟨Nat.le_of_ble_eq_true rfl, Nat.le_of_ble_eq_true rfl⟩, hts _ tw_3⟩ hP hD hK [0] rfl [2] rfl rfl rfl hl.1 rfl (Nat.le_of_ble_eq_true rfl) d_LY_reset_20 ⟨Nat.zero_le _, Nat.zero_le _⟩) hP hD hS hA [2] [0, 1, 3, 4, 5, 6, 7, 8, 9, 10, 11] [0, 1, 11, 2, 3, 4, 5, 6, 7, 8, 9, 10] rfl rfl rfl (by decide) rfl rfl (fun H locs hP hD hS => ?_)
  refine lv_aload_n hx hb d_LY_reset_23 rfl (lv_at hl 0 rfl) ?_
  refine va_get (D := (dC, dI)) (ci := 0) (v := .ref q_loadedSeconds) (C := R_LY) (T := F_LY) (N := 5) hx hb hts uw_LY hown hK hP 0 rfl rfl 3 (by decide) (hts _ tw_7) (fun _ h9 => h9) rfl d_LY_reset_24 ?_
  refine lv_bipush (v := 10) hx hb d_LY_reset_27 (by decide) ?_
  obtain ⟨s3_f_p0, hc3, hF⟩ := ox_clS hF
  refine hq_cv (ws' := (wd_LY_reset q_this q_low q_high q_loadedSeconds q_emptySeconds qr_emptySeconds cI cO a1 s1_f_p0 s2_f_p0 s3_f_p0 f_emptySeconds)) (hq_rS (As := [.ref q_loadedSeconds, .int 10]) (rest := []) ⟨hx, hb, hml, hown, hts⟩ (c_AR_fill l dC dI q_loadedSeconds cI 6 _ z 10 f_loadedSeconds s3_f_p0 hc3) ⟨callB_of 2 hts (hq_g1 tw_5) rfl rfl rfl (hts _ tw_4) (hts _ tw_2) yd_AR_fill ⟨Nat.le_of_ble_eq_true rfl, Nat.le_of_ble_eq_true rfl⟩, hts _ tw_3⟩ hP hD hK [0] rfl [3] rfl rfl rfl hl.1 rfl (Nat.le_of_ble_eq_true rfl) d_LY_reset_29 ⟨Nat.zero_le _, Nat.zero_le _⟩) hP hD hS hA [3] [0, 1, 2, 4, 5, 6, 7, 8, 9, 10, 11] [0, 1, 2, 11, 3, 4, 5, 6, 7, 8, 9, 10] rfl rfl rfl (by decide) rfl rfl (fun H locs hP hD hS => ?_)
  refine lv_iconst (v := 0) hx hb d_LY_reset_32 (by decide) ?_
  refine lv_istore_n (lv' := [(2, .int 0), (0, .ref q_this), (1, .int a1)]) hx hb d_LY_reset_33 rfl hl (by decide) rfl (fun ls hl => ?_)
  refine lv_iload_n hx hb d_LY_reset_34 rfl (lv_at hl 0 rfl) ?_
  refine lv_bipush (v := 7) hx hb d_LY_reset_35 (by decide) ?_
  refine lv_icmp_ge (tgt := 56) hx hb d_LY_reset_37 (by decide) (fun h => absurd h (by decide)) (fun _ => ?_)
  refine lv_aload_n hx hb d_LY_reset_40 rfl (lv_at hl 1 rfl) ?_
  refine va_get (D := (dC, dI)) (ci := 0) (v := .ref q_emptySeconds) (C := R_LY) (T := F_LY) (N := 5) hx hb hts uw_LY hown hK hP 0 rfl rfl 4 (by decide) (hts _ tw_8) (fun _ h9 => h9) rfl d_LY_reset_41 ?_
  refine lv_iload_n hx hb d_LY_reset_44 rfl (lv_at hl 0 rfl) ?_
  have hin : vp_in 0 7 := by unfold vp_in; decide
  refine hq_gld (qr := qr_emptySeconds) hx hb hK hP 4 1 rfl rfl hin d_LY_reset_45 ?_
  have hro45 := hq_lt hin
  refine lv_iconst (v := 0) hx hb d_LY_reset_46 (by decide) ?_
  obtain ⟨s4_f_p0, hc4, hF⟩ := ox_clS hF
  refine hq_cv (ws' := (wd_LY_reset q_this q_low q_high q_loadedSeconds q_emptySeconds qr_emptySeconds cI cO a1 s1_f_p0 s2_f_p0 s3_f_p0 (va_up f_emptySeconds 0 s4_f_p0))) (hq_rS (As := [.ref (qr_emptySeconds 0), .int 0]) (rest := []) ⟨hx, hb, hml, hown, hts⟩ (c_AR_fill l dC dI (qr_emptySeconds 0) cI 7 _ z 0 (f_emptySeconds 0) s4_f_p0 hc4) ⟨callB_of 2 hts (hq_g1 tw_5) rfl rfl rfl (hts _ tw_4) (hts _ tw_2) yd_AR_fill ⟨Nat.le_of_ble_eq_true rfl, Nat.le_of_ble_eq_true rfl⟩, hts _ tw_3⟩ hP hD hK [0] rfl [5] rfl rfl rfl hl.1 rfl (Nat.le_of_ble_eq_true rfl) d_LY_reset_47 ⟨Nat.zero_le _, Nat.zero_le _⟩) hP hD hS hA [5] [0, 1, 2, 3, 4, 6, 7, 8, 9, 10, 11] [0, 1, 2, 3, 4, 11, 5, 6, 7, 8, 9, 10] rfl rfl rfl (by decide) rfl rfl (fun H locs hP hD hS => ?_)
  refine lv_iinc (v := 1) (lv' := [(2, .int 1), (0, .ref q_this), (1, .int a1)]) hx hb d_LY_reset_50 hl (k := 0) rfl rfl (by decide) rfl (fun ls hl => ?_)
  refine lv_goto (tgt := 34) hx hb d_LY_reset_53 (by decide) ?_
  refine lv_iload_n hx hb d_LY_reset_34 rfl (lv_at hl 0 rfl) ?_
  refine lv_bipush (v := 7) hx hb d_LY_reset_35 (by decide) ?_
  refine lv_icmp_ge (tgt := 56) hx hb d_LY_reset_37 (by decide) (fun h => absurd h (by decide)) (fun _ => ?_)
  refine lv_aload_n hx hb d_LY_reset_40 rfl (lv_at hl 1 rfl) ?_
  refine va_get (D := (dC, dI)) (ci := 0) (v := .ref q_emptySeconds) (C := R_LY) (T := F_LY) (N := 5) hx hb hts uw_LY hown hK hP 0 rfl rfl 4 (by decide) (hts _ tw_8) (fun _ h9 => h9) rfl d_LY_reset_41 ?_
  refine lv_iload_n hx hb d_LY_reset_44 rfl (lv_at hl 0 rfl) ?_
  have hin : vp_in 1 7 := by unfold vp_in; decide
  refine hq_gld (qr := qr_emptySeconds) hx hb hK hP 4 1 rfl rfl hin d_LY_reset_45 ?_
  have hro45 := hq_lt hin
  refine lv_iconst (v := 0) hx hb d_LY_reset_46 (by decide) ?_
  obtain ⟨s5_f_p0, hc5, hF⟩ := ox_clS hF
  refine hq_cv (ws' := (wd_LY_reset q_this q_low q_high q_loadedSeconds q_emptySeconds qr_emptySeconds cI cO a1 s1_f_p0 s2_f_p0 s3_f_p0 (va_up (va_up f_emptySeconds 0 s4_f_p0) 1 s5_f_p0))) (hq_rS (As := [.ref (qr_emptySeconds 1), .int 0]) (rest := []) ⟨hx, hb, hml, hown, hts⟩ (c_AR_fill l dC dI (qr_emptySeconds 1) cI 7 _ z 0 ((va_up f_emptySeconds 0 s4_f_p0) 1) s5_f_p0 hc5) ⟨callB_of 2 hts (hq_g1 tw_5) rfl rfl rfl (hts _ tw_4) (hts _ tw_2) yd_AR_fill ⟨Nat.le_of_ble_eq_true rfl, Nat.le_of_ble_eq_true rfl⟩, hts _ tw_3⟩ hP hD hK [0] rfl [6] rfl rfl rfl hl.1 rfl (Nat.le_of_ble_eq_true rfl) d_LY_reset_47 ⟨Nat.zero_le _, Nat.zero_le _⟩) hP hD hS hA [6] [0, 1, 2, 3, 4, 5, 7, 8, 9, 10, 11] [0, 1, 2, 3, 4, 5, 11, 6, 7, 8, 9, 10] rfl rfl rfl (by decide) rfl rfl (fun H locs hP hD hS => ?_)
  refine lv_iinc (v := 2) (lv' := [(2, .int 2), (0, .ref q_this), (1, .int a1)]) hx hb d_LY_reset_50 hl (k := 0) rfl rfl (by decide) rfl (fun ls hl => ?_)
  refine lv_goto (tgt := 34) hx hb d_LY_reset_53 (by decide) ?_
  refine lv_iload_n hx hb d_LY_reset_34 rfl (lv_at hl 0 rfl) ?_
  refine lv_bipush (v := 7) hx hb d_LY_reset_35 (by decide) ?_
  refine lv_icmp_ge (tgt := 56) hx hb d_LY_reset_37 (by decide) (fun h => absurd h (by decide)) (fun _ => ?_)
  refine lv_aload_n hx hb d_LY_reset_40 rfl (lv_at hl 1 rfl) ?_
  refine va_get (D := (dC, dI)) (ci := 0) (v := .ref q_emptySeconds) (C := R_LY) (T := F_LY) (N := 5) hx hb hts uw_LY hown hK hP 0 rfl rfl 4 (by decide) (hts _ tw_8) (fun _ h9 => h9) rfl d_LY_reset_41 ?_
  refine lv_iload_n hx hb d_LY_reset_44 rfl (lv_at hl 0 rfl) ?_
  have hin : vp_in 2 7 := by unfold vp_in; decide
  refine hq_gld (qr := qr_emptySeconds) hx hb hK hP 4 1 rfl rfl hin d_LY_reset_45 ?_
  have hro45 := hq_lt hin
  refine lv_iconst (v := 0) hx hb d_LY_reset_46 (by decide) ?_
  obtain ⟨s6_f_p0, hc6, hF⟩ := ox_clS hF
  refine hq_cv (ws' := (wd_LY_reset q_this q_low q_high q_loadedSeconds q_emptySeconds qr_emptySeconds cI cO a1 s1_f_p0 s2_f_p0 s3_f_p0 (va_up (va_up (va_up f_emptySeconds 0 s4_f_p0) 1 s5_f_p0) 2 s6_f_p0))) (hq_rS (As := [.ref (qr_emptySeconds 2), .int 0]) (rest := []) ⟨hx, hb, hml, hown, hts⟩ (c_AR_fill l dC dI (qr_emptySeconds 2) cI 7 _ z 0 ((va_up (va_up f_emptySeconds 0 s4_f_p0) 1 s5_f_p0) 2) s6_f_p0 hc6) ⟨callB_of 2 hts (hq_g1 tw_5) rfl rfl rfl (hts _ tw_4) (hts _ tw_2) yd_AR_fill ⟨Nat.le_of_ble_eq_true rfl, Nat.le_of_ble_eq_true rfl⟩, hts _ tw_3⟩ hP hD hK [0] rfl [7] rfl rfl rfl hl.1 rfl (Nat.le_of_ble_eq_true rfl) d_LY_reset_47 ⟨Nat.zero_le _, Nat.zero_le _⟩) hP hD hS hA [7] [0, 1, 2, 3, 4, 5, 6, 8, 9, 10, 11] [0, 1, 2, 3, 4, 5, 6, 11, 7, 8, 9, 10] rfl rfl rfl (by decide) rfl rfl (fun H locs hP hD hS => ?_)
  refine lv_iinc (v := 3) (lv' := [(2, .int 3), (0, .ref q_this), (1, .int a1)]) hx hb d_LY_reset_50 hl (k := 0) rfl rfl (by decide) rfl (fun ls hl => ?_)
  refine lv_goto (tgt := 34) hx hb d_LY_reset_53 (by decide) ?_
  refine lv_iload_n hx hb d_LY_reset_34 rfl (lv_at hl 0 rfl) ?_
  refine lv_bipush (v := 7) hx hb d_LY_reset_35 (by decide) ?_
  refine lv_icmp_ge (tgt := 56) hx hb d_LY_reset_37 (by decide) (fun h => absurd h (by decide)) (fun _ => ?_)
  refine lv_aload_n hx hb d_LY_reset_40 rfl (lv_at hl 1 rfl) ?_
  refine va_get (D := (dC, dI)) (ci := 0) (v := .ref q_emptySeconds) (C := R_LY) (T := F_LY) (N := 5) hx hb hts uw_LY hown hK hP 0 rfl rfl 4 (by decide) (hts _ tw_8) (fun _ h9 => h9) rfl d_LY_reset_41 ?_
  refine lv_iload_n hx hb d_LY_reset_44 rfl (lv_at hl 0 rfl) ?_
  have hin : vp_in 3 7 := by unfold vp_in; decide
  refine hq_gld (qr := qr_emptySeconds) hx hb hK hP 4 1 rfl rfl hin d_LY_reset_45 ?_
  have hro45 := hq_lt hin
  refine lv_iconst (v := 0) hx hb d_LY_reset_46 (by decide) ?_
  obtain ⟨s7_f_p0, hc7, hF⟩ := ox_clS hF
  refine hq_cv (ws' := (wd_LY_reset q_this q_low q_high q_loadedSeconds q_emptySeconds qr_emptySeconds cI cO a1 s1_f_p0 s2_f_p0 s3_f_p0 (va_up (va_up (va_up (va_up f_emptySeconds 0 s4_f_p0) 1 s5_f_p0) 2 s6_f_p0) 3 s7_f_p0))) (hq_rS (As := [.ref (qr_emptySeconds 3), .int 0]) (rest := []) ⟨hx, hb, hml, hown, hts⟩ (c_AR_fill l dC dI (qr_emptySeconds 3) cI 7 _ z 0 ((va_up (va_up (va_up f_emptySeconds 0 s4_f_p0) 1 s5_f_p0) 2 s6_f_p0) 3) s7_f_p0 hc7) ⟨callB_of 2 hts (hq_g1 tw_5) rfl rfl rfl (hts _ tw_4) (hts _ tw_2) yd_AR_fill ⟨Nat.le_of_ble_eq_true rfl, Nat.le_of_ble_eq_true rfl⟩, hts _ tw_3⟩ hP hD hK [0] rfl [8] rfl rfl rfl hl.1 rfl (Nat.le_of_ble_eq_true rfl) d_LY_reset_47 ⟨Nat.zero_le _, Nat.zero_le _⟩) hP hD hS hA [8] [0, 1, 2, 3, 4, 5, 6, 7, 9, 10, 11] [0, 1, 2, 3, 4, 5, 6, 7, 11, 8, 9, 10] rfl rfl rfl (by decide) rfl rfl (fun H locs hP hD hS => ?_)
  refine lv_iinc (v := 4) (lv' := [(2, .int 4), (0, .ref q_this), (1, .int a1)]) hx hb d_LY_reset_50 hl (k := 0) rfl rfl (by decide) rfl (fun ls hl => ?_)
  refine lv_goto (tgt := 34) hx hb d_LY_reset_53 (by decide) ?_
  refine lv_iload_n hx hb d_LY_reset_34 rfl (lv_at hl 0 rfl) ?_
  refine lv_bipush (v := 7) hx hb d_LY_reset_35 (by decide) ?_
  refine lv_icmp_ge (tgt := 56) hx hb d_LY_reset_37 (by decide) (fun h => absurd h (by decide)) (fun _ => ?_)
  refine lv_aload_n hx hb d_LY_reset_40 rfl (lv_at hl 1 rfl) ?_
  refine va_get (D := (dC, dI)) (ci := 0) (v := .ref q_emptySeconds) (C := R_LY) (T := F_LY) (N := 5) hx hb hts uw_LY hown hK hP 0 rfl rfl 4 (by decide) (hts _ tw_8) (fun _ h9 => h9) rfl d_LY_reset_41 ?_
  refine lv_iload_n hx hb d_LY_reset_44 rfl (lv_at hl 0 rfl) ?_
  have hin : vp_in 4 7 := by unfold vp_in; decide
  refine hq_gld (qr := qr_emptySeconds) hx hb hK hP 4 1 rfl rfl hin d_LY_reset_45 ?_
  have hro45 := hq_lt hin
  refine lv_iconst (v := 0) hx hb d_LY_reset_46 (by decide) ?_
  obtain ⟨s8_f_p0, hc8, hF⟩ := ox_clS hF
  refine hq_cv (ws' := (wd_LY_reset q_this q_low q_high q_loadedSeconds q_emptySeconds qr_emptySeconds cI cO a1 s1_f_p0 s2_f_p0 s3_f_p0 (va_up (va_up (va_up (va_up (va_up f_emptySeconds 0 s4_f_p0) 1 s5_f_p0) 2 s6_f_p0) 3 s7_f_p0) 4 s8_f_p0))) (hq_rS (As := [.ref (qr_emptySeconds 4), .int 0]) (rest := []) ⟨hx, hb, hml, hown, hts⟩ (c_AR_fill l dC dI (qr_emptySeconds 4) cI 7 _ z 0 ((va_up (va_up (va_up (va_up f_emptySeconds 0 s4_f_p0) 1 s5_f_p0) 2 s6_f_p0) 3 s7_f_p0) 4) s8_f_p0 hc8) ⟨callB_of 2 hts (hq_g1 tw_5) rfl rfl rfl (hts _ tw_4) (hts _ tw_2) yd_AR_fill ⟨Nat.le_of_ble_eq_true rfl, Nat.le_of_ble_eq_true rfl⟩, hts _ tw_3⟩ hP hD hK [0] rfl [9] rfl rfl rfl hl.1 rfl (Nat.le_of_ble_eq_true rfl) d_LY_reset_47 ⟨Nat.zero_le _, Nat.zero_le _⟩) hP hD hS hA [9] [0, 1, 2, 3, 4, 5, 6, 7, 8, 10, 11] [0, 1, 2, 3, 4, 5, 6, 7, 8, 11, 9, 10] rfl rfl rfl (by decide) rfl rfl (fun H locs hP hD hS => ?_)
  refine lv_iinc (v := 5) (lv' := [(2, .int 5), (0, .ref q_this), (1, .int a1)]) hx hb d_LY_reset_50 hl (k := 0) rfl rfl (by decide) rfl (fun ls hl => ?_)
  refine lv_goto (tgt := 34) hx hb d_LY_reset_53 (by decide) ?_
  refine lv_iload_n hx hb d_LY_reset_34 rfl (lv_at hl 0 rfl) ?_
  refine lv_bipush (v := 7) hx hb d_LY_reset_35 (by decide) ?_
  refine lv_icmp_ge (tgt := 56) hx hb d_LY_reset_37 (by decide) (fun h => absurd h (by decide)) (fun _ => ?_)
  refine lv_aload_n hx hb d_LY_reset_40 rfl (lv_at hl 1 rfl) ?_
  refine va_get (D := (dC, dI)) (ci := 0) (v := .ref q_emptySeconds) (C := R_LY) (T := F_LY) (N := 5) hx hb hts uw_LY hown hK hP 0 rfl rfl 4 (by decide) (hts _ tw_8) (fun _ h9 => h9) rfl d_LY_reset_41 ?_
  refine lv_iload_n hx hb d_LY_reset_44 rfl (lv_at hl 0 rfl) ?_
  have hin : vp_in 5 7 := by unfold vp_in; decide
  refine hq_gld (qr := qr_emptySeconds) hx hb hK hP 4 1 rfl rfl hin d_LY_reset_45 ?_
  have hro45 := hq_lt hin
  refine lv_iconst (v := 0) hx hb d_LY_reset_46 (by decide) ?_
  obtain ⟨s9_f_p0, hc9, hF⟩ := ox_clS hF
  refine hq_cv (ws' := (wd_LY_reset q_this q_low q_high q_loadedSeconds q_emptySeconds qr_emptySeconds cI cO a1 s1_f_p0 s2_f_p0 s3_f_p0 (va_up (va_up (va_up (va_up (va_up (va_up f_emptySeconds 0 s4_f_p0) 1 s5_f_p0) 2 s6_f_p0) 3 s7_f_p0) 4 s8_f_p0) 5 s9_f_p0))) (hq_rS (As := [.ref (qr_emptySeconds 5), .int 0]) (rest := []) ⟨hx, hb, hml, hown, hts⟩ (c_AR_fill l dC dI (qr_emptySeconds 5) cI 7 _ z 0 ((va_up (va_up (va_up (va_up (va_up f_emptySeconds 0 s4_f_p0) 1 s5_f_p0) 2 s6_f_p0) 3 s7_f_p0) 4 s8_f_p0) 5) s9_f_p0 hc9) ⟨callB_of 2 hts (hq_g1 tw_5) rfl rfl rfl (hts _ tw_4) (hts _ tw_2) yd_AR_fill ⟨Nat.le_of_ble_eq_true rfl, Nat.le_of_ble_eq_true rfl⟩, hts _ tw_3⟩ hP hD hK [0] rfl [10] rfl rfl rfl hl.1 rfl (Nat.le_of_ble_eq_true rfl) d_LY_reset_47 ⟨Nat.zero_le _, Nat.zero_le _⟩) hP hD hS hA [10] [0, 1, 2, 3, 4, 5, 6, 7, 8, 9, 11] [0, 1, 2, 3, 4, 5, 6, 7, 8, 9, 11, 10] rfl rfl rfl (by decide) rfl rfl (fun H locs hP hD hS => ?_)
  refine lv_iinc (v := 6) (lv' := [(2, .int 6), (0, .ref q_this), (1, .int a1)]) hx hb d_LY_reset_50 hl (k := 0) rfl rfl (by decide) rfl (fun ls hl => ?_)
  refine lv_goto (tgt := 34) hx hb d_LY_reset_53 (by decide) ?_
  refine lv_iload_n hx hb d_LY_reset_34 rfl (lv_at hl 0 rfl) ?_
  refine lv_bipush (v := 7) hx hb d_LY_reset_35 (by decide) ?_
  refine lv_icmp_ge (tgt := 56) hx hb d_LY_reset_37 (by decide) (fun h => absurd h (by decide)) (fun _ => ?_)
  refine lv_aload_n hx hb d_LY_reset_40 rfl (lv_at hl 1 rfl) ?_
  refine va_get (D := (dC, dI)) (ci := 0) (v := .ref q_emptySeconds) (C := R_LY) (T := F_LY) (N := 5) hx hb hts uw_LY hown hK hP 0 rfl rfl 4 (by decide) (hts _ tw_8) (fun _ h9 => h9) rfl d_LY_reset_41 ?_
  refine lv_iload_n hx hb d_LY_reset_44 rfl (lv_at hl 0 rfl) ?_
  have hin : vp_in 6 7 := by unfold vp_in; decide
  refine hq_gld (qr := qr_emptySeconds) hx hb hK hP 4 1 rfl rfl hin d_LY_reset_45 ?_
  have hro45 := hq_lt hin
  refine lv_iconst (v := 0) hx hb d_LY_reset_46 (by decide) ?_
  obtain ⟨s10_f_p0, hc10, hF⟩ := ox_clS hF
  refine hq_cv (ws' := (wd_LY_reset q_this q_low q_high q_loadedSeconds q_emptySeconds qr_emptySeconds cI cO a1 s1_f_p0 s2_f_p0 s3_f_p0 (va_up (va_up (va_up (va_up (va_up (va_up (va_up f_emptySeconds 0 s4_f_p0) 1 s5_f_p0) 2 s6_f_p0) 3 s7_f_p0) 4 s8_f_p0) 5 s9_f_p0) 6 s10_f_p0))) (hq_rS (As := [.ref (qr_emptySeconds 6), .int 0]) (rest := []) ⟨hx, hb, hml, hown, hts⟩ (c_AR_fill l dC dI (qr_emptySeconds 6) cI 7 _ z 0 ((va_up (va_up (va_up (va_up (va_up (va_up f_emptySeconds 0 s4_f_p0) 1 s5_f_p0) 2 s6_f_p0) 3 s7_f_p0) 4 s8_f_p0) 5 s9_f_p0) 6) s10_f_p0 hc10) ⟨callB_of 2 hts (hq_g1 tw_5) rfl rfl rfl (hts _ tw_4) (hts _ tw_2) yd_AR_fill ⟨Nat.le_of_ble_eq_true rfl, Nat.le_of_ble_eq_true rfl⟩, hts _ tw_3⟩ hP hD hK [0] rfl [11] rfl rfl rfl hl.1 rfl (Nat.le_of_ble_eq_true rfl) d_LY_reset_47 ⟨Nat.zero_le _, Nat.zero_le _⟩) hP hD hS hA [11] [0, 1, 2, 3, 4, 5, 6, 7, 8, 9, 10] [0, 1, 2, 3, 4, 5, 6, 7, 8, 9, 10, 11] rfl rfl rfl (by decide) rfl rfl (fun H locs hP hD hS => ?_)
  refine lv_iinc (v := 7) (lv' := [(2, .int 7), (0, .ref q_this), (1, .int a1)]) hx hb d_LY_reset_50 hl (k := 0) rfl rfl (by decide) rfl (fun ls hl => ?_)
  refine lv_goto (tgt := 34) hx hb d_LY_reset_53 (by decide) ?_
  refine lv_iload_n hx hb d_LY_reset_34 rfl (lv_at hl 0 rfl) ?_
  refine lv_bipush (v := 7) hx hb d_LY_reset_35 (by decide) ?_
  refine lv_icmp_ge (tgt := 56) hx hb d_LY_reset_37 (by decide) (fun _ => ?_) (fun h => absurd (by decide) h)
  cases hF
  exact hq_vret hx hb hr hlocks hP hD hK hS d_LY_reset_56
abbrev wd_LY_hasTank (q_this : Nat) (q_low : Nat) (q_high : Nat) (q_loadedSeconds : Nat) (q_emptySeconds : Nat) (v_tanks : Int32) : va_W := [(q_this, .inr (0, [.int v_tanks, .ref q_low, .ref q_high, .ref q_loadedSeconds, .ref q_emptySeconds]))]
set_option maxHeartbeats 4000000 in
set_option maxRecDepth 100000 in
theorem c_LY_hasTank (l : Launch) (dC : Nat → ClassId) (dI : Nat → Nat → Nat) (q_this : Nat) (q_low : Nat) (q_high : Nat) (q_loadedSeconds : Nat) (q_emptySeconds : Nat) (sz : Nat) (a1 : Int32) (v_tanks : Int32) (rr : Int32) (hF : fn_LY_hasTank a1 v_tanks = some rr) : Met l y_LY_hasTank w_LY_hasTank ({ frames := 0, cells := 0, slots := 0, locals := 0 }) (hq_Pc (dC, dI) vwCl [] (wd_LY_hasTank q_this q_low q_high q_loadedSeconds q_emptySeconds v_tanks) sz [.ref q_this, .int a1]) (hq_Qi (dC, dI) vwCl [] (wd_LY_hasTank q_this q_low q_high q_loadedSeconds q_emptySeconds v_tanks) rr (va_A (wd_LY_hasTank q_this q_low q_high q_loadedSeconds q_emptySeconds v_tanks) sz)) 0 0 (va_A (wd_LY_hasTank q_this q_low q_high q_loadedSeconds q_emptySeconds v_tanks) sz) := by
  refine hq_met (Qc := (hq_Qi (dC, dI) vwCl [] (wd_LY_hasTank q_this q_low q_high q_loadedSeconds q_emptySeconds v_tanks) rr)) (cc := b_LY_hasTank) (maxL := 2) (ret := some .boolean) (by decide) rfl (Nat.le_of_ble_eq_true rfl) ?_
  intro p e s m args below meth c A ls hx hb hr hml hts hown hlocks hnm hP hD hK hA hS hl
  have hts : ∀ w ∈ tb0, w.before args s = true := fun w h => hts w (List.mem_cons_of_mem _ h)
  have hown : s.vm.findClass R_LY = some m.cls := hown
  have hl : lv_has ls 2 [(0, .ref q_this), (1, .int a1)] := hl
  unfold fn_LY_hasTank at hF
  refine lv_iconst (v := 1) hx hb d_LY_hasTank_0 (by decide) ?_
  refine lv_iload_n hx hb d_LY_hasTank_1 rfl (lv_at hl 1 rfl) ?_
  refine lv_icmp_gt (tgt := 17) hx hb d_LY_hasTank_2 (by decide) (fun hb1 => ?_) (fun hb1 => ?_)
  · have hF := ox_t hF hb1
    refine lv_iconst (v := 0) hx hb d_LY_hasTank_17 (by decide) ?_
    cases hF
    exact hq_zret hx hb hr (by decide) hlocks hP hD hK hS d_LY_hasTank_18
  · have hF := ox_f hF hb1
    refine lv_iload_n hx hb d_LY_hasTank_5 rfl (lv_at hl 1 rfl) ?_
    refine lv_aload_n hx hb d_LY_hasTank_6 rfl (lv_at hl 0 rfl) ?_
    refine va_get (D := (dC, dI)) (ci := 0) (v := .int v_tanks) (C := R_LY) (T := F_LY) (N := 5) hx hb hts uw_LY hown hK hP 0 rfl rfl 0 (by decide) (hts _ tw_0) (fun _ h9 => h9) rfl d_LY_hasTank_7 ?_
    refine lv_icmp_gt (tgt := 17) hx hb d_LY_hasTank_10 (by decide) (fun hb2 => ?_) (fun hb2 => ?_)
    · have hF := ox_t hF hb2
      refine lv_iconst (v := 0) hx hb d_LY_hasTank_17 (by decide) ?_
      cases hF
      exact hq_zret hx hb hr (by decide) hlocks hP hD hK hS d_LY_hasTank_18
    · have hF := ox_f hF hb2
      refine lv_iconst (v := 1) hx hb d_LY_hasTank_13 (by decide) ?_
      refine lv_goto (tgt := 18) hx hb d_LY_hasTank_14 (by decide) ?_
      cases hF
      exact hq_zret hx hb hr (by decide) hlocks hP hD hK hS d_LY_hasTank_18
abbrev wd_LY_hasMove (q_this : Nat) (q_low : Nat) (q_high : Nat) (q_loadedSeconds : Nat) (q_emptySeconds : Nat) (v_tanks : Int32) : va_W := [(q_this, .inr (0, [.int v_tanks, .ref q_low, .ref q_high, .ref q_loadedSeconds, .ref q_emptySeconds]))]
set_option maxHeartbeats 4000000 in
set_option maxRecDepth 100000 in
theorem c_LY_hasMove (l : Launch) (dC : Nat → ClassId) (dI : Nat → Nat → Nat) (q_this : Nat) (q_low : Nat) (q_high : Nat) (q_loadedSeconds : Nat) (q_emptySeconds : Nat) (sz : Nat) (a1 : Int32) (v_tanks : Int32) (rr : Int32) (hF : fn_LY_hasMove a1 v_tanks = some rr) : Met l y_LY_hasMove w_LY_hasMove ({ frames := 0, cells := 0, slots := 0, locals := 0 }) (hq_Pc (dC, dI) vwCl [] (wd_LY_hasMove q_this q_low q_high q_loadedSeconds q_emptySeconds v_tanks) sz [.ref q_this, .int a1]) (hq_Qi (dC, dI) vwCl [] (wd_LY_hasMove q_this q_low q_high q_loadedSeconds q_emptySeconds v_tanks) rr (va_A (wd_LY_hasMove q_this q_low q_high q_loadedSeconds q_emptySeconds v_tanks) sz)) 0 0 (va_A (wd_LY_hasMove q_this q_low q_high q_loadedSeconds q_emptySeconds v_tanks) sz) := by
  refine hq_met (Qc := (hq_Qi (dC, dI) vwCl [] (wd_LY_hasMove q_this q_low q_high q_loadedSeconds q_emptySeconds v_tanks) rr)) (cc := b_LY_hasMove) (maxL := 2) (ret := some .boolean) (by decide) rfl (Nat.le_of_ble_eq_true rfl) ?_
  intro p e s m args below meth c A ls hx hb hr hml hts hown hlocks hnm hP hD hK hA hS hl
  have hts : ∀ w ∈ tb0, w.before args s = true := fun w h => hts w (List.mem_cons_of_mem _ h)
  have hown : s.vm.findClass R_LY = some m.cls := hown
  have hl : lv_has ls 2 [(0, .ref q_this), (1, .int a1)] := hl
  unfold fn_LY_hasMove at hF
  refine lv_iconst (v := 0) hx hb d_LY_hasMove_0 (by decide) ?_
  refine lv_iload_n hx hb d_LY_hasMove_1 rfl (lv_at hl 1 rfl) ?_
  refine lv_icmp_gt (tgt := 17) hx hb d_LY_hasMove_2 (by decide) (fun hb1 => ?_) (fun hb1 => ?_)
  · have hF := ox_t hF hb1
    refine lv_iconst (v := 0) hx hb d_LY_hasMove_17 (by decide) ?_
    cases hF
    exact hq_zret hx hb hr (by decide) hlocks hP hD hK hS d_LY_hasMove_18
  · have hF := ox_f hF hb1
    refine lv_iload_n hx hb d_LY_hasMove_5 rfl (lv_at hl 1 rfl) ?_
    refine lv_aload_n hx hb d_LY_hasMove_6 rfl (lv_at hl 0 rfl) ?_
    refine va_get (D := (dC, dI)) (ci := 0) (v := .int v_tanks) (C := R_LY) (T := F_LY) (N := 5) hx hb hts uw_LY hown hK hP 0 rfl rfl 0 (by decide) (hts _ tw_0) (fun _ h9 => h9) rfl d_LY_hasMove_7 ?_
    refine lv_icmp_gt (tgt := 17) hx hb d_LY_hasMove_10 (by decide) (fun hb2 => ?_) (fun hb2 => ?_)
    · have hF := ox_t hF hb2
      refine lv_iconst (v := 0) hx hb d_LY_hasMove_17 (by decide) ?_
      cases hF
      exact hq_zret hx hb hr (by decide) hlocks hP hD hK hS d_LY_hasMove_18
    · have hF := ox_f hF hb2
      refine lv_iconst (v := 1) hx hb d_LY_hasMove_13 (by decide) ?_
      refine lv_goto (tgt := 18) hx hb d_LY_hasMove_14 (by decide) ?_
      cases hF
      exact hq_zret hx hb hr (by decide) hlocks hP hD hK hS d_LY_hasMove_18
abbrev wd_LY_hasPlace (q_this : Nat) (q_low : Nat) (q_high : Nat) (q_loadedSeconds : Nat) (q_emptySeconds : Nat) (v_tanks : Int32) : va_W := [(q_this, .inr (0, [.int v_tanks, .ref q_low, .ref q_high, .ref q_loadedSeconds, .ref q_emptySeconds]))]
set_option maxHeartbeats 4000000 in
set_option maxRecDepth 100000 in
theorem c_LY_hasPlace (l : Launch) (dC : Nat → ClassId) (dI : Nat → Nat → Nat) (q_this : Nat) (q_low : Nat) (q_high : Nat) (q_loadedSeconds : Nat) (q_emptySeconds : Nat) (sz : Nat) (a1 : Int32) (v_tanks : Int32) (rr : Int32) (hF : fn_LY_hasPlace a1 v_tanks = some rr) : Met l y_LY_hasPlace w_LY_hasPlace ({ frames := 0, cells := 0, slots := 0, locals := 0 }) (hq_Pc (dC, dI) vwCl [] (wd_LY_hasPlace q_this q_low q_high q_loadedSeconds q_emptySeconds v_tanks) sz [.ref q_this, .int a1]) (hq_Qi (dC, dI) vwCl [] (wd_LY_hasPlace q_this q_low q_high q_loadedSeconds q_emptySeconds v_tanks) rr (va_A (wd_LY_hasPlace q_this q_low q_high q_loadedSeconds q_emptySeconds v_tanks) sz)) 0 0 (va_A (wd_LY_hasPlace q_this q_low q_high q_loadedSeconds q_emptySeconds v_tanks) sz) := by
  refine hq_met (Qc := (hq_Qi (dC, dI) vwCl [] (wd_LY_hasPlace q_this q_low q_high q_loadedSeconds q_emptySeconds v_tanks) rr)) (cc := b_LY_hasPlace) (maxL := 2) (ret := some .boolean) (by decide) rfl (Nat.le_of_ble_eq_true rfl) ?_
  intro p e s m args below meth c A ls hx hb hr hml hts hown hlocks hnm hP hD hK hA hS hl
  have hts : ∀ w ∈ tb0, w.before args s = true := fun w h => hts w (List.mem_cons_of_mem _ h)
  have hown : s.vm.findClass R_LY = some m.cls := hown
  have hl : lv_has ls 2 [(0, .ref q_this), (1, .int a1)] := hl
  unfold fn_LY_hasPlace at hF
  refine lv_iconst (v := 0) hx hb d_LY_hasPlace_0 (by decide) ?_
  refine lv_iload_n hx hb d_LY_hasPlace_1 rfl (lv_at hl 1 rfl) ?_
  refine lv_icmp_gt (tgt := 19) hx hb d_LY_hasPlace_2 (by decide) (fun hb1 => ?_) (fun hb1 => ?_)
  · have hF := ox_t hF hb1
    refine lv_iconst (v := 0) hx hb d_LY_hasPlace_19 (by decide) ?_
    cases hF
    exact hq_zret hx hb hr (by decide) hlocks hP hD hK hS d_LY_hasPlace_20
  · have hF := ox_f hF hb1
    refine lv_iload_n hx hb d_LY_hasPlace_5 rfl (lv_at hl 1 rfl) ?_
    refine lv_aload_n hx hb d_LY_hasPlace_6 rfl (lv_at hl 0 rfl) ?_
    refine va_get (D := (dC, dI)) (ci := 0) (v := .int v_tanks) (C := R_LY) (T := F_LY) (N := 5) hx hb hts uw_LY hown hK hP 0 rfl rfl 0 (by decide) (hts _ tw_0) (fun _ h9 => h9) rfl d_LY_hasPlace_7 ?_
    refine lv_iconst (v := 1) hx hb d_LY_hasPlace_10 (by decide) ?_
    refine lv_iadd hx hb d_LY_hasPlace_11 ?_
    refine lv_icmp_gt (tgt := 19) hx hb d_LY_hasPlace_12 (by decide) (fun hb2 => ?_) (fun hb2 => ?_)
    · have hF := ox_t hF hb2
      refine lv_iconst (v := 0) hx hb d_LY_hasPlace_19 (by decide) ?_
      cases hF
      exact hq_zret hx hb hr (by decide) hlocks hP hD hK hS d_LY_hasPlace_20
    · have hF := ox_f hF hb2
      refine lv_iconst (v := 1) hx hb d_LY_hasPlace_15 (by decide) ?_
      refine lv_goto (tgt := 20) hx hb d_LY_hasPlace_16 (by decide) ?_
      cases hF
      exact hq_zret hx hb hr (by decide) hlocks hP hD hK hS d_LY_hasPlace_20
abbrev wd_LY_slowEmptyWay (q_this : Nat) (q_low : Nat) (q_high : Nat) (q_loadedSeconds : Nat) (q_emptySeconds : Nat) (qr_emptySeconds : Nat → Nat) (cI : ClassId) (cO : ClassId) (v_tanks : Int32) (f_loadedSeconds : Nat → Int32) (f_emptySeconds : Nat → Nat → Int32) : va_W := [(q_this, .inr (0, [.int v_tanks, .ref q_low, .ref q_high, .ref q_loadedSeconds, .ref q_emptySeconds])), (q_loadedSeconds, .inl (cI, 6, .inl f_loadedSeconds)), (q_emptySeconds, .inl (hq_out cO qr_emptySeconds))] ++ hq_rows cI qr_emptySeconds f_emptySeconds
set_option maxHeartbeats 4000000 in
set_option maxRecDepth 100000 in
theorem c_LY_slowEmptyWay (l : Launch) (dC : Nat → ClassId) (dI : Nat → Nat → Nat) (q_this : Nat) (q_low : Nat) (q_high : Nat) (q_loadedSeconds : Nat) (q_emptySeconds : Nat) (qr_emptySeconds : Nat → Nat) (cI : ClassId) (cO : ClassId) (sz : Nat) (z : Nat) (v_tanks : Int32) (f_loadedSeconds : Nat → Int32) (f_emptySeconds : Nat → Nat → Int32) (rr : Int32) (hF : fn_LY_slowEmptyWay z v_tanks f_loadedSeconds f_emptySeconds = some rr) : Met l y_LY_slowEmptyWay w_LY_slowEmptyWay ({ frames := 0, cells := 0, slots := 0, locals := 0 }) (hq_Pc (dC, dI) vwCl [(cI, .int), (cO, .array .int)] (wd_LY_slowEmptyWay q_this q_low q_high q_loadedSeconds q_emptySeconds qr_emptySeconds cI cO v_tanks f_loadedSeconds f_emptySeconds) sz [.ref q_this]) (hq_Qi (dC, dI) vwCl [(cI, .int), (cO, .array .int)] (wd_LY_slowEmptyWay q_this q_low q_high q_loadedSeconds q_emptySeconds qr_emptySeconds cI cO v_tanks f_loadedSeconds f_emptySeconds) rr (va_A (wd_LY_slowEmptyWay q_this q_low q_high q_loadedSeconds q_emptySeconds qr_emptySeconds cI cO v_tanks f_loadedSeconds f_emptySeconds) sz)) 0 0 (va_A (wd_LY_slowEmptyWay q_this q_low q_high q_loadedSeconds q_emptySeconds qr_emptySeconds cI cO v_tanks f_loadedSeconds f_emptySeconds) sz) := by
  refine hq_met (Qc := (hq_Qi (dC, dI) vwCl [(cI, .int), (cO, .array .int)] (wd_LY_slowEmptyWay q_this q_low q_high q_loadedSeconds q_emptySeconds qr_emptySeconds cI cO v_tanks f_loadedSeconds f_emptySeconds) rr)) (cc := b_LY_slowEmptyWay) (maxL := 2) (ret := some .int) (by decide) rfl (Nat.le_of_ble_eq_true rfl) ?_
  intro p e s m args below meth c A ls hx hb hr hml hts hown hlocks hnm hP hD hK hA hS hl
  have hts : ∀ w ∈ tb0, w.before args s = true := fun w h => hts w (List.mem_cons_of_mem _ h)
  have hown : s.vm.findClass R_LY = some m.cls := hown
  have hl : lv_has ls 2 [(0, .ref q_this)] := hl
  unfold fn_LY_slowEmptyWay at hF
  have loop : ∀ fu : Nat, (∀ (i1 : Int32) (H : Heap) (locs : List Loc) (ls : Array Slot), va_P (dC, dI) vwCl (wd_LY_slowEmptyWay q_this q_low q_high q_loadedSeconds q_emptySeconds qr_emptySeconds cI cO v_tanks f_loadedSeconds f_emptySeconds) H → va_D A (wd_LY_slowEmptyWay q_this q_low q_high q_loadedSeconds q_emptySeconds qr_emptySeconds cI cO v_tanks f_loadedSeconds f_emptySeconds) → va_S A s.heap H locs → lv_has ls 2 [(0, .ref q_this), (1, .int i1)] → lp_LY_slowEmptyWay v_tanks f_loadedSeconds f_emptySeconds fu 0 i1 = some rr → W p l e ({ frames := 0, cells := 0, slots := 0, locals := 0 }) s m args below meth c H locs 0 0 (MQ below ((hq_Qi (dC, dI) vwCl [(cI, .int), (cO, .array .int)] (wd_LY_slowEmptyWay q_this q_low q_high q_loadedSeconds q_emptySeconds qr_emptySeconds cI cO v_tanks f_loadedSeconds f_emptySeconds) rr) A) args s 0 0 A) (F0 m 2 ls [])) := by
    intro fu
    induction fu with
    | zero => exact (fun _ _ _ _ _ _ _ _ h => by cases h)
    | succ fu ih =>
      intro i1 H locs ls hP hD hS hl hF
      have hF : st_LY_slowEmptyWay v_tanks f_loadedSeconds f_emptySeconds (lp_LY_slowEmptyWay v_tanks f_loadedSeconds f_emptySeconds fu) 0 i1 = some rr := hF
      unfold st_LY_slowEmptyWay at hF
      try dsimp only at hF
      refine lv_iload_n hx hb d_LY_slowEmptyWay_2 rfl (lv_at hl 1 rfl) ?_
      refine lv_aload_n hx hb d_LY_slowEmptyWay_3 rfl (lv_at hl 0 rfl) ?_
      refine va_get (D := (dC, dI)) (ci := 0) (v := .int v_tanks) (C := R_LY) (T := F_LY) (N := 5) hx hb hts uw_LY hown hK hP 0 rfl rfl 0 (by decide) (hts _ tw_0) (fun _ h9 => h9) rfl d_LY_slowEmptyWay_4 ?_
      refine lv_icmp_gt (tgt := 39) hx hb d_LY_slowEmptyWay_7 (by decide) (fun hb1 => ?_) (fun hb1 => ?_)
      · have hF := ox_t hF hb1
        refine lv_iconst (v := 0) hx hb d_LY_slowEmptyWay_39 (by decide) ?_
        cases hF
        exact hq_iret hx hb hr hlocks hP hD hK hS d_LY_slowEmptyWay_40
      · have hF := ox_f hF hb1
        refine lv_aload_n hx hb d_LY_slowEmptyWay_10 rfl (lv_at hl 0 rfl) ?_
        refine va_get (D := (dC, dI)) (ci := 0) (v := .ref q_emptySeconds) (C := R_LY) (T := F_LY) (N := 5) hx hb hts uw_LY hown hK hP 0 rfl rfl 4 (by decide) (hts _ tw_8) (fun _ h9 => h9) rfl d_LY_slowEmptyWay_11 ?_
        refine lv_iload_n hx hb d_LY_slowEmptyWay_14 rfl (lv_at hl 1 rfl) ?_
        obtain ⟨hin, hF⟩ := ox_gdS hF
        refine hq_gld (qr := qr_emptySeconds) hx hb hK hP 2 1 rfl rfl hin d_LY_slowEmptyWay_15 ?_
        have hro15 := hq_lt hin
        refine lv_iload_n hx hb d_LY_slowEmptyWay_16 rfl (lv_at hl 1 rfl) ?_
        refine lv_iconst (v := 1) hx hb d_LY_slowEmptyWay_17 (by decide) ?_
        refine lv_iadd hx hb d_LY_slowEmptyWay_18 ?_
        obtain ⟨hin, hF⟩ := ox_gdS hF
        refine va_iald hx hb hK hP (3 + i1.toNatClampNeg) 0 (hq_rowAt _ _ _ _ rfl hro15) rfl hin d_LY_slowEmptyWay_19 ?_
        refine lv_aload_n hx hb d_LY_slowEmptyWay_20 rfl (lv_at hl 0 rfl) ?_
        refine va_get (D := (dC, dI)) (ci := 0) (v := .ref q_loadedSeconds) (C := R_LY) (T := F_LY) (N := 5) hx hb hts uw_LY hown hK hP 0 rfl rfl 3 (by decide) (hts _ tw_7) (fun _ h9 => h9) rfl d_LY_slowEmptyWay_21 ?_
        refine lv_iload_n hx hb d_LY_slowEmptyWay_24 rfl (lv_at hl 1 rfl) ?_
        obtain ⟨hin, hF⟩ := ox_gdS hF
        refine va_iald hx hb hK hP 1 0 rfl rfl hin d_LY_slowEmptyWay_25 ?_
        refine lv_icmp_le (tgt := 33) hx hb d_LY_slowEmptyWay_26 (by decide) (fun hb2 => ?_) (fun hb2 => ?_)
        · have hF := ox_t hF hb2
          refine lv_iinc (v := (i1 + 1)) (lv' := [(1, .int (i1 + 1)), (0, .ref q_this)]) hx hb d_LY_slowEmptyWay_33 hl (k := 1) rfl rfl (by decide) rfl (fun ls hl => ?_)
          refine lv_goto (tgt := 2) hx hb d_LY_slowEmptyWay_36 (by decide) ?_
          exact ih (i1 + 1) _ _ _ hP hD hS (lv_sub hl [1, 0] rfl) hF
        · have hF := ox_f hF hb2
          refine lv_iconst (v := 1) hx hb d_LY_slowEmptyWay_29 (by decide) ?_
          refine lv_iload_n hx hb d_LY_slowEmptyWay_30 rfl (lv_at hl 1 rfl) ?_
          refine lv_iadd hx hb d_LY_slowEmptyWay_31 ?_
          cases hF
          exact hq_iret hx hb hr hlocks hP hD hK hS d_LY_slowEmptyWay_32
  refine lv_iconst (v := 0) hx hb d_LY_slowEmptyWay_0 (by decide) ?_
  refine lv_istore_n (lv' := [(1, .int 0), (0, .ref q_this)]) hx hb d_LY_slowEmptyWay_1 rfl hl (by decide) rfl (fun ls hl => ?_)
  exact (loop z) 0 _ _ _ hP hD hS (lv_sub hl [1, 0] rfl) hF
abbrev wd_LY_roundaboutWay (q_this : Nat) (q_low : Nat) (q_high : Nat) (q_loadedSeconds : Nat) (q_emptySeconds : Nat) (qr_emptySeconds : Nat → Nat) (cI : ClassId) (cO : ClassId) (v_tanks : Int32) (f_emptySeconds : Nat → Nat → Int32) : va_W := [(q_this, .inr (0, [.int v_tanks, .ref q_low, .ref q_high, .ref q_loadedSeconds, .ref q_emptySeconds])), (q_emptySeconds, .inl (hq_out cO qr_emptySeconds))] ++ hq_rows cI qr_emptySeconds f_emptySeconds
set_option maxHeartbeats 4000000 in
set_option maxRecDepth 100000 in
theorem c_LY_roundaboutWay (l : Launch) (dC : Nat → ClassId) (dI : Nat → Nat → Nat) (q_this : Nat) (q_low : Nat) (q_high : Nat) (q_loadedSeconds : Nat) (q_emptySeconds : Nat) (qr_emptySeconds : Nat → Nat) (cI : ClassId) (cO : ClassId) (sz : Nat) (z : Nat) (v_tanks : Int32) (f_emptySeconds : Nat → Nat → Int32) (rr : Int32) (hF : fn_LY_roundaboutWay z v_tanks f_emptySeconds = some rr) : Met l y_LY_roundaboutWay w_LY_roundaboutWay ({ frames := 0, cells := 0, slots := 0, locals := 0 }) (hq_Pc (dC, dI) vwCl [(cI, .int), (cO, .array .int)] (wd_LY_roundaboutWay q_this q_low q_high q_loadedSeconds q_emptySeconds qr_emptySeconds cI cO v_tanks f_emptySeconds) sz [.ref q_this]) (hq_Qi (dC, dI) vwCl [(cI, .int), (cO, .array .int)] (wd_LY_roundaboutWay q_this q_low q_high q_loadedSeconds q_emptySeconds qr_emptySeconds cI cO v_tanks f_emptySeconds) rr (va_A (wd_LY_roundaboutWay q_this q_low q_high q_loadedSeconds q_emptySeconds qr_emptySeconds cI cO v_tanks f_emptySeconds) sz)) 0 0 (va_A (wd_LY_roundaboutWay q_this q_low q_high q_loadedSeconds q_emptySeconds qr_emptySeconds cI cO v_tanks f_emptySeconds) sz) := by
  refine hq_met (Qc := (hq_Qi (dC, dI) vwCl [(cI, .int), (cO, .array .int)] (wd_LY_roundaboutWay q_this q_low q_high q_loadedSeconds q_emptySeconds qr_emptySeconds cI cO v_tanks f_emptySeconds) rr)) (cc := b_LY_roundaboutWay) (maxL := 4) (ret := some .int) (by decide) rfl (Nat.le_of_ble_eq_true rfl) ?_
  intro p e s m args below meth c A ls hx hb hr hml hts hown hlocks hnm hP hD hK hA hS hl
  have hts : ∀ w ∈ tb0, w.before args s = true := fun w h => hts w (List.mem_cons_of_mem _ h)
  have hown : s.vm.findClass R_LY = some m.cls := hown
  have hl : lv_has ls 4 [(0, .ref q_this)] := hl
  unfold fn_LY_roundaboutWay at hF
  have loop : ∀ fu : Nat, (∀ (i1 : Int32) (i2 : Int32) (i3 : Int32) (H : Heap) (locs : List Loc) (ls : Array Slot), va_P (dC, dI) vwCl (wd_LY_roundaboutWay q_this q_low q_high q_loadedSeconds q_emptySeconds qr_emptySeconds cI cO v_tanks f_emptySeconds) H → va_D A (wd_LY_roundaboutWay q_this q_low q_high q_loadedSeconds q_emptySeconds qr_emptySeconds cI cO v_tanks f_emptySeconds) → va_S A s.heap H locs → lv_has ls 4 [(0, .ref q_this), (1, .int i1)] → lp_LY_roundaboutWay v_tanks f_emptySeconds fu 0 i1 i2 i3 = some rr → W p l e ({ frames := 0, cells := 0, slots := 0, locals := 0 }) s m args below meth c H locs 0 0 (MQ below ((hq_Qi (dC, dI) vwCl [(cI, .int), (cO, .array .int)] (wd_LY_roundaboutWay q_this q_low q_high q_loadedSeconds q_emptySeconds qr_emptySeconds cI cO v_tanks f_emptySeconds) rr) A) args s 0 0 A) (F0 m 2 ls [])) ∧ (∀ (i1 : Int32) (i2 : Int32) (i3 : Int32) (H : Heap) (locs : List Loc) (ls : Array Slot), va_P (dC, dI) vwCl (wd_LY_roundaboutWay q_this q_low q_high q_loadedSeconds q_emptySeconds qr_emptySeconds cI cO v_tanks f_emptySeconds) H → va_D A (wd_LY_roundaboutWay q_this q_low q_high q_loadedSeconds q_emptySeconds qr_emptySeconds cI cO v_tanks f_emptySeconds) → va_S A s.heap H locs → lv_has ls 4 [(0, .ref q_this), (1, .int i1), (2, .int i2)] → lp_LY_roundaboutWay v_tanks f_emptySeconds fu 1 i1 i2 i3 = some rr → W p l e ({ frames := 0, cells := 0, slots := 0, locals := 0 }) s m args below meth c H locs 0 0 (MQ below ((hq_Qi (dC, dI) vwCl [(cI, .int), (cO, .array .int)] (wd_LY_roundaboutWay q_this q_low q_high q_loadedSeconds q_emptySeconds qr_emptySeconds cI cO v_tanks f_emptySeconds) rr) A) args s 0 0 A) (F0 m 14 ls [])) ∧ (∀ (i1 : Int32) (i2 : Int32) (i3 : Int32) (H : Heap) (locs : List Loc) (ls : Array Slot), va_P (dC, dI) vwCl (wd_LY_roundaboutWay q_this q_low q_high q_loadedSeconds q_emptySeconds qr_emptySeconds cI cO v_tanks f_emptySeconds) H → va_D A (wd_LY_roundaboutWay q_this q_low q_high q_loadedSeconds q_emptySeconds qr_emptySeconds cI cO v_tanks f_emptySeconds) → va_S A s.heap H locs → lv_has ls 4 [(0, .ref q_this), (1, .int i1), (2, .int i2), (3, .int i3)] → lp_LY_roundaboutWay v_tanks f_emptySeconds fu 2 i1 i2 i3 = some rr → W p l e ({ frames := 0, cells := 0, slots := 0, locals := 0 }) s m args below meth c H locs 0 0 (MQ below ((hq_Qi (dC, dI) vwCl [(cI, .int), (cO, .array .int)] (wd_LY_roundaboutWay q_this q_low q_high q_loadedSeconds q_emptySeconds qr_emptySeconds cI cO v_tanks f_emptySeconds) rr) A) args s 0 0 A) (F0 m 26 ls [])) := by
    intro fu
    induction fu with
    | zero => exact ⟨(fun _ _ _ _ _ _ _ _ _ _ h => by cases h), (fun _ _ _ _ _ _ _ _ _ _ h => by cases h), (fun _ _ _ _ _ _ _ _ _ _ h => by cases h)⟩
    | succ fu ih =>
      refine ⟨?_, ?_, ?_⟩
      · intro i1 i2 i3 H locs ls hP hD hS hl hF
        have hF : st_LY_roundaboutWay v_tanks f_emptySeconds (lp_LY_roundaboutWay v_tanks f_emptySeconds fu) 0 i1 i2 i3 = some rr := hF
        unfold st_LY_roundaboutWay at hF
        try dsimp only at hF
        refine lv_iload_n hx hb d_LY_roundaboutWay_2 rfl (lv_at hl 1 rfl) ?_
        refine lv_aload_n hx hb d_LY_roundaboutWay_3 rfl (lv_at hl 0 rfl) ?_
        refine va_get (D := (dC, dI)) (ci := 0) (v := .int v_tanks) (C := R_LY) (T := F_LY) (N := 5) hx hb hts uw_LY hown hK hP 0 rfl rfl 0 (by decide) (hts _ tw_0) (fun _ h9 => h9) rfl d_LY_roundaboutWay_4 ?_
        refine lv_iconst (v := 1) hx hb d_LY_roundaboutWay_7 (by decide) ?_
        refine lv_iadd hx hb d_LY_roundaboutWay_8 ?_
        refine lv_icmp_gt (tgt := 97) hx hb d_LY_roundaboutWay_9 (by decide) (fun hb1 => ?_) (fun hb1 => ?_)
        · have hF := ox_t hF hb1
          refine lv_iconst (v := 0) hx hb d_LY_roundaboutWay_97 (by decide) ?_
          cases hF
          exact hq_iret hx hb hr hlocks hP hD hK hS d_LY_roundaboutWay_98
        · have hF := ox_f hF hb1
          refine lv_iconst (v := 0) hx hb d_LY_roundaboutWay_12 (by decide) ?_
          refine lv_istore_n (lv' := [(2, .int 0), (0, .ref q_this), (1, .int i1)]) hx hb d_LY_roundaboutWay_13 rfl hl (by decide) rfl (fun ls hl => ?_)
          exact ih.2.1 i1 0 0 _ _ _ hP hD hS (lv_sub hl [1, 2, 0] rfl) hF
      · intro i1 i2 i3 H locs ls hP hD hS hl hF
        have hF : st_LY_roundaboutWay v_tanks f_emptySeconds (lp_LY_roundaboutWay v_tanks f_emptySeconds fu) 1 i1 i2 i3 = some rr := hF
        unfold st_LY_roundaboutWay at hF
        try dsimp only at hF
        refine lv_iload_n hx hb d_LY_roundaboutWay_14 rfl (lv_at hl 2 rfl) ?_
        refine lv_aload_n hx hb d_LY_roundaboutWay_15 rfl (lv_at hl 0 rfl) ?_
        refine va_get (D := (dC, dI)) (ci := 0) (v := .int v_tanks) (C := R_LY) (T := F_LY) (N := 5) hx hb hts uw_LY hown hK hP 0 rfl rfl 0 (by decide) (hts _ tw_0) (fun _ h9 => h9) rfl d_LY_roundaboutWay_16 ?_
        refine lv_iconst (v := 1) hx hb d_LY_roundaboutWay_19 (by decide) ?_
        refine lv_iadd hx hb d_LY_roundaboutWay_20 ?_
        refine lv_icmp_gt (tgt := 91) hx hb d_LY_roundaboutWay_21 (by decide) (fun hb2 => ?_) (fun hb2 => ?_)
        · have hF := ox_t hF hb2
          refine lv_iinc (v := (i1 + 1)) (lv' := [(1, .int (i1 + 1)), (0, .ref q_this), (2, .int i2)]) hx hb d_LY_roundaboutWay_91 hl (k := 1) rfl rfl (by decide) rfl (fun ls hl => ?_)
          refine lv_goto (tgt := 2) hx hb d_LY_roundaboutWay_94 (by decide) ?_
          exact ih.1 (i1 + 1) 0 0 _ _ _ hP hD hS (lv_sub hl [1, 0] rfl) hF
        · have hF := ox_f hF hb2
          refine lv_iconst (v := 0) hx hb d_LY_roundaboutWay_24 (by decide) ?_
          refine lv_istore_n (lv' := [(3, .int 0), (0, .ref q_this), (1, .int i1), (2, .int i2)]) hx hb d_LY_roundaboutWay_25 rfl hl (by decide) rfl (fun ls hl => ?_)
          exact ih.2.2 i1 i2 0 _ _ _ hP hD hS (lv_sub hl [1, 2, 3, 0] rfl) hF
      · intro i1 i2 i3 H locs ls hP hD hS hl hF
        have hF : st_LY_roundaboutWay v_tanks f_emptySeconds (lp_LY_roundaboutWay v_tanks f_emptySeconds fu) 2 i1 i2 i3 = some rr := hF
        unfold st_LY_roundaboutWay at hF
        try dsimp only at hF
        refine lv_iload_n hx hb d_LY_roundaboutWay_26 rfl (lv_at hl 3 rfl) ?_
        refine lv_aload_n hx hb d_LY_roundaboutWay_27 rfl (lv_at hl 0 rfl) ?_
        refine va_get (D := (dC, dI)) (ci := 0) (v := .int v_tanks) (C := R_LY) (T := F_LY) (N := 5) hx hb hts uw_LY hown hK hP 0 rfl rfl 0 (by decide) (hts _ tw_0) (fun _ h9 => h9) rfl d_LY_roundaboutWay_28 ?_
        refine lv_iconst (v := 1) hx hb d_LY_roundaboutWay_31 (by decide) ?_
        refine lv_iadd hx hb d_LY_roundaboutWay_32 ?_
        refine lv_icmp_gt (tgt := 85) hx hb d_LY_roundaboutWay_33 (by decide) (fun hb3 => ?_) (fun hb3 => ?_)
        · have hF := ox_t hF hb3
          refine lv_iinc (v := (i2 + 1)) (lv' := [(2, .int (i2 + 1)), (0, .ref q_this), (1, .int i1), (3, .int i3)]) hx hb d_LY_roundaboutWay_85 hl (k := 2) rfl rfl (by decide) rfl (fun ls hl => ?_)
          refine lv_goto (tgt := 14) hx hb d_LY_roundaboutWay_88 (by decide) ?_
          exact ih.2.1 i1 (i2 + 1) 0 _ _ _ hP hD hS (lv_sub hl [1, 2, 0] rfl) hF
        · have hF := ox_f hF hb3
          refine lv_aload_n hx hb d_LY_roundaboutWay_36 rfl (lv_at hl 0 rfl) ?_
          refine va_get (D := (dC, dI)) (ci := 0) (v := .ref q_emptySeconds) (C := R_LY) (T := F_LY) (N := 5) hx hb hts uw_LY hown hK hP 0 rfl rfl 4 (by decide) (hts _ tw_8) (fun _ h9 => h9) rfl d_LY_roundaboutWay_37 ?_
          refine lv_iload_n hx hb d_LY_roundaboutWay_40 rfl (lv_at hl 1 rfl) ?_
          obtain ⟨hin, hF⟩ := ox_gdS hF
          refine hq_gld (qr := qr_emptySeconds) hx hb hK hP 1 1 rfl rfl hin d_LY_roundaboutWay_41 ?_
          have hro41 := hq_lt hin
          refine lv_iload_n hx hb d_LY_roundaboutWay_42 rfl (lv_at hl 3 rfl) ?_
          obtain ⟨hin, hF⟩ := ox_gdS hF
          refine va_iald hx hb hK hP (2 + i1.toNatClampNeg) 0 (hq_rowAt _ _ _ _ rfl hro41) rfl hin d_LY_roundaboutWay_43 ?_
          refine lv_aload_n hx hb d_LY_roundaboutWay_44 rfl (lv_at hl 0 rfl) ?_
          refine va_get (D := (dC, dI)) (ci := 0) (v := .ref q_emptySeconds) (C := R_LY) (T := F_LY) (N := 5) hx hb hts uw_LY hown hK hP 0 rfl rfl 4 (by decide) (hts _ tw_8) (fun _ h9 => h9) rfl d_LY_roundaboutWay_45 ?_
          refine lv_iload_n hx hb d_LY_roundaboutWay_48 rfl (lv_at hl 1 rfl) ?_
          obtain ⟨hin, hF⟩ := ox_gdS hF
          refine hq_gld (qr := qr_emptySeconds) hx hb hK hP 1 1 rfl rfl hin d_LY_roundaboutWay_49 ?_
          have hro49 := hq_lt hin
          refine lv_iload_n hx hb d_LY_roundaboutWay_50 rfl (lv_at hl 2 rfl) ?_
          obtain ⟨hin, hF⟩ := ox_gdS hF
          refine va_iald hx hb hK hP (2 + i1.toNatClampNeg) 0 (hq_rowAt _ _ _ _ rfl hro49) rfl hin d_LY_roundaboutWay_51 ?_
          refine lv_aload_n hx hb d_LY_roundaboutWay_52 rfl (lv_at hl 0 rfl) ?_
          refine va_get (D := (dC, dI)) (ci := 0) (v := .ref q_emptySeconds) (C := R_LY) (T := F_LY) (N := 5) hx hb hts uw_LY hown hK hP 0 rfl rfl 4 (by decide) (hts _ tw_8) (fun _ h9 => h9) rfl d_LY_roundaboutWay_53 ?_
          refine lv_iload_n hx hb d_LY_roundaboutWay_56 rfl (lv_at hl 2 rfl) ?_
          obtain ⟨hin, hF⟩ := ox_gdS hF
          refine hq_gld (qr := qr_emptySeconds) hx hb hK hP 1 1 rfl rfl hin d_LY_roundaboutWay_57 ?_
          have hro57 := hq_lt hin
          refine lv_iload_n hx hb d_LY_roundaboutWay_58 rfl (lv_at hl 3 rfl) ?_
          obtain ⟨hin, hF⟩ := ox_gdS hF
          refine va_iald hx hb hK hP (2 + i2.toNatClampNeg) 0 (hq_rowAt _ _ _ _ rfl hro57) rfl hin d_LY_roundaboutWay_59 ?_
          refine lv_iadd hx hb d_LY_roundaboutWay_60 ?_
          refine lv_icmp_le (tgt := 79) hx hb d_LY_roundaboutWay_61 (by decide) (fun hb4 => ?_) (fun hb4 => ?_)
          · have hF := ox_t hF hb4
            refine lv_iinc (v := (i3 + 1)) (lv' := [(3, .int (i3 + 1)), (0, .ref q_this), (1, .int i1), (2, .int i2)]) hx hb d_LY_roundaboutWay_79 hl (k := 3) rfl rfl (by decide) rfl (fun ls hl => ?_)
            refine lv_goto (tgt := 26) hx hb d_LY_roundaboutWay_82 (by decide) ?_
            exact ih.2.2 i1 i2 (i3 + 1) _ _ _ hP hD hS (lv_sub hl [1, 2, 3, 0] rfl) hF
          · have hF := ox_f hF hb4
            refine lv_bipush (v := 100) hx hb d_LY_roundaboutWay_64 (by decide) ?_
            refine lv_bipush (v := 49) hx hb d_LY_roundaboutWay_66 (by decide) ?_
            refine lv_iload_n hx hb d_LY_roundaboutWay_68 rfl (lv_at hl 1 rfl) ?_
            refine lv_imul hx hb d_LY_roundaboutWay_69 ?_
            refine lv_iadd hx hb d_LY_roundaboutWay_70 ?_
            refine lv_bipush (v := 7) hx hb d_LY_roundaboutWay_71 (by decide) ?_
            refine lv_iload_n hx hb d_LY_roundaboutWay_73 rfl (lv_at hl 2 rfl) ?_
            refine lv_imul hx hb d_LY_roundaboutWay_74 ?_
            refine lv_iadd hx hb d_LY_roundaboutWay_75 ?_
            refine lv_iload_n hx hb d_LY_roundaboutWay_76 rfl (lv_at hl 3 rfl) ?_
            refine lv_iadd hx hb d_LY_roundaboutWay_77 ?_
            cases hF
            exact hq_iret hx hb hr hlocks hP hD hK hS d_LY_roundaboutWay_78
  refine lv_iconst (v := 0) hx hb d_LY_roundaboutWay_0 (by decide) ?_
  refine lv_istore_n (lv' := [(1, .int 0), (0, .ref q_this)]) hx hb d_LY_roundaboutWay_1 rfl hl (by decide) rfl (fun ls hl => ?_)
  exact (loop z).1 0 0 0 _ _ _ hP hD hS (lv_sub hl [1, 0] rfl) hF
abbrev wd_LY_fault (q_this : Nat) (q_low : Nat) (q_high : Nat) (q_loadedSeconds : Nat) (q_emptySeconds : Nat) (qr_emptySeconds : Nat → Nat) (cI : ClassId) (cO : ClassId) (v_tanks : Int32) (f_loadedSeconds : Nat → Int32) (f_emptySeconds : Nat → Nat → Int32) : va_W := [(q_this, .inr (0, [.int v_tanks, .ref q_low, .ref q_high, .ref q_loadedSeconds, .ref q_emptySeconds])), (q_loadedSeconds, .inl (cI, 6, .inl f_loadedSeconds)), (q_emptySeconds, .inl (hq_out cO qr_emptySeconds))] ++ hq_rows cI qr_emptySeconds f_emptySeconds
set_option maxHeartbeats 4000000 in
set_option maxRecDepth 100000 in
theorem c_LY_fault (l : Launch) (dC : Nat → ClassId) (dI : Nat → Nat → Nat) (q_this : Nat) (q_low : Nat) (q_high : Nat) (q_loadedSeconds : Nat) (q_emptySeconds : Nat) (qr_emptySeconds : Nat → Nat) (cI : ClassId) (cO : ClassId) (sz : Nat) (z : Nat) (v_tanks : Int32) (f_loadedSeconds : Nat → Int32) (f_emptySeconds : Nat → Nat → Int32) (rr : Int32) (hF : fn_LY_fault z v_tanks f_loadedSeconds f_emptySeconds = some rr) : Met l y_LY_fault w_LY_fault ({ frames := 1, cells := 0, slots := 0, locals := 23 }) (hq_Pc (dC, dI) vwCl [(cI, .int), (cO, .array .int)] (wd_LY_fault q_this q_low q_high q_loadedSeconds q_emptySeconds qr_emptySeconds cI cO v_tanks f_loadedSeconds f_emptySeconds) sz [.ref q_this]) (hq_Qi (dC, dI) vwCl [(cI, .int), (cO, .array .int)] (wd_LY_fault q_this q_low q_high q_loadedSeconds q_emptySeconds qr_emptySeconds cI cO v_tanks f_loadedSeconds f_emptySeconds) rr (va_A (wd_LY_fault q_this q_low q_high q_loadedSeconds q_emptySeconds qr_emptySeconds cI cO v_tanks f_loadedSeconds f_emptySeconds) sz)) 0 0 (va_A (wd_LY_fault q_this q_low q_high q_loadedSeconds q_emptySeconds qr_emptySeconds cI cO v_tanks f_loadedSeconds f_emptySeconds) sz) := by
  refine hq_met (Qc := (hq_Qi (dC, dI) vwCl [(cI, .int), (cO, .array .int)] (wd_LY_fault q_this q_low q_high q_loadedSeconds q_emptySeconds qr_emptySeconds cI cO v_tanks f_loadedSeconds f_emptySeconds) rr)) (cc := b_LY_fault) (maxL := 2) (ret := some .int) (by decide) rfl (Nat.le_of_ble_eq_true rfl) ?_
  intro p e s m args below meth c A ls hx hb hr hml hts hown hlocks hnm hP hD hK hA hS hl
  have hts : ∀ w ∈ tb0, w.before args s = true := fun w h => hts w (List.mem_cons_of_mem _ h)
  have hown : s.vm.findClass R_LY = some m.cls := hown
  have hl : lv_has ls 2 [(0, .ref q_this)] := hl
  unfold fn_LY_fault at hF
  refine lv_aload_n hx hb d_LY_fault_0 rfl (lv_at hl 0 rfl) ?_
  obtain ⟨r1, hc1, hF⟩ := ox_clS hF
  refine hq_ci (ws' := (wd_LY_fault q_this q_low q_high q_loadedSeconds q_emptySeconds qr_emptySeconds cI cO v_tanks f_loadedSeconds f_emptySeconds)) (hq_rV (As := []) (rest := []) ⟨hx, hb, hml, hown, hts⟩ (c_LY_slowEmptyWay l dC dI q_this q_low q_high q_loadedSeconds q_emptySeconds qr_emptySeconds cI cO _ z v_tanks f_loadedSeconds f_emptySeconds r1 hc1) (cwV 0 hts (hq_gV tw_9 tw_10 tw_11 tw_12 tw_13) rfl rfl rfl yv_LY_slowEmptyWay ⟨Nat.le_of_ble_eq_true rfl, Nat.le_of_ble_eq_true rfl⟩) hP hD hK [0, 1] rfl 0 rfl rfl [0, 1, 2, 3, 4, 5, 6, 7, 8, 9] rfl rfl rfl hl.1 rfl (Nat.le_of_ble_eq_true rfl) d_LY_fault_1 ⟨Nat.zero_le _, Nat.zero_le _⟩) hP hD hS hA [0, 1, 2, 3, 4, 5, 6, 7, 8, 9] [] [0, 1, 2, 3, 4, 5, 6, 7, 8, 9] rfl rfl rfl (by decide) rfl rfl (fun H locs hP hD hS => ?_)
  refine lv_istore_n (lv' := [(1, .int r1), (0, .ref q_this)]) hx hb d_LY_fault_4 rfl hl (by decide) rfl (fun ls hl => ?_)
  refine lv_iload_n hx hb d_LY_fault_5 rfl (lv_at hl 0 rfl) ?_
  refine lv_if_eq (tgt := 13) hx hb d_LY_fault_6 (by decide) (fun hb2 => ?_) (fun hb2 => ?_)
  · have hF := ox_t hF hb2
    refine lv_aload_n hx hb d_LY_fault_13 rfl (lv_at hl 1 rfl) ?_
    obtain ⟨r3, hc3, hF⟩ := ox_clS hF
    refine hq_ci (ws' := (wd_LY_fault q_this q_low q_high q_loadedSeconds q_emptySeconds qr_emptySeconds cI cO v_tanks f_loadedSeconds f_emptySeconds)) (hq_rV (As := []) (rest := []) ⟨hx, hb, hml, hown, hts⟩ (c_LY_roundaboutWay l dC dI q_this q_low q_high q_loadedSeconds q_emptySeconds qr_emptySeconds cI cO _ z v_tanks f_emptySeconds r3 hc3) (cwV 0 hts (hq_gV tw_14 tw_15 tw_16 tw_12 tw_17) rfl rfl rfl yv_LY_roundaboutWay ⟨Nat.le_of_ble_eq_true rfl, Nat.le_of_ble_eq_true rfl⟩) hP hD hK [0, 1] rfl 0 rfl rfl [0, 2, 3, 4, 5, 6, 7, 8, 9] rfl rfl rfl hl.1 rfl (Nat.le_of_ble_eq_true rfl) d_LY_fault_14 ⟨Nat.zero_le _, Nat.zero_le _⟩) hP hD hS hA [0, 2, 3, 4, 5, 6, 7, 8, 9] [1] [1, 0, 2, 3, 4, 5, 6, 7, 8, 9] rfl rfl rfl (by decide) rfl rfl (fun H locs hP hD hS => ?_)
    cases hF
    exact hq_iret hx hb hr hlocks hP hD hK hS d_LY_fault_17
  · have hF := ox_f hF hb2
    refine lv_iload_n hx hb d_LY_fault_9 rfl (lv_at hl 0 rfl) ?_
    refine lv_goto (tgt := 17) hx hb d_LY_fault_10 (by decide) ?_
    cases hF
    exact hq_iret hx hb hr hlocks hP hD hK hS d_LY_fault_17
