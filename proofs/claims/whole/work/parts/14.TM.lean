abbrev wd_TM_addRule (q_this : Nat) (q_layout : Nat) (q_before : Nat) (q_after : Nat) (q_seconds : Nat) (q_turns : Nat) (q_cause : Nat) (q_times : Nat) (cI : ClassId) (v_rules : Int32) (f_before : Nat → Int32) (f_after : Nat → Int32) (f_seconds : Nat → Int32) (f_turns : Nat → Int32) : va_W := [(q_this, .inr (3, [.ref q_layout, .int v_rules, .ref q_before, .ref q_after, .ref q_seconds, .ref q_turns, .ref q_cause, .ref q_times])), (q_before, .inl (cI, 16, .inl f_before)), (q_after, .inl (cI, 16, .inl f_after)), (q_seconds, .inl (cI, 16, .inl f_seconds)), (q_turns, .inl (cI, 16, .inl f_turns))]
set_option maxHeartbeats 4000000 in
set_option maxRecDepth 100000 in
theorem c_TM_addRule (l : Launch) (dC : Nat → ClassId) (dI : Nat → Nat → Nat) (q_this : Nat) (q_layout : Nat) (q_before : Nat) (q_after : Nat) (q_seconds : Nat) (q_turns : Nat) (q_cause : Nat) (q_times : Nat) (cI : ClassId) (sz : Nat) (a1 : Int32) (a2 : Int32) (a3 : Int32) (a4 : Int32) (v_rules : Int32) (f_before : Nat → Int32) (f_after : Nat → Int32) (f_seconds : Nat → Int32) (f_turns : Nat → Int32) (n_v_rules : Int32) (n_f_before : Nat → Int32) (n_f_after : Nat → Int32) (n_f_seconds : Nat → Int32) (n_f_turns : Nat → Int32) (hF : fn_TM_addRule a1 a2 a3 a4 v_rules f_before f_after f_seconds f_turns = some (n_v_rules, n_f_before, n_f_after, n_f_seconds, n_f_turns)) : Met l y_TM_addRule w_TM_addRule ({ frames := 0, cells := 0, slots := 0, locals := 0 }) (hq_Pc (dC, dI) vwCl [(cI, .int)] (wd_TM_addRule q_this q_layout q_before q_after q_seconds q_turns q_cause q_times cI v_rules f_before f_after f_seconds f_turns) sz [.ref q_this, .int a1, .int a2, .int a3, .int a4]) (hq_Qv (dC, dI) vwCl [(cI, .int)] (wd_TM_addRule q_this q_layout q_before q_after q_seconds q_turns q_cause q_times cI n_v_rules n_f_before n_f_after n_f_seconds n_f_turns) (va_A (wd_TM_addRule q_this q_layout q_before q_after q_seconds q_turns q_cause q_times cI v_rules f_before f_after f_seconds f_turns) sz)) 0 0 (va_A (wd_TM_addRule q_this q_layout q_before q_after q_seconds q_turns q_cause q_times cI v_rules f_before f_after f_seconds f_turns) sz) := by
  refine hq_met (Qc := (hq_Qv (dC, dI) vwCl [(cI, .int)] (wd_TM_addRule q_this q_layout q_before q_after q_seconds q_turns q_cause q_times cI n_v_rules n_f_before n_f_after n_f_seconds n_f_turns))) (cc := b_TM_addRule) (maxL := 5) (ret := none) (by decide) rfl (Nat.le_of_ble_eq_true rfl) ?_
  intro p e s m args below meth c A ls hx hb hr hml hts hown hlocks hnm hP hD hK hA hS hl
  have hts : ∀ w ∈ tb0, w.before args s = true := fun w h => hts w (List.mem_cons_of_mem _ h)
  have hown : s.vm.findClass R_TM = some m.cls := hown
  have hl : lv_has ls 5 [(0, .ref q_this), (1, .int a1), (2, .int a2), (3, .int a3), (4, .int a4)] := hl
  unfold fn_TM_addRule at hF
  refine lv_aload_n hx hb d_TM_addRule_0 rfl (lv_at hl 0 rfl) ?_
  refine va_get (D := (dC, dI)) (ci := 3) (v := .ref q_before) (C := R_TM) (T := F_TM) (N := 8) hx hb hts uw_TM hown hK hP 0 rfl rfl 2 (by decide) (hts _ tw_39) (fun _ h9 => h9) rfl d_TM_addRule_1 ?_
  refine lv_aload_n hx hb d_TM_addRule_4 rfl (lv_at hl 0 rfl) ?_
  refine va_get (D := (dC, dI)) (ci := 3) (v := .int v_rules) (C := R_TM) (T := F_TM) (N := 8) hx hb hts uw_TM hown hK hP 0 rfl rfl 1 (by decide) (hts _ tw_40) (fun _ h9 => h9) rfl d_TM_addRule_5 ?_
  refine lv_iload_n hx hb d_TM_addRule_8 rfl (lv_at hl 1 rfl) ?_
  obtain ⟨hin, hF⟩ := ox_gdS hF
  refine va_iast hx hb hK hP hD hS 1 0 rfl rfl hin d_TM_addRule_9 (fun H locs hP hD hS => ?_)
  have hP : va_P (dC, dI) vwCl (wd_TM_addRule q_this q_layout q_before q_after q_seconds q_turns q_cause q_times cI v_rules (upd f_before v_rules.toNatClampNeg a1) f_after f_seconds f_turns) H := hP
  have hD : va_D A (wd_TM_addRule q_this q_layout q_before q_after q_seconds q_turns q_cause q_times cI v_rules (upd f_before v_rules.toNatClampNeg a1) f_after f_seconds f_turns) := hD
  refine lv_aload_n hx hb d_TM_addRule_10 rfl (lv_at hl 0 rfl) ?_
  refine va_get (D := (dC, dI)) (ci := 3) (v := .ref q_after) (C := R_TM) (T := F_TM) (N := 8) hx hb hts uw_TM hown hK hP 0 rfl rfl 3 (by decide) (hts _ tw_41) (fun _ h9 => h9) rfl d_TM_addRule_11 ?_
  refine lv_aload_n hx hb d_TM_addRule_14 rfl (lv_at hl 0 rfl) ?_
  refine va_get (D := (dC, dI)) (ci := 3) (v := .int v_rules) (C := R_TM) (T := F_TM) (N := 8) hx hb hts uw_TM hown hK hP 0 rfl rfl 1 (by decide) (hts _ tw_40) (fun _ h9 => h9) rfl d_TM_addRule_15 ?_
  refine lv_iload_n hx hb d_TM_addRule_18 rfl (lv_at hl 2 rfl) ?_
  obtain ⟨hin, hF⟩ := ox_gdS hF
  refine va_iast hx hb hK hP hD hS 2 0 rfl rfl hin d_TM_addRule_19 (fun H locs hP hD hS => ?_)
  have hP : va_P (dC, dI) vwCl (wd_TM_addRule q_this q_layout q_before q_after q_seconds q_turns q_cause q_times cI v_rules (upd f_before v_rules.toNatClampNeg a1) (upd f_after v_rules.toNatClampNeg a2) f_seconds f_turns) H := hP
  have hD : va_D A (wd_TM_addRule q_this q_layout q_before q_after q_seconds q_turns q_cause q_times cI v_rules (upd f_before v_rules.toNatClampNeg a1) (upd f_after v_rules.toNatClampNeg a2) f_seconds f_turns) := hD
  refine lv_aload_n hx hb d_TM_addRule_20 rfl (lv_at hl 0 rfl) ?_
  refine va_get (D := (dC, dI)) (ci := 3) (v := .ref q_seconds) (C := R_TM) (T := F_TM) (N := 8) hx hb hts uw_TM hown hK hP 0 rfl rfl 4 (by decide) (hts _ tw_42) (fun _ h9 => h9) rfl d_TM_addRule_21 ?_
  refine lv_aload_n hx hb d_TM_addRule_24 rfl (lv_at hl 0 rfl) ?_
  refine va_get (D := (dC, dI)) (ci := 3) (v := .int v_rules) (C := R_TM) (T := F_TM) (N := 8) hx hb hts uw_TM hown hK hP 0 rfl rfl 1 (by decide) (hts _ tw_40) (fun _ h9 => h9) rfl d_TM_addRule_25 ?_
  refine lv_iload_n hx hb d_TM_addRule_28 rfl (lv_at hl 3 rfl) ?_
  obtain ⟨hin, hF⟩ := ox_gdS hF
  refine va_iast hx hb hK hP hD hS 3 0 rfl rfl hin d_TM_addRule_29 (fun H locs hP hD hS => ?_)
  have hP : va_P (dC, dI) vwCl (wd_TM_addRule q_this q_layout q_before q_after q_seconds q_turns q_cause q_times cI v_rules (upd f_before v_rules.toNatClampNeg a1) (upd f_after v_rules.toNatClampNeg a2) (upd f_seconds v_rules.toNatClampNeg a3) f_turns) H := hP
  have hD : va_D A (wd_TM_addRule q_this q_layout q_before q_after q_seconds q_turns q_cause q_times cI v_rules (upd f_before v_rules.toNatClampNeg a1) (upd f_after v_rules.toNatClampNeg a2) (upd f_seconds v_rules.toNatClampNeg a3) f_turns) := hD
  refine lv_aload_n hx hb d_TM_addRule_30 rfl (lv_at hl 0 rfl) ?_
  refine va_get (D := (dC, dI)) (ci := 3) (v := .ref q_turns) (C := R_TM) (T := F_TM) (N := 8) hx hb hts uw_TM hown hK hP 0 rfl rfl 5 (by decide) (hts _ tw_43) (fun _ h9 => h9) rfl d_TM_addRule_31 ?_
  refine lv_aload_n hx hb d_TM_addRule_34 rfl (lv_at hl 0 rfl) ?_
  refine va_get (D := (dC, dI)) (ci := 3) (v := .int v_rules) (C := R_TM) (T := F_TM) (N := 8) hx hb hts uw_TM hown hK hP 0 rfl rfl 1 (by decide) (hts _ tw_40) (fun _ h9 => h9) rfl d_TM_addRule_35 ?_
  refine lv_iload hx hb d_TM_addRule_38 (lv_at hl 4 rfl) ?_
  obtain ⟨hin, hF⟩ := ox_gdS hF
  refine va_iast hx hb hK hP hD hS 4 0 rfl rfl hin d_TM_addRule_40 (fun H locs hP hD hS => ?_)
  have hP : va_P (dC, dI) vwCl (wd_TM_addRule q_this q_layout q_before q_after q_seconds q_turns q_cause q_times cI v_rules (upd f_before v_rules.toNatClampNeg a1) (upd f_after v_rules.toNatClampNeg a2) (upd f_seconds v_rules.toNatClampNeg a3) (upd f_turns v_rules.toNatClampNeg a4)) H := hP
  have hD : va_D A (wd_TM_addRule q_this q_layout q_before q_after q_seconds q_turns q_cause q_times cI v_rules (upd f_before v_rules.toNatClampNeg a1) (upd f_after v_rules.toNatClampNeg a2) (upd f_seconds v_rules.toNatClampNeg a3) (upd f_turns v_rules.toNatClampNeg a4)) := hD
  refine lv_aload_n hx hb d_TM_addRule_41 rfl (lv_at hl 0 rfl) ?_
  refine lv_dup hx hb d_TM_addRule_42 rfl ?_
  refine va_get (D := (dC, dI)) (ci := 3) (v := .int v_rules) (C := R_TM) (T := F_TM) (N := 8) hx hb hts uw_TM hown hK hP 0 rfl rfl 1 (by decide) (hts _ tw_40) (fun _ h9 => h9) rfl d_TM_addRule_43 ?_
  refine lv_iconst (v := 1) hx hb d_TM_addRule_46 (by decide) ?_
  refine lv_iadd hx hb d_TM_addRule_47 ?_
  refine va_put (D := (dC, dI)) (ci := 3) (v := .int (v_rules + 1)) (ty := .int) (C := R_TM) (T := F_TM) (N := 8) hx hb hts uw_TM t_TM t_TM_ok n_TM hown hK hP hD hS 0 rfl rfl 1 (by decide) (hts _ tw_40) (fun _ h9 => h9) rfl (by decide +kernel) rfl rfl (Nat.le_of_ble_eq_true rfl) d_TM_addRule_48 (fun H locs hP hD hS => ?_)
  have hP : va_P (dC, dI) vwCl (wd_TM_addRule q_this q_layout q_before q_after q_seconds q_turns q_cause q_times cI (v_rules + 1) (upd f_before v_rules.toNatClampNeg a1) (upd f_after v_rules.toNatClampNeg a2) (upd f_seconds v_rules.toNatClampNeg a3) (upd f_turns v_rules.toNatClampNeg a4)) H := hP
  have hD : va_D A (wd_TM_addRule q_this q_layout q_before q_after q_seconds q_turns q_cause q_times cI (v_rules + 1) (upd f_before v_rules.toNatClampNeg a1) (upd f_after v_rules.toNatClampNeg a2) (upd f_seconds v_rules.toNatClampNeg a3) (upd f_turns v_rules.toNatClampNeg a4)) := hD
  cases hF
  exact hq_vret hx hb hr hlocks hP hD hK hS d_TM_addRule_51
abbrev wd_TM_addWays (q_p1 : Nat) (q_p1_moves : Nat) (q_p1_rank : Nat) (q_this : Nat) (q_layout : Nat) (q_before : Nat) (q_after : Nat) (q_seconds : Nat) (q_turns : Nat) (q_cause : Nat) (q_times : Nat) (q_layout_low : Nat) (q_layout_high : Nat) (q_layout_loadedSeconds : Nat) (q_layout_emptySeconds : Nat) (qr_layout_emptySeconds : Nat → Nat) (cI : ClassId) (cO : ClassId) (v_p1_count : Int32) (v_rules : Int32) (v_layout_tanks : Int32) (f_p1_moves : Nat → Int32) (f_layout_loadedSeconds : Nat → Int32) (f_before : Nat → Int32) (f_after : Nat → Int32) (f_seconds : Nat → Int32) (f_turns : Nat → Int32) (f_layout_emptySeconds : Nat → Nat → Int32) : va_W := [(q_p1, .inr (1, [.int v_p1_count, .ref q_p1_moves, .ref q_p1_rank])), (q_this, .inr (3, [.ref q_layout, .int v_rules, .ref q_before, .ref q_after, .ref q_seconds, .ref q_turns, .ref q_cause, .ref q_times])), (q_layout, .inr (0, [.int v_layout_tanks, .ref q_layout_low, .ref q_layout_high, .ref q_layout_loadedSeconds, .ref q_layout_emptySeconds])), (q_p1_moves, .inl (cI, 6, .inl f_p1_moves)), (q_layout_loadedSeconds, .inl (cI, 6, .inl f_layout_loadedSeconds)), (q_before, .inl (cI, 16, .inl f_before)), (q_after, .inl (cI, 16, .inl f_after)), (q_seconds, .inl (cI, 16, .inl f_seconds)), (q_turns, .inl (cI, 16, .inl f_turns)), (q_layout_emptySeconds, .inl (hq_out cO qr_layout_emptySeconds))] ++ hq_rows cI qr_layout_emptySeconds f_layout_emptySeconds
set_option maxHeartbeats 4000000 in
set_option maxRecDepth 100000 in
theorem c_TM_addWays (l : Launch) (dC : Nat → ClassId) (dI : Nat → Nat → Nat) (q_p1 : Nat) (q_p1_moves : Nat) (q_p1_rank : Nat) (q_this : Nat) (q_layout : Nat) (q_before : Nat) (q_after : Nat) (q_seconds : Nat) (q_turns : Nat) (q_cause : Nat) (q_times : Nat) (q_layout_low : Nat) (q_layout_high : Nat) (q_layout_loadedSeconds : Nat) (q_layout_emptySeconds : Nat) (qr_layout_emptySeconds : Nat → Nat) (cI : ClassId) (cO : ClassId) (sz : Nat) (z : Nat) (v_p1_count : Int32) (v_rules : Int32) (v_layout_tanks : Int32) (f_p1_moves : Nat → Int32) (f_layout_loadedSeconds : Nat → Int32) (f_before : Nat → Int32) (f_after : Nat → Int32) (f_seconds : Nat → Int32) (f_turns : Nat → Int32) (f_layout_emptySeconds : Nat → Nat → Int32) (rr : Int32) (n_v_rules : Int32) (n_f_before : Nat → Int32) (n_f_after : Nat → Int32) (n_f_seconds : Nat → Int32) (n_f_turns : Nat → Int32) (hF : fn_TM_addWays z v_p1_count v_rules f_p1_moves f_layout_loadedSeconds f_before f_after f_seconds f_turns f_layout_emptySeconds = some (rr, n_v_rules, n_f_before, n_f_after, n_f_seconds, n_f_turns)) : Met l y_TM_addWays w_TM_addWays ({ frames := 1, cells := 0, slots := 0, locals := 24 }) (hq_Pc (dC, dI) vwCl [(cI, .int), (cO, .array .int)] (wd_TM_addWays q_p1 q_p1_moves q_p1_rank q_this q_layout q_before q_after q_seconds q_turns q_cause q_times q_layout_low q_layout_high q_layout_loadedSeconds q_layout_emptySeconds qr_layout_emptySeconds cI cO v_p1_count v_rules v_layout_tanks f_p1_moves f_layout_loadedSeconds f_before f_after f_seconds f_turns f_layout_emptySeconds) sz [.ref q_this, .ref q_p1]) (hq_Qi (dC, dI) vwCl [(cI, .int), (cO, .array .int)] (wd_TM_addWays q_p1 q_p1_moves q_p1_rank q_this q_layout q_before q_after q_seconds q_turns q_cause q_times q_layout_low q_layout_high q_layout_loadedSeconds q_layout_emptySeconds qr_layout_emptySeconds cI cO v_p1_count n_v_rules v_layout_tanks f_p1_moves f_layout_loadedSeconds n_f_before n_f_after n_f_seconds n_f_turns f_layout_emptySeconds) rr (va_A (wd_TM_addWays q_p1 q_p1_moves q_p1_rank q_this q_layout q_before q_after q_seconds q_turns q_cause q_times q_layout_low q_layout_high q_layout_loadedSeconds q_layout_emptySeconds qr_layout_emptySeconds cI cO v_p1_count v_rules v_layout_tanks f_p1_moves f_layout_loadedSeconds f_before f_after f_seconds f_turns f_layout_emptySeconds) sz)) 0 0 (va_A (wd_TM_addWays q_p1 q_p1_moves q_p1_rank q_this q_layout q_before q_after q_seconds q_turns q_cause q_times q_layout_low q_layout_high q_layout_loadedSeconds q_layout_emptySeconds qr_layout_emptySeconds cI cO v_p1_count v_rules v_layout_tanks f_p1_moves f_layout_loadedSeconds f_before f_after f_seconds f_turns f_layout_emptySeconds) sz) := by
  refine hq_met (Qc := (hq_Qi (dC, dI) vwCl [(cI, .int), (cO, .array .int)] (wd_TM_addWays q_p1 q_p1_moves q_p1_rank q_this q_layout q_before q_after q_seconds q_turns q_cause q_times q_layout_low q_layout_high q_layout_loadedSeconds q_layout_emptySeconds qr_layout_emptySeconds cI cO v_p1_count n_v_rules v_layout_tanks f_p1_moves f_layout_loadedSeconds n_f_before n_f_after n_f_seconds n_f_turns f_layout_emptySeconds) rr)) (cc := b_TM_addWays) (maxL := 8) (ret := some .int) (by decide) rfl (Nat.le_of_ble_eq_true rfl) ?_
  intro p e s m args below meth c A ls hx hb hr hml hts hown hlocks hnm hP hD hK hA hS hl
  have hts : ∀ w ∈ tb0, w.before args s = true := fun w h => hts w (List.mem_cons_of_mem _ h)
  have hown : s.vm.findClass R_TM = some m.cls := hown
  have hl : lv_has ls 8 [(0, .ref q_this), (1, .ref q_p1)] := hl
  unfold fn_TM_addWays at hF
  have loop : ∀ fu : Nat, (∀ (i2 : Int32) (i3 : Int32) (v_rules : Int32) (f_before : Nat → Int32) (f_after : Nat → Int32) (f_seconds : Nat → Int32) (f_turns : Nat → Int32) (H : Heap) (locs : List Loc) (ls : Array Slot), va_P (dC, dI) vwCl (wd_TM_addWays q_p1 q_p1_moves q_p1_rank q_this q_layout q_before q_after q_seconds q_turns q_cause q_times q_layout_low q_layout_high q_layout_loadedSeconds q_layout_emptySeconds qr_layout_emptySeconds cI cO v_p1_count v_rules v_layout_tanks f_p1_moves f_layout_loadedSeconds f_before f_after f_seconds f_turns f_layout_emptySeconds) H → va_D A (wd_TM_addWays q_p1 q_p1_moves q_p1_rank q_this q_layout q_before q_after q_seconds q_turns q_cause q_times q_layout_low q_layout_high q_layout_loadedSeconds q_layout_emptySeconds qr_layout_emptySeconds cI cO v_p1_count v_rules v_layout_tanks f_p1_moves f_layout_loadedSeconds f_before f_after f_seconds f_turns f_layout_emptySeconds) → va_S A s.heap H locs → lv_has ls 8 [(0, .ref q_this), (1, .ref q_p1), (2, .int i2), (3, .int i3)] → lp_TM_addWays v_p1_count f_p1_moves f_layout_loadedSeconds f_layout_emptySeconds fu 0 i2 i3 v_rules f_before f_after f_seconds f_turns = some (rr, n_v_rules, n_f_before, n_f_after, n_f_seconds, n_f_turns) → W p l e ({ frames := 1, cells := 0, slots := 0, locals := 24 }) s m args below meth c H locs 0 0 (MQ below ((hq_Qi (dC, dI) vwCl [(cI, .int), (cO, .array .int)] (wd_TM_addWays q_p1 q_p1_moves q_p1_rank q_this q_layout q_before q_after q_seconds q_turns q_cause q_times q_layout_low q_layout_high q_layout_loadedSeconds q_layout_emptySeconds qr_layout_emptySeconds cI cO v_p1_count n_v_rules v_layout_tanks f_p1_moves f_layout_loadedSeconds n_f_before n_f_after n_f_seconds n_f_turns f_layout_emptySeconds) rr) A) args s 0 0 A) (F0 m 4 ls [])) := by
    intro fu
    induction fu with
    | zero => exact (fun _ _ _ _ _ _ _ _ _ _ _ _ _ _ h => by cases h)
    | succ fu ih =>
      intro i2 i3 v_rules f_before f_after f_seconds f_turns H locs ls hP hD hS hl hF
      have hF : st_TM_addWays v_p1_count f_p1_moves f_layout_loadedSeconds f_layout_emptySeconds (lp_TM_addWays v_p1_count f_p1_moves f_layout_loadedSeconds f_layout_emptySeconds fu) 0 i2 i3 v_rules f_before f_after f_seconds f_turns = some (rr, n_v_rules, n_f_before, n_f_after, n_f_seconds, n_f_turns) := hF
      unfold st_TM_addWays at hF
      try dsimp only at hF
      refine lv_iload_n hx hb d_TM_addWays_4 rfl (lv_at hl 3 rfl) ?_
      refine lv_aload_n hx hb d_TM_addWays_5 rfl (lv_at hl 1 rfl) ?_
      refine va_get (D := (dC, dI)) (ci := 1) (v := .int v_p1_count) (C := R_OR) (T := F_OR) (N := 3) hx hb hts uw_OR hown hK hP 0 rfl rfl 0 (by decide) (hts _ tw_44) (fun _ h9 => h9) rfl d_TM_addWays_6 ?_
      refine lv_icmp_ge (tgt := 115) hx hb d_TM_addWays_9 (by decide) (fun hb1 => ?_) (fun hb1 => ?_)
      · have hF := ox_t hF hb1
        refine lv_iload_n hx hb d_TM_addWays_115 rfl (lv_at hl 2 rfl) ?_
        cases hF
        exact hq_iret hx hb hr hlocks hP hD hK hS d_TM_addWays_116
      · have hF := ox_f hF hb1
        refine lv_iload_n hx hb d_TM_addWays_12 rfl (lv_at hl 3 rfl) ?_
        refine lv_aload_n hx hb d_TM_addWays_13 rfl (lv_at hl 1 rfl) ?_
        refine va_get (D := (dC, dI)) (ci := 1) (v := .int v_p1_count) (C := R_OR) (T := F_OR) (N := 3) hx hb hts uw_OR hown hK hP 0 rfl rfl 0 (by decide) (hts _ tw_44) (fun _ h9 => h9) rfl d_TM_addWays_14 ?_
        refine lv_iconst (v := 1) hx hb d_TM_addWays_17 (by decide) ?_
        refine lv_isub hx hb d_TM_addWays_18 ?_
        refine lv_icmp_ne (tgt := 26) hx hb d_TM_addWays_19 (by decide) (fun hb2 => ?_) (fun hb2 => ?_)
        · have hF := ox_t hF hb2
          refine lv_iconst (v := 0) hx hb d_TM_addWays_26 (by decide) ?_
          refine lv_istore (lv' := [(4, .int 0), (0, .ref q_this), (1, .ref q_p1), (2, .int i2), (3, .int i3)]) hx hb d_TM_addWays_27 hl (by decide) rfl (fun ls hl => ?_)
          refine lv_aload_n hx hb d_TM_addWays_29 rfl (lv_at hl 2 rfl) ?_
          refine va_get (D := (dC, dI)) (ci := 1) (v := .ref q_p1_moves) (C := R_OR) (T := F_OR) (N := 3) hx hb hts uw_OR hown hK hP 0 rfl rfl 1 (by decide) (hts _ tw_45) (fun _ h9 => h9) rfl d_TM_addWays_30 ?_
          refine lv_iload_n hx hb d_TM_addWays_33 rfl (lv_at hl 4 rfl) ?_
          obtain ⟨hin, hF⟩ := ox_gdS hF
          refine va_iald hx hb hK hP 3 0 rfl rfl hin d_TM_addWays_34 ?_
          refine lv_istore (lv' := [(5, .int (f_p1_moves i3.toNatClampNeg)), (4, .int 0), (0, .ref q_this), (1, .ref q_p1), (2, .int i2), (3, .int i3)]) hx hb d_TM_addWays_35 hl (by decide) rfl (fun ls hl => ?_)
          refine lv_iload hx hb d_TM_addWays_37 (lv_at hl 1 rfl) ?_
          refine lv_if_eq (tgt := 46) hx hb d_TM_addWays_39 (by decide) (fun _ => ?_) (fun h => absurd (by decide) h)
          refine lv_aload_n hx hb d_TM_addWays_46 rfl (lv_at hl 3 rfl) ?_
          refine va_get (D := (dC, dI)) (ci := 1) (v := .ref q_p1_moves) (C := R_OR) (T := F_OR) (N := 3) hx hb hts uw_OR hown hK hP 0 rfl rfl 1 (by decide) (hts _ tw_45) (fun _ h9 => h9) rfl d_TM_addWays_47 ?_
          refine lv_iload_n hx hb d_TM_addWays_50 rfl (lv_at hl 5 rfl) ?_
          refine lv_iconst (v := 1) hx hb d_TM_addWays_51 (by decide) ?_
          refine lv_iadd hx hb d_TM_addWays_52 ?_
          obtain ⟨hin, hF⟩ := ox_gdS hF
          refine va_iald hx hb hK hP 3 0 rfl rfl hin d_TM_addWays_53 ?_
          refine lv_istore (lv' := [(6, .int (f_p1_moves (i3 + 1).toNatClampNeg)), (5, .int (f_p1_moves i3.toNatClampNeg)), (4, .int 0), (0, .ref q_this), (1, .ref q_p1), (2, .int i2), (3, .int i3)]) hx hb d_TM_addWays_54 hl (by decide) rfl (fun ls hl => ?_)
          refine lv_aload_n hx hb d_TM_addWays_56 rfl (lv_at hl 3 rfl) ?_
          refine va_get (D := (dC, dI)) (ci := 3) (v := .ref q_layout) (C := R_TM) (T := F_TM) (N := 8) hx hb hts uw_TM hown hK hP 1 rfl rfl 0 (by decide) (hts _ tw_46) (fun _ h9 => h9) rfl d_TM_addWays_57 ?_
          refine va_get (D := (dC, dI)) (ci := 0) (v := .ref q_layout_loadedSeconds) (C := R_LY) (T := F_LY) (N := 5) hx hb hts uw_LY hown hK hP 2 rfl rfl 3 (by decide) (hts _ tw_47) (fun _ h9 => h9) rfl d_TM_addWays_60 ?_
          refine lv_iload hx hb d_TM_addWays_63 (lv_at hl 1 rfl) ?_
          obtain ⟨hin, hF⟩ := ox_gdS hF
          refine va_iald hx hb hK hP 4 0 rfl rfl hin d_TM_addWays_65 ?_
          refine lv_aload_n hx hb d_TM_addWays_66 rfl (lv_at hl 3 rfl) ?_
          refine va_get (D := (dC, dI)) (ci := 3) (v := .ref q_layout) (C := R_TM) (T := F_TM) (N := 8) hx hb hts uw_TM hown hK hP 1 rfl rfl 0 (by decide) (hts _ tw_46) (fun _ h9 => h9) rfl d_TM_addWays_67 ?_
          refine va_get (D := (dC, dI)) (ci := 0) (v := .ref q_layout_emptySeconds) (C := R_LY) (T := F_LY) (N := 5) hx hb hts uw_LY hown hK hP 2 rfl rfl 4 (by decide) (hts _ tw_48) (fun _ h9 => h9) rfl d_TM_addWays_70 ?_
          refine lv_iload hx hb d_TM_addWays_73 (lv_at hl 1 rfl) ?_
          refine lv_iconst (v := 1) hx hb d_TM_addWays_75 (by decide) ?_
          refine lv_iadd hx hb d_TM_addWays_76 ?_
          obtain ⟨hin, hF⟩ := ox_gdS hF
          refine hq_gld (qr := qr_layout_emptySeconds) hx hb hK hP 9 1 rfl rfl hin d_TM_addWays_77 ?_
          have hro77 := hq_lt hin
          refine lv_iload hx hb d_TM_addWays_78 (lv_at hl 0 rfl) ?_
          obtain ⟨hin, hF⟩ := ox_gdS hF
          refine va_iald hx hb hK hP (10 + ((f_p1_moves i3.toNatClampNeg) + 1).toNatClampNeg) 0 (hq_rowAt _ _ _ _ rfl hro77) rfl hin d_TM_addWays_80 ?_
          refine lv_iadd hx hb d_TM_addWays_81 ?_
          refine lv_istore (lv' := [(7, .int ((f_layout_loadedSeconds (f_p1_moves i3.toNatClampNeg).toNatClampNeg) + (f_layout_emptySeconds ((f_p1_moves i3.toNatClampNeg) + 1).toNatClampNeg (f_p1_moves (i3 + 1).toNatClampNeg).toNatClampNeg))), (6, .int (f_p1_moves (i3 + 1).toNatClampNeg)), (5, .int (f_p1_moves i3.toNatClampNeg)), (4, .int 0), (0, .ref q_this), (1, .ref q_p1), (2, .int i2), (3, .int i3)]) hx hb d_TM_addWays_82 hl (by decide) rfl (fun ls hl => ?_)
          refine lv_aload_n hx hb d_TM_addWays_84 rfl (lv_at hl 4 rfl) ?_
          refine lv_iload hx hb d_TM_addWays_85 (lv_at hl 2 rfl) ?_
          refine lv_iload hx hb d_TM_addWays_87 (lv_at hl 1 rfl) ?_
          refine lv_iload hx hb d_TM_addWays_89 (lv_at hl 0 rfl) ?_
          refine lv_iload hx hb d_TM_addWays_91 (lv_at hl 3 rfl) ?_
          refine lv_if_eq (tgt := 100) hx hb d_TM_addWays_93 (by decide) (fun _ => ?_) (fun h => absurd (by decide) h)
          refine lv_iconst (v := 0) hx hb d_TM_addWays_100 (by decide) ?_
          obtain ⟨⟨s3_v_rules, s3_f_before, s3_f_after, s3_f_seconds, s3_f_turns⟩, hc3, hF⟩ := ox_clS hF
          refine hq_cv (ws' := (wd_TM_addWays q_p1 q_p1_moves q_p1_rank q_this q_layout q_before q_after q_seconds q_turns q_cause q_times q_layout_low q_layout_high q_layout_loadedSeconds q_layout_emptySeconds qr_layout_emptySeconds cI cO v_p1_count s3_v_rules v_layout_tanks f_p1_moves f_layout_loadedSeconds s3_f_before s3_f_after s3_f_seconds s3_f_turns f_layout_emptySeconds)) (hq_rV (As := [.int (f_p1_moves i3.toNatClampNeg), .int (f_p1_moves (i3 + 1).toNatClampNeg), .int ((f_layout_loadedSeconds (f_p1_moves i3.toNatClampNeg).toNatClampNeg) + (f_layout_emptySeconds ((f_p1_moves i3.toNatClampNeg) + 1).toNatClampNeg (f_p1_moves (i3 + 1).toNatClampNeg).toNatClampNeg)), .int 0]) (rest := []) ⟨hx, hb, hml, hown, hts⟩ (c_TM_addRule l dC dI q_this q_layout q_before q_after q_seconds q_turns q_cause q_times cI _ (f_p1_moves i3.toNatClampNeg) (f_p1_moves (i3 + 1).toNatClampNeg) ((f_layout_loadedSeconds (f_p1_moves i3.toNatClampNeg).toNatClampNeg) + (f_layout_emptySeconds ((f_p1_moves i3.toNatClampNeg) + 1).toNatClampNeg (f_p1_moves (i3 + 1).toNatClampNeg).toNatClampNeg)) 0 v_rules f_before f_after f_seconds f_turns s3_v_rules s3_f_before s3_f_after s3_f_seconds s3_f_turns hc3) (cwV 4 hts (hq_gV tw_49 tw_50 tw_51 tw_52 tw_53) rfl rfl rfl yv_TM_addRule ⟨Nat.le_of_ble_eq_true rfl, Nat.le_of_ble_eq_true rfl⟩) hP hD hK [0] rfl 1 rfl rfl [1, 5, 6, 7, 8] rfl rfl rfl hl.1 rfl (Nat.le_of_ble_eq_true rfl) d_TM_addWays_101 ⟨Nat.zero_le _, Nat.zero_le _⟩) hP hD hS hA [1, 5, 6, 7, 8] [0, 2, 3, 4, 9, 10, 11, 12, 13, 14, 15, 16] [0, 12, 1, 2, 3, 13, 14, 15, 16, 4, 5, 6, 7, 8, 9, 10, 11] rfl rfl rfl (by decide) rfl rfl (fun H locs hP hD hS => ?_)
          refine lv_iload_n hx hb d_TM_addWays_104 rfl (lv_at hl 6 rfl) ?_
          refine lv_iload hx hb d_TM_addWays_105 (lv_at hl 0 rfl) ?_
          refine lv_iadd hx hb d_TM_addWays_107 ?_
          refine lv_istore_n (lv' := [(2, .int (i2 + ((f_layout_loadedSeconds (f_p1_moves i3.toNatClampNeg).toNatClampNeg) + (f_layout_emptySeconds ((f_p1_moves i3.toNatClampNeg) + 1).toNatClampNeg (f_p1_moves (i3 + 1).toNatClampNeg).toNatClampNeg)))), (7, .int ((f_layout_loadedSeconds (f_p1_moves i3.toNatClampNeg).toNatClampNeg) + (f_layout_emptySeconds ((f_p1_moves i3.toNatClampNeg) + 1).toNatClampNeg (f_p1_moves (i3 + 1).toNatClampNeg).toNatClampNeg))), (6, .int (f_p1_moves (i3 + 1).toNatClampNeg)), (5, .int (f_p1_moves i3.toNatClampNeg)), (4, .int 0), (0, .ref q_this), (1, .ref q_p1), (3, .int i3)]) hx hb d_TM_addWays_108 rfl hl (by decide) rfl (fun ls hl => ?_)
          refine lv_iinc (v := (i3 + 1)) (lv' := [(3, .int (i3 + 1)), (2, .int (i2 + ((f_layout_loadedSeconds (f_p1_moves i3.toNatClampNeg).toNatClampNeg) + (f_layout_emptySeconds ((f_p1_moves i3.toNatClampNeg) + 1).toNatClampNeg (f_p1_moves (i3 + 1).toNatClampNeg).toNatClampNeg)))), (7, .int ((f_layout_loadedSeconds (f_p1_moves i3.toNatClampNeg).toNatClampNeg) + (f_layout_emptySeconds ((f_p1_moves i3.toNatClampNeg) + 1).toNatClampNeg (f_p1_moves (i3 + 1).toNatClampNeg).toNatClampNeg))), (6, .int (f_p1_moves (i3 + 1).toNatClampNeg)), (5, .int (f_p1_moves i3.toNatClampNeg)), (4, .int 0), (0, .ref q_this), (1, .ref q_p1)]) hx hb d_TM_addWays_109 hl (k := 7) rfl rfl (by decide) rfl (fun ls hl => ?_)
          refine lv_goto (tgt := 4) hx hb d_TM_addWays_112 (by decide) ?_
          exact ih (i2 + ((f_layout_loadedSeconds (f_p1_moves i3.toNatClampNeg).toNatClampNeg) + (f_layout_emptySeconds ((f_p1_moves i3.toNatClampNeg) + 1).toNatClampNeg (f_p1_moves (i3 + 1).toNatClampNeg).toNatClampNeg))) (i3 + 1) s3_v_rules s3_f_before s3_f_after s3_f_seconds s3_f_turns _ _ _ hP hD hS (lv_sub hl [6, 7, 1, 0] rfl) hF
        · have hF := ox_fn hF hb2
          refine lv_iconst (v := 1) hx hb d_TM_addWays_22 (by decide) ?_
          refine lv_goto (tgt := 27) hx hb d_TM_addWays_23 (by decide) ?_
          refine lv_istore (lv' := [(4, .int 1), (0, .ref q_this), (1, .ref q_p1), (2, .int i2), (3, .int i3)]) hx hb d_TM_addWays_27 hl (by decide) rfl (fun ls hl => ?_)
          refine lv_aload_n hx hb d_TM_addWays_29 rfl (lv_at hl 2 rfl) ?_
          refine va_get (D := (dC, dI)) (ci := 1) (v := .ref q_p1_moves) (C := R_OR) (T := F_OR) (N := 3) hx hb hts uw_OR hown hK hP 0 rfl rfl 1 (by decide) (hts _ tw_45) (fun _ h9 => h9) rfl d_TM_addWays_30 ?_
          refine lv_iload_n hx hb d_TM_addWays_33 rfl (lv_at hl 4 rfl) ?_
          obtain ⟨hin, hF⟩ := ox_gdS hF
          refine va_iald hx hb hK hP 3 0 rfl rfl hin d_TM_addWays_34 ?_
          refine lv_istore (lv' := [(5, .int (f_p1_moves i3.toNatClampNeg)), (4, .int 1), (0, .ref q_this), (1, .ref q_p1), (2, .int i2), (3, .int i3)]) hx hb d_TM_addWays_35 hl (by decide) rfl (fun ls hl => ?_)
          refine lv_iload hx hb d_TM_addWays_37 (lv_at hl 1 rfl) ?_
          refine lv_if_eq (tgt := 46) hx hb d_TM_addWays_39 (by decide) (fun h => absurd h (by decide)) (fun _ => ?_)
          refine lv_iconst (v := 0) hx hb d_TM_addWays_42 (by decide) ?_
          refine lv_goto (tgt := 54) hx hb d_TM_addWays_43 (by decide) ?_
          refine lv_istore (lv' := [(6, .int 0), (5, .int (f_p1_moves i3.toNatClampNeg)), (4, .int 1), (0, .ref q_this), (1, .ref q_p1), (2, .int i2), (3, .int i3)]) hx hb d_TM_addWays_54 hl (by decide) rfl (fun ls hl => ?_)
          refine lv_aload_n hx hb d_TM_addWays_56 rfl (lv_at hl 3 rfl) ?_
          refine va_get (D := (dC, dI)) (ci := 3) (v := .ref q_layout) (C := R_TM) (T := F_TM) (N := 8) hx hb hts uw_TM hown hK hP 1 rfl rfl 0 (by decide) (hts _ tw_46) (fun _ h9 => h9) rfl d_TM_addWays_57 ?_
          refine va_get (D := (dC, dI)) (ci := 0) (v := .ref q_layout_loadedSeconds) (C := R_LY) (T := F_LY) (N := 5) hx hb hts uw_LY hown hK hP 2 rfl rfl 3 (by decide) (hts _ tw_47) (fun _ h9 => h9) rfl d_TM_addWays_60 ?_
          refine lv_iload hx hb d_TM_addWays_63 (lv_at hl 1 rfl) ?_
          obtain ⟨hin, hF⟩ := ox_gdS hF
          refine va_iald hx hb hK hP 4 0 rfl rfl hin d_TM_addWays_65 ?_
          refine lv_aload_n hx hb d_TM_addWays_66 rfl (lv_at hl 3 rfl) ?_
          refine va_get (D := (dC, dI)) (ci := 3) (v := .ref q_layout) (C := R_TM) (T := F_TM) (N := 8) hx hb hts uw_TM hown hK hP 1 rfl rfl 0 (by decide) (hts _ tw_46) (fun _ h9 => h9) rfl d_TM_addWays_67 ?_
          refine va_get (D := (dC, dI)) (ci := 0) (v := .ref q_layout_emptySeconds) (C := R_LY) (T := F_LY) (N := 5) hx hb hts uw_LY hown hK hP 2 rfl rfl 4 (by decide) (hts _ tw_48) (fun _ h9 => h9) rfl d_TM_addWays_70 ?_
          refine lv_iload hx hb d_TM_addWays_73 (lv_at hl 1 rfl) ?_
          refine lv_iconst (v := 1) hx hb d_TM_addWays_75 (by decide) ?_
          refine lv_iadd hx hb d_TM_addWays_76 ?_
          obtain ⟨hin, hF⟩ := ox_gdS hF
          refine hq_gld (qr := qr_layout_emptySeconds) hx hb hK hP 9 1 rfl rfl hin d_TM_addWays_77 ?_
          have hro77 := hq_lt hin
          refine lv_iload hx hb d_TM_addWays_78 (lv_at hl 0 rfl) ?_
          have hin : vp_in 0 7 := by unfold vp_in; decide
          refine va_iald hx hb hK hP (10 + ((f_p1_moves i3.toNatClampNeg) + 1).toNatClampNeg) 0 (hq_rowAt _ _ _ _ rfl hro77) rfl hin d_TM_addWays_80 ?_
          refine lv_iadd hx hb d_TM_addWays_81 ?_
          refine lv_istore (lv' := [(7, .int ((f_layout_loadedSeconds (f_p1_moves i3.toNatClampNeg).toNatClampNeg) + (f_layout_emptySeconds ((f_p1_moves i3.toNatClampNeg) + 1).toNatClampNeg 0))), (6, .int 0), (5, .int (f_p1_moves i3.toNatClampNeg)), (4, .int 1), (0, .ref q_this), (1, .ref q_p1), (2, .int i2), (3, .int i3)]) hx hb d_TM_addWays_82 hl (by decide) rfl (fun ls hl => ?_)
          refine lv_aload_n hx hb d_TM_addWays_84 rfl (lv_at hl 4 rfl) ?_
          refine lv_iload hx hb d_TM_addWays_85 (lv_at hl 2 rfl) ?_
          refine lv_iload hx hb d_TM_addWays_87 (lv_at hl 1 rfl) ?_
          refine lv_iload hx hb d_TM_addWays_89 (lv_at hl 0 rfl) ?_
          refine lv_iload hx hb d_TM_addWays_91 (lv_at hl 3 rfl) ?_
          refine lv_if_eq (tgt := 100) hx hb d_TM_addWays_93 (by decide) (fun h => absurd h (by decide)) (fun _ => ?_)
          refine lv_iconst (v := (-1)) hx hb d_TM_addWays_96 (by decide) ?_
          refine lv_goto (tgt := 101) hx hb d_TM_addWays_97 (by decide) ?_
          obtain ⟨⟨s4_v_rules, s4_f_before, s4_f_after, s4_f_seconds, s4_f_turns⟩, hc4, hF⟩ := ox_clS hF
          refine hq_cv (ws' := (wd_TM_addWays q_p1 q_p1_moves q_p1_rank q_this q_layout q_before q_after q_seconds q_turns q_cause q_times q_layout_low q_layout_high q_layout_loadedSeconds q_layout_emptySeconds qr_layout_emptySeconds cI cO v_p1_count s4_v_rules v_layout_tanks f_p1_moves f_layout_loadedSeconds s4_f_before s4_f_after s4_f_seconds s4_f_turns f_layout_emptySeconds)) (hq_rV (As := [.int (f_p1_moves i3.toNatClampNeg), .int 0, .int ((f_layout_loadedSeconds (f_p1_moves i3.toNatClampNeg).toNatClampNeg) + (f_layout_emptySeconds ((f_p1_moves i3.toNatClampNeg) + 1).toNatClampNeg 0)), .int (-1)]) (rest := []) ⟨hx, hb, hml, hown, hts⟩ (c_TM_addRule l dC dI q_this q_layout q_before q_after q_seconds q_turns q_cause q_times cI _ (f_p1_moves i3.toNatClampNeg) 0 ((f_layout_loadedSeconds (f_p1_moves i3.toNatClampNeg).toNatClampNeg) + (f_layout_emptySeconds ((f_p1_moves i3.toNatClampNeg) + 1).toNatClampNeg 0)) (-1) v_rules f_before f_after f_seconds f_turns s4_v_rules s4_f_before s4_f_after s4_f_seconds s4_f_turns hc4) (cwV 4 hts (hq_gV tw_49 tw_50 tw_51 tw_52 tw_53) rfl rfl rfl yv_TM_addRule ⟨Nat.le_of_ble_eq_true rfl, Nat.le_of_ble_eq_true rfl⟩) hP hD hK [0] rfl 1 rfl rfl [1, 5, 6, 7, 8] rfl rfl rfl hl.1 rfl (Nat.le_of_ble_eq_true rfl) d_TM_addWays_101 ⟨Nat.zero_le _, Nat.zero_le _⟩) hP hD hS hA [1, 5, 6, 7, 8] [0, 2, 3, 4, 9, 10, 11, 12, 13, 14, 15, 16] [0, 12, 1, 2, 3, 13, 14, 15, 16, 4, 5, 6, 7, 8, 9, 10, 11] rfl rfl rfl (by decide) rfl rfl (fun H locs hP hD hS => ?_)
          refine lv_iload_n hx hb d_TM_addWays_104 rfl (lv_at hl 6 rfl) ?_
          refine lv_iload hx hb d_TM_addWays_105 (lv_at hl 0 rfl) ?_
          refine lv_iadd hx hb d_TM_addWays_107 ?_
          refine lv_istore_n (lv' := [(2, .int (i2 + ((f_layout_loadedSeconds (f_p1_moves i3.toNatClampNeg).toNatClampNeg) + (f_layout_emptySeconds ((f_p1_moves i3.toNatClampNeg) + 1).toNatClampNeg 0)))), (7, .int ((f_layout_loadedSeconds (f_p1_moves i3.toNatClampNeg).toNatClampNeg) + (f_layout_emptySeconds ((f_p1_moves i3.toNatClampNeg) + 1).toNatClampNeg 0))), (6, .int 0), (5, .int (f_p1_moves i3.toNatClampNeg)), (4, .int 1), (0, .ref q_this), (1, .ref q_p1), (3, .int i3)]) hx hb d_TM_addWays_108 rfl hl (by decide) rfl (fun ls hl => ?_)
          refine lv_iinc (v := (i3 + 1)) (lv' := [(3, .int (i3 + 1)), (2, .int (i2 + ((f_layout_loadedSeconds (f_p1_moves i3.toNatClampNeg).toNatClampNeg) + (f_layout_emptySeconds ((f_p1_moves i3.toNatClampNeg) + 1).toNatClampNeg 0)))), (7, .int ((f_layout_loadedSeconds (f_p1_moves i3.toNatClampNeg).toNatClampNeg) + (f_layout_emptySeconds ((f_p1_moves i3.toNatClampNeg) + 1).toNatClampNeg 0))), (6, .int 0), (5, .int (f_p1_moves i3.toNatClampNeg)), (4, .int 1), (0, .ref q_this), (1, .ref q_p1)]) hx hb d_TM_addWays_109 hl (k := 7) rfl rfl (by decide) rfl (fun ls hl => ?_)
          refine lv_goto (tgt := 4) hx hb d_TM_addWays_112 (by decide) ?_
          exact ih (i2 + ((f_layout_loadedSeconds (f_p1_moves i3.toNatClampNeg).toNatClampNeg) + (f_layout_emptySeconds ((f_p1_moves i3.toNatClampNeg) + 1).toNatClampNeg 0))) (i3 + 1) s4_v_rules s4_f_before s4_f_after s4_f_seconds s4_f_turns _ _ _ hP hD hS (lv_sub hl [6, 7, 1, 0] rfl) hF
  refine lv_iconst (v := 0) hx hb d_TM_addWays_0 (by decide) ?_
  refine lv_istore_n (lv' := [(2, .int 0), (0, .ref q_this), (1, .ref q_p1)]) hx hb d_TM_addWays_1 rfl hl (by decide) rfl (fun ls hl => ?_)
  refine lv_iconst (v := 0) hx hb d_TM_addWays_2 (by decide) ?_
  refine lv_istore_n (lv' := [(3, .int 0), (2, .int 0), (0, .ref q_this), (1, .ref q_p1)]) hx hb d_TM_addWays_3 rfl hl (by decide) rfl (fun ls hl => ?_)
  exact (loop z) 0 0 v_rules f_before f_after f_seconds f_turns _ _ _ hP hD hS (lv_sub hl [2, 3, 1, 0] rfl) hF
abbrev wd_TM_addSoaks (q_p1 : Nat) (q_p1_moves : Nat) (q_p1_rank : Nat) (q_this : Nat) (q_layout : Nat) (q_before : Nat) (q_after : Nat) (q_seconds : Nat) (q_turns : Nat) (q_cause : Nat) (q_times : Nat) (q_layout_low : Nat) (q_layout_high : Nat) (q_layout_loadedSeconds : Nat) (q_layout_emptySeconds : Nat) (cI : ClassId) (v_p1_count : Int32) (v_rules : Int32) (v_layout_tanks : Int32) (f_layout_loadedSeconds : Nat → Int32) (f_p1_rank : Nat → Int32) (f_layout_low : Nat → Int32) (f_before : Nat → Int32) (f_after : Nat → Int32) (f_seconds : Nat → Int32) (f_turns : Nat → Int32) (f_layout_high : Nat → Int32) : va_W := [(q_p1, .inr (1, [.int v_p1_count, .ref q_p1_moves, .ref q_p1_rank])), (q_this, .inr (3, [.ref q_layout, .int v_rules, .ref q_before, .ref q_after, .ref q_seconds, .ref q_turns, .ref q_cause, .ref q_times])), (q_layout, .inr (0, [.int v_layout_tanks, .ref q_layout_low, .ref q_layout_high, .ref q_layout_loadedSeconds, .ref q_layout_emptySeconds])), (q_layout_loadedSeconds, .inl (cI, 6, .inl f_layout_loadedSeconds)), (q_p1_rank, .inl (cI, 6, .inl f_p1_rank)), (q_layout_low, .inl (cI, 6, .inl f_layout_low)), (q_before, .inl (cI, 16, .inl f_before)), (q_after, .inl (cI, 16, .inl f_after)), (q_seconds, .inl (cI, 16, .inl f_seconds)), (q_turns, .inl (cI, 16, .inl f_turns)), (q_layout_high, .inl (cI, 6, .inl f_layout_high))]
set_option maxHeartbeats 4000000 in
set_option maxRecDepth 100000 in
theorem c_TM_addSoaks (l : Launch) (dC : Nat → ClassId) (dI : Nat → Nat → Nat) (q_p1 : Nat) (q_p1_moves : Nat) (q_p1_rank : Nat) (q_this : Nat) (q_layout : Nat) (q_before : Nat) (q_after : Nat) (q_seconds : Nat) (q_turns : Nat) (q_cause : Nat) (q_times : Nat) (q_layout_low : Nat) (q_layout_high : Nat) (q_layout_loadedSeconds : Nat) (q_layout_emptySeconds : Nat) (cI : ClassId) (sz : Nat) (z : Nat) (v_p1_count : Int32) (v_rules : Int32) (v_layout_tanks : Int32) (f_layout_loadedSeconds : Nat → Int32) (f_p1_rank : Nat → Int32) (f_layout_low : Nat → Int32) (f_before : Nat → Int32) (f_after : Nat → Int32) (f_seconds : Nat → Int32) (f_turns : Nat → Int32) (f_layout_high : Nat → Int32) (n_v_rules : Int32) (n_f_before : Nat → Int32) (n_f_after : Nat → Int32) (n_f_seconds : Nat → Int32) (n_f_turns : Nat → Int32) (hF : fn_TM_addSoaks z v_p1_count v_rules f_layout_loadedSeconds f_p1_rank f_layout_low f_before f_after f_seconds f_turns f_layout_high = some (n_v_rules, n_f_before, n_f_after, n_f_seconds, n_f_turns)) : Met l y_TM_addSoaks w_TM_addSoaks ({ frames := 1, cells := 0, slots := 0, locals := 24 }) (hq_Pc (dC, dI) vwCl [(cI, .int)] (wd_TM_addSoaks q_p1 q_p1_moves q_p1_rank q_this q_layout q_before q_after q_seconds q_turns q_cause q_times q_layout_low q_layout_high q_layout_loadedSeconds q_layout_emptySeconds cI v_p1_count v_rules v_layout_tanks f_layout_loadedSeconds f_p1_rank f_layout_low f_before f_after f_seconds f_turns f_layout_high) sz [.ref q_this, .ref q_p1]) (hq_Qv (dC, dI) vwCl [(cI, .int)] (wd_TM_addSoaks q_p1 q_p1_moves q_p1_rank q_this q_layout q_before q_after q_seconds q_turns q_cause q_times q_layout_low q_layout_high q_layout_loadedSeconds q_layout_emptySeconds cI v_p1_count n_v_rules v_layout_tanks f_layout_loadedSeconds f_p1_rank f_layout_low n_f_before n_f_after n_f_seconds n_f_turns f_layout_high) (va_A (wd_TM_addSoaks q_p1 q_p1_moves q_p1_rank q_this q_layout q_before q_after q_seconds q_turns q_cause q_times q_layout_low q_layout_high q_layout_loadedSeconds q_layout_emptySeconds cI v_p1_count v_rules v_layout_tanks f_layout_loadedSeconds f_p1_rank f_layout_low f_before f_after f_seconds f_turns f_layout_high) sz)) 0 0 (va_A (wd_TM_addSoaks q_p1 q_p1_moves q_p1_rank q_this q_layout q_before q_after q_seconds q_turns q_cause q_times q_layout_low q_layout_high q_layout_loadedSeconds q_layout_emptySeconds cI v_p1_count v_rules v_layout_tanks f_layout_loadedSeconds f_p1_rank f_layout_low f_before f_after f_seconds f_turns f_layout_high) sz) := by
  refine hq_met (Qc := (hq_Qv (dC, dI) vwCl [(cI, .int)] (wd_TM_addSoaks q_p1 q_p1_moves q_p1_rank q_this q_layout q_before q_after q_seconds q_turns q_cause q_times q_layout_low q_layout_high q_layout_loadedSeconds q_layout_emptySeconds cI v_p1_count n_v_rules v_layout_tanks f_layout_loadedSeconds f_p1_rank f_layout_low n_f_before n_f_after n_f_seconds n_f_turns f_layout_high))) (cc := b_TM_addSoaks) (maxL := 5) (ret := none) (by decide) rfl (Nat.le_of_ble_eq_true rfl) ?_
  intro p e s m args below meth c A ls hx hb hr hml hts hown hlocks hnm hP hD hK hA hS hl
  have hts : ∀ w ∈ tb0, w.before args s = true := fun w h => hts w (List.mem_cons_of_mem _ h)
  have hown : s.vm.findClass R_TM = some m.cls := hown
  have hl : lv_has ls 5 [(0, .ref q_this), (1, .ref q_p1)] := hl
  unfold fn_TM_addSoaks at hF
  have loop : ∀ fu : Nat, (∀ (i2 : Int32) (v_rules : Int32) (f_before : Nat → Int32) (f_after : Nat → Int32) (f_seconds : Nat → Int32) (f_turns : Nat → Int32) (H : Heap) (locs : List Loc) (ls : Array Slot), va_P (dC, dI) vwCl (wd_TM_addSoaks q_p1 q_p1_moves q_p1_rank q_this q_layout q_before q_after q_seconds q_turns q_cause q_times q_layout_low q_layout_high q_layout_loadedSeconds q_layout_emptySeconds cI v_p1_count v_rules v_layout_tanks f_layout_loadedSeconds f_p1_rank f_layout_low f_before f_after f_seconds f_turns f_layout_high) H → va_D A (wd_TM_addSoaks q_p1 q_p1_moves q_p1_rank q_this q_layout q_before q_after q_seconds q_turns q_cause q_times q_layout_low q_layout_high q_layout_loadedSeconds q_layout_emptySeconds cI v_p1_count v_rules v_layout_tanks f_layout_loadedSeconds f_p1_rank f_layout_low f_before f_after f_seconds f_turns f_layout_high) → va_S A s.heap H locs → lv_has ls 5 [(0, .ref q_this), (1, .ref q_p1), (2, .int i2)] → lp_TM_addSoaks v_p1_count f_layout_loadedSeconds f_p1_rank f_layout_low f_layout_high fu 0 i2 v_rules f_before f_after f_seconds f_turns = some (n_v_rules, n_f_before, n_f_after, n_f_seconds, n_f_turns) → W p l e ({ frames := 1, cells := 0, slots := 0, locals := 24 }) s m args below meth c H locs 0 0 (MQ below ((hq_Qv (dC, dI) vwCl [(cI, .int)] (wd_TM_addSoaks q_p1 q_p1_moves q_p1_rank q_this q_layout q_before q_after q_seconds q_turns q_cause q_times q_layout_low q_layout_high q_layout_loadedSeconds q_layout_emptySeconds cI v_p1_count n_v_rules v_layout_tanks f_layout_loadedSeconds f_p1_rank f_layout_low n_f_before n_f_after n_f_seconds n_f_turns f_layout_high)) A) args s 0 0 A) (F0 m 2 ls [])) := by
    intro fu
    induction fu with
    | zero => exact (fun _ _ _ _ _ _ _ _ _ _ _ _ _ h => by cases h)
    | succ fu ih =>
      intro i2 v_rules f_before f_after f_seconds f_turns H locs ls hP hD hS hl hF
      have hF : st_TM_addSoaks v_p1_count f_layout_loadedSeconds f_p1_rank f_layout_low f_layout_high (lp_TM_addSoaks v_p1_count f_layout_loadedSeconds f_p1_rank f_layout_low f_layout_high fu) 0 i2 v_rules f_before f_after f_seconds f_turns = some (n_v_rules, n_f_before, n_f_after, n_f_seconds, n_f_turns) := hF
      unfold st_TM_addSoaks at hF
      try dsimp only at hF
      refine lv_iload_n hx hb d_TM_addSoaks_2 rfl (lv_at hl 2 rfl) ?_
      refine lv_aload_n hx hb d_TM_addSoaks_3 rfl (lv_at hl 1 rfl) ?_
      refine va_get (D := (dC, dI)) (ci := 1) (v := .int v_p1_count) (C := R_OR) (T := F_OR) (N := 3) hx hb hts uw_OR hown hK hP 0 rfl rfl 0 (by decide) (hts _ tw_44) (fun _ h9 => h9) rfl d_TM_addSoaks_4 ?_
      refine lv_icmp_ge (tgt := 79) hx hb d_TM_addSoaks_7 (by decide) (fun hb1 => ?_) (fun hb1 => ?_)
      · have hF := ox_t hF hb1
        cases hF
        exact hq_vret hx hb hr hlocks hP hD hK hS d_TM_addSoaks_79
      · have hF := ox_f hF hb1
        refine lv_aload_n hx hb d_TM_addSoaks_10 rfl (lv_at hl 0 rfl) ?_
        refine va_get (D := (dC, dI)) (ci := 3) (v := .ref q_layout) (C := R_TM) (T := F_TM) (N := 8) hx hb hts uw_TM hown hK hP 1 rfl rfl 0 (by decide) (hts _ tw_46) (fun _ h9 => h9) rfl d_TM_addSoaks_11 ?_
        refine va_get (D := (dC, dI)) (ci := 0) (v := .ref q_layout_loadedSeconds) (C := R_LY) (T := F_LY) (N := 5) hx hb hts uw_LY hown hK hP 2 rfl rfl 3 (by decide) (hts _ tw_47) (fun _ h9 => h9) rfl d_TM_addSoaks_14 ?_
        refine lv_iload_n hx hb d_TM_addSoaks_17 rfl (lv_at hl 2 rfl) ?_
        refine lv_iconst (v := 1) hx hb d_TM_addSoaks_18 (by decide) ?_
        refine lv_isub hx hb d_TM_addSoaks_19 ?_
        obtain ⟨hin, hF⟩ := ox_gdS hF
        refine va_iald hx hb hK hP 3 0 rfl rfl hin d_TM_addSoaks_20 ?_
        refine lv_istore_n (lv' := [(3, .int (f_layout_loadedSeconds (i2 - 1).toNatClampNeg)), (0, .ref q_this), (1, .ref q_p1), (2, .int i2)]) hx hb d_TM_addSoaks_21 rfl hl (by decide) rfl (fun ls hl => ?_)
        refine lv_aload_n hx hb d_TM_addSoaks_22 rfl (lv_at hl 2 rfl) ?_
        refine lv_iload_n hx hb d_TM_addSoaks_23 rfl (lv_at hl 3 rfl) ?_
        obtain ⟨r2, hc2, hF⟩ := ox_clS hF
        refine hq_ci (ws' := (wd_TM_addSoaks q_p1 q_p1_moves q_p1_rank q_this q_layout q_before q_after q_seconds q_turns q_cause q_times q_layout_low q_layout_high q_layout_loadedSeconds q_layout_emptySeconds cI v_p1_count v_rules v_layout_tanks f_layout_loadedSeconds f_p1_rank f_layout_low f_before f_after f_seconds f_turns f_layout_high)) (hq_rV (As := [.int i2]) (rest := []) ⟨hx, hb, hml, hown, hts⟩ (c_OR_soakTurns l dC dI q_p1 q_p1_moves q_p1_rank cI _ i2 v_p1_count f_p1_rank r2 hc2) (cwV 1 hts (hq_gV tw_54 tw_55 tw_56 tw_24 tw_57) rfl rfl rfl yv_OR_soakTurns ⟨Nat.le_of_ble_eq_true rfl, Nat.le_of_ble_eq_true rfl⟩) hP hD hK [0] rfl 0 rfl rfl [0, 4] rfl rfl rfl hl.1 rfl (Nat.le_of_ble_eq_true rfl) d_TM_addSoaks_24 ⟨Nat.zero_le _, Nat.zero_le _⟩) hP hD hS hA [0, 4] [1, 2, 3, 5, 6, 7, 8, 9, 10] [9, 0, 1, 2, 10, 3, 4, 5, 6, 7, 8] rfl rfl rfl (by decide) rfl rfl (fun H locs hP hD hS => ?_)
        refine lv_istore (lv' := [(4, .int r2), (3, .int (f_layout_loadedSeconds (i2 - 1).toNatClampNeg)), (0, .ref q_this), (1, .ref q_p1), (2, .int i2)]) hx hb d_TM_addSoaks_27 hl (by decide) rfl (fun ls hl => ?_)
        refine lv_aload_n hx hb d_TM_addSoaks_29 rfl (lv_at hl 2 rfl) ?_
        refine lv_iload_n hx hb d_TM_addSoaks_30 rfl (lv_at hl 4 rfl) ?_
        refine lv_iconst (v := 1) hx hb d_TM_addSoaks_31 (by decide) ?_
        refine lv_isub hx hb d_TM_addSoaks_32 ?_
        refine lv_iload_n hx hb d_TM_addSoaks_33 rfl (lv_at hl 4 rfl) ?_
        refine lv_iload_n hx hb d_TM_addSoaks_34 rfl (lv_at hl 1 rfl) ?_
        refine lv_aload_n hx hb d_TM_addSoaks_35 rfl (lv_at hl 2 rfl) ?_
        refine va_get (D := (dC, dI)) (ci := 3) (v := .ref q_layout) (C := R_TM) (T := F_TM) (N := 8) hx hb hts uw_TM hown hK hP 1 rfl rfl 0 (by decide) (hts _ tw_46) (fun _ h9 => h9) rfl d_TM_addSoaks_36 ?_
        refine va_get (D := (dC, dI)) (ci := 0) (v := .ref q_layout_low) (C := R_LY) (T := F_LY) (N := 5) hx hb hts uw_LY hown hK hP 2 rfl rfl 1 (by decide) (hts _ tw_58) (fun _ h9 => h9) rfl d_TM_addSoaks_39 ?_
        refine lv_iload_n hx hb d_TM_addSoaks_42 rfl (lv_at hl 4 rfl) ?_
        obtain ⟨hin, hF⟩ := ox_gdS hF
        refine va_iald hx hb hK hP 5 0 rfl rfl hin d_TM_addSoaks_43 ?_
        refine lv_iadd hx hb d_TM_addSoaks_44 ?_
        refine lv_iload hx hb d_TM_addSoaks_45 (lv_at hl 0 rfl) ?_
        refine lv_ineg hx hb d_TM_addSoaks_47 ?_
        obtain ⟨⟨s3_v_rules, s3_f_before, s3_f_after, s3_f_seconds, s3_f_turns⟩, hc3, hF⟩ := ox_clS hF
        refine hq_cv (ws' := (wd_TM_addSoaks q_p1 q_p1_moves q_p1_rank q_this q_layout q_before q_after q_seconds q_turns q_cause q_times q_layout_low q_layout_high q_layout_loadedSeconds q_layout_emptySeconds cI v_p1_count s3_v_rules v_layout_tanks f_layout_loadedSeconds f_p1_rank f_layout_low s3_f_before s3_f_after s3_f_seconds s3_f_turns f_layout_high)) (hq_rV (As := [.int (i2 - 1), .int i2, .int ((f_layout_loadedSeconds (i2 - 1).toNatClampNeg) + (f_layout_low i2.toNatClampNeg)), .int (-r2)]) (rest := []) ⟨hx, hb, hml, hown, hts⟩ (c_TM_addRule l dC dI q_this q_layout q_before q_after q_seconds q_turns q_cause q_times cI _ (i2 - 1) i2 ((f_layout_loadedSeconds (i2 - 1).toNatClampNeg) + (f_layout_low i2.toNatClampNeg)) (-r2) v_rules f_before f_after f_seconds f_turns s3_v_rules s3_f_before s3_f_after s3_f_seconds s3_f_turns hc3) (cwV 4 hts (hq_gV tw_49 tw_50 tw_51 tw_52 tw_53) rfl rfl rfl yv_TM_addRule ⟨Nat.le_of_ble_eq_true rfl, Nat.le_of_ble_eq_true rfl⟩) hP hD hK [0] rfl 1 rfl rfl [1, 6, 7, 8, 9] rfl rfl rfl hl.1 rfl (Nat.le_of_ble_eq_true rfl) d_TM_addSoaks_48 ⟨Nat.zero_le _, Nat.zero_le _⟩) hP hD hS hA [1, 6, 7, 8, 9] [0, 2, 3, 4, 5, 10] [0, 6, 1, 2, 3, 4, 7, 8, 9, 10, 5] rfl rfl rfl (by decide) rfl rfl (fun H locs hP hD hS => ?_)
        refine lv_aload_n hx hb d_TM_addSoaks_51 rfl (lv_at hl 2 rfl) ?_
        refine lv_iload_n hx hb d_TM_addSoaks_52 rfl (lv_at hl 4 rfl) ?_
        refine lv_iload_n hx hb d_TM_addSoaks_53 rfl (lv_at hl 4 rfl) ?_
        refine lv_iconst (v := 1) hx hb d_TM_addSoaks_54 (by decide) ?_
        refine lv_isub hx hb d_TM_addSoaks_55 ?_
        refine lv_iload_n hx hb d_TM_addSoaks_56 rfl (lv_at hl 1 rfl) ?_
        refine lv_ineg hx hb d_TM_addSoaks_57 ?_
        refine lv_aload_n hx hb d_TM_addSoaks_58 rfl (lv_at hl 2 rfl) ?_
        refine va_get (D := (dC, dI)) (ci := 3) (v := .ref q_layout) (C := R_TM) (T := F_TM) (N := 8) hx hb hts uw_TM hown hK hP 1 rfl rfl 0 (by decide) (hts _ tw_46) (fun _ h9 => h9) rfl d_TM_addSoaks_59 ?_
        refine va_get (D := (dC, dI)) (ci := 0) (v := .ref q_layout_high) (C := R_LY) (T := F_LY) (N := 5) hx hb hts uw_LY hown hK hP 2 rfl rfl 2 (by decide) (hts _ tw_59) (fun _ h9 => h9) rfl d_TM_addSoaks_62 ?_
        refine lv_iload_n hx hb d_TM_addSoaks_65 rfl (lv_at hl 4 rfl) ?_
        obtain ⟨hin, hF⟩ := ox_gdS hF
        refine va_iald hx hb hK hP 10 0 rfl rfl hin d_TM_addSoaks_66 ?_
        refine lv_isub hx hb d_TM_addSoaks_67 ?_
        refine lv_iload hx hb d_TM_addSoaks_68 (lv_at hl 0 rfl) ?_
        obtain ⟨⟨s4_v_rules, s4_f_before, s4_f_after, s4_f_seconds, s4_f_turns⟩, hc4, hF⟩ := ox_clS hF
        refine hq_cv (ws' := (wd_TM_addSoaks q_p1 q_p1_moves q_p1_rank q_this q_layout q_before q_after q_seconds q_turns q_cause q_times q_layout_low q_layout_high q_layout_loadedSeconds q_layout_emptySeconds cI v_p1_count s4_v_rules v_layout_tanks f_layout_loadedSeconds f_p1_rank f_layout_low s4_f_before s4_f_after s4_f_seconds s4_f_turns f_layout_high)) (hq_rV (As := [.int i2, .int (i2 - 1), .int ((-(f_layout_loadedSeconds (i2 - 1).toNatClampNeg)) - (f_layout_high i2.toNatClampNeg)), .int r2]) (rest := []) ⟨hx, hb, hml, hown, hts⟩ (c_TM_addRule l dC dI q_this q_layout q_before q_after q_seconds q_turns q_cause q_times cI _ i2 (i2 - 1) ((-(f_layout_loadedSeconds (i2 - 1).toNatClampNeg)) - (f_layout_high i2.toNatClampNeg)) r2 s3_v_rules s3_f_before s3_f_after s3_f_seconds s3_f_turns s4_v_rules s4_f_before s4_f_after s4_f_seconds s4_f_turns hc4) (cwV 4 hts (hq_gV tw_49 tw_50 tw_51 tw_52 tw_53) rfl rfl rfl yv_TM_addRule ⟨Nat.le_of_ble_eq_true rfl, Nat.le_of_ble_eq_true rfl⟩) hP hD hK [0] rfl 1 rfl rfl [1, 6, 7, 8, 9] rfl rfl rfl hl.1 rfl (Nat.le_of_ble_eq_true rfl) d_TM_addSoaks_70 ⟨Nat.zero_le _, Nat.zero_le _⟩) hP hD hS hA [1, 6, 7, 8, 9] [0, 2, 3, 4, 5, 10] [0, 6, 1, 2, 3, 4, 7, 8, 9, 10, 5] rfl rfl rfl (by decide) rfl rfl (fun H locs hP hD hS => ?_)
        refine lv_iinc (v := (i2 + 1)) (lv' := [(2, .int (i2 + 1)), (4, .int r2), (3, .int (f_layout_loadedSeconds (i2 - 1).toNatClampNeg)), (0, .ref q_this), (1, .ref q_p1)]) hx hb d_TM_addSoaks_73 hl (k := 4) rfl rfl (by decide) rfl (fun ls hl => ?_)
        refine lv_goto (tgt := 2) hx hb d_TM_addSoaks_76 (by decide) ?_
        exact ih (i2 + 1) s4_v_rules s4_f_before s4_f_after s4_f_seconds s4_f_turns _ _ _ hP hD hS (lv_sub hl [3, 4, 0] rfl) hF
  refine lv_iconst (v := 1) hx hb d_TM_addSoaks_0 (by decide) ?_
  refine lv_istore_n (lv' := [(2, .int 1), (0, .ref q_this), (1, .ref q_p1)]) hx hb d_TM_addSoaks_1 rfl hl (by decide) rfl (fun ls hl => ?_)
  exact (loop z) 1 v_rules f_before f_after f_seconds f_turns _ _ _ hP hD hS (lv_sub hl [1, 2, 0] rfl) hF
abbrev wd_TM_raiseTimes (q_this : Nat) (q_layout : Nat) (q_before : Nat) (q_after : Nat) (q_seconds : Nat) (q_turns : Nat) (q_cause : Nat) (q_times : Nat) (cI : ClassId) (v_rules : Int32) (f_before : Nat → Int32) (f_times : Nat → Int32) (f_seconds : Nat → Int32) (f_turns : Nat → Int32) (f_after : Nat → Int32) (f_cause : Nat → Int32) : va_W := [(q_this, .inr (3, [.ref q_layout, .int v_rules, .ref q_before, .ref q_after, .ref q_seconds, .ref q_turns, .ref q_cause, .ref q_times])), (q_before, .inl (cI, 16, .inl f_before)), (q_times, .inl (cI, 6, .inl f_times)), (q_seconds, .inl (cI, 16, .inl f_seconds)), (q_turns, .inl (cI, 16, .inl f_turns)), (q_after, .inl (cI, 16, .inl f_after)), (q_cause, .inl (cI, 6, .inl f_cause))]
set_option maxHeartbeats 4000000 in
set_option maxRecDepth 100000 in
theorem c_TM_raiseTimes (l : Launch) (dC : Nat → ClassId) (dI : Nat → Nat → Nat) (q_this : Nat) (q_layout : Nat) (q_before : Nat) (q_after : Nat) (q_seconds : Nat) (q_turns : Nat) (q_cause : Nat) (q_times : Nat) (cI : ClassId) (sz : Nat) (z : Nat) (a1 : Int32) (v_rules : Int32) (f_before : Nat → Int32) (f_times : Nat → Int32) (f_seconds : Nat → Int32) (f_turns : Nat → Int32) (f_after : Nat → Int32) (f_cause : Nat → Int32) (rr : Int32) (n_f_times : Nat → Int32) (n_f_cause : Nat → Int32) (hF : fn_TM_raiseTimes z a1 v_rules f_before f_times f_seconds f_turns f_after f_cause = some (rr, n_f_times, n_f_cause)) : Met l y_TM_raiseTimes w_TM_raiseTimes ({ frames := 0, cells := 0, slots := 0, locals := 0 }) (hq_Pc (dC, dI) vwCl [(cI, .int)] (wd_TM_raiseTimes q_this q_layout q_before q_after q_seconds q_turns q_cause q_times cI v_rules f_before f_times f_seconds f_turns f_after f_cause) sz [.ref q_this, .int a1]) (hq_Qi (dC, dI) vwCl [(cI, .int)] (wd_TM_raiseTimes q_this q_layout q_before q_after q_seconds q_turns q_cause q_times cI v_rules f_before n_f_times f_seconds f_turns f_after n_f_cause) rr (va_A (wd_TM_raiseTimes q_this q_layout q_before q_after q_seconds q_turns q_cause q_times cI v_rules f_before f_times f_seconds f_turns f_after f_cause) sz)) 0 0 (va_A (wd_TM_raiseTimes q_this q_layout q_before q_after q_seconds q_turns q_cause q_times cI v_rules f_before f_times f_seconds f_turns f_after f_cause) sz) := by
  refine hq_met (Qc := (hq_Qi (dC, dI) vwCl [(cI, .int)] (wd_TM_raiseTimes q_this q_layout q_before q_after q_seconds q_turns q_cause q_times cI v_rules f_before n_f_times f_seconds f_turns f_after n_f_cause) rr)) (cc := b_TM_raiseTimes) (maxL := 6) (ret := some .int) (by decide) rfl (Nat.le_of_ble_eq_true rfl) ?_
  intro p e s m args below meth c A ls hx hb hr hml hts hown hlocks hnm hP hD hK hA hS hl
  have hts : ∀ w ∈ tb0, w.before args s = true := fun w h => hts w (List.mem_cons_of_mem _ h)
  have hown : s.vm.findClass R_TM = some m.cls := hown
  have hl : lv_has ls 6 [(0, .ref q_this), (1, .int a1)] := hl
  unfold fn_TM_raiseTimes at hF
  have loop : ∀ fu : Nat, (∀ (i1 : Int32) (i2 : Int32) (i3 : Int32) (f_times : Nat → Int32) (f_cause : Nat → Int32) (H : Heap) (locs : List Loc) (ls : Array Slot), va_P (dC, dI) vwCl (wd_TM_raiseTimes q_this q_layout q_before q_after q_seconds q_turns q_cause q_times cI v_rules f_before f_times f_seconds f_turns f_after f_cause) H → va_D A (wd_TM_raiseTimes q_this q_layout q_before q_after q_seconds q_turns q_cause q_times cI v_rules f_before f_times f_seconds f_turns f_after f_cause) → va_S A s.heap H locs → lv_has ls 6 [(0, .ref q_this), (1, .int i1), (2, .int i2), (3, .int i3)] → lp_TM_raiseTimes v_rules f_before f_seconds f_turns f_after fu 0 i1 i2 i3 f_times f_cause = some (rr, n_f_times, n_f_cause) → W p l e ({ frames := 0, cells := 0, slots := 0, locals := 0 }) s m args below meth c H locs 0 0 (MQ below ((hq_Qi (dC, dI) vwCl [(cI, .int)] (wd_TM_raiseTimes q_this q_layout q_before q_after q_seconds q_turns q_cause q_times cI v_rules f_before n_f_times f_seconds f_turns f_after n_f_cause) rr) A) args s 0 0 A) (F0 m 4 ls [])) := by
    intro fu
    induction fu with
    | zero => exact (fun _ _ _ _ _ _ _ _ _ _ _ _ h => by cases h)
    | succ fu ih =>
      intro i1 i2 i3 f_times f_cause H locs ls hP hD hS hl hF
      have hF : st_TM_raiseTimes v_rules f_before f_seconds f_turns f_after (lp_TM_raiseTimes v_rules f_before f_seconds f_turns f_after fu) 0 i1 i2 i3 f_times f_cause = some (rr, n_f_times, n_f_cause) := hF
      unfold st_TM_raiseTimes at hF
      try dsimp only at hF
      refine lv_iload_n hx hb d_TM_raiseTimes_4 rfl (lv_at hl 3 rfl) ?_
      refine lv_aload_n hx hb d_TM_raiseTimes_5 rfl (lv_at hl 0 rfl) ?_
      refine va_get (D := (dC, dI)) (ci := 3) (v := .int v_rules) (C := R_TM) (T := F_TM) (N := 8) hx hb hts uw_TM hown hK hP 0 rfl rfl 1 (by decide) (hts _ tw_40) (fun _ h9 => h9) rfl d_TM_raiseTimes_6 ?_
      refine lv_icmp_ge (tgt := 87) hx hb d_TM_raiseTimes_9 (by decide) (fun hb1 => ?_) (fun hb1 => ?_)
      · have hF := ox_t hF hb1
        refine lv_iload_n hx hb d_TM_raiseTimes_87 rfl (lv_at hl 2 rfl) ?_
        cases hF
        exact hq_iret hx hb hr hlocks hP hD hK hS d_TM_raiseTimes_88
      · have hF := ox_f hF hb1
        refine lv_aload_n hx hb d_TM_raiseTimes_12 rfl (lv_at hl 0 rfl) ?_
        refine va_get (D := (dC, dI)) (ci := 3) (v := .ref q_times) (C := R_TM) (T := F_TM) (N := 8) hx hb hts uw_TM hown hK hP 0 rfl rfl 7 (by decide) (hts _ tw_60) (fun _ h9 => h9) rfl d_TM_raiseTimes_13 ?_
        refine lv_aload_n hx hb d_TM_raiseTimes_16 rfl (lv_at hl 0 rfl) ?_
        refine va_get (D := (dC, dI)) (ci := 3) (v := .ref q_before) (C := R_TM) (T := F_TM) (N := 8) hx hb hts uw_TM hown hK hP 0 rfl rfl 2 (by decide) (hts _ tw_39) (fun _ h9 => h9) rfl d_TM_raiseTimes_17 ?_
        refine lv_iload_n hx hb d_TM_raiseTimes_20 rfl (lv_at hl 3 rfl) ?_
        obtain ⟨hin, hF⟩ := ox_gdS hF
        refine va_iald hx hb hK hP 1 0 rfl rfl hin d_TM_raiseTimes_21 ?_
        obtain ⟨hin, hF⟩ := ox_gdS hF
        refine va_iald hx hb hK hP 2 0 rfl rfl hin d_TM_raiseTimes_22 ?_
        refine lv_aload_n hx hb d_TM_raiseTimes_23 rfl (lv_at hl 0 rfl) ?_
        refine va_get (D := (dC, dI)) (ci := 3) (v := .ref q_seconds) (C := R_TM) (T := F_TM) (N := 8) hx hb hts uw_TM hown hK hP 0 rfl rfl 4 (by decide) (hts _ tw_42) (fun _ h9 => h9) rfl d_TM_raiseTimes_24 ?_
        refine lv_iload_n hx hb d_TM_raiseTimes_27 rfl (lv_at hl 3 rfl) ?_
        obtain ⟨hin, hF⟩ := ox_gdS hF
        refine va_iald hx hb hK hP 3 0 rfl rfl hin d_TM_raiseTimes_28 ?_
        refine lv_iadd hx hb d_TM_raiseTimes_29 ?_
        refine lv_aload_n hx hb d_TM_raiseTimes_30 rfl (lv_at hl 0 rfl) ?_
        refine va_get (D := (dC, dI)) (ci := 3) (v := .ref q_turns) (C := R_TM) (T := F_TM) (N := 8) hx hb hts uw_TM hown hK hP 0 rfl rfl 5 (by decide) (hts _ tw_43) (fun _ h9 => h9) rfl d_TM_raiseTimes_31 ?_
        refine lv_iload_n hx hb d_TM_raiseTimes_34 rfl (lv_at hl 3 rfl) ?_
        obtain ⟨hin, hF⟩ := ox_gdS hF
        refine va_iald hx hb hK hP 4 0 rfl rfl hin d_TM_raiseTimes_35 ?_
        refine lv_iload_n hx hb d_TM_raiseTimes_36 rfl (lv_at hl 1 rfl) ?_
        refine lv_imul hx hb d_TM_raiseTimes_37 ?_
        refine lv_iadd hx hb d_TM_raiseTimes_38 ?_
        refine lv_istore (lv' := [(4, .int (((f_times (f_before i3.toNatClampNeg).toNatClampNeg) + (f_seconds i3.toNatClampNeg)) + ((f_turns i3.toNatClampNeg) * i1))), (0, .ref q_this), (1, .int i1), (2, .int i2), (3, .int i3)]) hx hb d_TM_raiseTimes_39 hl (by decide) rfl (fun ls hl => ?_)
        refine lv_aload_n hx hb d_TM_raiseTimes_41 rfl (lv_at hl 1 rfl) ?_
        refine va_get (D := (dC, dI)) (ci := 3) (v := .ref q_after) (C := R_TM) (T := F_TM) (N := 8) hx hb hts uw_TM hown hK hP 0 rfl rfl 3 (by decide) (hts _ tw_41) (fun _ h9 => h9) rfl d_TM_raiseTimes_42 ?_
        refine lv_iload_n hx hb d_TM_raiseTimes_45 rfl (lv_at hl 4 rfl) ?_
        obtain ⟨hin, hF⟩ := ox_gdS hF
        refine va_iald hx hb hK hP 5 0 rfl rfl hin d_TM_raiseTimes_46 ?_
        refine lv_istore (lv' := [(5, .int (f_after i3.toNatClampNeg)), (4, .int (((f_times (f_before i3.toNatClampNeg).toNatClampNeg) + (f_seconds i3.toNatClampNeg)) + ((f_turns i3.toNatClampNeg) * i1))), (0, .ref q_this), (1, .int i1), (2, .int i2), (3, .int i3)]) hx hb d_TM_raiseTimes_47 hl (by decide) rfl (fun ls hl => ?_)
        refine lv_aload_n hx hb d_TM_raiseTimes_49 rfl (lv_at hl 2 rfl) ?_
        refine va_get (D := (dC, dI)) (ci := 3) (v := .ref q_times) (C := R_TM) (T := F_TM) (N := 8) hx hb hts uw_TM hown hK hP 0 rfl rfl 7 (by decide) (hts _ tw_60) (fun _ h9 => h9) rfl d_TM_raiseTimes_50 ?_
        refine lv_iload hx hb d_TM_raiseTimes_53 (lv_at hl 0 rfl) ?_
        obtain ⟨hin, hF⟩ := ox_gdS hF
        refine va_iald hx hb hK hP 2 0 rfl rfl hin d_TM_raiseTimes_55 ?_
        refine lv_iload hx hb d_TM_raiseTimes_56 (lv_at hl 1 rfl) ?_
        refine lv_icmp_ge (tgt := 81) hx hb d_TM_raiseTimes_58 (by decide) (fun hb2 => ?_) (fun hb2 => ?_)
        · have hF := ox_t hF hb2
          refine lv_iinc (v := (i3 + 1)) (lv' := [(3, .int (i3 + 1)), (5, .int (f_after i3.toNatClampNeg)), (4, .int (((f_times (f_before i3.toNatClampNeg).toNatClampNeg) + (f_seconds i3.toNatClampNeg)) + ((f_turns i3.toNatClampNeg) * i1))), (0, .ref q_this), (1, .int i1), (2, .int i2)]) hx hb d_TM_raiseTimes_81 hl (k := 5) rfl rfl (by decide) rfl (fun ls hl => ?_)
          refine lv_goto (tgt := 4) hx hb d_TM_raiseTimes_84 (by decide) ?_
          exact ih i1 i2 (i3 + 1) f_times f_cause _ _ _ hP hD hS (lv_sub hl [3, 4, 5, 0] rfl) hF
        · have hF := ox_f hF hb2
          refine lv_aload_n hx hb d_TM_raiseTimes_61 rfl (lv_at hl 2 rfl) ?_
          refine va_get (D := (dC, dI)) (ci := 3) (v := .ref q_times) (C := R_TM) (T := F_TM) (N := 8) hx hb hts uw_TM hown hK hP 0 rfl rfl 7 (by decide) (hts _ tw_60) (fun _ h9 => h9) rfl d_TM_raiseTimes_62 ?_
          refine lv_iload hx hb d_TM_raiseTimes_65 (lv_at hl 0 rfl) ?_
          refine lv_iload hx hb d_TM_raiseTimes_67 (lv_at hl 1 rfl) ?_
          obtain ⟨hin, hF⟩ := ox_gdS hF
          refine va_iast hx hb hK hP hD hS 2 0 rfl rfl hin d_TM_raiseTimes_69 (fun H locs hP hD hS => ?_)
          have hP : va_P (dC, dI) vwCl (wd_TM_raiseTimes q_this q_layout q_before q_after q_seconds q_turns q_cause q_times cI v_rules f_before (upd f_times (f_after i3.toNatClampNeg).toNatClampNeg (((f_times (f_before i3.toNatClampNeg).toNatClampNeg) + (f_seconds i3.toNatClampNeg)) + ((f_turns i3.toNatClampNeg) * i1))) f_seconds f_turns f_after f_cause) H := hP
          have hD : va_D A (wd_TM_raiseTimes q_this q_layout q_before q_after q_seconds q_turns q_cause q_times cI v_rules f_before (upd f_times (f_after i3.toNatClampNeg).toNatClampNeg (((f_times (f_before i3.toNatClampNeg).toNatClampNeg) + (f_seconds i3.toNatClampNeg)) + ((f_turns i3.toNatClampNeg) * i1))) f_seconds f_turns f_after f_cause) := hD
          refine lv_aload_n hx hb d_TM_raiseTimes_70 rfl (lv_at hl 2 rfl) ?_
          refine va_get (D := (dC, dI)) (ci := 3) (v := .ref q_cause) (C := R_TM) (T := F_TM) (N := 8) hx hb hts uw_TM hown hK hP 0 rfl rfl 6 (by decide) (hts _ tw_61) (fun _ h9 => h9) rfl d_TM_raiseTimes_71 ?_
          refine lv_iload hx hb d_TM_raiseTimes_74 (lv_at hl 0 rfl) ?_
          refine lv_iload_n hx hb d_TM_raiseTimes_76 rfl (lv_at hl 5 rfl) ?_
          obtain ⟨hin, hF⟩ := ox_gdS hF
          refine va_iast hx hb hK hP hD hS 6 0 rfl rfl hin d_TM_raiseTimes_77 (fun H locs hP hD hS => ?_)
          have hP : va_P (dC, dI) vwCl (wd_TM_raiseTimes q_this q_layout q_before q_after q_seconds q_turns q_cause q_times cI v_rules f_before (upd f_times (f_after i3.toNatClampNeg).toNatClampNeg (((f_times (f_before i3.toNatClampNeg).toNatClampNeg) + (f_seconds i3.toNatClampNeg)) + ((f_turns i3.toNatClampNeg) * i1))) f_seconds f_turns f_after (upd f_cause (f_after i3.toNatClampNeg).toNatClampNeg i3)) H := hP
          have hD : va_D A (wd_TM_raiseTimes q_this q_layout q_before q_after q_seconds q_turns q_cause q_times cI v_rules f_before (upd f_times (f_after i3.toNatClampNeg).toNatClampNeg (((f_times (f_before i3.toNatClampNeg).toNatClampNeg) + (f_seconds i3.toNatClampNeg)) + ((f_turns i3.toNatClampNeg) * i1))) f_seconds f_turns f_after (upd f_cause (f_after i3.toNatClampNeg).toNatClampNeg i3)) := hD
          refine lv_iload hx hb d_TM_raiseTimes_78 (lv_at hl 0 rfl) ?_
          refine lv_istore_n (lv' := [(2, .int (f_after i3.toNatClampNeg)), (5, .int (f_after i3.toNatClampNeg)), (4, .int (((f_times (f_before i3.toNatClampNeg).toNatClampNeg) + (f_seconds i3.toNatClampNeg)) + ((f_turns i3.toNatClampNeg) * i1))), (0, .ref q_this), (1, .int i1), (3, .int i3)]) hx hb d_TM_raiseTimes_80 rfl hl (by decide) rfl (fun ls hl => ?_)
          refine lv_iinc (v := (i3 + 1)) (lv' := [(3, .int (i3 + 1)), (2, .int (f_after i3.toNatClampNeg)), (5, .int (f_after i3.toNatClampNeg)), (4, .int (((f_times (f_before i3.toNatClampNeg).toNatClampNeg) + (f_seconds i3.toNatClampNeg)) + ((f_turns i3.toNatClampNeg) * i1))), (0, .ref q_this), (1, .int i1)]) hx hb d_TM_raiseTimes_81 hl (k := 5) rfl rfl (by decide) rfl (fun ls hl => ?_)
          refine lv_goto (tgt := 4) hx hb d_TM_raiseTimes_84 (by decide) ?_
          exact ih i1 (f_after i3.toNatClampNeg) (i3 + 1) (upd f_times (f_after i3.toNatClampNeg).toNatClampNeg (((f_times (f_before i3.toNatClampNeg).toNatClampNeg) + (f_seconds i3.toNatClampNeg)) + ((f_turns i3.toNatClampNeg) * i1))) (upd f_cause (f_after i3.toNatClampNeg).toNatClampNeg i3) _ _ _ hP hD hS (lv_sub hl [4, 5, 1, 0] rfl) hF
  refine lv_iconst (v := (-1)) hx hb d_TM_raiseTimes_0 (by decide) ?_
  refine lv_istore_n (lv' := [(2, .int (-1)), (0, .ref q_this), (1, .int a1)]) hx hb d_TM_raiseTimes_1 rfl hl (by decide) rfl (fun ls hl => ?_)
  refine lv_iconst (v := 0) hx hb d_TM_raiseTimes_2 (by decide) ?_
  refine lv_istore_n (lv' := [(3, .int 0), (2, .int (-1)), (0, .ref q_this), (1, .int a1)]) hx hb d_TM_raiseTimes_3 rfl hl (by decide) rfl (fun ls hl => ?_)
  exact (loop z) a1 (-1) 0 f_times f_cause _ _ _ hP hD hS (lv_sub hl [2, 3, 1, 0] rfl) hF
abbrev wd_TM_settleTimes (q_this : Nat) (q_layout : Nat) (q_before : Nat) (q_after : Nat) (q_seconds : Nat) (q_turns : Nat) (q_cause : Nat) (q_times : Nat) (cI : ClassId) (v_rules : Int32) (f_times : Nat → Int32) (f_before : Nat → Int32) (f_seconds : Nat → Int32) (f_turns : Nat → Int32) (f_after : Nat → Int32) (f_cause : Nat → Int32) : va_W := [(q_this, .inr (3, [.ref q_layout, .int v_rules, .ref q_before, .ref q_after, .ref q_seconds, .ref q_turns, .ref q_cause, .ref q_times])), (q_times, .inl (cI, 6, .inl f_times)), (q_before, .inl (cI, 16, .inl f_before)), (q_seconds, .inl (cI, 16, .inl f_seconds)), (q_turns, .inl (cI, 16, .inl f_turns)), (q_after, .inl (cI, 16, .inl f_after)), (q_cause, .inl (cI, 6, .inl f_cause))]
set_option maxHeartbeats 4000000 in
set_option maxRecDepth 100000 in
theorem c_TM_settleTimes (l : Launch) (dC : Nat → ClassId) (dI : Nat → Nat → Nat) (q_this : Nat) (q_layout : Nat) (q_before : Nat) (q_after : Nat) (q_seconds : Nat) (q_turns : Nat) (q_cause : Nat) (q_times : Nat) (cI : ClassId) (sz : Nat) (z : Nat) (a1 : Int32) (a2 : Int32) (v_rules : Int32) (f_times : Nat → Int32) (f_before : Nat → Int32) (f_seconds : Nat → Int32) (f_turns : Nat → Int32) (f_after : Nat → Int32) (f_cause : Nat → Int32) (rr : Int32) (n_f_times : Nat → Int32) (n_f_cause : Nat → Int32) (hF : fn_TM_settleTimes z a1 a2 v_rules f_times f_before f_seconds f_turns f_after f_cause = some (rr, n_f_times, n_f_cause)) : Met l y_TM_settleTimes w_TM_settleTimes ({ frames := 1, cells := 0, slots := 0, locals := 25 }) (hq_Pc (dC, dI) vwCl [(cI, .int)] (wd_TM_settleTimes q_this q_layout q_before q_after q_seconds q_turns q_cause q_times cI v_rules f_times f_before f_seconds f_turns f_after f_cause) sz [.ref q_this, .int a1, .int a2]) (hq_Qi (dC, dI) vwCl [(cI, .int)] (wd_TM_settleTimes q_this q_layout q_before q_after q_seconds q_turns q_cause q_times cI v_rules n_f_times f_before f_seconds f_turns f_after n_f_cause) rr (va_A (wd_TM_settleTimes q_this q_layout q_before q_after q_seconds q_turns q_cause q_times cI v_rules f_times f_before f_seconds f_turns f_after f_cause) sz)) 0 0 (va_A (wd_TM_settleTimes q_this q_layout q_before q_after q_seconds q_turns q_cause q_times cI v_rules f_times f_before f_seconds f_turns f_after f_cause) sz) := by
  refine hq_met (Qc := (hq_Qi (dC, dI) vwCl [(cI, .int)] (wd_TM_settleTimes q_this q_layout q_before q_after q_seconds q_turns q_cause q_times cI v_rules n_f_times f_before f_seconds f_turns f_after n_f_cause) rr)) (cc := b_TM_settleTimes) (maxL := 5) (ret := some .int) (by decide) rfl (Nat.le_of_ble_eq_true rfl) ?_
  intro p e s m args below meth c A ls hx hb hr hml hts hown hlocks hnm hP hD hK hA hS hl
  have hts : ∀ w ∈ tb0, w.before args s = true := fun w h => hts w (List.mem_cons_of_mem _ h)
  have hown : s.vm.findClass R_TM = some m.cls := hown
  have hl : lv_has ls 5 [(0, .ref q_this), (1, .int a1), (2, .int a2)] := hl
  unfold fn_TM_settleTimes at hF
  have loop : ∀ fu : Nat, (∀ (i1 : Int32) (i2 : Int32) (i3 : Int32) (f_times : Nat → Int32) (f_cause : Nat → Int32) (H : Heap) (locs : List Loc) (ls : Array Slot), va_P (dC, dI) vwCl (wd_TM_settleTimes q_this q_layout q_before q_after q_seconds q_turns q_cause q_times cI v_rules f_times f_before f_seconds f_turns f_after f_cause) H → va_D A (wd_TM_settleTimes q_this q_layout q_before q_after q_seconds q_turns q_cause q_times cI v_rules f_times f_before f_seconds f_turns f_after f_cause) → va_S A s.heap H locs → lv_has ls 5 [(0, .ref q_this), (1, .int i1), (2, .int i2), (3, .int i3)] → lp_TM_settleTimes z v_rules f_before f_seconds f_turns f_after fu 0 i1 i2 i3 f_times f_cause = some (rr, n_f_times, n_f_cause) → W p l e ({ frames := 1, cells := 0, slots := 0, locals := 25 }) s m args below meth c H locs 0 0 (MQ below ((hq_Qi (dC, dI) vwCl [(cI, .int)] (wd_TM_settleTimes q_this q_layout q_before q_after q_seconds q_turns q_cause q_times cI v_rules n_f_times f_before f_seconds f_turns f_after n_f_cause) rr) A) args s 0 0 A) (F0 m 10 ls [])) := by
    intro fu
    induction fu with
    | zero => exact (fun _ _ _ _ _ _ _ _ _ _ _ _ h => by cases h)
    | succ fu ih =>
      intro i1 i2 i3 f_times f_cause H locs ls hP hD hS hl hF
      have hF : st_TM_settleTimes z v_rules f_before f_seconds f_turns f_after (lp_TM_settleTimes z v_rules f_before f_seconds f_turns f_after fu) 0 i1 i2 i3 f_times f_cause = some (rr, n_f_times, n_f_cause) := hF
      unfold st_TM_settleTimes at hF
      try dsimp only at hF
      refine lv_iload_n hx hb d_TM_settleTimes_10 rfl (lv_at hl 3 rfl) ?_
      refine lv_iload_n hx hb d_TM_settleTimes_11 rfl (lv_at hl 1 rfl) ?_
      refine lv_icmp_ge (tgt := 46) hx hb d_TM_settleTimes_12 (by decide) (fun hb2 => ?_) (fun hb2 => ?_)
      · have hF := ox_t hF hb2
        refine lv_iconst (v := (-1)) hx hb d_TM_settleTimes_46 (by decide) ?_
        cases hF
        exact hq_iret hx hb hr hlocks hP hD hK hS d_TM_settleTimes_47
      · have hF := ox_f hF hb2
        refine lv_aload_n hx hb d_TM_settleTimes_15 rfl (lv_at hl 0 rfl) ?_
        refine lv_iload_n hx hb d_TM_settleTimes_16 rfl (lv_at hl 2 rfl) ?_
        obtain ⟨⟨r3, s3_f_times, s3_f_cause⟩, hc3, hF⟩ := ox_clS hF
        refine hq_ci (ws' := (wd_TM_settleTimes q_this q_layout q_before q_after q_seconds q_turns q_cause q_times cI v_rules s3_f_times f_before f_seconds f_turns f_after s3_f_cause)) (hq_rV (As := [.int i2]) (rest := []) ⟨hx, hb, hml, hown, hts⟩ (c_TM_raiseTimes l dC dI q_this q_layout q_before q_after q_seconds q_turns q_cause q_times cI _ z i2 v_rules f_before f_times f_seconds f_turns f_after f_cause r3 s3_f_times s3_f_cause hc3) (cwV 1 hts (hq_gV tw_62 tw_63 tw_64 tw_52 tw_65) rfl rfl rfl yv_TM_raiseTimes ⟨Nat.le_of_ble_eq_true rfl, Nat.le_of_ble_eq_true rfl⟩) hP hD hK [0] rfl 0 rfl rfl [0, 2, 1, 3, 4, 5, 6] rfl rfl rfl hl.1 rfl (Nat.le_of_ble_eq_true rfl) d_TM_settleTimes_17 ⟨Nat.zero_le _, Nat.zero_le _⟩) hP hD hS hA [0, 2, 1, 3, 4, 5, 6] [] [0, 2, 1, 3, 4, 5, 6] rfl rfl rfl (by decide) rfl rfl (fun H locs hP hD hS => ?_)
        refine lv_istore (lv' := [(4, .int r3), (0, .ref q_this), (1, .int i1), (2, .int i2), (3, .int i3)]) hx hb d_TM_settleTimes_20 hl (by decide) rfl (fun ls hl => ?_)
        refine lv_iload hx hb d_TM_settleTimes_22 (lv_at hl 0 rfl) ?_
        refine lv_iconst (v := (-1)) hx hb d_TM_settleTimes_24 (by decide) ?_
        refine lv_icmp_ne (tgt := 30) hx hb d_TM_settleTimes_25 (by decide) (fun hb4 => ?_) (fun hb4 => ?_)
        · have hF := ox_t hF hb4
          refine lv_iload_n hx hb d_TM_settleTimes_30 rfl (lv_at hl 4 rfl) ?_
          refine lv_iload_n hx hb d_TM_settleTimes_31 rfl (lv_at hl 2 rfl) ?_
          refine lv_iconst (v := 1) hx hb d_TM_settleTimes_32 (by decide) ?_
          refine lv_isub hx hb d_TM_settleTimes_33 ?_
          refine lv_icmp_ne (tgt := 40) hx hb d_TM_settleTimes_34 (by decide) (fun hb5 => ?_) (fun hb5 => ?_)
          · have hF := ox_t hF hb5
            refine lv_iinc (v := (i3 + 1)) (lv' := [(3, .int (i3 + 1)), (4, .int r3), (0, .ref q_this), (1, .int i1), (2, .int i2)]) hx hb d_TM_settleTimes_40 hl (k := 4) rfl rfl (by decide) rfl (fun ls hl => ?_)
            refine lv_goto (tgt := 10) hx hb d_TM_settleTimes_43 (by decide) ?_
            exact ih i1 i2 (i3 + 1) s3_f_times s3_f_cause _ _ _ hP hD hS (lv_sub hl [2, 3, 4, 0] rfl) hF
          · have hF := ox_fn hF hb5
            refine lv_iload hx hb d_TM_settleTimes_37 (lv_at hl 0 rfl) ?_
            cases hF
            exact hq_iret hx hb hr hlocks hP hD hK hS d_TM_settleTimes_39
        · have hF := ox_fn hF hb4
          refine lv_iconst (v := (-1)) hx hb d_TM_settleTimes_28 (by decide) ?_
          cases hF
          exact hq_iret hx hb hr hlocks hP hD hK hS d_TM_settleTimes_29
  refine lv_aload_n hx hb d_TM_settleTimes_0 rfl (lv_at hl 0 rfl) ?_
  refine va_get (D := (dC, dI)) (ci := 3) (v := .ref q_times) (C := R_TM) (T := F_TM) (N := 8) hx hb hts uw_TM hown hK hP 0 rfl rfl 7 (by decide) (hts _ tw_60) (fun _ h9 => h9) rfl d_TM_settleTimes_1 ?_
  refine lv_iconst (v := 0) hx hb d_TM_settleTimes_4 (by decide) ?_
  obtain ⟨s1_f_p0, hc1, hF⟩ := ox_clS hF
  refine hq_cv (ws' := (wd_TM_settleTimes q_this q_layout q_before q_after q_seconds q_turns q_cause q_times cI v_rules s1_f_p0 f_before f_seconds f_turns f_after f_cause)) (hq_rS (As := [.ref q_times, .int 0]) (rest := []) ⟨hx, hb, hml, hown, hts⟩ (c_AR_fill l dC dI q_times cI 6 _ z 0 f_times s1_f_p0 hc1) ⟨callB_of 2 hts (hq_g1 tw_5) rfl rfl rfl (hts _ tw_4) (hts _ tw_66) yd_AR_fill ⟨Nat.le_of_ble_eq_true rfl, Nat.le_of_ble_eq_true rfl⟩, hts _ tw_3⟩ hP hD hK [0] rfl [1] rfl rfl rfl hl.1 rfl (Nat.le_of_ble_eq_true rfl) d_TM_settleTimes_5 ⟨Nat.zero_le _, Nat.zero_le _⟩) hP hD hS hA [1] [0, 2, 3, 4, 5, 6] [0, 6, 1, 2, 3, 4, 5] rfl rfl rfl (by decide) rfl rfl (fun H locs hP hD hS => ?_)
  refine lv_iconst (v := 0) hx hb d_TM_settleTimes_8 (by decide) ?_
  refine lv_istore_n (lv' := [(3, .int 0), (0, .ref q_this), (1, .int a1), (2, .int a2)]) hx hb d_TM_settleTimes_9 rfl hl (by decide) rfl (fun ls hl => ?_)
  exact (loop z) a1 a2 0 s1_f_p0 f_cause _ _ _ hP hD hS (lv_sub hl [1, 2, 3, 0] rfl) hF
abbrev wd_TM_moveOnRing (q_this : Nat) (q_layout : Nat) (q_before : Nat) (q_after : Nat) (q_seconds : Nat) (q_turns : Nat) (q_cause : Nat) (q_times : Nat) (cI : ClassId) (v_rules : Int32) (f_cause : Nat → Int32) (f_before : Nat → Int32) : va_W := [(q_this, .inr (3, [.ref q_layout, .int v_rules, .ref q_before, .ref q_after, .ref q_seconds, .ref q_turns, .ref q_cause, .ref q_times])), (q_cause, .inl (cI, 6, .inl f_cause)), (q_before, .inl (cI, 16, .inl f_before))]
set_option maxHeartbeats 4000000 in
set_option maxRecDepth 100000 in
theorem c_TM_moveOnRing (l : Launch) (dC : Nat → ClassId) (dI : Nat → Nat → Nat) (q_this : Nat) (q_layout : Nat) (q_before : Nat) (q_after : Nat) (q_seconds : Nat) (q_turns : Nat) (q_cause : Nat) (q_times : Nat) (cI : ClassId) (sz : Nat) (z : Nat) (a1 : Int32) (a2 : Int32) (v_rules : Int32) (f_cause : Nat → Int32) (f_before : Nat → Int32) (rr : Int32) (hF : fn_TM_moveOnRing z a1 a2 f_cause f_before = some rr) : Met l y_TM_moveOnRing w_TM_moveOnRing ({ frames := 0, cells := 0, slots := 0, locals := 0 }) (hq_Pc (dC, dI) vwCl [(cI, .int)] (wd_TM_moveOnRing q_this q_layout q_before q_after q_seconds q_turns q_cause q_times cI v_rules f_cause f_before) sz [.ref q_this, .int a1, .int a2]) (hq_Qi (dC, dI) vwCl [(cI, .int)] (wd_TM_moveOnRing q_this q_layout q_before q_after q_seconds q_turns q_cause q_times cI v_rules f_cause f_before) rr (va_A (wd_TM_moveOnRing q_this q_layout q_before q_after q_seconds q_turns q_cause q_times cI v_rules f_cause f_before) sz)) 0 0 (va_A (wd_TM_moveOnRing q_this q_layout q_before q_after q_seconds q_turns q_cause q_times cI v_rules f_cause f_before) sz) := by
  refine hq_met (Qc := (hq_Qi (dC, dI) vwCl [(cI, .int)] (wd_TM_moveOnRing q_this q_layout q_before q_after q_seconds q_turns q_cause q_times cI v_rules f_cause f_before) rr)) (cc := b_TM_moveOnRing) (maxL := 5) (ret := some .int) (by decide) rfl (Nat.le_of_ble_eq_true rfl) ?_
  intro p e s m args below meth c A ls hx hb hr hml hts hown hlocks hnm hP hD hK hA hS hl
  have hts : ∀ w ∈ tb0, w.before args s = true := fun w h => hts w (List.mem_cons_of_mem _ h)
  have hown : s.vm.findClass R_TM = some m.cls := hown
  have hl : lv_has ls 5 [(0, .ref q_this), (1, .int a1), (2, .int a2)] := hl
  unfold fn_TM_moveOnRing at hF
  have loop : ∀ fu : Nat, (∀ (i1 : Int32) (i2 : Int32) (i3 : Int32) (i4 : Int32) (H : Heap) (locs : List Loc) (ls : Array Slot), va_P (dC, dI) vwCl (wd_TM_moveOnRing q_this q_layout q_before q_after q_seconds q_turns q_cause q_times cI v_rules f_cause f_before) H → va_D A (wd_TM_moveOnRing q_this q_layout q_before q_after q_seconds q_turns q_cause q_times cI v_rules f_cause f_before) → va_S A s.heap H locs → lv_has ls 5 [(0, .ref q_this), (1, .int i1), (2, .int i2), (3, .int i3), (4, .int i4)] → lp_TM_moveOnRing f_cause f_before fu 0 i1 i2 i3 i4 = some rr → W p l e ({ frames := 0, cells := 0, slots := 0, locals := 0 }) s m args below meth c H locs 0 0 (MQ below ((hq_Qi (dC, dI) vwCl [(cI, .int)] (wd_TM_moveOnRing q_this q_layout q_before q_after q_seconds q_turns q_cause q_times cI v_rules f_cause f_before) rr) A) args s 0 0 A) (F0 m 5 ls [])) := by
    intro fu
    induction fu with
    | zero => exact (fun _ _ _ _ _ _ _ _ _ _ _ h => by cases h)
    | succ fu ih =>
      intro i1 i2 i3 i4 H locs ls hP hD hS hl hF
      have hF : st_TM_moveOnRing f_cause f_before (lp_TM_moveOnRing f_cause f_before fu) 0 i1 i2 i3 i4 = some rr := hF
      unfold st_TM_moveOnRing at hF
      try dsimp only at hF
      refine lv_iload hx hb d_TM_moveOnRing_5 (lv_at hl 4 rfl) ?_
      refine lv_iload_n hx hb d_TM_moveOnRing_7 rfl (lv_at hl 1 rfl) ?_
      refine lv_icmp_ge (tgt := 29) hx hb d_TM_moveOnRing_8 (by decide) (fun hb1 => ?_) (fun hb1 => ?_)
      · have hF := ox_t hF hb1
        refine lv_iload_n hx hb d_TM_moveOnRing_29 rfl (lv_at hl 3 rfl) ?_
        cases hF
        exact hq_iret hx hb hr hlocks hP hD hK hS d_TM_moveOnRing_30
      · have hF := ox_f hF hb1
        refine lv_aload_n hx hb d_TM_moveOnRing_11 rfl (lv_at hl 0 rfl) ?_
        refine va_get (D := (dC, dI)) (ci := 3) (v := .ref q_before) (C := R_TM) (T := F_TM) (N := 8) hx hb hts uw_TM hown hK hP 0 rfl rfl 2 (by decide) (hts _ tw_39) (fun _ h9 => h9) rfl d_TM_moveOnRing_12 ?_
        refine lv_aload_n hx hb d_TM_moveOnRing_15 rfl (lv_at hl 0 rfl) ?_
        refine va_get (D := (dC, dI)) (ci := 3) (v := .ref q_cause) (C := R_TM) (T := F_TM) (N := 8) hx hb hts uw_TM hown hK hP 0 rfl rfl 6 (by decide) (hts _ tw_61) (fun _ h9 => h9) rfl d_TM_moveOnRing_16 ?_
        refine lv_iload_n hx hb d_TM_moveOnRing_19 rfl (lv_at hl 3 rfl) ?_
        obtain ⟨hin, hF⟩ := ox_gdS hF
        refine va_iald hx hb hK hP 1 0 rfl rfl hin d_TM_moveOnRing_20 ?_
        obtain ⟨hin, hF⟩ := ox_gdS hF
        refine va_iald hx hb hK hP 2 0 rfl rfl hin d_TM_moveOnRing_21 ?_
        refine lv_istore_n (lv' := [(3, .int (f_before (f_cause i3.toNatClampNeg).toNatClampNeg)), (0, .ref q_this), (1, .int i1), (2, .int i2), (4, .int i4)]) hx hb d_TM_moveOnRing_22 rfl hl (by decide) rfl (fun ls hl => ?_)
        refine lv_iinc (v := (i4 + 1)) (lv' := [(4, .int (i4 + 1)), (3, .int (f_before (f_cause i3.toNatClampNeg).toNatClampNeg)), (0, .ref q_this), (1, .int i1), (2, .int i2)]) hx hb d_TM_moveOnRing_23 hl (k := 4) rfl rfl (by decide) rfl (fun ls hl => ?_)
        refine lv_goto (tgt := 5) hx hb d_TM_moveOnRing_26 (by decide) ?_
        exact ih i1 i2 (f_before (f_cause i3.toNatClampNeg).toNatClampNeg) (i4 + 1) _ _ _ hP hD hS (lv_sub hl [2, 3, 4, 1, 0] rfl) hF
  refine lv_iload_n hx hb d_TM_moveOnRing_0 rfl (lv_at hl 2 rfl) ?_
  refine lv_istore_n (lv' := [(3, .int a2), (0, .ref q_this), (1, .int a1), (2, .int a2)]) hx hb d_TM_moveOnRing_1 rfl hl (by decide) rfl (fun ls hl => ?_)
  refine lv_iconst (v := 0) hx hb d_TM_moveOnRing_2 (by decide) ?_
  refine lv_istore (lv' := [(4, .int 0), (3, .int a2), (0, .ref q_this), (1, .int a1), (2, .int a2)]) hx hb d_TM_moveOnRing_3 hl (by decide) rfl (fun ls hl => ?_)
  exact (loop z) a1 a2 a2 0 _ _ _ hP hD hS (lv_sub hl [2, 3, 4, 1, 0] rfl) hF
abbrev wd_TM_cycleThatBreaksRing (q_this : Nat) (q_layout : Nat) (q_before : Nat) (q_after : Nat) (q_seconds : Nat) (q_turns : Nat) (q_cause : Nat) (q_times : Nat) (cI : ClassId) (v_rules : Int32) (f_cause : Nat → Int32) (f_before : Nat → Int32) (f_seconds : Nat → Int32) (f_turns : Nat → Int32) : va_W := [(q_this, .inr (3, [.ref q_layout, .int v_rules, .ref q_before, .ref q_after, .ref q_seconds, .ref q_turns, .ref q_cause, .ref q_times])), (q_cause, .inl (cI, 6, .inl f_cause)), (q_before, .inl (cI, 16, .inl f_before)), (q_seconds, .inl (cI, 16, .inl f_seconds)), (q_turns, .inl (cI, 16, .inl f_turns))]
set_option maxHeartbeats 4000000 in
set_option maxRecDepth 100000 in
theorem c_TM_cycleThatBreaksRing (l : Launch) (dC : Nat → ClassId) (dI : Nat → Nat → Nat) (q_this : Nat) (q_layout : Nat) (q_before : Nat) (q_after : Nat) (q_seconds : Nat) (q_turns : Nat) (q_cause : Nat) (q_times : Nat) (cI : ClassId) (sz : Nat) (z : Nat) (a1 : Int32) (a2 : Int32) (v_rules : Int32) (f_cause : Nat → Int32) (f_before : Nat → Int32) (f_seconds : Nat → Int32) (f_turns : Nat → Int32) (rr : Int32) (hF : fn_TM_cycleThatBreaksRing z a1 a2 f_cause f_before f_seconds f_turns = some rr) : Met l y_TM_cycleThatBreaksRing w_TM_cycleThatBreaksRing ({ frames := 1, cells := 0, slots := 0, locals := 24 }) (hq_Pc (dC, dI) vwCl [(cI, .int)] (wd_TM_cycleThatBreaksRing q_this q_layout q_before q_after q_seconds q_turns q_cause q_times cI v_rules f_cause f_before f_seconds f_turns) sz [.ref q_this, .int a1, .int a2]) (hq_Qi (dC, dI) vwCl [(cI, .int)] (wd_TM_cycleThatBreaksRing q_this q_layout q_before q_after q_seconds q_turns q_cause q_times cI v_rules f_cause f_before f_seconds f_turns) rr (va_A (wd_TM_cycleThatBreaksRing q_this q_layout q_before q_after q_seconds q_turns q_cause q_times cI v_rules f_cause f_before f_seconds f_turns) sz)) 0 0 (va_A (wd_TM_cycleThatBreaksRing q_this q_layout q_before q_after q_seconds q_turns q_cause q_times cI v_rules f_cause f_before f_seconds f_turns) sz) := by
  refine hq_met (Qc := (hq_Qi (dC, dI) vwCl [(cI, .int)] (wd_TM_cycleThatBreaksRing q_this q_layout q_before q_after q_seconds q_turns q_cause q_times cI v_rules f_cause f_before f_seconds f_turns) rr)) (cc := b_TM_cycleThatBreaksRing) (maxL := 9) (ret := some .int) (by decide) rfl (Nat.le_of_ble_eq_true rfl) ?_
  intro p e s m args below meth c A ls hx hb hr hml hts hown hlocks hnm hP hD hK hA hS hl
  have hts : ∀ w ∈ tb0, w.before args s = true := fun w h => hts w (List.mem_cons_of_mem _ h)
  have hown : s.vm.findClass R_TM = some m.cls := hown
  have hl : lv_has ls 9 [(0, .ref q_this), (1, .int a1), (2, .int a2)] := hl
  unfold fn_TM_cycleThatBreaksRing at hF
  have loop : ∀ fu : Nat, (∀ (i1 : Int32) (i2 : Int32) (i3 : Int32) (i4 : Int32) (i5 : Int32) (i6 : Int32) (i7 : Int32) (H : Heap) (locs : List Loc) (ls : Array Slot), va_P (dC, dI) vwCl (wd_TM_cycleThatBreaksRing q_this q_layout q_before q_after q_seconds q_turns q_cause q_times cI v_rules f_cause f_before f_seconds f_turns) H → va_D A (wd_TM_cycleThatBreaksRing q_this q_layout q_before q_after q_seconds q_turns q_cause q_times cI v_rules f_cause f_before f_seconds f_turns) → va_S A s.heap H locs → lv_has ls 9 [(0, .ref q_this), (1, .int i1), (2, .int i2), (3, .int i3), (4, .int i4), (5, .int i5), (6, .int i6), (7, .int i7)] → lp_TM_cycleThatBreaksRing z f_cause f_before f_seconds f_turns fu 0 i1 i2 i3 i4 i5 i6 i7 = some rr → W p l e ({ frames := 1, cells := 0, slots := 0, locals := 24 }) s m args below meth c H locs 0 0 (MQ below ((hq_Qi (dC, dI) vwCl [(cI, .int)] (wd_TM_cycleThatBreaksRing q_this q_layout q_before q_after q_seconds q_turns q_cause q_times cI v_rules f_cause f_before f_seconds f_turns) rr) A) args s 0 0 A) (F0 m 19 ls [])) := by
    intro fu
    induction fu with
    | zero => exact (fun _ _ _ _ _ _ _ _ _ _ _ _ _ _ h => by cases h)
    | succ fu ih =>
      intro i1 i2 i3 i4 i5 i6 i7 H locs ls hP hD hS hl hF
      have hF : st_TM_cycleThatBreaksRing z f_cause f_before f_seconds f_turns (lp_TM_cycleThatBreaksRing z f_cause f_before f_seconds f_turns fu) 0 i1 i2 i3 i4 i5 i6 i7 = some rr := hF
      unfold st_TM_cycleThatBreaksRing at hF
      try dsimp only at hF
      refine lv_iload hx hb d_TM_cycleThatBreaksRing_19 (lv_at hl 7 rfl) ?_
      refine lv_iload_n hx hb d_TM_cycleThatBreaksRing_21 rfl (lv_at hl 1 rfl) ?_
      refine lv_icmp_ge (tgt := 82) hx hb d_TM_cycleThatBreaksRing_22 (by decide) (fun hb2 => ?_) (fun hb2 => ?_)
      · have hF := ox_t hF hb2
        refine lv_iload hx hb d_TM_cycleThatBreaksRing_82 (lv_at hl 5 rfl) ?_
        refine lv_if_lt (tgt := 91) hx hb d_TM_cycleThatBreaksRing_84 (by decide) (fun hb3 => ?_) (fun hb3 => ?_)
        · have hF := ox_t hF hb3
          refine lv_iload hx hb d_TM_cycleThatBreaksRing_91 (lv_at hl 5 rfl) ?_
          refine lv_ineg hx hb d_TM_cycleThatBreaksRing_93 ?_
          refine lv_istore (lv' := [(7, .int (-i5)), (0, .ref q_this), (1, .int i1), (2, .int i2), (3, .int i3), (4, .int i4), (5, .int i5), (6, .int i6)]) hx hb d_TM_cycleThatBreaksRing_94 hl (by decide) rfl (fun ls hl => ?_)
          refine lv_iload hx hb d_TM_cycleThatBreaksRing_96 (lv_at hl 5 rfl) ?_
          refine lv_iload hx hb d_TM_cycleThatBreaksRing_98 (lv_at hl 0 rfl) ?_
          refine lv_iadd hx hb d_TM_cycleThatBreaksRing_100 ?_
          refine lv_iconst (v := 1) hx hb d_TM_cycleThatBreaksRing_101 (by decide) ?_
          refine lv_isub hx hb d_TM_cycleThatBreaksRing_102 ?_
          refine lv_iload hx hb d_TM_cycleThatBreaksRing_103 (lv_at hl 0 rfl) ?_
          obtain ⟨hne, hF⟩ := ox_nzS hF
          refine lv_idiv hx hb d_TM_cycleThatBreaksRing_105 hne ?_
          cases hF
          exact hq_iret hx hb hr hlocks hP hD hK hS d_TM_cycleThatBreaksRing_106
        · have hF := ox_f hF hb3
          refine lv_sipush (v := 2001) hx hb d_TM_cycleThatBreaksRing_87 (by decide) ?_
          cases hF
          exact hq_iret hx hb hr hlocks hP hD hK hS d_TM_cycleThatBreaksRing_90
      · have hF := ox_f hF hb2
        refine lv_aload_n hx hb d_TM_cycleThatBreaksRing_25 rfl (lv_at hl 0 rfl) ?_
        refine va_get (D := (dC, dI)) (ci := 3) (v := .ref q_cause) (C := R_TM) (T := F_TM) (N := 8) hx hb hts uw_TM hown hK hP 0 rfl rfl 6 (by decide) (hts _ tw_61) (fun _ h9 => h9) rfl d_TM_cycleThatBreaksRing_26 ?_
        refine lv_iload hx hb d_TM_cycleThatBreaksRing_29 (lv_at hl 6 rfl) ?_
        obtain ⟨hin, hF⟩ := ox_gdS hF
        refine va_iald hx hb hK hP 1 0 rfl rfl hin d_TM_cycleThatBreaksRing_31 ?_
        refine lv_istore (lv' := [(8, .int (f_cause i6.toNatClampNeg)), (0, .ref q_this), (1, .int i1), (2, .int i2), (3, .int i3), (4, .int i4), (5, .int i5), (6, .int i6), (7, .int i7)]) hx hb d_TM_cycleThatBreaksRing_32 hl (by decide) rfl (fun ls hl => ?_)
        refine lv_iload hx hb d_TM_cycleThatBreaksRing_34 (lv_at hl 5 rfl) ?_
        refine lv_aload_n hx hb d_TM_cycleThatBreaksRing_36 rfl (lv_at hl 1 rfl) ?_
        refine va_get (D := (dC, dI)) (ci := 3) (v := .ref q_seconds) (C := R_TM) (T := F_TM) (N := 8) hx hb hts uw_TM hown hK hP 0 rfl rfl 4 (by decide) (hts _ tw_42) (fun _ h9 => h9) rfl d_TM_cycleThatBreaksRing_37 ?_
        refine lv_iload hx hb d_TM_cycleThatBreaksRing_40 (lv_at hl 0 rfl) ?_
        obtain ⟨hin, hF⟩ := ox_gdS hF
        refine va_iald hx hb hK hP 3 0 rfl rfl hin d_TM_cycleThatBreaksRing_42 ?_
        refine lv_iadd hx hb d_TM_cycleThatBreaksRing_43 ?_
        refine lv_istore (lv' := [(4, .int (i4 + (f_seconds (f_cause i6.toNatClampNeg).toNatClampNeg))), (8, .int (f_cause i6.toNatClampNeg)), (0, .ref q_this), (1, .int i1), (2, .int i2), (3, .int i3), (5, .int i5), (6, .int i6), (7, .int i7)]) hx hb d_TM_cycleThatBreaksRing_44 hl (by decide) rfl (fun ls hl => ?_)
        refine lv_iload hx hb d_TM_cycleThatBreaksRing_46 (lv_at hl 6 rfl) ?_
        refine lv_aload_n hx hb d_TM_cycleThatBreaksRing_48 rfl (lv_at hl 2 rfl) ?_
        refine va_get (D := (dC, dI)) (ci := 3) (v := .ref q_turns) (C := R_TM) (T := F_TM) (N := 8) hx hb hts uw_TM hown hK hP 0 rfl rfl 5 (by decide) (hts _ tw_43) (fun _ h9 => h9) rfl d_TM_cycleThatBreaksRing_49 ?_
        refine lv_iload hx hb d_TM_cycleThatBreaksRing_52 (lv_at hl 1 rfl) ?_
        obtain ⟨hin, hF⟩ := ox_gdS hF
        refine va_iald hx hb hK hP 4 0 rfl rfl hin d_TM_cycleThatBreaksRing_54 ?_
        refine lv_iadd hx hb d_TM_cycleThatBreaksRing_55 ?_
        refine lv_istore (lv' := [(5, .int (i5 + (f_turns (f_cause i6.toNatClampNeg).toNatClampNeg))), (4, .int (i4 + (f_seconds (f_cause i6.toNatClampNeg).toNatClampNeg))), (8, .int (f_cause i6.toNatClampNeg)), (0, .ref q_this), (1, .int i1), (2, .int i2), (3, .int i3), (6, .int i6), (7, .int i7)]) hx hb d_TM_cycleThatBreaksRing_56 hl (by decide) rfl (fun ls hl => ?_)
        refine lv_aload_n hx hb d_TM_cycleThatBreaksRing_58 rfl (lv_at hl 3 rfl) ?_
        refine va_get (D := (dC, dI)) (ci := 3) (v := .ref q_before) (C := R_TM) (T := F_TM) (N := 8) hx hb hts uw_TM hown hK hP 0 rfl rfl 2 (by decide) (hts _ tw_39) (fun _ h9 => h9) rfl d_TM_cycleThatBreaksRing_59 ?_
        refine lv_iload hx hb d_TM_cycleThatBreaksRing_62 (lv_at hl 2 rfl) ?_
        obtain ⟨hin, hF⟩ := ox_gdS hF
        refine va_iald hx hb hK hP 2 0 rfl rfl hin d_TM_cycleThatBreaksRing_64 ?_
        refine lv_istore (lv' := [(6, .int (f_before (f_cause i6.toNatClampNeg).toNatClampNeg)), (5, .int (i5 + (f_turns (f_cause i6.toNatClampNeg).toNatClampNeg))), (4, .int (i4 + (f_seconds (f_cause i6.toNatClampNeg).toNatClampNeg))), (8, .int (f_cause i6.toNatClampNeg)), (0, .ref q_this), (1, .int i1), (2, .int i2), (3, .int i3), (7, .int i7)]) hx hb d_TM_cycleThatBreaksRing_65 hl (by decide) rfl (fun ls hl => ?_)
        refine lv_iload hx hb d_TM_cycleThatBreaksRing_67 (lv_at hl 0 rfl) ?_
        refine lv_iload_n hx hb d_TM_cycleThatBreaksRing_69 rfl (lv_at hl 7 rfl) ?_
        refine lv_icmp_ne (tgt := 76) hx hb d_TM_cycleThatBreaksRing_70 (by decide) (fun hb4 => ?_) (fun hb4 => ?_)
        · have hF := ox_t hF hb4
          refine lv_iinc (v := (i7 + 1)) (lv' := [(7, .int (i7 + 1)), (6, .int (f_before (f_cause i6.toNatClampNeg).toNatClampNeg)), (5, .int (i5 + (f_turns (f_cause i6.toNatClampNeg).toNatClampNeg))), (4, .int (i4 + (f_seconds (f_cause i6.toNatClampNeg).toNatClampNeg))), (8, .int (f_cause i6.toNatClampNeg)), (0, .ref q_this), (1, .int i1), (2, .int i2), (3, .int i3)]) hx hb d_TM_cycleThatBreaksRing_76 hl (k := 8) rfl rfl (by decide) rfl (fun ls hl => ?_)
          refine lv_goto (tgt := 19) hx hb d_TM_cycleThatBreaksRing_79 (by decide) ?_
          exact ih i1 i2 i3 (i4 + (f_seconds (f_cause i6.toNatClampNeg).toNatClampNeg)) (i5 + (f_turns (f_cause i6.toNatClampNeg).toNatClampNeg)) (f_before (f_cause i6.toNatClampNeg).toNatClampNeg) (i7 + 1) _ _ _ hP hD hS (lv_sub hl [5, 6, 7, 8, 3, 2, 1, 0] rfl) hF
        · have hF := ox_fn hF hb4
          refine lv_goto (tgt := 82) hx hb d_TM_cycleThatBreaksRing_73 (by decide) ?_
          refine lv_iload hx hb d_TM_cycleThatBreaksRing_82 (lv_at hl 1 rfl) ?_
          refine lv_if_lt (tgt := 91) hx hb d_TM_cycleThatBreaksRing_84 (by decide) (fun hb5 => ?_) (fun hb5 => ?_)
          · have hF := ox_t hF hb5
            refine lv_iload hx hb d_TM_cycleThatBreaksRing_91 (lv_at hl 1 rfl) ?_
            refine lv_ineg hx hb d_TM_cycleThatBreaksRing_93 ?_
            refine lv_istore (lv' := [(7, .int (-(i5 + (f_turns (f_cause i6.toNatClampNeg).toNatClampNeg)))), (6, .int (f_before (f_cause i6.toNatClampNeg).toNatClampNeg)), (5, .int (i5 + (f_turns (f_cause i6.toNatClampNeg).toNatClampNeg))), (4, .int (i4 + (f_seconds (f_cause i6.toNatClampNeg).toNatClampNeg))), (8, .int (f_cause i6.toNatClampNeg)), (0, .ref q_this), (1, .int i1), (2, .int i2), (3, .int i3)]) hx hb d_TM_cycleThatBreaksRing_94 hl (by decide) rfl (fun ls hl => ?_)
            refine lv_iload hx hb d_TM_cycleThatBreaksRing_96 (lv_at hl 3 rfl) ?_
            refine lv_iload hx hb d_TM_cycleThatBreaksRing_98 (lv_at hl 0 rfl) ?_
            refine lv_iadd hx hb d_TM_cycleThatBreaksRing_100 ?_
            refine lv_iconst (v := 1) hx hb d_TM_cycleThatBreaksRing_101 (by decide) ?_
            refine lv_isub hx hb d_TM_cycleThatBreaksRing_102 ?_
            refine lv_iload hx hb d_TM_cycleThatBreaksRing_103 (lv_at hl 0 rfl) ?_
            obtain ⟨hne, hF⟩ := ox_nzS hF
            refine lv_idiv hx hb d_TM_cycleThatBreaksRing_105 hne ?_
            cases hF
            exact hq_iret hx hb hr hlocks hP hD hK hS d_TM_cycleThatBreaksRing_106
          · have hF := ox_f hF hb5
            refine lv_sipush (v := 2001) hx hb d_TM_cycleThatBreaksRing_87 (by decide) ?_
            cases hF
            exact hq_iret hx hb hr hlocks hP hD hK hS d_TM_cycleThatBreaksRing_90
  refine lv_aload_n hx hb d_TM_cycleThatBreaksRing_0 rfl (lv_at hl 0 rfl) ?_
  refine lv_iload_n hx hb d_TM_cycleThatBreaksRing_1 rfl (lv_at hl 1 rfl) ?_
  refine lv_iload_n hx hb d_TM_cycleThatBreaksRing_2 rfl (lv_at hl 2 rfl) ?_
  obtain ⟨r1, hc1, hF⟩ := ox_clS hF
  refine hq_ci (ws' := (wd_TM_cycleThatBreaksRing q_this q_layout q_before q_after q_seconds q_turns q_cause q_times cI v_rules f_cause f_before f_seconds f_turns)) (hq_rV (As := [.int a1, .int a2]) (rest := []) ⟨hx, hb, hml, hown, hts⟩ (c_TM_moveOnRing l dC dI q_this q_layout q_before q_after q_seconds q_turns q_cause q_times cI _ z a1 a2 v_rules f_cause f_before r1 hc1) (cwV 2 hts (hq_gV tw_67 tw_68 tw_69 tw_52 tw_70) rfl rfl rfl yv_TM_moveOnRing ⟨Nat.le_of_ble_eq_true rfl, Nat.le_of_ble_eq_true rfl⟩) hP hD hK [0] rfl 0 rfl rfl [0, 1, 2] rfl rfl rfl hl.1 rfl (Nat.le_of_ble_eq_true rfl) d_TM_cycleThatBreaksRing_3 ⟨Nat.zero_le _, Nat.zero_le _⟩) hP hD hS hA [0, 1, 2] [3, 4] [2, 3, 4, 0, 1] rfl rfl rfl (by decide) rfl rfl (fun H locs hP hD hS => ?_)
  refine lv_istore_n (lv' := [(3, .int r1), (0, .ref q_this), (1, .int a1), (2, .int a2)]) hx hb d_TM_cycleThatBreaksRing_6 rfl hl (by decide) rfl (fun ls hl => ?_)
  refine lv_iconst (v := 0) hx hb d_TM_cycleThatBreaksRing_7 (by decide) ?_
  refine lv_istore (lv' := [(4, .int 0), (3, .int r1), (0, .ref q_this), (1, .int a1), (2, .int a2)]) hx hb d_TM_cycleThatBreaksRing_8 hl (by decide) rfl (fun ls hl => ?_)
  refine lv_iconst (v := 0) hx hb d_TM_cycleThatBreaksRing_10 (by decide) ?_
  refine lv_istore (lv' := [(5, .int 0), (4, .int 0), (3, .int r1), (0, .ref q_this), (1, .int a1), (2, .int a2)]) hx hb d_TM_cycleThatBreaksRing_11 hl (by decide) rfl (fun ls hl => ?_)
  refine lv_iload_n hx hb d_TM_cycleThatBreaksRing_13 rfl (lv_at hl 2 rfl) ?_
  refine lv_istore (lv' := [(6, .int r1), (5, .int 0), (4, .int 0), (3, .int r1), (0, .ref q_this), (1, .int a1), (2, .int a2)]) hx hb d_TM_cycleThatBreaksRing_14 hl (by decide) rfl (fun ls hl => ?_)
  refine lv_iconst (v := 0) hx hb d_TM_cycleThatBreaksRing_16 (by decide) ?_
  refine lv_istore (lv' := [(7, .int 0), (6, .int r1), (5, .int 0), (4, .int 0), (3, .int r1), (0, .ref q_this), (1, .int a1), (2, .int a2)]) hx hb d_TM_cycleThatBreaksRing_17 hl (by decide) rfl (fun ls hl => ?_)
  exact (loop z) a1 a2 r1 0 0 r1 0 _ _ _ hP hD hS (lv_sub hl [5, 6, 7, 4, 3, 2, 1, 0] rfl) hF
abbrev wd_TM_leastCycle (q_this : Nat) (q_layout : Nat) (q_before : Nat) (q_after : Nat) (q_seconds : Nat) (q_turns : Nat) (q_cause : Nat) (q_times : Nat) (q_p1 : Nat) (q_p1_moves : Nat) (q_p1_rank : Nat) (q_layout_low : Nat) (q_layout_high : Nat) (q_layout_loadedSeconds : Nat) (q_layout_emptySeconds : Nat) (qr_layout_emptySeconds : Nat → Nat) (cI : ClassId) (cO : ClassId) (v_rules : Int32) (v_p1_count : Int32) (v_layout_tanks : Int32) (f_p1_moves : Nat → Int32) (f_layout_loadedSeconds : Nat → Int32) (f_before : Nat → Int32) (f_after : Nat → Int32) (f_seconds : Nat → Int32) (f_turns : Nat → Int32) (f_p1_rank : Nat → Int32) (f_layout_low : Nat → Int32) (f_layout_high : Nat → Int32) (f_times : Nat → Int32) (f_cause : Nat → Int32) (f_layout_emptySeconds : Nat → Nat → Int32) : va_W := [(q_this, .inr (3, [.ref q_layout, .int v_rules, .ref q_before, .ref q_after, .ref q_seconds, .ref q_turns, .ref q_cause, .ref q_times])), (q_p1, .inr (1, [.int v_p1_count, .ref q_p1_moves, .ref q_p1_rank])), (q_layout, .inr (0, [.int v_layout_tanks, .ref q_layout_low, .ref q_layout_high, .ref q_layout_loadedSeconds, .ref q_layout_emptySeconds])), (q_p1_moves, .inl (cI, 6, .inl f_p1_moves)), (q_layout_loadedSeconds, .inl (cI, 6, .inl f_layout_loadedSeconds)), (q_before, .inl (cI, 16, .inl f_before)), (q_after, .inl (cI, 16, .inl f_after)), (q_seconds, .inl (cI, 16, .inl f_seconds)), (q_turns, .inl (cI, 16, .inl f_turns)), (q_p1_rank, .inl (cI, 6, .inl f_p1_rank)), (q_layout_low, .inl (cI, 6, .inl f_layout_low)), (q_layout_high, .inl (cI, 6, .inl f_layout_high)), (q_times, .inl (cI, 6, .inl f_times)), (q_cause, .inl (cI, 6, .inl f_cause)), (q_layout_emptySeconds, .inl (hq_out cO qr_layout_emptySeconds))] ++ hq_rows cI qr_layout_emptySeconds f_layout_emptySeconds
set_option maxHeartbeats 4000000 in
set_option maxRecDepth 100000 in
theorem c_TM_leastCycle (l : Launch) (dC : Nat → ClassId) (dI : Nat → Nat → Nat) (q_this : Nat) (q_layout : Nat) (q_before : Nat) (q_after : Nat) (q_seconds : Nat) (q_turns : Nat) (q_cause : Nat) (q_times : Nat) (q_p1 : Nat) (q_p1_moves : Nat) (q_p1_rank : Nat) (q_layout_low : Nat) (q_layout_high : Nat) (q_layout_loadedSeconds : Nat) (q_layout_emptySeconds : Nat) (qr_layout_emptySeconds : Nat → Nat) (cI : ClassId) (cO : ClassId) (sz : Nat) (z : Nat) (a2 : Int32) (v_rules : Int32) (v_p1_count : Int32) (v_layout_tanks : Int32) (f_p1_moves : Nat → Int32) (f_layout_loadedSeconds : Nat → Int32) (f_before : Nat → Int32) (f_after : Nat → Int32) (f_seconds : Nat → Int32) (f_turns : Nat → Int32) (f_p1_rank : Nat → Int32) (f_layout_low : Nat → Int32) (f_layout_high : Nat → Int32) (f_times : Nat → Int32) (f_cause : Nat → Int32) (f_layout_emptySeconds : Nat → Nat → Int32) (rr : Int32) (n_v_rules : Int32) (n_f_before : Nat → Int32) (n_f_after : Nat → Int32) (n_f_seconds : Nat → Int32) (n_f_turns : Nat → Int32) (n_f_times : Nat → Int32) (n_f_cause : Nat → Int32) (hF : fn_TM_leastCycle z a2 v_rules v_p1_count f_p1_moves f_layout_loadedSeconds f_before f_after f_seconds f_turns f_p1_rank f_layout_low f_layout_high f_times f_cause f_layout_emptySeconds = some (rr, n_v_rules, n_f_before, n_f_after, n_f_seconds, n_f_turns, n_f_times, n_f_cause)) : Met l y_TM_leastCycle w_TM_leastCycle ({ frames := 2, cells := 0, slots := 0, locals := 52 }) (hq_Pc (dC, dI) vwCl [(cI, .int), (cO, .array .int)] (wd_TM_leastCycle q_this q_layout q_before q_after q_seconds q_turns q_cause q_times q_p1 q_p1_moves q_p1_rank q_layout_low q_layout_high q_layout_loadedSeconds q_layout_emptySeconds qr_layout_emptySeconds cI cO v_rules v_p1_count v_layout_tanks f_p1_moves f_layout_loadedSeconds f_before f_after f_seconds f_turns f_p1_rank f_layout_low f_layout_high f_times f_cause f_layout_emptySeconds) sz [.ref q_this, .ref q_p1, .int a2]) (hq_Qi (dC, dI) vwCl [(cI, .int), (cO, .array .int)] (wd_TM_leastCycle q_this q_layout q_before q_after q_seconds q_turns q_cause q_times q_p1 q_p1_moves q_p1_rank q_layout_low q_layout_high q_layout_loadedSeconds q_layout_emptySeconds qr_layout_emptySeconds cI cO n_v_rules v_p1_count v_layout_tanks f_p1_moves f_layout_loadedSeconds n_f_before n_f_after n_f_seconds n_f_turns f_p1_rank f_layout_low f_layout_high n_f_times n_f_cause f_layout_emptySeconds) rr (va_A (wd_TM_leastCycle q_this q_layout q_before q_after q_seconds q_turns q_cause q_times q_p1 q_p1_moves q_p1_rank q_layout_low q_layout_high q_layout_loadedSeconds q_layout_emptySeconds qr_layout_emptySeconds cI cO v_rules v_p1_count v_layout_tanks f_p1_moves f_layout_loadedSeconds f_before f_after f_seconds f_turns f_p1_rank f_layout_low f_layout_high f_times f_cause f_layout_emptySeconds) sz)) 0 0 (va_A (wd_TM_leastCycle q_this q_layout q_before q_after q_seconds q_turns q_cause q_times q_p1 q_p1_moves q_p1_rank q_layout_low q_layout_high q_layout_loadedSeconds q_layout_emptySeconds qr_layout_emptySeconds cI cO v_rules v_p1_count v_layout_tanks f_p1_moves f_layout_loadedSeconds f_before f_after f_seconds f_turns f_p1_rank f_layout_low f_layout_high f_times f_cause f_layout_emptySeconds) sz) := by
  refine hq_met (Qc := (hq_Qi (dC, dI) vwCl [(cI, .int), (cO, .array .int)] (wd_TM_leastCycle q_this q_layout q_before q_after q_seconds q_turns q_cause q_times q_p1 q_p1_moves q_p1_rank q_layout_low q_layout_high q_layout_loadedSeconds q_layout_emptySeconds qr_layout_emptySeconds cI cO n_v_rules v_p1_count v_layout_tanks f_p1_moves f_layout_loadedSeconds n_f_before n_f_after n_f_seconds n_f_turns f_p1_rank f_layout_low f_layout_high n_f_times n_f_cause f_layout_emptySeconds) rr)) (cc := b_TM_leastCycle) (maxL := 6) (ret := some .int) (by decide) rfl (Nat.le_of_ble_eq_true rfl) ?_
  intro p e s m args below meth c A ls hx hb hr hml hts hown hlocks hnm hP hD hK hA hS hl
  have hts : ∀ w ∈ tb0, w.before args s = true := fun w h => hts w (List.mem_cons_of_mem _ h)
  have hown : s.vm.findClass R_TM = some m.cls := hown
  have hl : lv_has ls 6 [(0, .ref q_this), (1, .ref q_p1), (2, .int a2)] := hl
  unfold fn_TM_leastCycle at hF
  have loop : ∀ fu : Nat, (∀ (i2 : Int32) (i3 : Int32) (i4 : Int32) (v_rules : Int32) (f_before : Nat → Int32) (f_after : Nat → Int32) (f_seconds : Nat → Int32) (f_turns : Nat → Int32) (f_times : Nat → Int32) (f_cause : Nat → Int32) (H : Heap) (locs : List Loc) (ls : Array Slot), va_P (dC, dI) vwCl (wd_TM_leastCycle q_this q_layout q_before q_after q_seconds q_turns q_cause q_times q_p1 q_p1_moves q_p1_rank q_layout_low q_layout_high q_layout_loadedSeconds q_layout_emptySeconds qr_layout_emptySeconds cI cO v_rules v_p1_count v_layout_tanks f_p1_moves f_layout_loadedSeconds f_before f_after f_seconds f_turns f_p1_rank f_layout_low f_layout_high f_times f_cause f_layout_emptySeconds) H → va_D A (wd_TM_leastCycle q_this q_layout q_before q_after q_seconds q_turns q_cause q_times q_p1 q_p1_moves q_p1_rank q_layout_low q_layout_high q_layout_loadedSeconds q_layout_emptySeconds qr_layout_emptySeconds cI cO v_rules v_p1_count v_layout_tanks f_p1_moves f_layout_loadedSeconds f_before f_after f_seconds f_turns f_p1_rank f_layout_low f_layout_high f_times f_cause f_layout_emptySeconds) → va_S A s.heap H locs → lv_has ls 6 [(0, .ref q_this), (1, .ref q_p1), (2, .int i2), (3, .int i3), (4, .int i4)] → lp_TM_leastCycle z v_p1_count f_p1_moves f_layout_loadedSeconds f_p1_rank f_layout_low f_layout_high f_layout_emptySeconds fu 0 i2 i3 i4 v_rules f_before f_after f_seconds f_turns f_times f_cause = some (rr, n_v_rules, n_f_before, n_f_after, n_f_seconds, n_f_turns, n_f_times, n_f_cause) → W p l e ({ frames := 2, cells := 0, slots := 0, locals := 52 }) s m args below meth c H locs 0 0 (MQ below ((hq_Qi (dC, dI) vwCl [(cI, .int), (cO, .array .int)] (wd_TM_leastCycle q_this q_layout q_before q_after q_seconds q_turns q_cause q_times q_p1 q_p1_moves q_p1_rank q_layout_low q_layout_high q_layout_loadedSeconds q_layout_emptySeconds qr_layout_emptySeconds cI cO n_v_rules v_p1_count v_layout_tanks f_p1_moves f_layout_loadedSeconds n_f_before n_f_after n_f_seconds n_f_turns f_p1_rank f_layout_low f_layout_high n_f_times n_f_cause f_layout_emptySeconds) rr) A) args s 0 0 A) (F0 m 26 ls [])) := by
    intro fu
    induction fu with
    | zero => exact (fun _ _ _ _ _ _ _ _ _ _ _ _ _ _ _ _ _ h => by cases h)
    | succ fu ih =>
      intro i2 i3 i4 v_rules f_before f_after f_seconds f_turns f_times f_cause H locs ls hP hD hS hl hF
      have hF : st_TM_leastCycle z v_p1_count f_p1_moves f_layout_loadedSeconds f_p1_rank f_layout_low f_layout_high f_layout_emptySeconds (lp_TM_leastCycle z v_p1_count f_p1_moves f_layout_loadedSeconds f_p1_rank f_layout_low f_layout_high f_layout_emptySeconds fu) 0 i2 i3 i4 v_rules f_before f_after f_seconds f_turns f_times f_cause = some (rr, n_v_rules, n_f_before, n_f_after, n_f_seconds, n_f_turns, n_f_times, n_f_cause) := hF
      unfold st_TM_leastCycle at hF
      try dsimp only at hF
      refine lv_iload hx hb d_TM_leastCycle_26 (lv_at hl 4 rfl) ?_
      refine lv_sipush (v := 2000) hx hb d_TM_leastCycle_28 (by decide) ?_
      refine lv_icmp_ge (tgt := 75) hx hb d_TM_leastCycle_31 (by decide) (fun hb4 => ?_) (fun hb4 => ?_)
      · have hF := ox_t hF hb4
        refine lv_iconst (v := (-1)) hx hb d_TM_leastCycle_75 (by decide) ?_
        cases hF
        exact hq_iret hx hb hr hlocks hP hD hK hS d_TM_leastCycle_76
      · have hF := ox_f hF hb4
        refine lv_iload_n hx hb d_TM_leastCycle_34 rfl (lv_at hl 3 rfl) ?_
        refine lv_iload_n hx hb d_TM_leastCycle_35 rfl (lv_at hl 2 rfl) ?_
        refine lv_icmp_gt (tgt := 75) hx hb d_TM_leastCycle_36 (by decide) (fun hb5 => ?_) (fun hb5 => ?_)
        · have hF := ox_t hF hb5
          refine lv_iconst (v := (-1)) hx hb d_TM_leastCycle_75 (by decide) ?_
          cases hF
          exact hq_iret hx hb hr hlocks hP hD hK hS d_TM_leastCycle_76
        · have hF := ox_f hF hb5
          refine lv_aload_n hx hb d_TM_leastCycle_39 rfl (lv_at hl 0 rfl) ?_
          refine lv_aload_n hx hb d_TM_leastCycle_40 rfl (lv_at hl 1 rfl) ?_
          refine va_get (D := (dC, dI)) (ci := 1) (v := .int v_p1_count) (C := R_OR) (T := F_OR) (N := 3) hx hb hts uw_OR hown hK hP 1 rfl rfl 0 (by decide) (hts _ tw_44) (fun _ h9 => h9) rfl d_TM_leastCycle_41 ?_
          refine lv_iload_n hx hb d_TM_leastCycle_44 rfl (lv_at hl 3 rfl) ?_
          obtain ⟨⟨r6, s6_f_times, s6_f_cause⟩, hc6, hF⟩ := ox_clS hF
          refine hq_ci (ws' := (wd_TM_leastCycle q_this q_layout q_before q_after q_seconds q_turns q_cause q_times q_p1 q_p1_moves q_p1_rank q_layout_low q_layout_high q_layout_loadedSeconds q_layout_emptySeconds qr_layout_emptySeconds cI cO v_rules v_p1_count v_layout_tanks f_p1_moves f_layout_loadedSeconds f_before f_after f_seconds f_turns f_p1_rank f_layout_low f_layout_high s6_f_times s6_f_cause f_layout_emptySeconds)) (hq_rV (As := [.int v_p1_count, .int i3]) (rest := []) ⟨hx, hb, hml, hown, hts⟩ (c_TM_settleTimes l dC dI q_this q_layout q_before q_after q_seconds q_turns q_cause q_times cI _ z v_p1_count i3 v_rules f_times f_before f_seconds f_turns f_after f_cause r6 s6_f_times s6_f_cause hc6) (cwV 2 hts (hq_gV tw_71 tw_72 tw_73 tw_52 tw_74) rfl rfl rfl yv_TM_settleTimes ⟨Nat.le_of_ble_eq_true rfl, Nat.le_of_ble_eq_true rfl⟩) hP hD hK [0] rfl 0 rfl rfl [0, 12, 5, 7, 8, 6, 13] rfl rfl rfl hl.1 rfl (Nat.le_of_ble_eq_true rfl) d_TM_leastCycle_45 ⟨Nat.zero_le _, Nat.zero_le _⟩) hP hD hS hA [0, 12, 5, 7, 8, 6, 13] [1, 2, 3, 4, 9, 10, 11, 14, 15, 16, 17, 18, 19, 20, 21] [15, 0, 1, 2, 3, 17, 20, 18, 19, 4, 5, 6, 16, 21, 7, 8, 9, 10, 11, 12, 13, 14] rfl rfl rfl (by decide) rfl rfl (fun H locs hP hD hS => ?_)
          refine lv_istore (lv' := [(5, .int r6), (0, .ref q_this), (1, .ref q_p1), (2, .int i2), (3, .int i3), (4, .int i4)]) hx hb d_TM_leastCycle_48 hl (by decide) rfl (fun ls hl => ?_)
          refine lv_iload hx hb d_TM_leastCycle_50 (lv_at hl 0 rfl) ?_
          refine lv_iconst (v := (-1)) hx hb d_TM_leastCycle_52 (by decide) ?_
          refine lv_icmp_ne (tgt := 58) hx hb d_TM_leastCycle_53 (by decide) (fun hb7 => ?_) (fun hb7 => ?_)
          · have hF := ox_t hF hb7
            refine lv_aload_n hx hb d_TM_leastCycle_58 rfl (lv_at hl 1 rfl) ?_
            refine lv_aload_n hx hb d_TM_leastCycle_59 rfl (lv_at hl 2 rfl) ?_
            refine va_get (D := (dC, dI)) (ci := 1) (v := .int v_p1_count) (C := R_OR) (T := F_OR) (N := 3) hx hb hts uw_OR hown hK hP 1 rfl rfl 0 (by decide) (hts _ tw_44) (fun _ h9 => h9) rfl d_TM_leastCycle_60 ?_
            refine lv_iload hx hb d_TM_leastCycle_63 (lv_at hl 0 rfl) ?_
            obtain ⟨r8, hc8, hF⟩ := ox_clS hF
            refine hq_ci (ws' := (wd_TM_leastCycle q_this q_layout q_before q_after q_seconds q_turns q_cause q_times q_p1 q_p1_moves q_p1_rank q_layout_low q_layout_high q_layout_loadedSeconds q_layout_emptySeconds qr_layout_emptySeconds cI cO v_rules v_p1_count v_layout_tanks f_p1_moves f_layout_loadedSeconds f_before f_after f_seconds f_turns f_p1_rank f_layout_low f_layout_high s6_f_times s6_f_cause f_layout_emptySeconds)) (hq_rV (As := [.int v_p1_count, .int r6]) (rest := []) ⟨hx, hb, hml, hown, hts⟩ (c_TM_cycleThatBreaksRing l dC dI q_this q_layout q_before q_after q_seconds q_turns q_cause q_times cI _ z v_p1_count r6 v_rules s6_f_cause f_before f_seconds f_turns r8 hc8) (cwV 2 hts (hq_gV tw_75 tw_76 tw_77 tw_52 tw_78) rfl rfl rfl yv_TM_cycleThatBreaksRing ⟨Nat.le_of_ble_eq_true rfl, Nat.le_of_ble_eq_true rfl⟩) hP hD hK [0] rfl 0 rfl rfl [0, 13, 5, 7, 8] rfl rfl rfl hl.1 rfl (Nat.le_of_ble_eq_true rfl) d_TM_leastCycle_65 ⟨Nat.zero_le _, Nat.zero_le _⟩) hP hD hS hA [0, 13, 5, 7, 8] [1, 2, 3, 4, 6, 9, 10, 11, 12, 14, 15, 16, 17, 18, 19, 20, 21] [17, 0, 1, 2, 3, 19, 4, 20, 21, 5, 6, 7, 8, 18, 9, 10, 11, 12, 13, 14, 15, 16] rfl rfl rfl (by decide) rfl rfl (fun H locs hP hD hS => ?_)
            refine lv_istore_n (lv' := [(3, .int r8), (5, .int r6), (0, .ref q_this), (1, .ref q_p1), (2, .int i2), (4, .int i4)]) hx hb d_TM_leastCycle_68 rfl hl (by decide) rfl (fun ls hl => ?_)
            refine lv_iinc (v := (i4 + 1)) (lv' := [(4, .int (i4 + 1)), (3, .int r8), (5, .int r6), (0, .ref q_this), (1, .ref q_p1), (2, .int i2)]) hx hb d_TM_leastCycle_69 hl (k := 5) rfl rfl (by decide) rfl (fun ls hl => ?_)
            refine lv_goto (tgt := 26) hx hb d_TM_leastCycle_72 (by decide) ?_
            exact ih i2 r8 (i4 + 1) v_rules f_before f_after f_seconds f_turns s6_f_times s6_f_cause _ _ _ hP hD hS (lv_sub hl [3, 4, 5, 1, 0] rfl) hF
          · have hF := ox_fn hF hb7
            refine lv_iload_n hx hb d_TM_leastCycle_56 rfl (lv_at hl 4 rfl) ?_
            cases hF
            exact hq_iret hx hb hr hlocks hP hD hK hS d_TM_leastCycle_57
  refine lv_aload_n hx hb d_TM_leastCycle_0 rfl (lv_at hl 0 rfl) ?_
  refine lv_iconst (v := 0) hx hb d_TM_leastCycle_1 (by decide) ?_
  refine va_put (D := (dC, dI)) (ci := 3) (v := .int 0) (ty := .int) (C := R_TM) (T := F_TM) (N := 8) hx hb hts uw_TM t_TM t_TM_ok n_TM hown hK hP hD hS 0 rfl rfl 1 (by decide) (hts _ tw_40) (fun _ h9 => h9) rfl (by decide +kernel) rfl rfl (Nat.le_of_ble_eq_true rfl) d_TM_leastCycle_2 (fun H locs hP hD hS => ?_)
  have hP : va_P (dC, dI) vwCl (wd_TM_leastCycle q_this q_layout q_before q_after q_seconds q_turns q_cause q_times q_p1 q_p1_moves q_p1_rank q_layout_low q_layout_high q_layout_loadedSeconds q_layout_emptySeconds qr_layout_emptySeconds cI cO 0 v_p1_count v_layout_tanks f_p1_moves f_layout_loadedSeconds f_before f_after f_seconds f_turns f_p1_rank f_layout_low f_layout_high f_times f_cause f_layout_emptySeconds) H := hP
  have hD : va_D A (wd_TM_leastCycle q_this q_layout q_before q_after q_seconds q_turns q_cause q_times q_p1 q_p1_moves q_p1_rank q_layout_low q_layout_high q_layout_loadedSeconds q_layout_emptySeconds qr_layout_emptySeconds cI cO 0 v_p1_count v_layout_tanks f_p1_moves f_layout_loadedSeconds f_before f_after f_seconds f_turns f_p1_rank f_layout_low f_layout_high f_times f_cause f_layout_emptySeconds) := hD
  refine lv_aload_n hx hb d_TM_leastCycle_5 rfl (lv_at hl 0 rfl) ?_
  refine lv_aload_n hx hb d_TM_leastCycle_6 rfl (lv_at hl 1 rfl) ?_
  obtain ⟨⟨r1, s1_v_rules, s1_f_before, s1_f_after, s1_f_seconds, s1_f_turns⟩, hc1, hF⟩ := ox_clS hF
  refine hq_ci (ws' := (wd_TM_leastCycle q_this q_layout q_before q_after q_seconds q_turns q_cause q_times q_p1 q_p1_moves q_p1_rank q_layout_low q_layout_high q_layout_loadedSeconds q_layout_emptySeconds qr_layout_emptySeconds cI cO s1_v_rules v_p1_count v_layout_tanks f_p1_moves f_layout_loadedSeconds s1_f_before s1_f_after s1_f_seconds s1_f_turns f_p1_rank f_layout_low f_layout_high f_times f_cause f_layout_emptySeconds)) (hq_rV (As := [.ref q_p1]) (rest := []) ⟨hx, hb, hml, hown, hts⟩ (c_TM_addWays l dC dI q_p1 q_p1_moves q_p1_rank q_this q_layout q_before q_after q_seconds q_turns q_cause q_times q_layout_low q_layout_high q_layout_loadedSeconds q_layout_emptySeconds qr_layout_emptySeconds cI cO _ z v_p1_count 0 v_layout_tanks f_p1_moves f_layout_loadedSeconds f_before f_after f_seconds f_turns f_layout_emptySeconds r1 s1_v_rules s1_f_before s1_f_after s1_f_seconds s1_f_turns hc1) (cwV 1 hts (hq_gV tw_79 tw_80 tw_81 tw_52 tw_82) rfl rfl rfl yv_TM_addWays ⟨Nat.le_of_ble_eq_true rfl, Nat.le_of_ble_eq_true rfl⟩) hP hD hK [0, 1] rfl 0 rfl rfl [1, 0, 2, 3, 4, 5, 6, 7, 8, 14, 15, 16, 17, 18, 19, 20, 21] rfl rfl rfl hl.1 rfl (Nat.le_of_ble_eq_true rfl) d_TM_leastCycle_7 ⟨Nat.zero_le _, Nat.zero_le _⟩) hP hD hS hA [1, 0, 2, 3, 4, 5, 6, 7, 8, 14, 15, 16, 17, 18, 19, 20, 21] [9, 10, 11, 12, 13] [6, 5, 7, 8, 9, 10, 11, 12, 13, 0, 1, 2, 3, 4, 14, 15, 16, 17, 18, 19, 20, 21] rfl rfl rfl (by decide) rfl rfl (fun H locs hP hD hS => ?_)
  refine lv_istore_n (lv' := [(3, .int r1), (0, .ref q_this), (1, .ref q_p1), (2, .int a2)]) hx hb d_TM_leastCycle_10 rfl hl (by decide) rfl (fun ls hl => ?_)
  refine lv_iload_n hx hb d_TM_leastCycle_11 rfl (lv_at hl 0 rfl) ?_
  refine lv_iload_n hx hb d_TM_leastCycle_12 rfl (lv_at hl 3 rfl) ?_
  refine lv_icmp_le (tgt := 18) hx hb d_TM_leastCycle_13 (by decide) (fun hb2 => ?_) (fun hb2 => ?_)
  · have hF := ox_t hF hb2
    refine lv_aload_n hx hb d_TM_leastCycle_18 rfl (lv_at hl 1 rfl) ?_
    refine lv_aload_n hx hb d_TM_leastCycle_19 rfl (lv_at hl 2 rfl) ?_
    obtain ⟨⟨s3_v_rules, s3_f_before, s3_f_after, s3_f_seconds, s3_f_turns⟩, hc3, hF⟩ := ox_clS hF
    refine hq_cv (ws' := (wd_TM_leastCycle q_this q_layout q_before q_after q_seconds q_turns q_cause q_times q_p1 q_p1_moves q_p1_rank q_layout_low q_layout_high q_layout_loadedSeconds q_layout_emptySeconds qr_layout_emptySeconds cI cO s3_v_rules v_p1_count v_layout_tanks f_p1_moves f_layout_loadedSeconds s3_f_before s3_f_after s3_f_seconds s3_f_turns f_p1_rank f_layout_low f_layout_high f_times f_cause f_layout_emptySeconds)) (hq_rV (As := [.ref q_p1]) (rest := []) ⟨hx, hb, hml, hown, hts⟩ (c_TM_addSoaks l dC dI q_p1 q_p1_moves q_p1_rank q_this q_layout q_before q_after q_seconds q_turns q_cause q_times q_layout_low q_layout_high q_layout_loadedSeconds q_layout_emptySeconds cI _ z v_p1_count s1_v_rules v_layout_tanks f_layout_loadedSeconds f_p1_rank f_layout_low s1_f_before s1_f_after s1_f_seconds s1_f_turns f_layout_high s3_v_rules s3_f_before s3_f_after s3_f_seconds s3_f_turns hc3) (cwV 1 hts (hq_gV tw_83 tw_84 tw_85 tw_52 tw_86) rfl rfl rfl yv_TM_addSoaks ⟨Nat.le_of_ble_eq_true rfl, Nat.le_of_ble_eq_true rfl⟩) hP hD hK [0] rfl 0 rfl rfl [1, 0, 2, 4, 9, 10, 5, 6, 7, 8, 11] rfl rfl rfl hl.1 rfl (Nat.le_of_ble_eq_true rfl) d_TM_leastCycle_20 ⟨Nat.zero_le _, Nat.zero_le _⟩) hP hD hS hA [1, 0, 2, 4, 9, 10, 5, 6, 7, 8, 11] [3, 12, 13, 14, 15, 16, 17, 18, 19, 20, 21] [12, 11, 13, 0, 14, 17, 18, 19, 20, 15, 16, 21, 1, 2, 3, 4, 5, 6, 7, 8, 9, 10] rfl rfl rfl (by decide) rfl rfl (fun H locs hP hD hS => ?_)
    refine lv_iconst (v := 0) hx hb d_TM_leastCycle_23 (by decide) ?_
    refine lv_istore (lv' := [(4, .int 0), (3, .int r1), (0, .ref q_this), (1, .ref q_p1), (2, .int a2)]) hx hb d_TM_leastCycle_24 hl (by decide) rfl (fun ls hl => ?_)
    exact (loop z) a2 r1 0 s3_v_rules s3_f_before s3_f_after s3_f_seconds s3_f_turns f_times f_cause _ _ _ hP hD hS (lv_sub hl [2, 3, 4, 1, 0] rfl) hF
  · have hF := ox_f hF hb2
    refine lv_iconst (v := (-1)) hx hb d_TM_leastCycle_16 (by decide) ?_
    cases hF
    exact hq_iret hx hb hr hlocks hP hD hK hS d_TM_leastCycle_17
