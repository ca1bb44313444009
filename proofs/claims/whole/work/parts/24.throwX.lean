set_option maxHeartbeats 4000000 in
set_option maxRecDepth 100000 in
theorem o_LY_slowEmptyWay (l : Launch) (dC : Nat → ClassId) (dI : Nat → Nat → Nat) (q_this : Nat) (q_low : Nat) (q_high : Nat) (q_loadedSeconds : Nat) (q_emptySeconds : Nat) (qr_emptySeconds : Nat → Nat) (cI : ClassId) (cO : ClassId) (sz : Nat) (z : Nat) (v_tanks : Int32) (f_loadedSeconds : Nat → Int32) (f_emptySeconds : Nat → Nat → Int32) (rr : Int32) (hF : fn_LY_slowEmptyWay z v_tanks f_loadedSeconds f_emptySeconds = some rr) : Met l y_LY_slowEmptyWay w_LY_slowEmptyWay ({ frames := 0, cells := 0, slots := 0, locals := 0 }) (hq_Pc (dC, dI) vwCl [(cI, .int), (cO, .array .int)] (wd_LY_slowEmptyWay q_this q_low q_high q_loadedSeconds q_emptySeconds qr_emptySeconds cI cO v_tanks f_loadedSeconds f_emptySeconds) sz [.ref q_this]) (hq_Qo rr) 0 0 (fun _ => False) := by
  refine hq_metO (cc := b_LY_slowEmptyWay) (maxL := 2) (ret := some .int) (by decide) rfl (Nat.le_of_ble_eq_true rfl) ?_
  intro p e s m args below meth c ls hx hb hr hml hts hown hlocks hnm hP hD hK hl
  have hts : ∀ w ∈ tb0, w.before args s = true := fun w h => hts w (List.mem_cons_of_mem _ h)
  have hown : s.vm.findClass R_LY = some m.cls := hown
  have hl : lv_has ls 2 [(0, .ref q_this)] := hl
  unfold fn_LY_slowEmptyWay at hF
  have loop : ∀ fu : Nat, (∀ (i1 : Int32) (ls : Array Slot), lv_has ls 2 [(0, .ref q_this), (1, .int i1)] → lp_LY_slowEmptyWay v_tanks f_loadedSeconds f_emptySeconds fu 0 i1 = some rr → W p l e ({ frames := 0, cells := 0, slots := 0, locals := 0 }) s m args below meth c s.heap [] 0 0 (MQ below (hq_Qo rr) args s 0 0 (fun _ => False)) (F0 m 2 ls [])) := by
    intro fu
    induction fu with
    | zero => exact (fun _ _ _ h => by cases h)
    | succ fu ih =>
      intro i1 ls hl hF
      have hF : st_LY_slowEmptyWay v_tanks f_loadedSeconds f_emptySeconds (lp_LY_slowEmptyWay v_tanks f_loadedSeconds f_emptySeconds fu) 0 i1 = some rr := hF
      unfold st_LY_slowEmptyWay at hF
      try dsimp only at hF
      refine lv_iload_n hx hb d_LY_slowEmptyWay_2 rfl (lv_at hl 1 rfl) ?_
      refine lv_aload_n hx hb d_LY_slowEmptyWay_3 rfl (lv_at hl 0 rfl) ?_
      refine va_get (D := (dC, dI)) (ci := 0) (v := .int v_tanks) (C := R_LY) (T := F_LY) (N := 5) hx hb hts uw_LY hown hK hP 0 rfl rfl 0 (by decide) (hts _ tw_0) (fun _ h9 => h9) rfl d_LY_slowEmptyWay_4 ?_
      refine lv_icmp_gt (tgt := 39) hx hb d_LY_slowEmptyWay_7 (by decide) (fun hb1 => ?_) (fun hb1 => ?_)
      · have hF := ox_t hF hb1
        refine lv_iconst (v := 0) hx hb d_LY_slowEmptyWay_39 (by decide) ?_
        cases hF
        exact hq_oret hx hb hr hlocks d_LY_slowEmptyWay_40
      · have hF := ox_f hF hb1
        refine lv_aload_n hx hb d_LY_slowEmptyWay_10 rfl (lv_at hl 0 rfl) ?_
        refine va_get (D := (dC, dI)) (ci := 0) (v := .ref q_emptySeconds) (C := R_LY) (T := F_LY) (N := 5) hx hb hts uw_LY hown hK hP 0 rfl rfl 4 (by decide) (hts _ tw_8) (fun _ h9 => h9) rfl d_LY_slowEmptyWay_11 ?_
        refine lv_iload_n hx hb d_LY_slowEmptyWay_14 rfl (lv_at hl 1 rfl) ?_
        obtain ⟨hin, hF⟩ := ox_gdS hF
        refine hq_gld (qr := qr_emptySeconds) hx hb hK hP 2 1 rfl rfl hin d_LY_slowEmptyWay_15 ?_
        have hro15 := hq_lt hin
        refine lv_iload_n hx hb d_LY_slowEmptyWay_16 rfl (lv_at hl 1 rfl) ?_
        refine lv_iconst (v := 1) hx hb d_LY_slowEmptyWay_17 (by decide) ?_
        refine lv_iadd hx hb d_LY_slowEmptyWay_18 ?_
        obtain ⟨hin, hF⟩ := ox_gdS hF
        refine va_iald hx hb hK hP (3 + i1.toNatClampNeg) 0 (hq_rowAt _ _ _ _ rfl hro15) rfl hin d_LY_slowEmptyWay_19 ?_
        refine lv_aload_n hx hb d_LY_slowEmptyWay_20 rfl (lv_at hl 0 rfl) ?_
        refine va_get (D := (dC, dI)) (ci := 0) (v := .ref q_loadedSeconds) (C := R_LY) (T := F_LY) (N := 5) hx hb hts uw_LY hown hK hP 0 rfl rfl 3 (by decide) (hts _ tw_7) (fun _ h9 => h9) rfl d_LY_slowEmptyWay_21 ?_
        refine lv_iload_n hx hb d_LY_slowEmptyWay_24 rfl (lv_at hl 1 rfl) ?_
        obtain ⟨hin, hF⟩ := ox_gdS hF
        refine va_iald hx hb hK hP 1 0 rfl rfl hin d_LY_slowEmptyWay_25 ?_
        refine lv_icmp_le (tgt := 33) hx hb d_LY_slowEmptyWay_26 (by decide) (fun hb2 => ?_) (fun hb2 => ?_)
        · have hF := ox_t hF hb2
          refine lv_iinc (v := (i1 + 1)) (lv' := [(1, .int (i1 + 1)), (0, .ref q_this)]) hx hb d_LY_slowEmptyWay_33 hl (k := 1) rfl rfl (by decide) rfl (fun ls hl => ?_)
          refine lv_goto (tgt := 2) hx hb d_LY_slowEmptyWay_36 (by decide) ?_
          exact ih (i1 + 1) _ (lv_sub hl [1, 0] rfl) hF
        · have hF := ox_f hF hb2
          refine lv_iconst (v := 1) hx hb d_LY_slowEmptyWay_29 (by decide) ?_
          refine lv_iload_n hx hb d_LY_slowEmptyWay_30 rfl (lv_at hl 1 rfl) ?_
          refine lv_iadd hx hb d_LY_slowEmptyWay_31 ?_
          cases hF
          exact hq_oret hx hb hr hlocks d_LY_slowEmptyWay_32
  refine lv_iconst (v := 0) hx hb d_LY_slowEmptyWay_0 (by decide) ?_
  refine lv_istore_n (lv' := [(1, .int 0), (0, .ref q_this)]) hx hb d_LY_slowEmptyWay_1 rfl hl (by decide) rfl (fun ls hl => ?_)
  exact (loop z) 0 _ (lv_sub hl [1, 0] rfl) hF
set_option maxHeartbeats 4000000 in
set_option maxRecDepth 100000 in
theorem o_LY_roundaboutWay (l : Launch) (dC : Nat → ClassId) (dI : Nat → Nat → Nat) (q_this : Nat) (q_low : Nat) (q_high : Nat) (q_loadedSeconds : Nat) (q_emptySeconds : Nat) (qr_emptySeconds : Nat → Nat) (cI : ClassId) (cO : ClassId) (sz : Nat) (z : Nat) (v_tanks : Int32) (f_emptySeconds : Nat → Nat → Int32) (rr : Int32) (hF : fn_LY_roundaboutWay z v_tanks f_emptySeconds = some rr) : Met l y_LY_roundaboutWay w_LY_roundaboutWay ({ frames := 0, cells := 0, slots := 0, locals := 0 }) (hq_Pc (dC, dI) vwCl [(cI, .int), (cO, .array .int)] (wd_LY_roundaboutWay q_this q_low q_high q_loadedSeconds q_emptySeconds qr_emptySeconds cI cO v_tanks f_emptySeconds) sz [.ref q_this]) (hq_Qo rr) 0 0 (fun _ => False) := by
  refine hq_metO (cc := b_LY_roundaboutWay) (maxL := 4) (ret := some .int) (by decide) rfl (Nat.le_of_ble_eq_true rfl) ?_
  intro p e s m args below meth c ls hx hb hr hml hts hown hlocks hnm hP hD hK hl
  have hts : ∀ w ∈ tb0, w.before args s = true := fun w h => hts w (List.mem_cons_of_mem _ h)
  have hown : s.vm.findClass R_LY = some m.cls := hown
  have hl : lv_has ls 4 [(0, .ref q_this)] := hl
  unfold fn_LY_roundaboutWay at hF
  have loop : ∀ fu : Nat, (∀ (i1 : Int32) (i2 : Int32) (i3 : Int32) (ls : Array Slot), lv_has ls 4 [(0, .ref q_this), (1, .int i1)] → lp_LY_roundaboutWay v_tanks f_emptySeconds fu 0 i1 i2 i3 = some rr → W p l e ({ frames := 0, cells := 0, slots := 0, locals := 0 }) s m args below meth c s.heap [] 0 0 (MQ below (hq_Qo rr) args s 0 0 (fun _ => False)) (F0 m 2 ls [])) ∧ (∀ (i1 : Int32) (i2 : Int32) (i3 : Int32) (ls : Array Slot), lv_has ls 4 [(0, .ref q_this), (1, .int i1), (2, .int i2)] → lp_LY_roundaboutWay v_tanks f_emptySeconds fu 1 i1 i2 i3 = some rr → W p l e ({ frames := 0, cells := 0, slots := 0, locals := 0 }) s m args below meth c s.heap [] 0 0 (MQ below (hq_Qo rr) args s 0 0 (fun _ => False)) (F0 m 14 ls [])) ∧ (∀ (i1 : Int32) (i2 : Int32) (i3 : Int32) (ls : Array Slot), lv_has ls 4 [(0, .ref q_this), (1, .int i1), (2, .int i2), (3, .int i3)] → lp_LY_roundaboutWay v_tanks f_emptySeconds fu 2 i1 i2 i3 = some rr → W p l e ({ frames := 0, cells := 0, slots := 0, locals := 0 }) s m args below meth c s.heap [] 0 0 (MQ below (hq_Qo rr) args s 0 0 (fun _ => False)) (F0 m 26 ls [])) := by
    intro fu
    induction fu with
    | zero => exact ⟨(fun _ _ _ _ _ h => by cases h), (fun _ _ _ _ _ h => by cases h), (fun _ _ _ _ _ h => by cases h)⟩
    | succ fu ih =>
      refine ⟨?_, ?_, ?_⟩
      · intro i1 i2 i3 ls hl hF
        have hF : st_LY_roundaboutWay v_tanks f_emptySeconds (lp_LY_roundaboutWay v_tanks f_emptySeconds fu) 0 i1 i2 i3 = some rr := hF
        unfold st_LY_roundaboutWay at hF
        try dsimp only at hF
        refine lv_iload_n hx hb d_LY_roundaboutWay_2 rfl (lv_at hl 1 rfl) ?_
        refine lv_aload_n hx hb d_LY_roundaboutWay_3 rfl (lv_at hl 0 rfl) ?_
        refine va_get (D := (dC, dI)) (ci := 0) (v := .int v_tanks) (C := R_LY) (T := F_LY) (N := 5) hx hb hts uw_LY hown hK hP 0 rfl rfl 0 (by decide) (hts _ tw_0) (fun _ h9 => h9) rfl d_LY_roundaboutWay_4 ?_
        refine lv_iconst (v := 1) hx hb d_LY_roundaboutWay_7 (by decide) ?_
        refine lv_iadd hx hb d_LY_roundaboutWay_8 ?_
        refine lv_icmp_gt (tgt := 97) hx hb d_LY_roundaboutWay_9 (by decide) (fun hb1 => ?_) (fun hb1 => ?_)
        · have hF := ox_t hF hb1
          refine lv_iconst (v := 0) hx hb d_LY_roundaboutWay_97 (by decide) ?_
          cases hF
          exact hq_oret hx hb hr hlocks d_LY_roundaboutWay_98
        · have hF := ox_f hF hb1
          refine lv_iconst (v := 0) hx hb d_LY_roundaboutWay_12 (by decide) ?_
          refine lv_istore_n (lv' := [(2, .int 0), (0, .ref q_this), (1, .int i1)]) hx hb d_LY_roundaboutWay_13 rfl hl (by decide) rfl (fun ls hl => ?_)
          exact ih.2.1 i1 0 0 _ (lv_sub hl [1, 2, 0] rfl) hF
      · intro i1 i2 i3 ls hl hF
        have hF : st_LY_roundaboutWay v_tanks f_emptySeconds (lp_LY_roundaboutWay v_tanks f_emptySeconds fu) 1 i1 i2 i3 = some rr := hF
        unfold st_LY_roundaboutWay at hF
        try dsimp only at hF
        refine lv_iload_n hx hb d_LY_roundaboutWay_14 rfl (lv_at hl 2 rfl) ?_
        refine lv_aload_n hx hb d_LY_roundaboutWay_15 rfl (lv_at hl 0 rfl) ?_
        refine va_get (D := (dC, dI)) (ci := 0) (v := .int v_tanks) (C := R_LY) (T := F_LY) (N := 5) hx hb hts uw_LY hown hK hP 0 rfl rfl 0 (by decide) (hts _ tw_0) (fun _ h9 => h9) rfl d_LY_roundaboutWay_16 ?_
        refine lv_iconst (v := 1) hx hb d_LY_roundaboutWay_19 (by decide) ?_
        refine lv_iadd hx hb d_LY_roundaboutWay_20 ?_
        refine lv_icmp_gt (tgt := 91) hx hb d_LY_roundaboutWay_21 (by decide) (fun hb2 => ?_) (fun hb2 => ?_)
        · have hF := ox_t hF hb2
          refine lv_iinc (v := (i1 + 1)) (lv' := [(1, .int (i1 + 1)), (0, .ref q_this), (2, .int i2)]) hx hb d_LY_roundaboutWay_91 hl (k := 1) rfl rfl (by decide) rfl (fun ls hl => ?_)
          refine lv_goto (tgt := 2) hx hb d_LY_roundaboutWay_94 (by decide) ?_
          exact ih.1 (i1 + 1) 0 0 _ (lv_sub hl [1, 0] rfl) hF
        · have hF := ox_f hF hb2
          refine lv_iconst (v := 0) hx hb d_LY_roundaboutWay_24 (by decide) ?_
          refine lv_istore_n (lv' := [(3, .int 0), (0, .ref q_this), (1, .int i1), (2, .int i2)]) hx hb d_LY_roundaboutWay_25 rfl hl (by decide) rfl (fun ls hl => ?_)
          exact ih.2.2 i1 i2 0 _ (lv_sub hl [1, 2, 3, 0] rfl) hF
      · intro i1 i2 i3 ls hl hF
        have hF : st_LY_roundaboutWay v_tanks f_emptySeconds (lp_LY_roundaboutWay v_tanks f_emptySeconds fu) 2 i1 i2 i3 = some rr := hF
        unfold st_LY_roundaboutWay at hF
        try dsimp only at hF
        refine lv_iload_n hx hb d_LY_roundaboutWay_26 rfl (lv_at hl 3 rfl) ?_
        refine lv_aload_n hx hb d_LY_roundaboutWay_27 rfl (lv_at hl 0 rfl) ?_
        refine va_get (D := (dC, dI)) (ci := 0) (v := .int v_tanks) (C := R_LY) (T := F_LY) (N := 5) hx hb hts uw_LY hown hK hP 0 rfl rfl 0 (by decide) (hts _ tw_0) (fun _ h9 => h9) rfl d_LY_roundaboutWay_28 ?_
        refine lv_iconst (v := 1) hx hb d_LY_roundaboutWay_31 (by decide) ?_
        refine lv_iadd hx hb d_LY_roundaboutWay_32 ?_
        refine lv_icmp_gt (tgt := 85) hx hb d_LY_roundaboutWay_33 (by decide) (fun hb3 => ?_) (fun hb3 => ?_)
        · have hF := ox_t hF hb3
          refine lv_iinc (v := (i2 + 1)) (lv' := [(2, .int (i2 + 1)), (0, .ref q_this), (1, .int i1), (3, .int i3)]) hx hb d_LY_roundaboutWay_85 hl (k := 2) rfl rfl (by decide) rfl (fun ls hl => ?_)
          refine lv_goto (tgt := 14) hx hb d_LY_roundaboutWay_88 (by decide) ?_
          exact ih.2.1 i1 (i2 + 1) 0 _ (lv_sub hl [1, 2, 0] rfl) hF
        · have hF := ox_f hF hb3
          refine lv_aload_n hx hb d_LY_roundaboutWay_36 rfl (lv_at hl 0 rfl) ?_
          refine va_get (D := (dC, dI)) (ci := 0) (v := .ref q_emptySeconds) (C := R_LY) (T := F_LY) (N := 5) hx hb hts uw_LY hown hK hP 0 rfl rfl 4 (by decide) (hts _ tw_8) (fun _ h9 => h9) rfl d_LY_roundaboutWay_37 ?_
          refine lv_iload_n hx hb d_LY_roundaboutWay_40 rfl (lv_at hl 1 rfl) ?_
          obtain ⟨hin, hF⟩ := ox_gdS hF
          refine hq_gld (qr := qr_emptySeconds) hx hb hK hP 1 1 rfl rfl hin d_LY_roundaboutWay_41 ?_
          have hro41 := hq_lt hin
          refine lv_iload_n hx hb d_LY_roundaboutWay_42 rfl (lv_at hl 3 rfl) ?_
          obtain ⟨hin, hF⟩ := ox_gdS hF
          refine va_iald hx hb hK hP (2 + i1.toNatClampNeg) 0 (hq_rowAt _ _ _ _ rfl hro41) rfl hin d_LY_roundaboutWay_43 ?_
          refine lv_aload_n hx hb d_LY_roundaboutWay_44 rfl (lv_at hl 0 rfl) ?_
          refine va_get (D := (dC, dI)) (ci := 0) (v := .ref q_emptySeconds) (C := R_LY) (T := F_LY) (N := 5) hx hb hts uw_LY hown hK hP 0 rfl rfl 4 (by decide) (hts _ tw_8) (fun _ h9 => h9) rfl d_LY_roundaboutWay_45 ?_
          refine lv_iload_n hx hb d_LY_roundaboutWay_48 rfl (lv_at hl 1 rfl) ?_
          obtain ⟨hin, hF⟩ := ox_gdS hF
          refine hq_gld (qr := qr_emptySeconds) hx hb hK hP 1 1 rfl rfl hin d_LY_roundaboutWay_49 ?_
          have hro49 := hq_lt hin
          refine lv_iload_n hx hb d_LY_roundaboutWay_50 rfl (lv_at hl 2 rfl) ?_
          obtain ⟨hin, hF⟩ := ox_gdS hF
          refine va_iald hx hb hK hP (2 + i1.toNatClampNeg) 0 (hq_rowAt _ _ _ _ rfl hro49) rfl hin d_LY_roundaboutWay_51 ?_
          refine lv_aload_n hx hb d_LY_roundaboutWay_52 rfl (lv_at hl 0 rfl) ?_
          refine va_get (D := (dC, dI)) (ci := 0) (v := .ref q_emptySeconds) (C := R_LY) (T := F_LY) (N := 5) hx hb hts uw_LY hown hK hP 0 rfl rfl 4 (by decide) (hts _ tw_8) (fun _ h9 => h9) rfl d_LY_roundaboutWay_53 ?_
          refine lv_iload_n hx hb d_LY_roundaboutWay_56 rfl (lv_at hl 2 rfl) ?_
          obtain ⟨hin, hF⟩ := ox_gdS hF
          refine hq_gld (qr := qr_emptySeconds) hx hb hK hP 1 1 rfl rfl hin d_LY_roundaboutWay_57 ?_
          have hro57 := hq_lt hin
          refine lv_iload_n hx hb d_LY_roundaboutWay_58 rfl (lv_at hl 3 rfl) ?_
          obtain ⟨hin, hF⟩ := ox_gdS hF
          refine va_iald hx hb hK hP (2 + i2.toNatClampNeg) 0 (hq_rowAt _ _ _ _ rfl hro57) rfl hin d_LY_roundaboutWay_59 ?_
          refine lv_iadd hx hb d_LY_roundaboutWay_60 ?_
          refine lv_icmp_le (tgt := 79) hx hb d_LY_roundaboutWay_61 (by decide) (fun hb4 => ?_) (fun hb4 => ?_)
          · have hF := ox_t hF hb4
            refine lv_iinc (v := (i3 + 1)) (lv' := [(3, .int (i3 + 1)), (0, .ref q_this), (1, .int i1), (2, .int i2)]) hx hb d_LY_roundaboutWay_79 hl (k := 3) rfl rfl (by decide) rfl (fun ls hl => ?_)
            refine lv_goto (tgt := 26) hx hb d_LY_roundaboutWay_82 (by decide) ?_
            exact ih.2.2 i1 i2 (i3 + 1) _ (lv_sub hl [1, 2, 3, 0] rfl) hF
          · have hF := ox_f hF hb4
            refine lv_bipush (v := 100) hx hb d_LY_roundaboutWay_64 (by decide) ?_
            refine lv_bipush (v := 49) hx hb d_LY_roundaboutWay_66 (by decide) ?_
            refine lv_iload_n hx hb d_LY_roundaboutWay_68 rfl (lv_at hl 1 rfl) ?_
            refine lv_imul hx hb d_LY_roundaboutWay_69 ?_
            refine lv_iadd hx hb d_LY_roundaboutWay_70 ?_
            refine lv_bipush (v := 7) hx hb d_LY_roundaboutWay_71 (by decide) ?_
            refine lv_iload_n hx hb d_LY_roundaboutWay_73 rfl (lv_at hl 2 rfl) ?_
            refine lv_imul hx hb d_LY_roundaboutWay_74 ?_
            refine lv_iadd hx hb d_LY_roundaboutWay_75 ?_
            refine lv_iload_n hx hb d_LY_roundaboutWay_76 rfl (lv_at hl 3 rfl) ?_
            refine lv_iadd hx hb d_LY_roundaboutWay_77 ?_
            cases hF
            exact hq_oret hx hb hr hlocks d_LY_roundaboutWay_78
  refine lv_iconst (v := 0) hx hb d_LY_roundaboutWay_0 (by decide) ?_
  refine lv_istore_n (lv' := [(1, .int 0), (0, .ref q_this)]) hx hb d_LY_roundaboutWay_1 rfl hl (by decide) rfl (fun ls hl => ?_)
  exact (loop z).1 0 0 0 _ (lv_sub hl [1, 0] rfl) hF
set_option maxHeartbeats 4000000 in
set_option maxRecDepth 100000 in
theorem o_LY_fault (l : Launch) (dC : Nat → ClassId) (dI : Nat → Nat → Nat) (q_this : Nat) (q_low : Nat) (q_high : Nat) (q_loadedSeconds : Nat) (q_emptySeconds : Nat) (qr_emptySeconds : Nat → Nat) (cI : ClassId) (cO : ClassId) (sz : Nat) (z : Nat) (v_tanks : Int32) (f_loadedSeconds : Nat → Int32) (f_emptySeconds : Nat → Nat → Int32) (rr : Int32) (hF : fn_LY_fault z v_tanks f_loadedSeconds f_emptySeconds = some rr) : Met l y_LY_fault w_LY_fault ({ frames := 1, cells := 0, slots := 0, locals := 23 }) (hq_Pc (dC, dI) vwCl [(cI, .int), (cO, .array .int)] (wd_LY_fault q_this q_low q_high q_loadedSeconds q_emptySeconds qr_emptySeconds cI cO v_tanks f_loadedSeconds f_emptySeconds) sz [.ref q_this]) (hq_Qo rr) 0 0 (fun _ => False) := by
  refine hq_metO (cc := b_LY_fault) (maxL := 2) (ret := some .int) (by decide) rfl (Nat.le_of_ble_eq_true rfl) ?_
  intro p e s m args below meth c ls hx hb hr hml hts hown hlocks hnm hP hD hK hl
  have hts : ∀ w ∈ tb0, w.before args s = true := fun w h => hts w (List.mem_cons_of_mem _ h)
  have hown : s.vm.findClass R_LY = some m.cls := hown
  have hl : lv_has ls 2 [(0, .ref q_this)] := hl
  unfold fn_LY_fault at hF
  refine lv_aload_n hx hb d_LY_fault_0 rfl (lv_at hl 0 rfl) ?_
  obtain ⟨r1, hc1, hF⟩ := ox_clS hF
  refine hq_co (hq_rV (As := []) (rest := []) ⟨hx, hb, hml, hown, hts⟩ (o_LY_slowEmptyWay l dC dI q_this q_low q_high q_loadedSeconds q_emptySeconds qr_emptySeconds cI cO _ z v_tanks f_loadedSeconds f_emptySeconds r1 hc1) (cwV 0 hts (hq_gV tw_9 tw_10 tw_11 tw_12 tw_13) rfl rfl rfl yv_LY_slowEmptyWay ⟨Nat.le_of_ble_eq_true rfl, Nat.le_of_ble_eq_true rfl⟩) hP hD hK [0, 1] rfl 0 rfl rfl [0, 1, 2, 3, 4, 5, 6, 7, 8, 9] rfl rfl rfl hl.1 rfl (Nat.le_of_ble_eq_true rfl) d_LY_fault_1 ⟨Nat.zero_le _, Nat.zero_le _⟩) ?_
  refine lv_istore_n (lv' := [(1, .int r1), (0, .ref q_this)]) hx hb d_LY_fault_4 rfl hl (by decide) rfl (fun ls hl => ?_)
  refine lv_iload_n hx hb d_LY_fault_5 rfl (lv_at hl 0 rfl) ?_
  refine lv_if_eq (tgt := 13) hx hb d_LY_fault_6 (by decide) (fun hb2 => ?_) (fun hb2 => ?_)
  · have hF := ox_t hF hb2
    refine lv_aload_n hx hb d_LY_fault_13 rfl (lv_at hl 1 rfl) ?_
    obtain ⟨r3, hc3, hF⟩ := ox_clS hF
    refine hq_co (hq_rV (As := []) (rest := []) ⟨hx, hb, hml, hown, hts⟩ (o_LY_roundaboutWay l dC dI q_this q_low q_high q_loadedSeconds q_emptySeconds qr_emptySeconds cI cO _ z v_tanks f_emptySeconds r3 hc3) (cwV 0 hts (hq_gV tw_14 tw_15 tw_16 tw_12 tw_17) rfl rfl rfl yv_LY_roundaboutWay ⟨Nat.le_of_ble_eq_true rfl, Nat.le_of_ble_eq_true rfl⟩) hP hD hK [0, 1] rfl 0 rfl rfl [0, 2, 3, 4, 5, 6, 7, 8, 9] rfl rfl rfl hl.1 rfl (Nat.le_of_ble_eq_true rfl) d_LY_fault_14 ⟨Nat.zero_le _, Nat.zero_le _⟩) ?_
    cases hF
    exact hq_oret hx hb hr hlocks d_LY_fault_17
  · have hF := ox_f hF hb2
    refine lv_iload_n hx hb d_LY_fault_9 rfl (lv_at hl 0 rfl) ?_
    refine lv_goto (tgt := 17) hx hb d_LY_fault_10 (by decide) ?_
    cases hF
    exact hq_oret hx hb hr hlocks d_LY_fault_17
abbrev wd_HP_require : va_W := []
set_option maxHeartbeats 4000000 in
set_option maxRecDepth 100000 in
theorem x_HP_require (l : Launch) (hfl : l.flags = pinnedFlags ++ [noTraceFlag]) (dC : Nat → ClassId) (dI : Nat → Nat → Nat) (sz : Nat) (a0 : Int32) (xc : Nat) (hF : fn_HP_require a0 = some xc) : hq_Met l y_HP_require w_HP_require ({ frames := 6, cells := 1, slots := 6, locals := 90 }) (hq_PcX (dC, dI) vwCl [] (wd_HP_require) sz [.int a0]) (hq_Qr xc) 1 6 (fun _ => False) := by
  refine hq_metX hfl (Qc := fun _ => hq_Qr xc) (fr := fun _ _ => False) (cc := b_HP_require) (maxL := 1) (ret := none) (by decide) rfl (Nat.le_of_ble_eq_true rfl) ?_
  intro p e s m args below meth c A ls hx hb hr hml hts hown hlocks hnm hP hD hK hA hS hl htr hex hG hns
  have hts : ∀ w ∈ tb0, w.before args s = true := fun w h => hts w (List.mem_cons_of_mem _ h)
  have hown : s.vm.findClass R_HP = some m.cls := hown
  have hl : lv_has ls 1 [(0, .int a0)] := hl
  unfold fn_HP_require at hF
  refine lv_iload_n hx hb d_HP_require_0 rfl (lv_at hl 0 rfl) ?_
  refine lv_if_ne (tgt := 12) hx hb d_HP_require_1 (by decide) (fun hb1 => ?_) (fun hb1 => ?_)
  · have hF := ox_t hF hb1
    cases hF
    exact hq_rret hx hb hr hlocks (Nat.le_of_ble_eq_true rfl) (Nat.le_of_ble_eq_true rfl) d_HP_require_12
  · have hF := ox_fn hF hb1
    cases hF
    exact hq_throw hx hb htr hex hlocks hown (by decide) (hts _ tw_259) (hts _ tw_260) (hq_atIAE hts hG) (hl.1.trans hml.symm) d_HP_require_4 d_HP_require_7 d_HP_require_8 d_HP_require_11 (Nat.le_of_ble_eq_true rfl) (Nat.le_of_ble_eq_true rfl) (Nat.le_of_ble_eq_true rfl) (Nat.le_of_ble_eq_true rfl) (Nat.le_of_ble_eq_true rfl) (Nat.le_of_ble_eq_true rfl) (fun t q ce hW h1 h2 h3 h4 h5 => Or.inr ⟨by decide, ⟨q, ce, rfl, h3, h4, h5⟩, h1, h2⟩)
abbrev wd_HP_requireReady (q_this : Nat) (q_layout : Nat) (q_tried : Nat) (q_timing : Nat) (q_found : Nat) (q_works : Nat) (q_layout_low : Nat) (q_layout_high : Nat) (q_layout_loadedSeconds : Nat) (q_layout_emptySeconds : Nat) (qr_layout_emptySeconds : Nat → Nat) (cI : ClassId) (cO : ClassId) (v_planned : Int32) (v_layout_tanks : Int32) (f_layout_loadedSeconds : Nat → Int32) (f_layout_emptySeconds : Nat → Nat → Int32) : va_W := [(q_this, .inr (5, [.ref q_layout, .ref q_tried, .ref q_timing, .ref q_found, .ref q_works, .int v_planned])), (q_layout, .inr (0, [.int v_layout_tanks, .ref q_layout_low, .ref q_layout_high, .ref q_layout_loadedSeconds, .ref q_layout_emptySeconds])), (q_layout_loadedSeconds, .inl (cI, 6, .inl f_layout_loadedSeconds)), (q_layout_emptySeconds, .inl (hq_out cO qr_layout_emptySeconds))] ++ hq_rows cI qr_layout_emptySeconds f_layout_emptySeconds
set_option maxHeartbeats 4000000 in
set_option maxRecDepth 100000 in
theorem x_HP_requireReady (l : Launch) (hfl : l.flags = pinnedFlags ++ [noTraceFlag]) (dC : Nat → ClassId) (dI : Nat → Nat → Nat) (q_this : Nat) (q_layout : Nat) (q_tried : Nat) (q_timing : Nat) (q_found : Nat) (q_works : Nat) (q_layout_low : Nat) (q_layout_high : Nat) (q_layout_loadedSeconds : Nat) (q_layout_emptySeconds : Nat) (qr_layout_emptySeconds : Nat → Nat) (cI : ClassId) (cO : ClassId) (sz : Nat) (z : Nat) (v_planned : Int32) (v_layout_tanks : Int32) (f_layout_loadedSeconds : Nat → Int32) (f_layout_emptySeconds : Nat → Nat → Int32) (xc : Nat) (hF : fn_HP_requireReady z v_layout_tanks f_layout_loadedSeconds f_layout_emptySeconds = some xc) : hq_Met l y_HP_requireReady w_HP_requireReady ({ frames := 6, cells := 1, slots := 6, locals := 90 }) (hq_PcX (dC, dI) vwCl [(cI, .int), (cO, .array .int)] (wd_HP_requireReady q_this q_layout q_tried q_timing q_found q_works q_layout_low q_layout_high q_layout_loadedSeconds q_layout_emptySeconds qr_layout_emptySeconds cI cO v_planned v_layout_tanks f_layout_loadedSeconds f_layout_emptySeconds) sz [.ref q_this]) (hq_Qr xc) 1 6 (fun _ => False) := by
  refine hq_metX hfl (Qc := fun _ => hq_Qr xc) (fr := fun _ _ => False) (cc := b_HP_requireReady) (maxL := 1) (ret := none) (by decide) rfl (Nat.le_of_ble_eq_true rfl) ?_
  intro p e s m args below meth c A ls hx hb hr hml hts hown hlocks hnm hP hD hK hA hS hl htr hex hG hns
  have hts : ∀ w ∈ tb0, w.before args s = true := fun w h => hts w (List.mem_cons_of_mem _ h)
  have hown : s.vm.findClass R_HP = some m.cls := hown
  have hl : lv_has ls 1 [(0, .ref q_this)] := hl
  unfold fn_HP_requireReady at hF
  refine lv_aload_n hx hb d_HP_requireReady_0 rfl (lv_at hl 0 rfl) ?_
  refine va_get (D := (dC, dI)) (ci := 5) (v := .ref q_layout) (C := R_HP) (T := F_HP) (N := 6) hx hb hts uw_HP hown hK hP 0 rfl rfl 0 (by decide) (hts _ tw_157) (fun _ h9 => h9) rfl d_HP_requireReady_1 ?_
  obtain ⟨r1, hc1, hF⟩ := ox_clS hF
  refine hq_co (hq_rV (As := []) (rest := []) ⟨hx, hb, hml, hown, hts⟩ (o_LY_fault l dC dI q_layout q_layout_low q_layout_high q_layout_loadedSeconds q_layout_emptySeconds qr_layout_emptySeconds cI cO _ z v_layout_tanks f_layout_loadedSeconds f_layout_emptySeconds r1 hc1) (cwV 0 hts (hq_gV tw_163 tw_164 tw_165 tw_12 tw_166) rfl rfl rfl yv_LY_fault ⟨Nat.le_of_ble_eq_true rfl, Nat.le_of_ble_eq_true rfl⟩) hP hD hK [0, 1] rfl 1 rfl rfl [1, 2, 3, 4, 5, 6, 7, 8, 9, 10] rfl rfl rfl hl.1 rfl (Nat.le_of_ble_eq_true rfl) d_HP_requireReady_4 ⟨Nat.zero_le _, Nat.zero_le _⟩) ?_
  refine lv_if_eq (tgt := 18) hx hb d_HP_requireReady_7 (by decide) (fun hb2 => ?_) (fun hb2 => ?_)
  · have hF := ox_t hF hb2
    cases hF
    exact hq_rret hx hb hr hlocks (Nat.le_of_ble_eq_true rfl) (Nat.le_of_ble_eq_true rfl) d_HP_requireReady_18
  · have hF := ox_f hF hb2
    cases hF
    exact hq_throw hx hb htr hex hlocks hown (by decide) (hts _ tw_261) (hts _ tw_262) (hq_atISE hts hG) (hl.1.trans hml.symm) d_HP_requireReady_10 d_HP_requireReady_13 d_HP_requireReady_14 d_HP_requireReady_17 (Nat.le_of_ble_eq_true rfl) (Nat.le_of_ble_eq_true rfl) (Nat.le_of_ble_eq_true rfl) (Nat.le_of_ble_eq_true rfl) (Nat.le_of_ble_eq_true rfl) (Nat.le_of_ble_eq_true rfl) (fun t q ce hW h1 h2 h3 h4 h5 => Or.inr ⟨by decide, ⟨q, ce, rfl, h3, h4, h5⟩, h1, h2⟩)
abbrev wd_HP_requirePlan (q_this : Nat) (q_layout : Nat) (q_tried : Nat) (q_timing : Nat) (q_found : Nat) (q_works : Nat) (v_planned : Int32) : va_W := [(q_this, .inr (5, [.ref q_layout, .ref q_tried, .ref q_timing, .ref q_found, .ref q_works, .int v_planned]))]
set_option maxHeartbeats 4000000 in
set_option maxRecDepth 100000 in
theorem x_HP_requirePlan (l : Launch) (hfl : l.flags = pinnedFlags ++ [noTraceFlag]) (dC : Nat → ClassId) (dI : Nat → Nat → Nat) (q_this : Nat) (q_layout : Nat) (q_tried : Nat) (q_timing : Nat) (q_found : Nat) (q_works : Nat) (sz : Nat) (v_planned : Int32) (xc : Nat) (hF : fn_HP_requirePlan v_planned = some xc) : hq_Met l y_HP_requirePlan w_HP_requirePlan ({ frames := 6, cells := 1, slots := 6, locals := 90 }) (hq_PcX (dC, dI) vwCl [] (wd_HP_requirePlan q_this q_layout q_tried q_timing q_found q_works v_planned) sz [.ref q_this]) (hq_Qr xc) 1 6 (fun _ => False) := by
  refine hq_metX hfl (Qc := fun _ => hq_Qr xc) (fr := fun _ _ => False) (cc := b_HP_requirePlan) (maxL := 1) (ret := none) (by decide) rfl (Nat.le_of_ble_eq_true rfl) ?_
  intro p e s m args below meth c A ls hx hb hr hml hts hown hlocks hnm hP hD hK hA hS hl htr hex hG hns
  have hts : ∀ w ∈ tb0, w.before args s = true := fun w h => hts w (List.mem_cons_of_mem _ h)
  have hown : s.vm.findClass R_HP = some m.cls := hown
  have hl : lv_has ls 1 [(0, .ref q_this)] := hl
  unfold fn_HP_requirePlan at hF
  refine lv_aload_n hx hb d_HP_requirePlan_0 rfl (lv_at hl 0 rfl) ?_
  refine va_get (D := (dC, dI)) (ci := 5) (v := .int v_planned) (C := R_HP) (T := F_HP) (N := 6) hx hb hts uw_HP hown hK hP 0 rfl rfl 5 (by decide) (hts _ tw_263) (fun _ h9 => h9) rfl d_HP_requirePlan_1 ?_
  refine lv_if_ne (tgt := 15) hx hb d_HP_requirePlan_4 (by decide) (fun hb1 => ?_) (fun hb1 => ?_)
  · have hF := ox_t hF hb1
    cases hF
    exact hq_rret hx hb hr hlocks (Nat.le_of_ble_eq_true rfl) (Nat.le_of_ble_eq_true rfl) d_HP_requirePlan_15
  · have hF := ox_fn hF hb1
    cases hF
    exact hq_throw hx hb htr hex hlocks hown (by decide) (hts _ tw_261) (hts _ tw_262) (hq_atISE hts hG) (hl.1.trans hml.symm) d_HP_requirePlan_7 d_HP_requirePlan_10 d_HP_requirePlan_11 d_HP_requirePlan_14 (Nat.le_of_ble_eq_true rfl) (Nat.le_of_ble_eq_true rfl) (Nat.le_of_ble_eq_true rfl) (Nat.le_of_ble_eq_true rfl) (Nat.le_of_ble_eq_true rfl) (Nat.le_of_ble_eq_true rfl) (fun t q ce hW h1 h2 h3 h4 h5 => Or.inr ⟨by decide, ⟨q, ce, rfl, h3, h4, h5⟩, h1, h2⟩)
abbrev wd_HP_line (q_this : Nat) (q_layout : Nat) (q_tried : Nat) (q_timing : Nat) (q_found : Nat) (q_works : Nat) (q_layout_low : Nat) (q_layout_high : Nat) (q_layout_loadedSeconds : Nat) (q_layout_emptySeconds : Nat) (qr_layout_emptySeconds : Nat → Nat) (cI : ClassId) (cO : ClassId) (v_planned : Int32) (v_layout_tanks : Int32) (f_layout_low : Nat → Int32) (f_layout_high : Nat → Int32) (f_layout_loadedSeconds : Nat → Int32) (f_layout_emptySeconds : Nat → Nat → Int32) : va_W := [(q_this, .inr (5, [.ref q_layout, .ref q_tried, .ref q_timing, .ref q_found, .ref q_works, .int v_planned])), (q_layout, .inr (0, [.int v_layout_tanks, .ref q_layout_low, .ref q_layout_high, .ref q_layout_loadedSeconds, .ref q_layout_emptySeconds])), (q_layout_low, .inl (cI, 6, .inl f_layout_low)), (q_layout_high, .inl (cI, 6, .inl f_layout_high)), (q_layout_loadedSeconds, .inl (cI, 6, .inl f_layout_loadedSeconds)), (q_layout_emptySeconds, .inl (hq_out cO qr_layout_emptySeconds))] ++ hq_rows cI qr_layout_emptySeconds f_layout_emptySeconds
set_option maxHeartbeats 4000000 in
set_option maxRecDepth 100000 in
theorem x_HP_line (l : Launch) (hfl : l.flags = pinnedFlags ++ [noTraceFlag]) (dC : Nat → ClassId) (dI : Nat → Nat → Nat) (q_this : Nat) (q_layout : Nat) (q_tried : Nat) (q_timing : Nat) (q_found : Nat) (q_works : Nat) (q_layout_low : Nat) (q_layout_high : Nat) (q_layout_loadedSeconds : Nat) (q_layout_emptySeconds : Nat) (qr_layout_emptySeconds : Nat → Nat) (cI : ClassId) (cO : ClassId) (sz : Nat) (z : Nat) (a1 : Int32) (v_planned : Int32) (v_layout_tanks : Int32) (f_layout_low : Nat → Int32) (f_layout_high : Nat → Int32) (f_layout_loadedSeconds : Nat → Int32) (f_layout_emptySeconds : Nat → Nat → Int32) (xc : Nat) (n_v_planned : Int32) (n_v_layout_tanks : Int32) (n_f_layout_low : Nat → Int32) (n_f_layout_high : Nat → Int32) (n_f_layout_loadedSeconds : Nat → Int32) (n_f_layout_emptySeconds : Nat → Nat → Int32) (hF : fn_HP_line z a1 v_planned v_layout_tanks f_layout_low f_layout_high f_layout_loadedSeconds f_layout_emptySeconds = some (xc, n_v_planned, n_v_layout_tanks, n_f_layout_low, n_f_layout_high, n_f_layout_loadedSeconds, n_f_layout_emptySeconds)) : hq_Met l y_HP_line w_HP_line ({ frames := 7, cells := 1, slots := 6, locals := 110 }) (hq_PcX (dC, dI) vwCl [(cI, .int), (cO, .array .int)] (wd_HP_line q_this q_layout q_tried q_timing q_found q_works q_layout_low q_layout_high q_layout_loadedSeconds q_layout_emptySeconds qr_layout_emptySeconds cI cO v_planned v_layout_tanks f_layout_low f_layout_high f_layout_loadedSeconds f_layout_emptySeconds) sz [.ref q_this, .int a1]) (hq_Qx (dC, dI) vwCl [(cI, .int), (cO, .array .int)] (wd_HP_line q_this q_layout q_tried q_timing q_found q_works q_layout_low q_layout_high q_layout_loadedSeconds q_layout_emptySeconds qr_layout_emptySeconds cI cO n_v_planned n_v_layout_tanks n_f_layout_low n_f_layout_high n_f_layout_loadedSeconds n_f_layout_emptySeconds) xc none (va_A (wd_HP_line q_this q_layout q_tried q_timing q_found q_works q_layout_low q_layout_high q_layout_loadedSeconds q_layout_emptySeconds qr_layout_emptySeconds cI cO v_planned v_layout_tanks f_layout_low f_layout_high f_layout_loadedSeconds f_layout_emptySeconds) sz)) 1 6 (va_A (wd_HP_line q_this q_layout q_tried q_timing q_found q_works q_layout_low q_layout_high q_layout_loadedSeconds q_layout_emptySeconds qr_layout_emptySeconds cI cO v_planned v_layout_tanks f_layout_low f_layout_high f_layout_loadedSeconds f_layout_emptySeconds) sz) := by
  refine hq_metX hfl (Qc := hq_Qx (dC, dI) vwCl [(cI, .int), (cO, .array .int)] (wd_HP_line q_this q_layout q_tried q_timing q_found q_works q_layout_low q_layout_high q_layout_loadedSeconds q_layout_emptySeconds qr_layout_emptySeconds cI cO n_v_planned n_v_layout_tanks n_f_layout_low n_f_layout_high n_f_layout_loadedSeconds n_f_layout_emptySeconds) xc none) (fr := fun A => A) (cc := b_HP_line) (maxL := 2) (ret := none) (by decide) rfl (Nat.le_of_ble_eq_true rfl) ?_
  intro p e s m args below meth c A ls hx hb hr hml hts hown hlocks hnm hP hD hK hA hS hl htr hex hG hns
  have hts : ∀ w ∈ tb0, w.before args s = true := fun w h => hts w (List.mem_cons_of_mem _ h)
  have hown : s.vm.findClass R_HP = some m.cls := hown
  have hl : lv_has ls 2 [(0, .ref q_this), (1, .int a1)] := hl
  unfold fn_HP_line at hF
  refine lv_iload_n hx hb d_HP_line_0 rfl (lv_at hl 1 rfl) ?_
  refine lv_iconst (v := 1) hx hb d_HP_line_1 (by decide) ?_
  refine lv_iconst (v := 5) hx hb d_HP_line_2 (by decide) ?_
  obtain ⟨r1, hc1, hF⟩ := ox_clS hF
  refine hq_ci (ws' := (wd_HP_line q_this q_layout q_tried q_timing q_found q_works q_layout_low q_layout_high q_layout_loadedSeconds q_layout_emptySeconds qr_layout_emptySeconds cI cO v_planned v_layout_tanks f_layout_low f_layout_high f_layout_loadedSeconds f_layout_emptySeconds)) (hq_rS (As := [.int a1, .int 1, .int 5]) (rest := []) ⟨hx, hb, hml, hown, hts⟩ (c_HP_isWithin l dC dI _ a1 1 5 r1 hc1) ⟨callB_of 3 hts (hq_g1 tw_267) rfl rfl rfl (hts _ tw_266) (hts _ tw_264) yd_HP_isWithin ⟨Nat.le_of_ble_eq_true rfl, Nat.le_of_ble_eq_true rfl⟩, hts _ tw_265⟩ hP hD hK [] rfl [] rfl rfl rfl hl.1 rfl (Nat.le_of_ble_eq_true rfl) d_HP_line_3 ⟨Nat.le_of_ble_eq_true rfl, Nat.le_of_ble_eq_true rfl⟩) hP hD hS hA [] [0, 1, 2, 3, 4, 5, 6, 7, 8, 9, 10, 11, 12] [0, 1, 2, 3, 4, 5, 6, 7, 8, 9, 10, 11, 12] rfl rfl rfl (by decide) rfl rfl (fun H locs hP hD hS => ?_)
  obtain ⟨x2, hc2, hF⟩ := ox_clS hF
  refine hq_cr (hq_rSX (As := [.int r1]) (rest := []) ⟨hx, hb, hml, hown, hts⟩ (x_HP_require l hfl dC dI _ r1 x2 hc2) ⟨callB_of 1 hts (hq_g1 tw_270) rfl rfl rfl (hts _ tw_266) (hts _ tw_268) yd_HP_require ⟨Nat.le_of_ble_eq_true rfl, Nat.le_of_ble_eq_true rfl⟩, hts _ tw_269⟩ hP hD hK (hq_Gnow hG hns hS) [] rfl [] rfl rfl rfl hl.1 rfl (Nat.le_of_ble_eq_true rfl) d_HP_line_6 ⟨Nat.le_of_ble_eq_true rfl, Nat.le_of_ble_eq_true rfl⟩) (fun h2 => ?_) (fun h2 q H1 ce g1 g2 g3 g4 g5 => ?_)
  rotate_left
  · have hF := ox_t hF h2
    cases hF
    exact hq_xout hex hlocks h2 g1 g2 g3 (hq_keepP hP g5) hD hK (hq_keepS hS g4 g5) (Nat.le_of_ble_eq_true rfl) (Nat.le_of_ble_eq_true rfl)
  have hF := ox_fn hF h2
  refine lv_aload_n hx hb d_HP_line_9 rfl (lv_at hl 0 rfl) ?_
  refine va_get (D := (dC, dI)) (ci := 5) (v := .ref q_layout) (C := R_HP) (T := F_HP) (N := 6) hx hb hts uw_HP hown hK hP 0 rfl rfl 0 (by decide) (hts _ tw_157) (fun _ h9 => h9) rfl d_HP_line_10 ?_
  refine lv_iload_n hx hb d_HP_line_13 rfl (lv_at hl 1 rfl) ?_
  obtain ⟨⟨s3_v_tanks, s3_f_low, s3_f_high, s3_f_loadedSeconds, s3_f_emptySeconds⟩, hc3, hF⟩ := ox_clS hF
  refine hq_cv (ws' := (wd_HP_line q_this q_layout q_tried q_timing q_found q_works q_layout_low q_layout_high q_layout_loadedSeconds q_layout_emptySeconds qr_layout_emptySeconds cI cO v_planned s3_v_tanks s3_f_low s3_f_high s3_f_loadedSeconds s3_f_emptySeconds)) (hq_rV (As := [.int a1]) (rest := []) ⟨hx, hb, hml, hown, hts⟩ (c_LY_reset l dC dI q_layout q_layout_low q_layout_high q_layout_loadedSeconds q_layout_emptySeconds qr_layout_emptySeconds cI cO _ z a1 v_layout_tanks f_layout_low f_layout_high f_layout_loadedSeconds f_layout_emptySeconds s3_v_tanks s3_f_low s3_f_high s3_f_loadedSeconds s3_f_emptySeconds hc3) (cwV 1 hts (hq_gV tw_271 tw_272 tw_273 tw_12 tw_274) rfl rfl rfl yv_LY_reset ⟨Nat.le_of_ble_eq_true rfl, Nat.le_of_ble_eq_true rfl⟩) hP hD hK [0, 1] rfl 1 rfl rfl [1, 2, 3, 4, 5, 6, 7, 8, 9, 10, 11, 12] rfl rfl rfl hl.1 rfl (Nat.le_of_ble_eq_true rfl) d_HP_line_14 ⟨Nat.le_of_ble_eq_true rfl, Nat.le_of_ble_eq_true rfl⟩) hP hD hS hA [1, 2, 3, 4, 5, 6, 7, 8, 9, 10, 11, 12] [0] [0, 1, 2, 3, 4, 5, 6, 7, 8, 9, 10, 11, 12] rfl rfl rfl (by decide) rfl rfl (fun H locs hP hD hS => ?_)
  refine lv_aload_n hx hb d_HP_line_17 rfl (lv_at hl 0 rfl) ?_
  refine lv_iconst (v := 0) hx hb d_HP_line_18 (by decide) ?_
  refine va_put (D := (dC, dI)) (ci := 5) (v := .int 0) (ty := .boolean) (C := R_HP) (T := F_HP) (N := 6) hx hb hts uw_HP t_HP t_HP_ok n_HP hown hK hP hD hS 0 rfl rfl 5 (by decide) (hts _ tw_263) (fun _ h9 => h9) rfl (by decide +kernel) rfl rfl (Nat.le_of_ble_eq_true rfl) d_HP_line_19 (fun H locs hP hD hS => ?_)
  have hP : va_P (dC, dI) vwCl (wd_HP_line q_this q_layout q_tried q_timing q_found q_works q_layout_low q_layout_high q_layout_loadedSeconds q_layout_emptySeconds qr_layout_emptySeconds cI cO 0 s3_v_tanks s3_f_low s3_f_high s3_f_loadedSeconds s3_f_emptySeconds) H := hP
  have hD : va_D A (wd_HP_line q_this q_layout q_tried q_timing q_found q_works q_layout_low q_layout_high q_layout_loadedSeconds q_layout_emptySeconds qr_layout_emptySeconds cI cO 0 s3_v_tanks s3_f_low s3_f_high s3_f_loadedSeconds s3_f_emptySeconds) := hD
  cases hF
  exact hq_xvret hx hb hr hlocks hP hD hK hS (Nat.le_of_ble_eq_true rfl) (Nat.le_of_ble_eq_true rfl) d_HP_line_22
abbrev wd_HP_soak (q_this : Nat) (q_layout : Nat) (q_tried : Nat) (q_timing : Nat) (q_found : Nat) (q_works : Nat) (q_layout_low : Nat) (q_layout_high : Nat) (q_layout_loadedSeconds : Nat) (q_layout_emptySeconds : Nat) (cI : ClassId) (v_planned : Int32) (v_layout_tanks : Int32) (f_layout_low : Nat → Int32) (f_layout_high : Nat → Int32) : va_W := [(q_this, .inr (5, [.ref q_layout, .ref q_tried, .ref q_timing, .ref q_found, .ref q_works, .int v_planned])), (q_layout, .inr (0, [.int v_layout_tanks, .ref q_layout_low, .ref q_layout_high, .ref q_layout_loadedSeconds, .ref q_layout_emptySeconds])), (q_layout_low, .inl (cI, 6, .inl f_layout_low)), (q_layout_high, .inl (cI, 6, .inl f_layout_high))]
set_option maxHeartbeats 4000000 in
set_option maxRecDepth 100000 in
theorem x_HP_soak (l : Launch) (hfl : l.flags = pinnedFlags ++ [noTraceFlag]) (dC : Nat → ClassId) (dI : Nat → Nat → Nat) (q_this : Nat) (q_layout : Nat) (q_tried : Nat) (q_timing : Nat) (q_found : Nat) (q_works : Nat) (q_layout_low : Nat) (q_layout_high : Nat) (q_layout_loadedSeconds : Nat) (q_layout_emptySeconds : Nat) (cI : ClassId) (sz : Nat) (a1 : Int32) (a2 : Int32) (a3 : Int32) (v_planned : Int32) (v_layout_tanks : Int32) (f_layout_low : Nat → Int32) (f_layout_high : Nat → Int32) (xc : Nat) (n_v_planned : Int32) (n_f_layout_low : Nat → Int32) (n_f_layout_high : Nat → Int32) (hF : fn_HP_soak a1 a2 a3 v_planned v_layout_tanks f_layout_low f_layout_high = some (xc, n_v_planned, n_f_layout_low, n_f_layout_high)) : hq_Met l y_HP_soak w_HP_soak ({ frames := 7, cells := 2, slots := 12, locals := 110 }) (hq_PcX (dC, dI) vwCl [(cI, .int)] (wd_HP_soak q_this q_layout q_tried q_timing q_found q_works q_layout_low q_layout_high q_layout_loadedSeconds q_layout_emptySeconds cI v_planned v_layout_tanks f_layout_low f_layout_high) sz [.ref q_this, .int a1, .int a2, .int a3]) (hq_Qx (dC, dI) vwCl [(cI, .int)] (wd_HP_soak q_this q_layout q_tried q_timing q_found q_works q_layout_low q_layout_high q_layout_loadedSeconds q_layout_emptySeconds cI n_v_planned v_layout_tanks n_f_layout_low n_f_layout_high) xc none (va_A (wd_HP_soak q_this q_layout q_tried q_timing q_found q_works q_layout_low q_layout_high q_layout_loadedSeconds q_layout_emptySeconds cI v_planned v_layout_tanks f_layout_low f_layout_high) sz)) 2 12 (va_A (wd_HP_soak q_this q_layout q_tried q_timing q_found q_works q_layout_low q_layout_high q_layout_loadedSeconds q_layout_emptySeconds cI v_planned v_layout_tanks f_layout_low f_layout_high) sz) := by
  refine hq_metX hfl (Qc := hq_Qx (dC, dI) vwCl [(cI, .int)] (wd_HP_soak q_this q_layout q_tried q_timing q_found q_works q_layout_low q_layout_high q_layout_loadedSeconds q_layout_emptySeconds cI n_v_planned v_layout_tanks n_f_layout_low n_f_layout_high) xc none) (fr := fun A => A) (cc := b_HP_soak) (maxL := 4) (ret := none) (by decide) rfl (Nat.le_of_ble_eq_true rfl) ?_
  intro p e s m args below meth c A ls hx hb hr hml hts hown hlocks hnm hP hD hK hA hS hl htr hex hG hns
  have hts : ∀ w ∈ tb0, w.before args s = true := fun w h => hts w (List.mem_cons_of_mem _ h)
  have hown : s.vm.findClass R_HP = some m.cls := hown
  have hl : lv_has ls 4 [(0, .ref q_this), (1, .int a1), (2, .int a2), (3, .int a3)] := hl
  unfold fn_HP_soak at hF
  refine lv_aload_n hx hb d_HP_soak_0 rfl (lv_at hl 0 rfl) ?_
  refine va_get (D := (dC, dI)) (ci := 5) (v := .ref q_layout) (C := R_HP) (T := F_HP) (N := 6) hx hb hts uw_HP hown hK hP 0 rfl rfl 0 (by decide) (hts _ tw_157) (fun _ h9 => h9) rfl d_HP_soak_1 ?_
  refine lv_iload_n hx hb d_HP_soak_4 rfl (lv_at hl 1 rfl) ?_
  obtain ⟨r1, hc1, hF⟩ := ox_clS hF
  refine hq_ci (ws' := (wd_HP_soak q_this q_layout q_tried q_timing q_found q_works q_layout_low q_layout_high q_layout_loadedSeconds q_layout_emptySeconds cI v_planned v_layout_tanks f_layout_low f_layout_high)) (hq_rV (As := [.int a1]) (rest := []) ⟨hx, hb, hml, hown, hts⟩ (c_LY_hasTank l dC dI q_layout q_layout_low q_layout_high q_layout_loadedSeconds q_layout_emptySeconds _ a1 v_layout_tanks r1 hc1) (cwV 1 hts (hq_gV tw_275 tw_276 tw_277 tw_12 tw_278) rfl rfl rfl yv_LY_hasTank ⟨Nat.le_of_ble_eq_true rfl, Nat.le_of_ble_eq_true rfl⟩) hP hD hK [] rfl 1 rfl rfl [1] rfl rfl rfl hl.1 rfl (Nat.le_of_ble_eq_true rfl) d_HP_soak_5 ⟨Nat.le_of_ble_eq_true rfl, Nat.le_of_ble_eq_true rfl⟩) hP hD hS hA [1] [0, 2, 3] [0, 3, 1, 2] rfl rfl rfl (by decide) rfl rfl (fun H locs hP hD hS => ?_)
  obtain ⟨x2, hc2, hF⟩ := ox_clS hF
  refine hq_cr (hq_rSX (As := [.int r1]) (rest := []) ⟨hx, hb, hml, hown, hts⟩ (x_HP_require l hfl dC dI _ r1 x2 hc2) ⟨callB_of 1 hts (hq_g1 tw_270) rfl rfl rfl (hts _ tw_266) (hts _ tw_268) yd_HP_require ⟨Nat.le_of_ble_eq_true rfl, Nat.le_of_ble_eq_true rfl⟩, hts _ tw_269⟩ hP hD hK (hq_Gnow hG hns hS) [] rfl [] rfl rfl rfl hl.1 rfl (Nat.le_of_ble_eq_true rfl) d_HP_soak_8 ⟨Nat.le_of_ble_eq_true rfl, Nat.le_of_ble_eq_true rfl⟩) (fun h2 => ?_) (fun h2 q H1 ce g1 g2 g3 g4 g5 => ?_)
  rotate_left
  · have hF := ox_t hF h2
    cases hF
    exact hq_xout hex hlocks h2 g1 g2 g3 (hq_keepP hP g5) hD hK (hq_keepS hS g4 g5) (Nat.le_of_ble_eq_true rfl) (Nat.le_of_ble_eq_true rfl)
  have hF := ox_fn hF h2
  refine lv_iconst (v := 0) hx hb d_HP_soak_11 (by decide) ?_
  refine lv_iload_n hx hb d_HP_soak_12 rfl (lv_at hl 2 rfl) ?_
  refine lv_icmp_gt (tgt := 32) hx hb d_HP_soak_13 (by decide) (fun hb3 => ?_) (fun hb3 => ?_)
  · have hF := ox_t hF hb3
    refine lv_iconst (v := 0) hx hb d_HP_soak_32 (by decide) ?_
    obtain ⟨x4, hc4, hF⟩ := ox_clS hF
    refine hq_cr (hq_rSX (As := [.int 0]) (rest := []) ⟨hx, hb, hml, hown, hts⟩ (x_HP_require l hfl dC dI _ 0 x4 hc4) ⟨callB_of 1 hts (hq_g1 tw_270) rfl rfl rfl (hts _ tw_266) (hts _ tw_268) yd_HP_require ⟨Nat.le_of_ble_eq_true rfl, Nat.le_of_ble_eq_true rfl⟩, hts _ tw_269⟩ hP hD hK (hq_Gnow hG hns hS) [] rfl [] rfl rfl rfl hl.1 rfl (Nat.le_of_ble_eq_true rfl) d_HP_soak_33 ⟨Nat.le_of_ble_eq_true rfl, Nat.le_of_ble_eq_true rfl⟩) (fun h4 => ?_) (fun h4 q H1 ce g1 g2 g3 g4 g5 => ?_)
    rotate_left
    · have hF := ox_t hF h4
      cases hF
      exact hq_xout hex hlocks h4 g1 g2 g3 (hq_keepP hP g5) hD hK (hq_keepS hS g4 g5) (Nat.le_of_ble_eq_true rfl) (Nat.le_of_ble_eq_true rfl)
    have hF := ox_fn hF h4
    refine lv_aload_n hx hb d_HP_soak_36 rfl (lv_at hl 0 rfl) ?_
    refine va_get (D := (dC, dI)) (ci := 5) (v := .ref q_layout) (C := R_HP) (T := F_HP) (N := 6) hx hb hts uw_HP hown hK hP 0 rfl rfl 0 (by decide) (hts _ tw_157) (fun _ h9 => h9) rfl d_HP_soak_37 ?_
    refine va_get (D := (dC, dI)) (ci := 0) (v := .ref q_layout_low) (C := R_LY) (T := F_LY) (N := 5) hx hb hts uw_LY hown hK hP 1 rfl rfl 1 (by decide) (hts _ tw_279) (fun _ h9 => h9) rfl d_HP_soak_40 ?_
    refine lv_iload_n hx hb d_HP_soak_43 rfl (lv_at hl 1 rfl) ?_
    refine lv_iload_n hx hb d_HP_soak_44 rfl (lv_at hl 2 rfl) ?_
    obtain ⟨hin, hF⟩ := ox_gdS hF
    refine va_iast hx hb hK hP hD hS 2 0 rfl rfl hin d_HP_soak_45 (fun H locs hP hD hS => ?_)
    have hP : va_P (dC, dI) vwCl (wd_HP_soak q_this q_layout q_tried q_timing q_found q_works q_layout_low q_layout_high q_layout_loadedSeconds q_layout_emptySeconds cI v_planned v_layout_tanks (upd f_layout_low a1.toNatClampNeg a2) f_layout_high) H := hP
    have hD : va_D A (wd_HP_soak q_this q_layout q_tried q_timing q_found q_works q_layout_low q_layout_high q_layout_loadedSeconds q_layout_emptySeconds cI v_planned v_layout_tanks (upd f_layout_low a1.toNatClampNeg a2) f_layout_high) := hD
    refine lv_aload_n hx hb d_HP_soak_46 rfl (lv_at hl 0 rfl) ?_
    refine va_get (D := (dC, dI)) (ci := 5) (v := .ref q_layout) (C := R_HP) (T := F_HP) (N := 6) hx hb hts uw_HP hown hK hP 0 rfl rfl 0 (by decide) (hts _ tw_157) (fun _ h9 => h9) rfl d_HP_soak_47 ?_
    refine va_get (D := (dC, dI)) (ci := 0) (v := .ref q_layout_high) (C := R_LY) (T := F_LY) (N := 5) hx hb hts uw_LY hown hK hP 1 rfl rfl 2 (by decide) (hts _ tw_280) (fun _ h9 => h9) rfl d_HP_soak_50 ?_
    refine lv_iload_n hx hb d_HP_soak_53 rfl (lv_at hl 1 rfl) ?_
    refine lv_iload_n hx hb d_HP_soak_54 rfl (lv_at hl 3 rfl) ?_
    obtain ⟨hin, hF⟩ := ox_gdS hF
    refine va_iast hx hb hK hP hD hS 3 0 rfl rfl hin d_HP_soak_55 (fun H locs hP hD hS => ?_)
    have hP : va_P (dC, dI) vwCl (wd_HP_soak q_this q_layout q_tried q_timing q_found q_works q_layout_low q_layout_high q_layout_loadedSeconds q_layout_emptySeconds cI v_planned v_layout_tanks (upd f_layout_low a1.toNatClampNeg a2) (upd f_layout_high a1.toNatClampNeg a3)) H := hP
    have hD : va_D A (wd_HP_soak q_this q_layout q_tried q_timing q_found q_works q_layout_low q_layout_high q_layout_loadedSeconds q_layout_emptySeconds cI v_planned v_layout_tanks (upd f_layout_low a1.toNatClampNeg a2) (upd f_layout_high a1.toNatClampNeg a3)) := hD
    refine lv_aload_n hx hb d_HP_soak_56 rfl (lv_at hl 0 rfl) ?_
    refine lv_iconst (v := 0) hx hb d_HP_soak_57 (by decide) ?_
    refine va_put (D := (dC, dI)) (ci := 5) (v := .int 0) (ty := .boolean) (C := R_HP) (T := F_HP) (N := 6) hx hb hts uw_HP t_HP t_HP_ok n_HP hown hK hP hD hS 0 rfl rfl 5 (by decide) (hts _ tw_263) (fun _ h9 => h9) rfl (by decide +kernel) rfl rfl (Nat.le_of_ble_eq_true rfl) d_HP_soak_58 (fun H locs hP hD hS => ?_)
    have hP : va_P (dC, dI) vwCl (wd_HP_soak q_this q_layout q_tried q_timing q_found q_works q_layout_low q_layout_high q_layout_loadedSeconds q_layout_emptySeconds cI 0 v_layout_tanks (upd f_layout_low a1.toNatClampNeg a2) (upd f_layout_high a1.toNatClampNeg a3)) H := hP
    have hD : va_D A (wd_HP_soak q_this q_layout q_tried q_timing q_found q_works q_layout_low q_layout_high q_layout_loadedSeconds q_layout_emptySeconds cI 0 v_layout_tanks (upd f_layout_low a1.toNatClampNeg a2) (upd f_layout_high a1.toNatClampNeg a3)) := hD
    cases hF
    exact hq_xvret hx hb hr hlocks hP hD hK hS (Nat.le_of_ble_eq_true rfl) (Nat.le_of_ble_eq_true rfl) d_HP_soak_61
  · have hF := ox_f hF hb3
    refine lv_iload_n hx hb d_HP_soak_16 rfl (lv_at hl 2 rfl) ?_
    refine lv_iload_n hx hb d_HP_soak_17 rfl (lv_at hl 3 rfl) ?_
    refine lv_icmp_gt (tgt := 32) hx hb d_HP_soak_18 (by decide) (fun hb5 => ?_) (fun hb5 => ?_)
    · have hF := ox_t hF hb5
      refine lv_iconst (v := 0) hx hb d_HP_soak_32 (by decide) ?_
      obtain ⟨x6, hc6, hF⟩ := ox_clS hF
      refine hq_cr (hq_rSX (As := [.int 0]) (rest := []) ⟨hx, hb, hml, hown, hts⟩ (x_HP_require l hfl dC dI _ 0 x6 hc6) ⟨callB_of 1 hts (hq_g1 tw_270) rfl rfl rfl (hts _ tw_266) (hts _ tw_268) yd_HP_require ⟨Nat.le_of_ble_eq_true rfl, Nat.le_of_ble_eq_true rfl⟩, hts _ tw_269⟩ hP hD hK (hq_Gnow hG hns hS) [] rfl [] rfl rfl rfl hl.1 rfl (Nat.le_of_ble_eq_true rfl) d_HP_soak_33 ⟨Nat.le_of_ble_eq_true rfl, Nat.le_of_ble_eq_true rfl⟩) (fun h6 => ?_) (fun h6 q H1 ce g1 g2 g3 g4 g5 => ?_)
      rotate_left
      · have hF := ox_t hF h6
        cases hF
        exact hq_xout hex hlocks h6 g1 g2 g3 (hq_keepP hP g5) hD hK (hq_keepS hS g4 g5) (Nat.le_of_ble_eq_true rfl) (Nat.le_of_ble_eq_true rfl)
      have hF := ox_fn hF h6
      refine lv_aload_n hx hb d_HP_soak_36 rfl (lv_at hl 0 rfl) ?_
      refine va_get (D := (dC, dI)) (ci := 5) (v := .ref q_layout) (C := R_HP) (T := F_HP) (N := 6) hx hb hts uw_HP hown hK hP 0 rfl rfl 0 (by decide) (hts _ tw_157) (fun _ h9 => h9) rfl d_HP_soak_37 ?_
      refine va_get (D := (dC, dI)) (ci := 0) (v := .ref q_layout_low) (C := R_LY) (T := F_LY) (N := 5) hx hb hts uw_LY hown hK hP 1 rfl rfl 1 (by decide) (hts _ tw_279) (fun _ h9 => h9) rfl d_HP_soak_40 ?_
      refine lv_iload_n hx hb d_HP_soak_43 rfl (lv_at hl 1 rfl) ?_
      refine lv_iload_n hx hb d_HP_soak_44 rfl (lv_at hl 2 rfl) ?_
      obtain ⟨hin, hF⟩ := ox_gdS hF
      refine va_iast hx hb hK hP hD hS 2 0 rfl rfl hin d_HP_soak_45 (fun H locs hP hD hS => ?_)
      have hP : va_P (dC, dI) vwCl (wd_HP_soak q_this q_layout q_tried q_timing q_found q_works q_layout_low q_layout_high q_layout_loadedSeconds q_layout_emptySeconds cI v_planned v_layout_tanks (upd f_layout_low a1.toNatClampNeg a2) f_layout_high) H := hP
      have hD : va_D A (wd_HP_soak q_this q_layout q_tried q_timing q_found q_works q_layout_low q_layout_high q_layout_loadedSeconds q_layout_emptySeconds cI v_planned v_layout_tanks (upd f_layout_low a1.toNatClampNeg a2) f_layout_high) := hD
      refine lv_aload_n hx hb d_HP_soak_46 rfl (lv_at hl 0 rfl) ?_
      refine va_get (D := (dC, dI)) (ci := 5) (v := .ref q_layout) (C := R_HP) (T := F_HP) (N := 6) hx hb hts uw_HP hown hK hP 0 rfl rfl 0 (by decide) (hts _ tw_157) (fun _ h9 => h9) rfl d_HP_soak_47 ?_
      refine va_get (D := (dC, dI)) (ci := 0) (v := .ref q_layout_high) (C := R_LY) (T := F_LY) (N := 5) hx hb hts uw_LY hown hK hP 1 rfl rfl 2 (by decide) (hts _ tw_280) (fun _ h9 => h9) rfl d_HP_soak_50 ?_
      refine lv_iload_n hx hb d_HP_soak_53 rfl (lv_at hl 1 rfl) ?_
      refine lv_iload_n hx hb d_HP_soak_54 rfl (lv_at hl 3 rfl) ?_
      obtain ⟨hin, hF⟩ := ox_gdS hF
      refine va_iast hx hb hK hP hD hS 3 0 rfl rfl hin d_HP_soak_55 (fun H locs hP hD hS => ?_)
      have hP : va_P (dC, dI) vwCl (wd_HP_soak q_this q_layout q_tried q_timing q_found q_works q_layout_low q_layout_high q_layout_loadedSeconds q_layout_emptySeconds cI v_planned v_layout_tanks (upd f_layout_low a1.toNatClampNeg a2) (upd f_layout_high a1.toNatClampNeg a3)) H := hP
      have hD : va_D A (wd_HP_soak q_this q_layout q_tried q_timing q_found q_works q_layout_low q_layout_high q_layout_loadedSeconds q_layout_emptySeconds cI v_planned v_layout_tanks (upd f_layout_low a1.toNatClampNeg a2) (upd f_layout_high a1.toNatClampNeg a3)) := hD
      refine lv_aload_n hx hb d_HP_soak_56 rfl (lv_at hl 0 rfl) ?_
      refine lv_iconst (v := 0) hx hb d_HP_soak_57 (by decide) ?_
      refine va_put (D := (dC, dI)) (ci := 5) (v := .int 0) (ty := .boolean) (C := R_HP) (T := F_HP) (N := 6) hx hb hts uw_HP t_HP t_HP_ok n_HP hown hK hP hD hS 0 rfl rfl 5 (by decide) (hts _ tw_263) (fun _ h9 => h9) rfl (by decide +kernel) rfl rfl (Nat.le_of_ble_eq_true rfl) d_HP_soak_58 (fun H locs hP hD hS => ?_)
      have hP : va_P (dC, dI) vwCl (wd_HP_soak q_this q_layout q_tried q_timing q_found q_works q_layout_low q_layout_high q_layout_loadedSeconds q_layout_emptySeconds cI 0 v_layout_tanks (upd f_layout_low a1.toNatClampNeg a2) (upd f_layout_high a1.toNatClampNeg a3)) H := hP
      have hD : va_D A (wd_HP_soak q_this q_layout q_tried q_timing q_found q_works q_layout_low q_layout_high q_layout_loadedSeconds q_layout_emptySeconds cI 0 v_layout_tanks (upd f_layout_low a1.toNatClampNeg a2) (upd f_layout_high a1.toNatClampNeg a3)) := hD
      cases hF
      exact hq_xvret hx hb hr hlocks hP hD hK hS (Nat.le_of_ble_eq_true rfl) (Nat.le_of_ble_eq_true rfl) d_HP_soak_61
    · have hF := ox_f hF hb5
      refine lv_iload_n hx hb d_HP_soak_21 rfl (lv_at hl 3 rfl) ?_
      refine lv_sipush (v := 500) hx hb d_HP_soak_22 (by decide) ?_
      refine lv_icmp_gt (tgt := 32) hx hb d_HP_soak_25 (by decide) (fun hb7 => ?_) (fun hb7 => ?_)
      · have hF := ox_t hF hb7
        refine lv_iconst (v := 0) hx hb d_HP_soak_32 (by decide) ?_
        obtain ⟨x8, hc8, hF⟩ := ox_clS hF
        refine hq_cr (hq_rSX (As := [.int 0]) (rest := []) ⟨hx, hb, hml, hown, hts⟩ (x_HP_require l hfl dC dI _ 0 x8 hc8) ⟨callB_of 1 hts (hq_g1 tw_270) rfl rfl rfl (hts _ tw_266) (hts _ tw_268) yd_HP_require ⟨Nat.le_of_ble_eq_true rfl, Nat.le_of_ble_eq_true rfl⟩, hts _ tw_269⟩ hP hD hK (hq_Gnow hG hns hS) [] rfl [] rfl rfl rfl hl.1 rfl (Nat.le_of_ble_eq_true rfl) d_HP_soak_33 ⟨Nat.le_of_ble_eq_true rfl, Nat.le_of_ble_eq_true rfl⟩) (fun h8 => ?_) (fun h8 q H1 ce g1 g2 g3 g4 g5 => ?_)
        rotate_left
        · have hF := ox_t hF h8
          cases hF
          exact hq_xout hex hlocks h8 g1 g2 g3 (hq_keepP hP g5) hD hK (hq_keepS hS g4 g5) (Nat.le_of_ble_eq_true rfl) (Nat.le_of_ble_eq_true rfl)
        have hF := ox_fn hF h8
        refine lv_aload_n hx hb d_HP_soak_36 rfl (lv_at hl 0 rfl) ?_
        refine va_get (D := (dC, dI)) (ci := 5) (v := .ref q_layout) (C := R_HP) (T := F_HP) (N := 6) hx hb hts uw_HP hown hK hP 0 rfl rfl 0 (by decide) (hts _ tw_157) (fun _ h9 => h9) rfl d_HP_soak_37 ?_
        refine va_get (D := (dC, dI)) (ci := 0) (v := .ref q_layout_low) (C := R_LY) (T := F_LY) (N := 5) hx hb hts uw_LY hown hK hP 1 rfl rfl 1 (by decide) (hts _ tw_279) (fun _ h9 => h9) rfl d_HP_soak_40 ?_
        refine lv_iload_n hx hb d_HP_soak_43 rfl (lv_at hl 1 rfl) ?_
        refine lv_iload_n hx hb d_HP_soak_44 rfl (lv_at hl 2 rfl) ?_
        obtain ⟨hin, hF⟩ := ox_gdS hF
        refine va_iast hx hb hK hP hD hS 2 0 rfl rfl hin d_HP_soak_45 (fun H locs hP hD hS => ?_)
        have hP : va_P (dC, dI) vwCl (wd_HP_soak q_this q_layout q_tried q_timing q_found q_works q_layout_low q_layout_high q_layout_loadedSeconds q_layout_emptySeconds cI v_planned v_layout_tanks (upd f_layout_low a1.toNatClampNeg a2) f_layout_high) H := hP
        have hD : va_D A (wd_HP_soak q_this q_layout q_tried q_timing q_found q_works q_layout_low q_layout_high q_layout_loadedSeconds q_layout_emptySeconds cI v_planned v_layout_tanks (upd f_layout_low a1.toNatClampNeg a2) f_layout_high) := hD
        refine lv_aload_n hx hb d_HP_soak_46 rfl (lv_at hl 0 rfl) ?_
        refine va_get (D := (dC, dI)) (ci := 5) (v := .ref q_layout) (C := R_HP) (T := F_HP) (N := 6) hx hb hts uw_HP hown hK hP 0 rfl rfl 0 (by decide) (hts _ tw_157) (fun _ h9 => h9) rfl d_HP_soak_47 ?_
        refine va_get (D := (dC, dI)) (ci := 0) (v := .ref q_layout_high) (C := R_LY) (T := F_LY) (N := 5) hx hb hts uw_LY hown hK hP 1 rfl rfl 2 (by decide) (hts _ tw_280) (fun _ h9 => h9) rfl d_HP_soak_50 ?_
        refine lv_iload_n hx hb d_HP_soak_53 rfl (lv_at hl 1 rfl) ?_
        refine lv_iload_n hx hb d_HP_soak_54 rfl (lv_at hl 3 rfl) ?_
        obtain ⟨hin, hF⟩ := ox_gdS hF
        refine va_iast hx hb hK hP hD hS 3 0 rfl rfl hin d_HP_soak_55 (fun H locs hP hD hS => ?_)
        have hP : va_P (dC, dI) vwCl (wd_HP_soak q_this q_layout q_tried q_timing q_found q_works q_layout_low q_layout_high q_layout_loadedSeconds q_layout_emptySeconds cI v_planned v_layout_tanks (upd f_layout_low a1.toNatClampNeg a2) (upd f_layout_high a1.toNatClampNeg a3)) H := hP
        have hD : va_D A (wd_HP_soak q_this q_layout q_tried q_timing q_found q_works q_layout_low q_layout_high q_layout_loadedSeconds q_layout_emptySeconds cI v_planned v_layout_tanks (upd f_layout_low a1.toNatClampNeg a2) (upd f_layout_high a1.toNatClampNeg a3)) := hD
        refine lv_aload_n hx hb d_HP_soak_56 rfl (lv_at hl 0 rfl) ?_
        refine lv_iconst (v := 0) hx hb d_HP_soak_57 (by decide) ?_
        refine va_put (D := (dC, dI)) (ci := 5) (v := .int 0) (ty := .boolean) (C := R_HP) (T := F_HP) (N := 6) hx hb hts uw_HP t_HP t_HP_ok n_HP hown hK hP hD hS 0 rfl rfl 5 (by decide) (hts _ tw_263) (fun _ h9 => h9) rfl (by decide +kernel) rfl rfl (Nat.le_of_ble_eq_true rfl) d_HP_soak_58 (fun H locs hP hD hS => ?_)
        have hP : va_P (dC, dI) vwCl (wd_HP_soak q_this q_layout q_tried q_timing q_found q_works q_layout_low q_layout_high q_layout_loadedSeconds q_layout_emptySeconds cI 0 v_layout_tanks (upd f_layout_low a1.toNatClampNeg a2) (upd f_layout_high a1.toNatClampNeg a3)) H := hP
        have hD : va_D A (wd_HP_soak q_this q_layout q_tried q_timing q_found q_works q_layout_low q_layout_high q_layout_loadedSeconds q_layout_emptySeconds cI 0 v_layout_tanks (upd f_layout_low a1.toNatClampNeg a2) (upd f_layout_high a1.toNatClampNeg a3)) := hD
        cases hF
        exact hq_xvret hx hb hr hlocks hP hD hK hS (Nat.le_of_ble_eq_true rfl) (Nat.le_of_ble_eq_true rfl) d_HP_soak_61
      · have hF := ox_f hF hb7
        refine lv_iconst (v := 1) hx hb d_HP_soak_28 (by decide) ?_
        refine lv_goto (tgt := 33) hx hb d_HP_soak_29 (by decide) ?_
        obtain ⟨x9, hc9, hF⟩ := ox_clS hF
        refine hq_cr (hq_rSX (As := [.int 1]) (rest := []) ⟨hx, hb, hml, hown, hts⟩ (x_HP_require l hfl dC dI _ 1 x9 hc9) ⟨callB_of 1 hts (hq_g1 tw_270) rfl rfl rfl (hts _ tw_266) (hts _ tw_268) yd_HP_require ⟨Nat.le_of_ble_eq_true rfl, Nat.le_of_ble_eq_true rfl⟩, hts _ tw_269⟩ hP hD hK (hq_Gnow hG hns hS) [] rfl [] rfl rfl rfl hl.1 rfl (Nat.le_of_ble_eq_true rfl) d_HP_soak_33 ⟨Nat.le_of_ble_eq_true rfl, Nat.le_of_ble_eq_true rfl⟩) (fun h9 => ?_) (fun h9 q H1 ce g1 g2 g3 g4 g5 => ?_)
        rotate_left
        · have hF := ox_t hF h9
          cases hF
          exact hq_xout hex hlocks h9 g1 g2 g3 (hq_keepP hP g5) hD hK (hq_keepS hS g4 g5) (Nat.le_of_ble_eq_true rfl) (Nat.le_of_ble_eq_true rfl)
        have hF := ox_fn hF h9
        refine lv_aload_n hx hb d_HP_soak_36 rfl (lv_at hl 0 rfl) ?_
        refine va_get (D := (dC, dI)) (ci := 5) (v := .ref q_layout) (C := R_HP) (T := F_HP) (N := 6) hx hb hts uw_HP hown hK hP 0 rfl rfl 0 (by decide) (hts _ tw_157) (fun _ h9 => h9) rfl d_HP_soak_37 ?_
        refine va_get (D := (dC, dI)) (ci := 0) (v := .ref q_layout_low) (C := R_LY) (T := F_LY) (N := 5) hx hb hts uw_LY hown hK hP 1 rfl rfl 1 (by decide) (hts _ tw_279) (fun _ h9 => h9) rfl d_HP_soak_40 ?_
        refine lv_iload_n hx hb d_HP_soak_43 rfl (lv_at hl 1 rfl) ?_
        refine lv_iload_n hx hb d_HP_soak_44 rfl (lv_at hl 2 rfl) ?_
        obtain ⟨hin, hF⟩ := ox_gdS hF
        refine va_iast hx hb hK hP hD hS 2 0 rfl rfl hin d_HP_soak_45 (fun H locs hP hD hS => ?_)
        have hP : va_P (dC, dI) vwCl (wd_HP_soak q_this q_layout q_tried q_timing q_found q_works q_layout_low q_layout_high q_layout_loadedSeconds q_layout_emptySeconds cI v_planned v_layout_tanks (upd f_layout_low a1.toNatClampNeg a2) f_layout_high) H := hP
        have hD : va_D A (wd_HP_soak q_this q_layout q_tried q_timing q_found q_works q_layout_low q_layout_high q_layout_loadedSeconds q_layout_emptySeconds cI v_planned v_layout_tanks (upd f_layout_low a1.toNatClampNeg a2) f_layout_high) := hD
        refine lv_aload_n hx hb d_HP_soak_46 rfl (lv_at hl 0 rfl) ?_
        refine va_get (D := (dC, dI)) (ci := 5) (v := .ref q_layout) (C := R_HP) (T := F_HP) (N := 6) hx hb hts uw_HP hown hK hP 0 rfl rfl 0 (by decide) (hts _ tw_157) (fun _ h9 => h9) rfl d_HP_soak_47 ?_
        refine va_get (D := (dC, dI)) (ci := 0) (v := .ref q_layout_high) (C := R_LY) (T := F_LY) (N := 5) hx hb hts uw_LY hown hK hP 1 rfl rfl 2 (by decide) (hts _ tw_280) (fun _ h9 => h9) rfl d_HP_soak_50 ?_
        refine lv_iload_n hx hb d_HP_soak_53 rfl (lv_at hl 1 rfl) ?_
        refine lv_iload_n hx hb d_HP_soak_54 rfl (lv_at hl 3 rfl) ?_
        obtain ⟨hin, hF⟩ := ox_gdS hF
        refine va_iast hx hb hK hP hD hS 3 0 rfl rfl hin d_HP_soak_55 (fun H locs hP hD hS => ?_)
        have hP : va_P (dC, dI) vwCl (wd_HP_soak q_this q_layout q_tried q_timing q_found q_works q_layout_low q_layout_high q_layout_loadedSeconds q_layout_emptySeconds cI v_planned v_layout_tanks (upd f_layout_low a1.toNatClampNeg a2) (upd f_layout_high a1.toNatClampNeg a3)) H := hP
        have hD : va_D A (wd_HP_soak q_this q_layout q_tried q_timing q_found q_works q_layout_low q_layout_high q_layout_loadedSeconds q_layout_emptySeconds cI v_planned v_layout_tanks (upd f_layout_low a1.toNatClampNeg a2) (upd f_layout_high a1.toNatClampNeg a3)) := hD
        refine lv_aload_n hx hb d_HP_soak_56 rfl (lv_at hl 0 rfl) ?_
        refine lv_iconst (v := 0) hx hb d_HP_soak_57 (by decide) ?_
        refine va_put (D := (dC, dI)) (ci := 5) (v := .int 0) (ty := .boolean) (C := R_HP) (T := F_HP) (N := 6) hx hb hts uw_HP t_HP t_HP_ok n_HP hown hK hP hD hS 0 rfl rfl 5 (by decide) (hts _ tw_263) (fun _ h9 => h9) rfl (by decide +kernel) rfl rfl (Nat.le_of_ble_eq_true rfl) d_HP_soak_58 (fun H locs hP hD hS => ?_)
        have hP : va_P (dC, dI) vwCl (wd_HP_soak q_this q_layout q_tried q_timing q_found q_works q_layout_low q_layout_high q_layout_loadedSeconds q_layout_emptySeconds cI 0 v_layout_tanks (upd f_layout_low a1.toNatClampNeg a2) (upd f_layout_high a1.toNatClampNeg a3)) H := hP
        have hD : va_D A (wd_HP_soak q_this q_layout q_tried q_timing q_found q_works q_layout_low q_layout_high q_layout_loadedSeconds q_layout_emptySeconds cI 0 v_layout_tanks (upd f_layout_low a1.toNatClampNeg a2) (upd f_layout_high a1.toNatClampNeg a3)) := hD
        cases hF
        exact hq_xvret hx hb hr hlocks hP hD hK hS (Nat.le_of_ble_eq_true rfl) (Nat.le_of_ble_eq_true rfl) d_HP_soak_61
abbrev wd_HP_loaded (q_this : Nat) (q_layout : Nat) (q_tried : Nat) (q_timing : Nat) (q_found : Nat) (q_works : Nat) (q_layout_low : Nat) (q_layout_high : Nat) (q_layout_loadedSeconds : Nat) (q_layout_emptySeconds : Nat) (cI : ClassId) (v_planned : Int32) (v_layout_tanks : Int32) (f_layout_loadedSeconds : Nat → Int32) : va_W := [(q_this, .inr (5, [.ref q_layout, .ref q_tried, .ref q_timing, .ref q_found, .ref q_works, .int v_planned])), (q_layout, .inr (0, [.int v_layout_tanks, .ref q_layout_low, .ref q_layout_high, .ref q_layout_loadedSeconds, .ref q_layout_emptySeconds])), (q_layout_loadedSeconds, .inl (cI, 6, .inl f_layout_loadedSeconds))]
set_option maxHeartbeats 4000000 in
set_option maxRecDepth 100000 in
theorem x_HP_loaded (l : Launch) (hfl : l.flags = pinnedFlags ++ [noTraceFlag]) (dC : Nat → ClassId) (dI : Nat → Nat → Nat) (q_this : Nat) (q_layout : Nat) (q_tried : Nat) (q_timing : Nat) (q_found : Nat) (q_works : Nat) (q_layout_low : Nat) (q_layout_high : Nat) (q_layout_loadedSeconds : Nat) (q_layout_emptySeconds : Nat) (cI : ClassId) (sz : Nat) (a1 : Int32) (a2 : Int32) (v_planned : Int32) (v_layout_tanks : Int32) (f_layout_loadedSeconds : Nat → Int32) (xc : Nat) (n_v_planned : Int32) (n_f_layout_loadedSeconds : Nat → Int32) (hF : fn_HP_loaded a1 a2 v_planned v_layout_tanks f_layout_loadedSeconds = some (xc, n_v_planned, n_f_layout_loadedSeconds)) : hq_Met l y_HP_loaded w_HP_loaded ({ frames := 7, cells := 2, slots := 12, locals := 110 }) (hq_PcX (dC, dI) vwCl [(cI, .int)] (wd_HP_loaded q_this q_layout q_tried q_timing q_found q_works q_layout_low q_layout_high q_layout_loadedSeconds q_layout_emptySeconds cI v_planned v_layout_tanks f_layout_loadedSeconds) sz [.ref q_this, .int a1, .int a2]) (hq_Qx (dC, dI) vwCl [(cI, .int)] (wd_HP_loaded q_this q_layout q_tried q_timing q_found q_works q_layout_low q_layout_high q_layout_loadedSeconds q_layout_emptySeconds cI n_v_planned v_layout_tanks n_f_layout_loadedSeconds) xc none (va_A (wd_HP_loaded q_this q_layout q_tried q_timing q_found q_works q_layout_low q_layout_high q_layout_loadedSeconds q_layout_emptySeconds cI v_planned v_layout_tanks f_layout_loadedSeconds) sz)) 2 12 (va_A (wd_HP_loaded q_this q_layout q_tried q_timing q_found q_works q_layout_low q_layout_high q_layout_loadedSeconds q_layout_emptySeconds cI v_planned v_layout_tanks f_layout_loadedSeconds) sz) := by
  refine hq_metX hfl (Qc := hq_Qx (dC, dI) vwCl [(cI, .int)] (wd_HP_loaded q_this q_layout q_tried q_timing q_found q_works q_layout_low q_layout_high q_layout_loadedSeconds q_layout_emptySeconds cI n_v_planned v_layout_tanks n_f_layout_loadedSeconds) xc none) (fr := fun A => A) (cc := b_HP_loaded) (maxL := 3) (ret := none) (by decide) rfl (Nat.le_of_ble_eq_true rfl) ?_
  intro p e s m args below meth c A ls hx hb hr hml hts hown hlocks hnm hP hD hK hA hS hl htr hex hG hns
  have hts : ∀ w ∈ tb0, w.before args s = true := fun w h => hts w (List.mem_cons_of_mem _ h)
  have hown : s.vm.findClass R_HP = some m.cls := hown
  have hl : lv_has ls 3 [(0, .ref q_this), (1, .int a1), (2, .int a2)] := hl
  unfold fn_HP_loaded at hF
  refine lv_aload_n hx hb d_HP_loaded_0 rfl (lv_at hl 0 rfl) ?_
  refine va_get (D := (dC, dI)) (ci := 5) (v := .ref q_layout) (C := R_HP) (T := F_HP) (N := 6) hx hb hts uw_HP hown hK hP 0 rfl rfl 0 (by decide) (hts _ tw_157) (fun _ h9 => h9) rfl d_HP_loaded_1 ?_
  refine lv_iload_n hx hb d_HP_loaded_4 rfl (lv_at hl 1 rfl) ?_
  obtain ⟨r1, hc1, hF⟩ := ox_clS hF
  refine hq_ci (ws' := (wd_HP_loaded q_this q_layout q_tried q_timing q_found q_works q_layout_low q_layout_high q_layout_loadedSeconds q_layout_emptySeconds cI v_planned v_layout_tanks f_layout_loadedSeconds)) (hq_rV (As := [.int a1]) (rest := []) ⟨hx, hb, hml, hown, hts⟩ (c_LY_hasMove l dC dI q_layout q_layout_low q_layout_high q_layout_loadedSeconds q_layout_emptySeconds _ a1 v_layout_tanks r1 hc1) (cwV 1 hts (hq_gV tw_281 tw_282 tw_283 tw_12 tw_284) rfl rfl rfl yv_LY_hasMove ⟨Nat.le_of_ble_eq_true rfl, Nat.le_of_ble_eq_true rfl⟩) hP hD hK [] rfl 1 rfl rfl [1] rfl rfl rfl hl.1 rfl (Nat.le_of_ble_eq_true rfl) d_HP_loaded_5 ⟨Nat.le_of_ble_eq_true rfl, Nat.le_of_ble_eq_true rfl⟩) hP hD hS hA [1] [0, 2] [0, 2, 1] rfl rfl rfl (by decide) rfl rfl (fun H locs hP hD hS => ?_)
  obtain ⟨x2, hc2, hF⟩ := ox_clS hF
  refine hq_cr (hq_rSX (As := [.int r1]) (rest := []) ⟨hx, hb, hml, hown, hts⟩ (x_HP_require l hfl dC dI _ r1 x2 hc2) ⟨callB_of 1 hts (hq_g1 tw_270) rfl rfl rfl (hts _ tw_266) (hts _ tw_268) yd_HP_require ⟨Nat.le_of_ble_eq_true rfl, Nat.le_of_ble_eq_true rfl⟩, hts _ tw_269⟩ hP hD hK (hq_Gnow hG hns hS) [] rfl [] rfl rfl rfl hl.1 rfl (Nat.le_of_ble_eq_true rfl) d_HP_loaded_8 ⟨Nat.le_of_ble_eq_true rfl, Nat.le_of_ble_eq_true rfl⟩) (fun h2 => ?_) (fun h2 q H1 ce g1 g2 g3 g4 g5 => ?_)
  rotate_left
  · have hF := ox_t hF h2
    cases hF
    exact hq_xout hex hlocks h2 g1 g2 g3 (hq_keepP hP g5) hD hK (hq_keepS hS g4 g5) (Nat.le_of_ble_eq_true rfl) (Nat.le_of_ble_eq_true rfl)
  have hF := ox_fn hF h2
  refine lv_iload_n hx hb d_HP_loaded_11 rfl (lv_at hl 2 rfl) ?_
  refine lv_iconst (v := 1) hx hb d_HP_loaded_12 (by decide) ?_
  refine lv_bipush (v := 100) hx hb d_HP_loaded_13 (by decide) ?_
  obtain ⟨r3, hc3, hF⟩ := ox_clS hF
  refine hq_ci (ws' := (wd_HP_loaded q_this q_layout q_tried q_timing q_found q_works q_layout_low q_layout_high q_layout_loadedSeconds q_layout_emptySeconds cI v_planned v_layout_tanks f_layout_loadedSeconds)) (hq_rS (As := [.int a2, .int 1, .int 100]) (rest := []) ⟨hx, hb, hml, hown, hts⟩ (c_HP_isWithin l dC dI _ a2 1 100 r3 hc3) ⟨callB_of 3 hts (hq_g1 tw_267) rfl rfl rfl (hts _ tw_266) (hts _ tw_264) yd_HP_isWithin ⟨Nat.le_of_ble_eq_true rfl, Nat.le_of_ble_eq_true rfl⟩, hts _ tw_265⟩ hP hD hK [] rfl [] rfl rfl rfl hl.1 rfl (Nat.le_of_ble_eq_true rfl) d_HP_loaded_15 ⟨Nat.le_of_ble_eq_true rfl, Nat.le_of_ble_eq_true rfl⟩) hP hD hS hA [] [0, 1, 2] [0, 1, 2] rfl rfl rfl (by decide) rfl rfl (fun H locs hP hD hS => ?_)
  obtain ⟨x4, hc4, hF⟩ := ox_clS hF
  refine hq_cr (hq_rSX (As := [.int r3]) (rest := []) ⟨hx, hb, hml, hown, hts⟩ (x_HP_require l hfl dC dI _ r3 x4 hc4) ⟨callB_of 1 hts (hq_g1 tw_270) rfl rfl rfl (hts _ tw_266) (hts _ tw_268) yd_HP_require ⟨Nat.le_of_ble_eq_true rfl, Nat.le_of_ble_eq_true rfl⟩, hts _ tw_269⟩ hP hD hK (hq_Gnow hG hns hS) [] rfl [] rfl rfl rfl hl.1 rfl (Nat.le_of_ble_eq_true rfl) d_HP_loaded_18 ⟨Nat.le_of_ble_eq_true rfl, Nat.le_of_ble_eq_true rfl⟩) (fun h4 => ?_) (fun h4 q H1 ce g1 g2 g3 g4 g5 => ?_)
  rotate_left
  · have hF := ox_t hF h4
    cases hF
    exact hq_xout hex hlocks h4 g1 g2 g3 (hq_keepP hP g5) hD hK (hq_keepS hS g4 g5) (Nat.le_of_ble_eq_true rfl) (Nat.le_of_ble_eq_true rfl)
  have hF := ox_fn hF h4
  refine lv_aload_n hx hb d_HP_loaded_21 rfl (lv_at hl 0 rfl) ?_
  refine va_get (D := (dC, dI)) (ci := 5) (v := .ref q_layout) (C := R_HP) (T := F_HP) (N := 6) hx hb hts uw_HP hown hK hP 0 rfl rfl 0 (by decide) (hts _ tw_157) (fun _ h9 => h9) rfl d_HP_loaded_22 ?_
  refine va_get (D := (dC, dI)) (ci := 0) (v := .ref q_layout_loadedSeconds) (C := R_LY) (T := F_LY) (N := 5) hx hb hts uw_LY hown hK hP 1 rfl rfl 3 (by decide) (hts _ tw_285) (fun _ h9 => h9) rfl d_HP_loaded_25 ?_
  refine lv_iload_n hx hb d_HP_loaded_28 rfl (lv_at hl 1 rfl) ?_
  refine lv_iload_n hx hb d_HP_loaded_29 rfl (lv_at hl 2 rfl) ?_
  obtain ⟨hin, hF⟩ := ox_gdS hF
  refine va_iast hx hb hK hP hD hS 2 0 rfl rfl hin d_HP_loaded_30 (fun H locs hP hD hS => ?_)
  have hP : va_P (dC, dI) vwCl (wd_HP_loaded q_this q_layout q_tried q_timing q_found q_works q_layout_low q_layout_high q_layout_loadedSeconds q_layout_emptySeconds cI v_planned v_layout_tanks (upd f_layout_loadedSeconds a1.toNatClampNeg a2)) H := hP
  have hD : va_D A (wd_HP_loaded q_this q_layout q_tried q_timing q_found q_works q_layout_low q_layout_high q_layout_loadedSeconds q_layout_emptySeconds cI v_planned v_layout_tanks (upd f_layout_loadedSeconds a1.toNatClampNeg a2)) := hD
  refine lv_aload_n hx hb d_HP_loaded_31 rfl (lv_at hl 0 rfl) ?_
  refine lv_iconst (v := 0) hx hb d_HP_loaded_32 (by decide) ?_
  refine va_put (D := (dC, dI)) (ci := 5) (v := .int 0) (ty := .boolean) (C := R_HP) (T := F_HP) (N := 6) hx hb hts uw_HP t_HP t_HP_ok n_HP hown hK hP hD hS 0 rfl rfl 5 (by decide) (hts _ tw_263) (fun _ h9 => h9) rfl (by decide +kernel) rfl rfl (Nat.le_of_ble_eq_true rfl) d_HP_loaded_33 (fun H locs hP hD hS => ?_)
  have hP : va_P (dC, dI) vwCl (wd_HP_loaded q_this q_layout q_tried q_timing q_found q_works q_layout_low q_layout_high q_layout_loadedSeconds q_layout_emptySeconds cI 0 v_layout_tanks (upd f_layout_loadedSeconds a1.toNatClampNeg a2)) H := hP
  have hD : va_D A (wd_HP_loaded q_this q_layout q_tried q_timing q_found q_works q_layout_low q_layout_high q_layout_loadedSeconds q_layout_emptySeconds cI 0 v_layout_tanks (upd f_layout_loadedSeconds a1.toNatClampNeg a2)) := hD
  cases hF
  exact hq_xvret hx hb hr hlocks hP hD hK hS (Nat.le_of_ble_eq_true rfl) (Nat.le_of_ble_eq_true rfl) d_HP_loaded_36
abbrev wd_HP_empty (q_this : Nat) (q_layout : Nat) (q_tried : Nat) (q_timing : Nat) (q_found : Nat) (q_works : Nat) (q_layout_low : Nat) (q_layout_high : Nat) (q_layout_loadedSeconds : Nat) (q_layout_emptySeconds : Nat) (qr_layout_emptySeconds : Nat → Nat) (cI : ClassId) (cO : ClassId) (v_planned : Int32) (v_layout_tanks : Int32) (f_layout_emptySeconds : Nat → Nat → Int32) : va_W := [(q_this, .inr (5, [.ref q_layout, .ref q_tried, .ref q_timing, .ref q_found, .ref q_works, .int v_planned])), (q_layout, .inr (0, [.int v_layout_tanks, .ref q_layout_low, .ref q_layout_high, .ref q_layout_loadedSeconds, .ref q_layout_emptySeconds])), (q_layout_emptySeconds, .inl (hq_out cO qr_layout_emptySeconds))] ++ hq_rows cI qr_layout_emptySeconds f_layout_emptySeconds
set_option maxHeartbeats 4000000 in
set_option maxRecDepth 100000 in
theorem x_HP_empty (l : Launch) (hfl : l.flags = pinnedFlags ++ [noTraceFlag]) (dC : Nat → ClassId) (dI : Nat → Nat → Nat) (q_this : Nat) (q_layout : Nat) (q_tried : Nat) (q_timing : Nat) (q_found : Nat) (q_works : Nat) (q_layout_low : Nat) (q_layout_high : Nat) (q_layout_loadedSeconds : Nat) (q_layout_emptySeconds : Nat) (qr_layout_emptySeconds : Nat → Nat) (cI : ClassId) (cO : ClassId) (sz : Nat) (a1 : Int32) (a2 : Int32) (a3 : Int32) (v_planned : Int32) (v_layout_tanks : Int32) (f_layout_emptySeconds : Nat → Nat → Int32) (xc : Nat) (n_v_planned : Int32) (n_f_layout_emptySeconds : Nat → Nat → Int32) (hF : fn_HP_empty a1 a2 a3 v_planned v_layout_tanks f_layout_emptySeconds = some (xc, n_v_planned, n_f_layout_emptySeconds)) : hq_Met l y_HP_empty w_HP_empty ({ frames := 7, cells := 2, slots := 12, locals := 110 }) (hq_PcX (dC, dI) vwCl [(cI, .int), (cO, .array .int)] (wd_HP_empty q_this q_layout q_tried q_timing q_found q_works q_layout_low q_layout_high q_layout_loadedSeconds q_layout_emptySeconds qr_layout_emptySeconds cI cO v_planned v_layout_tanks f_layout_emptySeconds) sz [.ref q_this, .int a1, .int a2, .int a3]) (hq_Qx (dC, dI) vwCl [(cI, .int), (cO, .array .int)] (wd_HP_empty q_this q_layout q_tried q_timing q_found q_works q_layout_low q_layout_high q_layout_loadedSeconds q_layout_emptySeconds qr_layout_emptySeconds cI cO n_v_planned v_layout_tanks n_f_layout_emptySeconds) xc none (va_A (wd_HP_empty q_this q_layout q_tried q_timing q_found q_works q_layout_low q_layout_high q_layout_loadedSeconds q_layout_emptySeconds qr_layout_emptySeconds cI cO v_planned v_layout_tanks f_layout_emptySeconds) sz)) 2 12 (va_A (wd_HP_empty q_this q_layout q_tried q_timing q_found q_works q_layout_low q_layout_high q_layout_loadedSeconds q_layout_emptySeconds qr_layout_emptySeconds cI cO v_planned v_layout_tanks f_layout_emptySeconds) sz) := by
  refine hq_metX hfl (Qc := hq_Qx (dC, dI) vwCl [(cI, .int), (cO, .array .int)] (wd_HP_empty q_this q_layout q_tried q_timing q_found q_works q_layout_low q_layout_high q_layout_loadedSeconds q_layout_emptySeconds qr_layout_emptySeconds cI cO n_v_planned v_layout_tanks n_f_layout_emptySeconds) xc none) (fr := fun A => A) (cc := b_HP_empty) (maxL := 4) (ret := none) (by decide) rfl (Nat.le_of_ble_eq_true rfl) ?_
  intro p e s m args below meth c A ls hx hb hr hml hts hown hlocks hnm hP hD hK hA hS hl htr hex hG hns
  have hts : ∀ w ∈ tb0, w.before args s = true := fun w h => hts w (List.mem_cons_of_mem _ h)
  have hown : s.vm.findClass R_HP = some m.cls := hown
  have hl : lv_has ls 4 [(0, .ref q_this), (1, .int a1), (2, .int a2), (3, .int a3)] := hl
  unfold fn_HP_empty at hF
  refine lv_aload_n hx hb d_HP_empty_0 rfl (lv_at hl 0 rfl) ?_
  refine va_get (D := (dC, dI)) (ci := 5) (v := .ref q_layout) (C := R_HP) (T := F_HP) (N := 6) hx hb hts uw_HP hown hK hP 0 rfl rfl 0 (by decide) (hts _ tw_157) (fun _ h9 => h9) rfl d_HP_empty_1 ?_
  refine lv_iload_n hx hb d_HP_empty_4 rfl (lv_at hl 1 rfl) ?_
  obtain ⟨r1, hc1, hF⟩ := ox_clS hF
  refine hq_ci (ws' := (wd_HP_empty q_this q_layout q_tried q_timing q_found q_works q_layout_low q_layout_high q_layout_loadedSeconds q_layout_emptySeconds qr_layout_emptySeconds cI cO v_planned v_layout_tanks f_layout_emptySeconds)) (hq_rV (As := [.int a1]) (rest := []) ⟨hx, hb, hml, hown, hts⟩ (c_LY_hasPlace l dC dI q_layout q_layout_low q_layout_high q_layout_loadedSeconds q_layout_emptySeconds _ a1 v_layout_tanks r1 hc1) (cwV 1 hts (hq_gV tw_286 tw_287 tw_288 tw_12 tw_289) rfl rfl rfl yv_LY_hasPlace ⟨Nat.le_of_ble_eq_true rfl, Nat.le_of_ble_eq_true rfl⟩) hP hD hK [] rfl 1 rfl rfl [1] rfl rfl rfl hl.1 rfl (Nat.le_of_ble_eq_true rfl) d_HP_empty_5 ⟨Nat.le_of_ble_eq_true rfl, Nat.le_of_ble_eq_true rfl⟩) hP hD hS hA [1] [0, 2, 3, 4, 5, 6, 7, 8, 9] [0, 9, 1, 2, 3, 4, 5, 6, 7, 8] rfl rfl rfl (by decide) rfl rfl (fun H locs hP hD hS => ?_)
  refine lv_if_eq (tgt := 31) hx hb d_HP_empty_8 (by decide) (fun hb2 => ?_) (fun hb2 => ?_)
  · have hF := ox_t hF hb2
    refine lv_iconst (v := 0) hx hb d_HP_empty_31 (by decide) ?_
    obtain ⟨x3, hc3, hF⟩ := ox_clS hF
    refine hq_cr (hq_rSX (As := [.int 0]) (rest := []) ⟨hx, hb, hml, hown, hts⟩ (x_HP_require l hfl dC dI _ 0 x3 hc3) ⟨callB_of 1 hts (hq_g1 tw_270) rfl rfl rfl (hts _ tw_266) (hts _ tw_268) yd_HP_require ⟨Nat.le_of_ble_eq_true rfl, Nat.le_of_ble_eq_true rfl⟩, hts _ tw_269⟩ hP hD hK (hq_Gnow hG hns hS) [] rfl [] rfl rfl rfl hl.1 rfl (Nat.le_of_ble_eq_true rfl) d_HP_empty_32 ⟨Nat.le_of_ble_eq_true rfl, Nat.le_of_ble_eq_true rfl⟩) (fun h3 => ?_) (fun h3 q H1 ce g1 g2 g3 g4 g5 => ?_)
    rotate_left
    · have hF := ox_t hF h3
      cases hF
      exact hq_xout hex hlocks h3 g1 g2 g3 (hq_keepP hP g5) hD hK (hq_keepS hS g4 g5) (Nat.le_of_ble_eq_true rfl) (Nat.le_of_ble_eq_true rfl)
    have hF := ox_fn hF h3
    refine lv_iload_n hx hb d_HP_empty_35 rfl (lv_at hl 3 rfl) ?_
    refine lv_iconst (v := 0) hx hb d_HP_empty_36 (by decide) ?_
    refine lv_bipush (v := 100) hx hb d_HP_empty_37 (by decide) ?_
    obtain ⟨r4, hc4, hF⟩ := ox_clS hF
    refine hq_ci (ws' := (wd_HP_empty q_this q_layout q_tried q_timing q_found q_works q_layout_low q_layout_high q_layout_loadedSeconds q_layout_emptySeconds qr_layout_emptySeconds cI cO v_planned v_layout_tanks f_layout_emptySeconds)) (hq_rS (As := [.int a3, .int 0, .int 100]) (rest := []) ⟨hx, hb, hml, hown, hts⟩ (c_HP_isWithin l dC dI _ a3 0 100 r4 hc4) ⟨callB_of 3 hts (hq_g1 tw_267) rfl rfl rfl (hts _ tw_266) (hts _ tw_264) yd_HP_isWithin ⟨Nat.le_of_ble_eq_true rfl, Nat.le_of_ble_eq_true rfl⟩, hts _ tw_265⟩ hP hD hK [] rfl [] rfl rfl rfl hl.1 rfl (Nat.le_of_ble_eq_true rfl) d_HP_empty_39 ⟨Nat.le_of_ble_eq_true rfl, Nat.le_of_ble_eq_true rfl⟩) hP hD hS hA [] [0, 1, 2, 3, 4, 5, 6, 7, 8, 9] [0, 1, 2, 3, 4, 5, 6, 7, 8, 9] rfl rfl rfl (by decide) rfl rfl (fun H locs hP hD hS => ?_)
    obtain ⟨x5, hc5, hF⟩ := ox_clS hF
    refine hq_cr (hq_rSX (As := [.int r4]) (rest := []) ⟨hx, hb, hml, hown, hts⟩ (x_HP_require l hfl dC dI _ r4 x5 hc5) ⟨callB_of 1 hts (hq_g1 tw_270) rfl rfl rfl (hts _ tw_266) (hts _ tw_268) yd_HP_require ⟨Nat.le_of_ble_eq_true rfl, Nat.le_of_ble_eq_true rfl⟩, hts _ tw_269⟩ hP hD hK (hq_Gnow hG hns hS) [] rfl [] rfl rfl rfl hl.1 rfl (Nat.le_of_ble_eq_true rfl) d_HP_empty_42 ⟨Nat.le_of_ble_eq_true rfl, Nat.le_of_ble_eq_true rfl⟩) (fun h5 => ?_) (fun h5 q H1 ce g1 g2 g3 g4 g5 => ?_)
    rotate_left
    · have hF := ox_t hF h5
      cases hF
      exact hq_xout hex hlocks h5 g1 g2 g3 (hq_keepP hP g5) hD hK (hq_keepS hS g4 g5) (Nat.le_of_ble_eq_true rfl) (Nat.le_of_ble_eq_true rfl)
    have hF := ox_fn hF h5
    refine lv_aload_n hx hb d_HP_empty_45 rfl (lv_at hl 0 rfl) ?_
    refine va_get (D := (dC, dI)) (ci := 5) (v := .ref q_layout) (C := R_HP) (T := F_HP) (N := 6) hx hb hts uw_HP hown hK hP 0 rfl rfl 0 (by decide) (hts _ tw_157) (fun _ h9 => h9) rfl d_HP_empty_46 ?_
    refine va_get (D := (dC, dI)) (ci := 0) (v := .ref q_layout_emptySeconds) (C := R_LY) (T := F_LY) (N := 5) hx hb hts uw_LY hown hK hP 1 rfl rfl 4 (by decide) (hts _ tw_290) (fun _ h9 => h9) rfl d_HP_empty_49 ?_
    refine lv_iload_n hx hb d_HP_empty_52 rfl (lv_at hl 1 rfl) ?_
    obtain ⟨hin, hF⟩ := ox_gdS hF
    refine hq_gld (qr := qr_layout_emptySeconds) hx hb hK hP 2 1 rfl rfl hin d_HP_empty_53 ?_
    have hro53 := hq_lt hin
    refine lv_iload_n hx hb d_HP_empty_54 rfl (lv_at hl 2 rfl) ?_
    refine lv_iload_n hx hb d_HP_empty_55 rfl (lv_at hl 3 rfl) ?_
    obtain ⟨hin, hF⟩ := ox_gdS hF
    refine va_iast hx hb hK hP hD hS (3 + a1.toNatClampNeg) 0 (hq_rowAt _ _ _ _ rfl hro53) rfl hin d_HP_empty_56 (fun H locs hP hD hS => ?_)
    have hP : va_P (dC, dI) vwCl (wd_HP_empty q_this q_layout q_tried q_timing q_found q_works q_layout_low q_layout_high q_layout_loadedSeconds q_layout_emptySeconds qr_layout_emptySeconds cI cO v_planned v_layout_tanks (va_up f_layout_emptySeconds a1.toNatClampNeg (upd (f_layout_emptySeconds a1.toNatClampNeg) a2.toNatClampNeg a3))) H := hq_rowP (k := a1.toNatClampNeg) (n := 3) hP rfl hro53
    have hD : va_D A (wd_HP_empty q_this q_layout q_tried q_timing q_found q_works q_layout_low q_layout_high q_layout_loadedSeconds q_layout_emptySeconds qr_layout_emptySeconds cI cO v_planned v_layout_tanks (va_up f_layout_emptySeconds a1.toNatClampNeg (upd (f_layout_emptySeconds a1.toNatClampNeg) a2.toNatClampNeg a3))) := hq_rowD (k := a1.toNatClampNeg) (n := 3) hD rfl hro53
    have hP : va_P (dC, dI) vwCl (wd_HP_empty q_this q_layout q_tried q_timing q_found q_works q_layout_low q_layout_high q_layout_loadedSeconds q_layout_emptySeconds qr_layout_emptySeconds cI cO v_planned v_layout_tanks (va_up f_layout_emptySeconds a1.toNatClampNeg (upd (f_layout_emptySeconds a1.toNatClampNeg) a2.toNatClampNeg a3))) H := hP
    have hD : va_D A (wd_HP_empty q_this q_layout q_tried q_timing q_found q_works q_layout_low q_layout_high q_layout_loadedSeconds q_layout_emptySeconds qr_layout_emptySeconds cI cO v_planned v_layout_tanks (va_up f_layout_emptySeconds a1.toNatClampNeg (upd (f_layout_emptySeconds a1.toNatClampNeg) a2.toNatClampNeg a3))) := hD
    refine lv_aload_n hx hb d_HP_empty_57 rfl (lv_at hl 0 rfl) ?_
    refine lv_iconst (v := 0) hx hb d_HP_empty_58 (by decide) ?_
    refine va_put (D := (dC, dI)) (ci := 5) (v := .int 0) (ty := .boolean) (C := R_HP) (T := F_HP) (N := 6) hx hb hts uw_HP t_HP t_HP_ok n_HP hown hK hP hD hS 0 rfl rfl 5 (by decide) (hts _ tw_263) (fun _ h9 => h9) rfl (by decide +kernel) rfl rfl (Nat.le_of_ble_eq_true rfl) d_HP_empty_59 (fun H locs hP hD hS => ?_)
    have hP : va_P (dC, dI) vwCl (wd_HP_empty q_this q_layout q_tried q_timing q_found q_works q_layout_low q_layout_high q_layout_loadedSeconds q_layout_emptySeconds qr_layout_emptySeconds cI cO 0 v_layout_tanks (va_up f_layout_emptySeconds a1.toNatClampNeg (upd (f_layout_emptySeconds a1.toNatClampNeg) a2.toNatClampNeg a3))) H := hP
    have hD : va_D A (wd_HP_empty q_this q_layout q_tried q_timing q_found q_works q_layout_low q_layout_high q_layout_loadedSeconds q_layout_emptySeconds qr_layout_emptySeconds cI cO 0 v_layout_tanks (va_up f_layout_emptySeconds a1.toNatClampNeg (upd (f_layout_emptySeconds a1.toNatClampNeg) a2.toNatClampNeg a3))) := hD
    cases hF
    exact hq_xvret hx hb hr hlocks hP hD hK hS (Nat.le_of_ble_eq_true rfl) (Nat.le_of_ble_eq_true rfl) d_HP_empty_62
  · have hF := ox_f hF hb2
    refine lv_aload_n hx hb d_HP_empty_11 rfl (lv_at hl 0 rfl) ?_
    refine va_get (D := (dC, dI)) (ci := 5) (v := .ref q_layout) (C := R_HP) (T := F_HP) (N := 6) hx hb hts uw_HP hown hK hP 0 rfl rfl 0 (by decide) (hts _ tw_157) (fun _ h9 => h9) rfl d_HP_empty_12 ?_
    refine lv_iload_n hx hb d_HP_empty_15 rfl (lv_at hl 2 rfl) ?_
    obtain ⟨r6, hc6, hF⟩ := ox_clS hF
    refine hq_ci (ws' := (wd_HP_empty q_this q_layout q_tried q_timing q_found q_works q_layout_low q_layout_high q_layout_loadedSeconds q_layout_emptySeconds qr_layout_emptySeconds cI cO v_planned v_layout_tanks f_layout_emptySeconds)) (hq_rV (As := [.int a2]) (rest := []) ⟨hx, hb, hml, hown, hts⟩ (c_LY_hasPlace l dC dI q_layout q_layout_low q_layout_high q_layout_loadedSeconds q_layout_emptySeconds _ a2 v_layout_tanks r6 hc6) (cwV 1 hts (hq_gV tw_286 tw_287 tw_288 tw_12 tw_289) rfl rfl rfl yv_LY_hasPlace ⟨Nat.le_of_ble_eq_true rfl, Nat.le_of_ble_eq_true rfl⟩) hP hD hK [] rfl 1 rfl rfl [1] rfl rfl rfl hl.1 rfl (Nat.le_of_ble_eq_true rfl) d_HP_empty_16 ⟨Nat.le_of_ble_eq_true rfl, Nat.le_of_ble_eq_true rfl⟩) hP hD hS hA [1] [0, 2, 3, 4, 5, 6, 7, 8, 9] [0, 9, 1, 2, 3, 4, 5, 6, 7, 8] rfl rfl rfl (by decide) rfl rfl (fun H locs hP hD hS => ?_)
    refine lv_if_eq (tgt := 31) hx hb d_HP_empty_19 (by decide) (fun hb7 => ?_) (fun hb7 => ?_)
    · have hF := ox_t hF hb7
      refine lv_iconst (v := 0) hx hb d_HP_empty_31 (by decide) ?_
      obtain ⟨x8, hc8, hF⟩ := ox_clS hF
      refine hq_cr (hq_rSX (As := [.int 0]) (rest := []) ⟨hx, hb, hml, hown, hts⟩ (x_HP_require l hfl dC dI _ 0 x8 hc8) ⟨callB_of 1 hts (hq_g1 tw_270) rfl rfl rfl (hts _ tw_266) (hts _ tw_268) yd_HP_require ⟨Nat.le_of_ble_eq_true rfl, Nat.le_of_ble_eq_true rfl⟩, hts _ tw_269⟩ hP hD hK (hq_Gnow hG hns hS) [] rfl [] rfl rfl rfl hl.1 rfl (Nat.le_of_ble_eq_true rfl) d_HP_empty_32 ⟨Nat.le_of_ble_eq_true rfl, Nat.le_of_ble_eq_true rfl⟩) (fun h8 => ?_) (fun h8 q H1 ce g1 g2 g3 g4 g5 => ?_)
      rotate_left
      · have hF := ox_t hF h8
        cases hF
        exact hq_xout hex hlocks h8 g1 g2 g3 (hq_keepP hP g5) hD hK (hq_keepS hS g4 g5) (Nat.le_of_ble_eq_true rfl) (Nat.le_of_ble_eq_true rfl)
      have hF := ox_fn hF h8
      refine lv_iload_n hx hb d_HP_empty_35 rfl (lv_at hl 3 rfl) ?_
      refine lv_iconst (v := 0) hx hb d_HP_empty_36 (by decide) ?_
      refine lv_bipush (v := 100) hx hb d_HP_empty_37 (by decide) ?_
      obtain ⟨r9, hc9, hF⟩ := ox_clS hF
      refine hq_ci (ws' := (wd_HP_empty q_this q_layout q_tried q_timing q_found q_works q_layout_low q_layout_high q_layout_loadedSeconds q_layout_emptySeconds qr_layout_emptySeconds cI cO v_planned v_layout_tanks f_layout_emptySeconds)) (hq_rS (As := [.int a3, .int 0, .int 100]) (rest := []) ⟨hx, hb, hml, hown, hts⟩ (c_HP_isWithin l dC dI _ a3 0 100 r9 hc9) ⟨callB_of 3 hts (hq_g1 tw_267) rfl rfl rfl (hts _ tw_266) (hts _ tw_264) yd_HP_isWithin ⟨Nat.le_of_ble_eq_true rfl, Nat.le_of_ble_eq_true rfl⟩, hts _ tw_265⟩ hP hD hK [] rfl [] rfl rfl rfl hl.1 rfl (Nat.le_of_ble_eq_true rfl) d_HP_empty_39 ⟨Nat.le_of_ble_eq_true rfl, Nat.le_of_ble_eq_true rfl⟩) hP hD hS hA [] [0, 1, 2, 3, 4, 5, 6, 7, 8, 9] [0, 1, 2, 3, 4, 5, 6, 7, 8, 9] rfl rfl rfl (by decide) rfl rfl (fun H locs hP hD hS => ?_)
      obtain ⟨x10, hc10, hF⟩ := ox_clS hF
      refine hq_cr (hq_rSX (As := [.int r9]) (rest := []) ⟨hx, hb, hml, hown, hts⟩ (x_HP_require l hfl dC dI _ r9 x10 hc10) ⟨callB_of 1 hts (hq_g1 tw_270) rfl rfl rfl (hts _ tw_266) (hts _ tw_268) yd_HP_require ⟨Nat.le_of_ble_eq_true rfl, Nat.le_of_ble_eq_true rfl⟩, hts _ tw_269⟩ hP hD hK (hq_Gnow hG hns hS) [] rfl [] rfl rfl rfl hl.1 rfl (Nat.le_of_ble_eq_true rfl) d_HP_empty_42 ⟨Nat.le_of_ble_eq_true rfl, Nat.le_of_ble_eq_true rfl⟩) (fun h10 => ?_) (fun h10 q H1 ce g1 g2 g3 g4 g5 => ?_)
      rotate_left
      · have hF := ox_t hF h10
        cases hF
        exact hq_xout hex hlocks h10 g1 g2 g3 (hq_keepP hP g5) hD hK (hq_keepS hS g4 g5) (Nat.le_of_ble_eq_true rfl) (Nat.le_of_ble_eq_true rfl)
      have hF := ox_fn hF h10
      refine lv_aload_n hx hb d_HP_empty_45 rfl (lv_at hl 0 rfl) ?_
      refine va_get (D := (dC, dI)) (ci := 5) (v := .ref q_layout) (C := R_HP) (T := F_HP) (N := 6) hx hb hts uw_HP hown hK hP 0 rfl rfl 0 (by decide) (hts _ tw_157) (fun _ h9 => h9) rfl d_HP_empty_46 ?_
      refine va_get (D := (dC, dI)) (ci := 0) (v := .ref q_layout_emptySeconds) (C := R_LY) (T := F_LY) (N := 5) hx hb hts uw_LY hown hK hP 1 rfl rfl 4 (by decide) (hts _ tw_290) (fun _ h9 => h9) rfl d_HP_empty_49 ?_
      refine lv_iload_n hx hb d_HP_empty_52 rfl (lv_at hl 1 rfl) ?_
      obtain ⟨hin, hF⟩ := ox_gdS hF
      refine hq_gld (qr := qr_layout_emptySeconds) hx hb hK hP 2 1 rfl rfl hin d_HP_empty_53 ?_
      have hro53 := hq_lt hin
      refine lv_iload_n hx hb d_HP_empty_54 rfl (lv_at hl 2 rfl) ?_
      refine lv_iload_n hx hb d_HP_empty_55 rfl (lv_at hl 3 rfl) ?_
      obtain ⟨hin, hF⟩ := ox_gdS hF
      refine va_iast hx hb hK hP hD hS (3 + a1.toNatClampNeg) 0 (hq_rowAt _ _ _ _ rfl hro53) rfl hin d_HP_empty_56 (fun H locs hP hD hS => ?_)
      have hP : va_P (dC, dI) vwCl (wd_HP_empty q_this q_layout q_tried q_timing q_found q_works q_layout_low q_layout_high q_layout_loadedSeconds q_layout_emptySeconds qr_layout_emptySeconds cI cO v_planned v_layout_tanks (va_up f_layout_emptySeconds a1.toNatClampNeg (upd (f_layout_emptySeconds a1.toNatClampNeg) a2.toNatClampNeg a3))) H := hq_rowP (k := a1.toNatClampNeg) (n := 3) hP rfl hro53
      have hD : va_D A (wd_HP_empty q_this q_layout q_tried q_timing q_found q_works q_layout_low q_layout_high q_layout_loadedSeconds q_layout_emptySeconds qr_layout_emptySeconds cI cO v_planned v_layout_tanks (va_up f_layout_emptySeconds a1.toNatClampNeg (upd (f_layout_emptySeconds a1.toNatClampNeg) a2.toNatClampNeg a3))) := hq_rowD (k := a1.toNatClampNeg) (n := 3) hD rfl hro53
      have hP : va_P (dC, dI) vwCl (wd_HP_empty q_this q_layout q_tried q_timing q_found q_works q_layout_low q_layout_high q_layout_loadedSeconds q_layout_emptySeconds qr_layout_emptySeconds cI cO v_planned v_layout_tanks (va_up f_layout_emptySeconds a1.toNatClampNeg (upd (f_layout_emptySeconds a1.toNatClampNeg) a2.toNatClampNeg a3))) H := hP
      have hD : va_D A (wd_HP_empty q_this q_layout q_tried q_timing q_found q_works q_layout_low q_layout_high q_layout_loadedSeconds q_layout_emptySeconds qr_layout_emptySeconds cI cO v_planned v_layout_tanks (va_up f_layout_emptySeconds a1.toNatClampNeg (upd (f_layout_emptySeconds a1.toNatClampNeg) a2.toNatClampNeg a3))) := hD
      refine lv_aload_n hx hb d_HP_empty_57 rfl (lv_at hl 0 rfl) ?_
      refine lv_iconst (v := 0) hx hb d_HP_empty_58 (by decide) ?_
      refine va_put (D := (dC, dI)) (ci := 5) (v := .int 0) (ty := .boolean) (C := R_HP) (T := F_HP) (N := 6) hx hb hts uw_HP t_HP t_HP_ok n_HP hown hK hP hD hS 0 rfl rfl 5 (by decide) (hts _ tw_263) (fun _ h9 => h9) rfl (by decide +kernel) rfl rfl (Nat.le_of_ble_eq_true rfl) d_HP_empty_59 (fun H locs hP hD hS => ?_)
      have hP : va_P (dC, dI) vwCl (wd_HP_empty q_this q_layout q_tried q_timing q_found q_works q_layout_low q_layout_high q_layout_loadedSeconds q_layout_emptySeconds qr_layout_emptySeconds cI cO 0 v_layout_tanks (va_up f_layout_emptySeconds a1.toNatClampNeg (upd (f_layout_emptySeconds a1.toNatClampNeg) a2.toNatClampNeg a3))) H := hP
      have hD : va_D A (wd_HP_empty q_this q_layout q_tried q_timing q_found q_works q_layout_low q_layout_high q_layout_loadedSeconds q_layout_emptySeconds qr_layout_emptySeconds cI cO 0 v_layout_tanks (va_up f_layout_emptySeconds a1.toNatClampNeg (upd (f_layout_emptySeconds a1.toNatClampNeg) a2.toNatClampNeg a3))) := hD
      cases hF
      exact hq_xvret hx hb hr hlocks hP hD hK hS (Nat.le_of_ble_eq_true rfl) (Nat.le_of_ble_eq_true rfl) d_HP_empty_62
    · have hF := ox_f hF hb7
      refine lv_iload_n hx hb d_HP_empty_22 rfl (lv_at hl 1 rfl) ?_
      refine lv_iload_n hx hb d_HP_empty_23 rfl (lv_at hl 2 rfl) ?_
      refine lv_icmp_eq (tgt := 31) hx hb d_HP_empty_24 (by decide) (fun hb11 => ?_) (fun hb11 => ?_)
      · have hF := ox_t hF hb11
        refine lv_iconst (v := 0) hx hb d_HP_empty_31 (by decide) ?_
        obtain ⟨x12, hc12, hF⟩ := ox_clS hF
        refine hq_cr (hq_rSX (As := [.int 0]) (rest := []) ⟨hx, hb, hml, hown, hts⟩ (x_HP_require l hfl dC dI _ 0 x12 hc12) ⟨callB_of 1 hts (hq_g1 tw_270) rfl rfl rfl (hts _ tw_266) (hts _ tw_268) yd_HP_require ⟨Nat.le_of_ble_eq_true rfl, Nat.le_of_ble_eq_true rfl⟩, hts _ tw_269⟩ hP hD hK (hq_Gnow hG hns hS) [] rfl [] rfl rfl rfl hl.1 rfl (Nat.le_of_ble_eq_true rfl) d_HP_empty_32 ⟨Nat.le_of_ble_eq_true rfl, Nat.le_of_ble_eq_true rfl⟩) (fun h12 => ?_) (fun h12 q H1 ce g1 g2 g3 g4 g5 => ?_)
        rotate_left
        · have hF := ox_t hF h12
          cases hF
          exact hq_xout hex hlocks h12 g1 g2 g3 (hq_keepP hP g5) hD hK (hq_keepS hS g4 g5) (Nat.le_of_ble_eq_true rfl) (Nat.le_of_ble_eq_true rfl)
        have hF := ox_fn hF h12
        refine lv_iload_n hx hb d_HP_empty_35 rfl (lv_at hl 3 rfl) ?_
        refine lv_iconst (v := 0) hx hb d_HP_empty_36 (by decide) ?_
        refine lv_bipush (v := 100) hx hb d_HP_empty_37 (by decide) ?_
        obtain ⟨r13, hc13, hF⟩ := ox_clS hF
        refine hq_ci (ws' := (wd_HP_empty q_this q_layout q_tried q_timing q_found q_works q_layout_low q_layout_high q_layout_loadedSeconds q_layout_emptySeconds qr_layout_emptySeconds cI cO v_planned v_layout_tanks f_layout_emptySeconds)) (hq_rS (As := [.int a3, .int 0, .int 100]) (rest := []) ⟨hx, hb, hml, hown, hts⟩ (c_HP_isWithin l dC dI _ a3 0 100 r13 hc13) ⟨callB_of 3 hts (hq_g1 tw_267) rfl rfl rfl (hts _ tw_266) (hts _ tw_264) yd_HP_isWithin ⟨Nat.le_of_ble_eq_true rfl, Nat.le_of_ble_eq_true rfl⟩, hts _ tw_265⟩ hP hD hK [] rfl [] rfl rfl rfl hl.1 rfl (Nat.le_of_ble_eq_true rfl) d_HP_empty_39 ⟨Nat.le_of_ble_eq_true rfl, Nat.le_of_ble_eq_true rfl⟩) hP hD hS hA [] [0, 1, 2, 3, 4, 5, 6, 7, 8, 9] [0, 1, 2, 3, 4, 5, 6, 7, 8, 9] rfl rfl rfl (by decide) rfl rfl (fun H locs hP hD hS => ?_)
        obtain ⟨x14, hc14, hF⟩ := ox_clS hF
        refine hq_cr (hq_rSX (As := [.int r13]) (rest := []) ⟨hx, hb, hml, hown, hts⟩ (x_HP_require l hfl dC dI _ r13 x14 hc14) ⟨callB_of 1 hts (hq_g1 tw_270) rfl rfl rfl (hts _ tw_266) (hts _ tw_268) yd_HP_require ⟨Nat.le_of_ble_eq_true rfl, Nat.le_of_ble_eq_true rfl⟩, hts _ tw_269⟩ hP hD hK (hq_Gnow hG hns hS) [] rfl [] rfl rfl rfl hl.1 rfl (Nat.le_of_ble_eq_true rfl) d_HP_empty_42 ⟨Nat.le_of_ble_eq_true rfl, Nat.le_of_ble_eq_true rfl⟩) (fun h14 => ?_) (fun h14 q H1 ce g1 g2 g3 g4 g5 => ?_)
        rotate_left
        · have hF := ox_t hF h14
          cases hF
          exact hq_xout hex hlocks h14 g1 g2 g3 (hq_keepP hP g5) hD hK (hq_keepS hS g4 g5) (Nat.le_of_ble_eq_true rfl) (Nat.le_of_ble_eq_true rfl)
        have hF := ox_fn hF h14
        refine lv_aload_n hx hb d_HP_empty_45 rfl (lv_at hl 0 rfl) ?_
        refine va_get (D := (dC, dI)) (ci := 5) (v := .ref q_layout) (C := R_HP) (T := F_HP) (N := 6) hx hb hts uw_HP hown hK hP 0 rfl rfl 0 (by decide) (hts _ tw_157) (fun _ h9 => h9) rfl d_HP_empty_46 ?_
        refine va_get (D := (dC, dI)) (ci := 0) (v := .ref q_layout_emptySeconds) (C := R_LY) (T := F_LY) (N := 5) hx hb hts uw_LY hown hK hP 1 rfl rfl 4 (by decide) (hts _ tw_290) (fun _ h9 => h9) rfl d_HP_empty_49 ?_
        refine lv_iload_n hx hb d_HP_empty_52 rfl (lv_at hl 1 rfl) ?_
        obtain ⟨hin, hF⟩ := ox_gdS hF
        refine hq_gld (qr := qr_layout_emptySeconds) hx hb hK hP 2 1 rfl rfl hin d_HP_empty_53 ?_
        have hro53 := hq_lt hin
        refine lv_iload_n hx hb d_HP_empty_54 rfl (lv_at hl 2 rfl) ?_
        refine lv_iload_n hx hb d_HP_empty_55 rfl (lv_at hl 3 rfl) ?_
        obtain ⟨hin, hF⟩ := ox_gdS hF
        refine va_iast hx hb hK hP hD hS (3 + a1.toNatClampNeg) 0 (hq_rowAt _ _ _ _ rfl hro53) rfl hin d_HP_empty_56 (fun H locs hP hD hS => ?_)
        have hP : va_P (dC, dI) vwCl (wd_HP_empty q_this q_layout q_tried q_timing q_found q_works q_layout_low q_layout_high q_layout_loadedSeconds q_layout_emptySeconds qr_layout_emptySeconds cI cO v_planned v_layout_tanks (va_up f_layout_emptySeconds a1.toNatClampNeg (upd (f_layout_emptySeconds a1.toNatClampNeg) a2.toNatClampNeg a3))) H := hq_rowP (k := a1.toNatClampNeg) (n := 3) hP rfl hro53
        have hD : va_D A (wd_HP_empty q_this q_layout q_tried q_timing q_found q_works q_layout_low q_layout_high q_layout_loadedSeconds q_layout_emptySeconds qr_layout_emptySeconds cI cO v_planned v_layout_tanks (va_up f_layout_emptySeconds a1.toNatClampNeg (upd (f_layout_emptySeconds a1.toNatClampNeg) a2.toNatClampNeg a3))) := hq_rowD (k := a1.toNatClampNeg) (n := 3) hD rfl hro53
        have hP : va_P (dC, dI) vwCl (wd_HP_empty q_this q_layout q_tried q_timing q_found q_works q_layout_low q_layout_high q_layout_loadedSeconds q_layout_emptySeconds qr_layout_emptySeconds cI cO v_planned v_layout_tanks (va_up f_layout_emptySeconds a1.toNatClampNeg (upd (f_layout_emptySeconds a1.toNatClampNeg) a2.toNatClampNeg a3))) H := hP
        have hD : va_D A (wd_HP_empty q_this q_layout q_tried q_timing q_found q_works q_layout_low q_layout_high q_layout_loadedSeconds q_layout_emptySeconds qr_layout_emptySeconds cI cO v_planned v_layout_tanks (va_up f_layout_emptySeconds a1.toNatClampNeg (upd (f_layout_emptySeconds a1.toNatClampNeg) a2.toNatClampNeg a3))) := hD
        refine lv_aload_n hx hb d_HP_empty_57 rfl (lv_at hl 0 rfl) ?_
        refine lv_iconst (v := 0) hx hb d_HP_empty_58 (by decide) ?_
        refine va_put (D := (dC, dI)) (ci := 5) (v := .int 0) (ty := .boolean) (C := R_HP) (T := F_HP) (N := 6) hx hb hts uw_HP t_HP t_HP_ok n_HP hown hK hP hD hS 0 rfl rfl 5 (by decide) (hts _ tw_263) (fun _ h9 => h9) rfl (by decide +kernel) rfl rfl (Nat.le_of_ble_eq_true rfl) d_HP_empty_59 (fun H locs hP hD hS => ?_)
        have hP : va_P (dC, dI) vwCl (wd_HP_empty q_this q_layout q_tried q_timing q_found q_works q_layout_low q_layout_high q_layout_loadedSeconds q_layout_emptySeconds qr_layout_emptySeconds cI cO 0 v_layout_tanks (va_up f_layout_emptySeconds a1.toNatClampNeg (upd (f_layout_emptySeconds a1.toNatClampNeg) a2.toNatClampNeg a3))) H := hP
        have hD : va_D A (wd_HP_empty q_this q_layout q_tried q_timing q_found q_works q_layout_low q_layout_high q_layout_loadedSeconds q_layout_emptySeconds qr_layout_emptySeconds cI cO 0 v_layout_tanks (va_up f_layout_emptySeconds a1.toNatClampNeg (upd (f_layout_emptySeconds a1.toNatClampNeg) a2.toNatClampNeg a3))) := hD
        cases hF
        exact hq_xvret hx hb hr hlocks hP hD hK hS (Nat.le_of_ble_eq_true rfl) (Nat.le_of_ble_eq_true rfl) d_HP_empty_62
      · have hF := ox_f hF hb11
        refine lv_iconst (v := 1) hx hb d_HP_empty_27 (by decide) ?_
        refine lv_goto (tgt := 32) hx hb d_HP_empty_28 (by decide) ?_
        obtain ⟨x15, hc15, hF⟩ := ox_clS hF
        refine hq_cr (hq_rSX (As := [.int 1]) (rest := []) ⟨hx, hb, hml, hown, hts⟩ (x_HP_require l hfl dC dI _ 1 x15 hc15) ⟨callB_of 1 hts (hq_g1 tw_270) rfl rfl rfl (hts _ tw_266) (hts _ tw_268) yd_HP_require ⟨Nat.le_of_ble_eq_true rfl, Nat.le_of_ble_eq_true rfl⟩, hts _ tw_269⟩ hP hD hK (hq_Gnow hG hns hS) [] rfl [] rfl rfl rfl hl.1 rfl (Nat.le_of_ble_eq_true rfl) d_HP_empty_32 ⟨Nat.le_of_ble_eq_true rfl, Nat.le_of_ble_eq_true rfl⟩) (fun h15 => ?_) (fun h15 q H1 ce g1 g2 g3 g4 g5 => ?_)
        rotate_left
        · have hF := ox_t hF h15
          cases hF
          exact hq_xout hex hlocks h15 g1 g2 g3 (hq_keepP hP g5) hD hK (hq_keepS hS g4 g5) (Nat.le_of_ble_eq_true rfl) (Nat.le_of_ble_eq_true rfl)
        have hF := ox_fn hF h15
        refine lv_iload_n hx hb d_HP_empty_35 rfl (lv_at hl 3 rfl) ?_
        refine lv_iconst (v := 0) hx hb d_HP_empty_36 (by decide) ?_
        refine lv_bipush (v := 100) hx hb d_HP_empty_37 (by decide) ?_
        obtain ⟨r16, hc16, hF⟩ := ox_clS hF
        refine hq_ci (ws' := (wd_HP_empty q_this q_layout q_tried q_timing q_found q_works q_layout_low q_layout_high q_layout_loadedSeconds q_layout_emptySeconds qr_layout_emptySeconds cI cO v_planned v_layout_tanks f_layout_emptySeconds)) (hq_rS (As := [.int a3, .int 0, .int 100]) (rest := []) ⟨hx, hb, hml, hown, hts⟩ (c_HP_isWithin l dC dI _ a3 0 100 r16 hc16) ⟨callB_of 3 hts (hq_g1 tw_267) rfl rfl rfl (hts _ tw_266) (hts _ tw_264) yd_HP_isWithin ⟨Nat.le_of_ble_eq_true rfl, Nat.le_of_ble_eq_true rfl⟩, hts _ tw_265⟩ hP hD hK [] rfl [] rfl rfl rfl hl.1 rfl (Nat.le_of_ble_eq_true rfl) d_HP_empty_39 ⟨Nat.le_of_ble_eq_true rfl, Nat.le_of_ble_eq_true rfl⟩) hP hD hS hA [] [0, 1, 2, 3, 4, 5, 6, 7, 8, 9] [0, 1, 2, 3, 4, 5, 6, 7, 8, 9] rfl rfl rfl (by decide) rfl rfl (fun H locs hP hD hS => ?_)
        obtain ⟨x17, hc17, hF⟩ := ox_clS hF
        refine hq_cr (hq_rSX (As := [.int r16]) (rest := []) ⟨hx, hb, hml, hown, hts⟩ (x_HP_require l hfl dC dI _ r16 x17 hc17) ⟨callB_of 1 hts (hq_g1 tw_270) rfl rfl rfl (hts _ tw_266) (hts _ tw_268) yd_HP_require ⟨Nat.le_of_ble_eq_true rfl, Nat.le_of_ble_eq_true rfl⟩, hts _ tw_269⟩ hP hD hK (hq_Gnow hG hns hS) [] rfl [] rfl rfl rfl hl.1 rfl (Nat.le_of_ble_eq_true rfl) d_HP_empty_42 ⟨Nat.le_of_ble_eq_true rfl, Nat.le_of_ble_eq_true rfl⟩) (fun h17 => ?_) (fun h17 q H1 ce g1 g2 g3 g4 g5 => ?_)
        rotate_left
        · have hF := ox_t hF h17
          cases hF
          exact hq_xout hex hlocks h17 g1 g2 g3 (hq_keepP hP g5) hD hK (hq_keepS hS g4 g5) (Nat.le_of_ble_eq_true rfl) (Nat.le_of_ble_eq_true rfl)
        have hF := ox_fn hF h17
        refine lv_aload_n hx hb d_HP_empty_45 rfl (lv_at hl 0 rfl) ?_
        refine va_get (D := (dC, dI)) (ci := 5) (v := .ref q_layout) (C := R_HP) (T := F_HP) (N := 6) hx hb hts uw_HP hown hK hP 0 rfl rfl 0 (by decide) (hts _ tw_157) (fun _ h9 => h9) rfl d_HP_empty_46 ?_
        refine va_get (D := (dC, dI)) (ci := 0) (v := .ref q_layout_emptySeconds) (C := R_LY) (T := F_LY) (N := 5) hx hb hts uw_LY hown hK hP 1 rfl rfl 4 (by decide) (hts _ tw_290) (fun _ h9 => h9) rfl d_HP_empty_49 ?_
        refine lv_iload_n hx hb d_HP_empty_52 rfl (lv_at hl 1 rfl) ?_
        obtain ⟨hin, hF⟩ := ox_gdS hF
        refine hq_gld (qr := qr_layout_emptySeconds) hx hb hK hP 2 1 rfl rfl hin d_HP_empty_53 ?_
        have hro53 := hq_lt hin
        refine lv_iload_n hx hb d_HP_empty_54 rfl (lv_at hl 2 rfl) ?_
        refine lv_iload_n hx hb d_HP_empty_55 rfl (lv_at hl 3 rfl) ?_
        obtain ⟨hin, hF⟩ := ox_gdS hF
        refine va_iast hx hb hK hP hD hS (3 + a1.toNatClampNeg) 0 (hq_rowAt _ _ _ _ rfl hro53) rfl hin d_HP_empty_56 (fun H locs hP hD hS => ?_)
        have hP : va_P (dC, dI) vwCl (wd_HP_empty q_this q_layout q_tried q_timing q_found q_works q_layout_low q_layout_high q_layout_loadedSeconds q_layout_emptySeconds qr_layout_emptySeconds cI cO v_planned v_layout_tanks (va_up f_layout_emptySeconds a1.toNatClampNeg (upd (f_layout_emptySeconds a1.toNatClampNeg) a2.toNatClampNeg a3))) H := hq_rowP (k := a1.toNatClampNeg) (n := 3) hP rfl hro53
        have hD : va_D A (wd_HP_empty q_this q_layout q_tried q_timing q_found q_works q_layout_low q_layout_high q_layout_loadedSeconds q_layout_emptySeconds qr_layout_emptySeconds cI cO v_planned v_layout_tanks (va_up f_layout_emptySeconds a1.toNatClampNeg (upd (f_layout_emptySeconds a1.toNatClampNeg) a2.toNatClampNeg a3))) := hq_rowD (k := a1.toNatClampNeg) (n := 3) hD rfl hro53
        have hP : va_P (dC, dI) vwCl (wd_HP_empty q_this q_layout q_tried q_timing q_found q_works q_layout_low q_layout_high q_layout_loadedSeconds q_layout_emptySeconds qr_layout_emptySeconds cI cO v_planned v_layout_tanks (va_up f_layout_emptySeconds a1.toNatClampNeg (upd (f_layout_emptySeconds a1.toNatClampNeg) a2.toNatClampNeg a3))) H := hP
        have hD : va_D A (wd_HP_empty q_this q_layout q_tried q_timing q_found q_works q_layout_low q_layout_high q_layout_loadedSeconds q_layout_emptySeconds qr_layout_emptySeconds cI cO v_planned v_layout_tanks (va_up f_layout_emptySeconds a1.toNatClampNeg (upd (f_layout_emptySeconds a1.toNatClampNeg) a2.toNatClampNeg a3))) := hD
        refine lv_aload_n hx hb d_HP_empty_57 rfl (lv_at hl 0 rfl) ?_
        refine lv_iconst (v := 0) hx hb d_HP_empty_58 (by decide) ?_
        refine va_put (D := (dC, dI)) (ci := 5) (v := .int 0) (ty := .boolean) (C := R_HP) (T := F_HP) (N := 6) hx hb hts uw_HP t_HP t_HP_ok n_HP hown hK hP hD hS 0 rfl rfl 5 (by decide) (hts _ tw_263) (fun _ h9 => h9) rfl (by decide +kernel) rfl rfl (Nat.le_of_ble_eq_true rfl) d_HP_empty_59 (fun H locs hP hD hS => ?_)
        have hP : va_P (dC, dI) vwCl (wd_HP_empty q_this q_layout q_tried q_timing q_found q_works q_layout_low q_layout_high q_layout_loadedSeconds q_layout_emptySeconds qr_layout_emptySeconds cI cO 0 v_layout_tanks (va_up f_layout_emptySeconds a1.toNatClampNeg (upd (f_layout_emptySeconds a1.toNatClampNeg) a2.toNatClampNeg a3))) H := hP
        have hD : va_D A (wd_HP_empty q_this q_layout q_tried q_timing q_found q_works q_layout_low q_layout_high q_layout_loadedSeconds q_layout_emptySeconds qr_layout_emptySeconds cI cO 0 v_layout_tanks (va_up f_layout_emptySeconds a1.toNatClampNeg (upd (f_layout_emptySeconds a1.toNatClampNeg) a2.toNatClampNeg a3))) := hD
        cases hF
        exact hq_xvret hx hb hr hlocks hP hD hK hS (Nat.le_of_ble_eq_true rfl) (Nat.le_of_ble_eq_true rfl) d_HP_empty_62
abbrev wd_HP_solve (q_this : Nat) (q_layout : Nat) (q_tried : Nat) (q_timing : Nat) (q_found : Nat) (q_works : Nat) (q_layout_low : Nat) (q_layout_high : Nat) (q_layout_loadedSeconds : Nat) (q_layout_emptySeconds : Nat) (q_tried_moves : Nat) (q_tried_rank : Nat) (q_timing_before : Nat) (q_timing_after : Nat) (q_timing_seconds : Nat) (q_timing_turns : Nat) (q_timing_cause : Nat) (q_timing_times : Nat) (q_found_order : Nat) (q_found_times : Nat) (q_found_order_moves : Nat) (q_found_order_rank : Nat) (q_works_carriers : Nat) (q_works_entries : Nat) (qr_layout_emptySeconds : Nat → Nat) (cI : ClassId) (cO : ClassId) (v_planned : Int32) (v_layout_tanks : Int32) (v_tried_count : Int32) (v_timing_rules : Int32) (v_found_cycle : Int32) (v_found_order_count : Int32) (v_works_second : Int32) (v_works_cycleSecond : Int32) (v_works_nextRank : Int32) (v_works_entryStopped : Int32) (v_works_entered : Int32) (v_works_done : Int32) (v_works_lastStay : Int32) (v_works_hoistCarrier : Int32) (v_works_hoistMove : Int32) (v_works_hoistEntry : Int32) (v_works_hoistEnd : Int32) (f_layout_loadedSeconds : Nat → Int32) (f_tried_moves : Nat → Int32) (f_tried_rank : Nat → Int32) (f_timing_before : Nat → Int32) (f_timing_after : Nat → Int32) (f_timing_seconds : Nat → Int32) (f_timing_turns : Nat → Int32) (f_layout_low : Nat → Int32) (f_layout_high : Nat → Int32) (f_timing_times : Nat → Int32) (f_timing_cause : Nat → Int32) (f_found_order_moves : Nat → Int32) (f_found_order_rank : Nat → Int32) (f_found_times : Nat → Int32) (f_works_carriers : Nat → Int32) (f_works_entries : Nat → Int32) (f_layout_emptySeconds : Nat → Nat → Int32) : va_W := [(q_this, .inr (5, [.ref q_layout, .ref q_tried, .ref q_timing, .ref q_found, .ref q_works, .int v_planned])), (q_layout, .inr (0, [.int v_layout_tanks, .ref q_layout_low, .ref q_layout_high, .ref q_layout_loadedSeconds, .ref q_layout_emptySeconds])), (q_tried, .inr (1, [.int v_tried_count, .ref q_tried_moves, .ref q_tried_rank])), (q_timing, .inr (3, [.ref q_layout, .int v_timing_rules, .ref q_timing_before, .ref q_timing_after, .ref q_timing_seconds, .ref q_timing_turns, .ref q_timing_cause, .ref q_timing_times])), (q_found, .inr (2, [.ref q_found_order, .ref q_found_times, .int v_found_cycle])), (q_found_order, .inr (1, [.int v_found_order_count, .ref q_found_order_moves, .ref q_found_order_rank])), (q_works, .inr (4, [.ref q_layout, .ref q_found, .int v_works_second, .int v_works_cycleSecond, .int v_works_nextRank, .int v_works_entryStopped, .int v_works_entered, .int v_works_done, .int v_works_lastStay, .int v_works_hoistCarrier, .int v_works_hoistMove, .int v_works_hoistEntry, .int v_works_hoistEnd, .ref q_works_carriers, .ref q_works_entries])), (q_layout_loadedSeconds, .inl (cI, 6, .inl f_layout_loadedSeconds)), (q_tried_moves, .inl (cI, 6, .inl f_tried_moves)), (q_tried_rank, .inl (cI, 6, .inl f_tried_rank)), (q_timing_before, .inl (cI, 16, .inl f_timing_before)), (q_timing_after, .inl (cI, 16, .inl f_timing_after)), (q_timing_seconds, .inl (cI, 16, .inl f_timing_seconds)), (q_timing_turns, .inl (cI, 16, .inl f_timing_turns)), (q_layout_low, .inl (cI, 6, .inl f_layout_low)), (q_layout_high, .inl (cI, 6, .inl f_layout_high)), (q_timing_times, .inl (cI, 6, .inl f_timing_times)), (q_timing_cause, .inl (cI, 6, .inl f_timing_cause)), (q_found_order_moves, .inl (cI, 6, .inl f_found_order_moves)), (q_found_order_rank, .inl (cI, 6, .inl f_found_order_rank)), (q_found_times, .inl (cI, 6, .inl f_found_times)), (q_works_carriers, .inl (cI, 6, .inl f_works_carriers)), (q_works_entries, .inl (cI, 6, .inl f_works_entries)), (q_layout_emptySeconds, .inl (hq_out cO qr_layout_emptySeconds))] ++ hq_rows cI qr_layout_emptySeconds f_layout_emptySeconds
set_option maxHeartbeats 4000000 in
set_option maxRecDepth 100000 in
theorem x_HP_solve (l : Launch) (hfl : l.flags = pinnedFlags ++ [noTraceFlag]) (dC : Nat → ClassId) (dI : Nat → Nat → Nat) (q_this : Nat) (q_layout : Nat) (q_tried : Nat) (q_timing : Nat) (q_found : Nat) (q_works : Nat) (q_layout_low : Nat) (q_layout_high : Nat) (q_layout_loadedSeconds : Nat) (q_layout_emptySeconds : Nat) (q_tried_moves : Nat) (q_tried_rank : Nat) (q_timing_before : Nat) (q_timing_after : Nat) (q_timing_seconds : Nat) (q_timing_turns : Nat) (q_timing_cause : Nat) (q_timing_times : Nat) (q_found_order : Nat) (q_found_times : Nat) (q_found_order_moves : Nat) (q_found_order_rank : Nat) (q_works_carriers : Nat) (q_works_entries : Nat) (qr_layout_emptySeconds : Nat → Nat) (cI : ClassId) (cO : ClassId) (sz : Nat) (z : Nat) (v_planned : Int32) (v_layout_tanks : Int32) (v_tried_count : Int32) (v_timing_rules : Int32) (v_found_cycle : Int32) (v_found_order_count : Int32) (v_works_second : Int32) (v_works_cycleSecond : Int32) (v_works_nextRank : Int32) (v_works_entryStopped : Int32) (v_works_entered : Int32) (v_works_done : Int32) (v_works_lastStay : Int32) (v_works_hoistCarrier : Int32) (v_works_hoistMove : Int32) (v_works_hoistEntry : Int32) (v_works_hoistEnd : Int32) (f_layout_loadedSeconds : Nat → Int32) (f_tried_moves : Nat → Int32) (f_tried_rank : Nat → Int32) (f_timing_before : Nat → Int32) (f_timing_after : Nat → Int32) (f_timing_seconds : Nat → Int32) (f_timing_turns : Nat → Int32) (f_layout_low : Nat → Int32) (f_layout_high : Nat → Int32) (f_timing_times : Nat → Int32) (f_timing_cause : Nat → Int32) (f_found_order_moves : Nat → Int32) (f_found_order_rank : Nat → Int32) (f_found_times : Nat → Int32) (f_works_carriers : Nat → Int32) (f_works_entries : Nat → Int32) (f_layout_emptySeconds : Nat → Nat → Int32) (xc : Nat) (rr : Int32) (n_v_planned : Int32) (n_v_tried_count : Int32) (n_v_timing_rules : Int32) (n_v_found_cycle : Int32) (n_v_found_order_count : Int32) (n_v_works_second : Int32) (n_v_works_cycleSecond : Int32) (n_v_works_nextRank : Int32) (n_v_works_entryStopped : Int32) (n_v_works_entered : Int32) (n_v_works_done : Int32) (n_v_works_lastStay : Int32) (n_v_works_hoistCarrier : Int32) (n_v_works_hoistMove : Int32) (n_v_works_hoistEntry : Int32) (n_v_works_hoistEnd : Int32) (n_f_tried_moves : Nat → Int32) (n_f_tried_rank : Nat → Int32) (n_f_timing_before : Nat → Int32) (n_f_timing_after : Nat → Int32) (n_f_timing_seconds : Nat → Int32) (n_f_timing_turns : Nat → Int32) (n_f_timing_times : Nat → Int32) (n_f_timing_cause : Nat → Int32) (n_f_found_order_moves : Nat → Int32) (n_f_found_order_rank : Nat → Int32) (n_f_found_times : Nat → Int32) (n_f_works_carriers : Nat → Int32) (n_f_works_entries : Nat → Int32) (hF : fn_HP_solve z v_planned v_layout_tanks v_tried_count v_timing_rules v_found_cycle v_found_order_count v_works_second v_works_cycleSecond v_works_nextRank v_works_entryStopped v_works_entered v_works_done v_works_lastStay v_works_hoistCarrier v_works_hoistMove v_works_hoistEntry v_works_hoistEnd f_layout_loadedSeconds f_tried_moves f_tried_rank f_timing_before f_timing_after f_timing_seconds f_timing_turns f_layout_low f_layout_high f_timing_times f_timing_cause f_found_order_moves f_found_order_rank f_found_times f_works_carriers f_works_entries f_layout_emptySeconds = some (xc, rr, n_v_planned, n_v_tried_count, n_v_timing_rules, n_v_found_cycle, n_v_found_order_count, n_v_works_second, n_v_works_cycleSecond, n_v_works_nextRank, n_v_works_entryStopped, n_v_works_entered, n_v_works_done, n_v_works_lastStay, n_v_works_hoistCarrier, n_v_works_hoistMove, n_v_works_hoistEntry, n_v_works_hoistEnd, n_f_tried_moves, n_f_tried_rank, n_f_timing_before, n_f_timing_after, n_f_timing_seconds, n_f_timing_turns, n_f_timing_times, n_f_timing_cause, n_f_found_order_moves, n_f_found_order_rank, n_f_found_times, n_f_works_carriers, n_f_works_entries)) : hq_Met l y_HP_solve w_HP_solve ({ frames := 7, cells := 1, slots := 6, locals := 128 }) (hq_PcX (dC, dI) vwCl [(cI, .int), (cO, .array .int)] (wd_HP_solve q_this q_layout q_tried q_timing q_found q_works q_layout_low q_layout_high q_layout_loadedSeconds q_layout_emptySeconds q_tried_moves q_tried_rank q_timing_before q_timing_after q_timing_seconds q_timing_turns q_timing_cause q_timing_times q_found_order q_found_times q_found_order_moves q_found_order_rank q_works_carriers q_works_entries qr_layout_emptySeconds cI cO v_planned v_layout_tanks v_tried_count v_timing_rules v_found_cycle v_found_order_count v_works_second v_works_cycleSecond v_works_nextRank v_works_entryStopped v_works_entered v_works_done v_works_lastStay v_works_hoistCarrier v_works_hoistMove v_works_hoistEntry v_works_hoistEnd f_layout_loadedSeconds f_tried_moves f_tried_rank f_timing_before f_timing_after f_timing_seconds f_timing_turns f_layout_low f_layout_high f_timing_times f_timing_cause f_found_order_moves f_found_order_rank f_found_times f_works_carriers f_works_entries f_layout_emptySeconds) sz [.ref q_this]) (hq_Qx (dC, dI) vwCl [(cI, .int), (cO, .array .int)] (wd_HP_solve q_this q_layout q_tried q_timing q_found q_works q_layout_low q_layout_high q_layout_loadedSeconds q_layout_emptySeconds q_tried_moves q_tried_rank q_timing_before q_timing_after q_timing_seconds q_timing_turns q_timing_cause q_timing_times q_found_order q_found_times q_found_order_moves q_found_order_rank q_works_carriers q_works_entries qr_layout_emptySeconds cI cO n_v_planned v_layout_tanks n_v_tried_count n_v_timing_rules n_v_found_cycle n_v_found_order_count n_v_works_second n_v_works_cycleSecond n_v_works_nextRank n_v_works_entryStopped n_v_works_entered n_v_works_done n_v_works_lastStay n_v_works_hoistCarrier n_v_works_hoistMove n_v_works_hoistEntry n_v_works_hoistEnd f_layout_loadedSeconds n_f_tried_moves n_f_tried_rank n_f_timing_before n_f_timing_after n_f_timing_seconds n_f_timing_turns f_layout_low f_layout_high n_f_timing_times n_f_timing_cause n_f_found_order_moves n_f_found_order_rank n_f_found_times n_f_works_carriers n_f_works_entries f_layout_emptySeconds) xc (some (.int rr)) (va_A (wd_HP_solve q_this q_layout q_tried q_timing q_found q_works q_layout_low q_layout_high q_layout_loadedSeconds q_layout_emptySeconds q_tried_moves q_tried_rank q_timing_before q_timing_after q_timing_seconds q_timing_turns q_timing_cause q_timing_times q_found_order q_found_times q_found_order_moves q_found_order_rank q_works_carriers q_works_entries qr_layout_emptySeconds cI cO v_planned v_layout_tanks v_tried_count v_timing_rules v_found_cycle v_found_order_count v_works_second v_works_cycleSecond v_works_nextRank v_works_entryStopped v_works_entered v_works_done v_works_lastStay v_works_hoistCarrier v_works_hoistMove v_works_hoistEntry v_works_hoistEnd f_layout_loadedSeconds f_tried_moves f_tried_rank f_timing_before f_timing_after f_timing_seconds f_timing_turns f_layout_low f_layout_high f_timing_times f_timing_cause f_found_order_moves f_found_order_rank f_found_times f_works_carriers f_works_entries f_layout_emptySeconds) sz)) 1 6 (va_A (wd_HP_solve q_this q_layout q_tried q_timing q_found q_works q_layout_low q_layout_high q_layout_loadedSeconds q_layout_emptySeconds q_tried_moves q_tried_rank q_timing_before q_timing_after q_timing_seconds q_timing_turns q_timing_cause q_timing_times q_found_order q_found_times q_found_order_moves q_found_order_rank q_works_carriers q_works_entries qr_layout_emptySeconds cI cO v_planned v_layout_tanks v_tried_count v_timing_rules v_found_cycle v_found_order_count v_works_second v_works_cycleSecond v_works_nextRank v_works_entryStopped v_works_entered v_works_done v_works_lastStay v_works_hoistCarrier v_works_hoistMove v_works_hoistEntry v_works_hoistEnd f_layout_loadedSeconds f_tried_moves f_tried_rank f_timing_before f_timing_after f_timing_seconds f_timing_turns f_layout_low f_layout_high f_timing_times f_timing_cause f_found_order_moves f_found_order_rank f_found_times f_works_carriers f_works_entries f_layout_emptySeconds) sz) := by
  refine hq_metX hfl (Qc := hq_Qx (dC, dI) vwCl [(cI, .int), (cO, .array .int)] (wd_HP_solve q_this q_layout q_tried q_timing q_found q_works q_layout_low q_layout_high q_layout_loadedSeconds q_layout_emptySeconds q_tried_moves q_tried_rank q_timing_before q_timing_after q_timing_seconds q_timing_turns q_timing_cause q_timing_times q_found_order q_found_times q_found_order_moves q_found_order_rank q_works_carriers q_works_entries qr_layout_emptySeconds cI cO n_v_planned v_layout_tanks n_v_tried_count n_v_timing_rules n_v_found_cycle n_v_found_order_count n_v_works_second n_v_works_cycleSecond n_v_works_nextRank n_v_works_entryStopped n_v_works_entered n_v_works_done n_v_works_lastStay n_v_works_hoistCarrier n_v_works_hoistMove n_v_works_hoistEntry n_v_works_hoistEnd f_layout_loadedSeconds n_f_tried_moves n_f_tried_rank n_f_timing_before n_f_timing_after n_f_timing_seconds n_f_timing_turns f_layout_low f_layout_high n_f_timing_times n_f_timing_cause n_f_found_order_moves n_f_found_order_rank n_f_found_times n_f_works_carriers n_f_works_entries f_layout_emptySeconds) xc (some (.int rr))) (fr := fun A => A) (cc := b_HP_solve) (maxL := 2) (ret := some .int) (by decide) rfl (Nat.le_of_ble_eq_true rfl) ?_
  intro p e s m args below meth c A ls hx hb hr hml hts hown hlocks hnm hP hD hK hA hS hl htr hex hG hns
  have hts : ∀ w ∈ tb0, w.before args s = true := fun w h => hts w (List.mem_cons_of_mem _ h)
  have hown : s.vm.findClass R_HP = some m.cls := hown
  have hl : lv_has ls 2 [(0, .ref q_this)] := hl
  unfold fn_HP_solve at hF
  refine lv_aload_n hx hb d_HP_solve_0 rfl (lv_at hl 0 rfl) ?_
  obtain ⟨x1, hc1, hF⟩ := ox_clS hF
  refine hq_cr (hq_rVX (As := []) (rest := []) ⟨hx, hb, hml, hown, hts⟩ (x_HP_requireReady l hfl dC dI q_this q_layout q_tried q_timing q_found q_works q_layout_low q_layout_high q_layout_loadedSeconds q_layout_emptySeconds qr_layout_emptySeconds cI cO _ z v_planned v_layout_tanks f_layout_loadedSeconds f_layout_emptySeconds x1 hc1) (cwV 0 hts (hq_gV tw_291 tw_292 tw_293 tw_266 tw_294) rfl rfl rfl yv_HP_requireReady ⟨Nat.le_of_ble_eq_true rfl, Nat.le_of_ble_eq_true rfl⟩) hP hD hK (hq_Gnow hG hns hS) [0, 1] rfl 0 rfl rfl [0, 1, 7, 23, 24, 25, 26, 27, 28, 29, 30] rfl rfl rfl hl.1 rfl (Nat.le_of_ble_eq_true rfl) d_HP_solve_1 ⟨Nat.le_of_ble_eq_true rfl, Nat.le_of_ble_eq_true rfl⟩) (fun h1 => ?_) (fun h1 q H1 ce g1 g2 g3 g4 g5 => ?_)
  rotate_left
  · have hF := ox_t hF h1
    cases hF
    exact hq_xout hex hlocks h1 g1 g2 g3 (hq_keepP hP g5) hD hK (hq_keepS hS g4 g5) (Nat.le_of_ble_eq_true rfl) (Nat.le_of_ble_eq_true rfl)
  have hF := ox_fn hF h1
  refine lv_aload_n hx hb d_HP_solve_4 rfl (lv_at hl 0 rfl) ?_
  obtain ⟨⟨r2, s2_v_tried_count, s2_v_timing_rules, s2_v_found_cycle, s2_v_found_order_count, s2_f_tried_moves, s2_f_tried_rank, s2_f_timing_before, s2_f_timing_after, s2_f_timing_seconds, s2_f_timing_turns, s2_f_timing_times, s2_f_timing_cause, s2_f_found_order_moves, s2_f_found_order_rank, s2_f_found_times⟩, hc2, hF⟩ := ox_clS hF
  refine hq_ci (ws' := (wd_HP_solve q_this q_layout q_tried q_timing q_found q_works q_layout_low q_layout_high q_layout_loadedSeconds q_layout_emptySeconds q_tried_moves q_tried_rank q_timing_before q_timing_after q_timing_seconds q_timing_turns q_timing_cause q_timing_times q_found_order q_found_times q_found_order_moves q_found_order_rank q_works_carriers q_works_entries qr_layout_emptySeconds cI cO v_planned v_layout_tanks s2_v_tried_count s2_v_timing_rules s2_v_found_cycle s2_v_found_order_count v_works_second v_works_cycleSecond v_works_nextRank v_works_entryStopped v_works_entered v_works_done v_works_lastStay v_works_hoistCarrier v_works_hoistMove v_works_hoistEntry v_works_hoistEnd f_layout_loadedSeconds s2_f_tried_moves s2_f_tried_rank s2_f_timing_before s2_f_timing_after s2_f_timing_seconds s2_f_timing_turns f_layout_low f_layout_high s2_f_timing_times s2_f_timing_cause s2_f_found_order_moves s2_f_found_order_rank s2_f_found_times f_works_carriers f_works_entries f_layout_emptySeconds)) (hq_rV (As := []) (rest := []) ⟨hx, hb, hml, hown, hts⟩ (c_HP_findPlan l dC dI q_this q_layout q_tried q_timing q_found q_works q_layout_low q_layout_high q_layout_loadedSeconds q_layout_emptySeconds q_tried_moves q_tried_rank q_timing_before q_timing_after q_timing_seconds q_timing_turns q_timing_cause q_timing_times q_found_order q_found_times q_found_order_moves q_found_order_rank qr_layout_emptySeconds cI cO _ z v_planned v_layout_tanks v_tried_count v_timing_rules v_found_cycle v_found_order_count f_tried_moves f_tried_rank f_layout_loadedSeconds f_timing_before f_timing_after f_timing_seconds f_timing_turns f_layout_low f_layout_high f_timing_times f_timing_cause f_found_order_moves f_found_order_rank f_found_times f_layout_emptySeconds r2 s2_v_tried_count s2_v_timing_rules s2_v_found_cycle s2_v_found_order_count s2_f_tried_moves s2_f_tried_rank s2_f_timing_before s2_f_timing_after s2_f_timing_seconds s2_f_timing_turns s2_f_timing_times s2_f_timing_cause s2_f_found_order_moves s2_f_found_order_rank s2_f_found_times hc2) (cwV 0 hts (hq_gV tw_295 tw_296 tw_297 tw_266 tw_298) rfl rfl rfl yv_HP_findPlan ⟨Nat.le_of_ble_eq_true rfl, Nat.le_of_ble_eq_true rfl⟩) hP hD hK [0, 1] rfl 0 rfl rfl [0, 1, 2, 3, 4, 5, 8, 9, 7, 10, 11, 12, 13, 14, 15, 16, 17, 18, 19, 20, 23, 24, 25, 26, 27, 28, 29, 30] rfl rfl rfl hl.1 rfl (Nat.le_of_ble_eq_true rfl) d_HP_solve_5 ⟨Nat.le_of_ble_eq_true rfl, Nat.le_of_ble_eq_true rfl⟩) hP hD hS hA [0, 1, 2, 3, 4, 5, 8, 9, 7, 10, 11, 12, 13, 14, 15, 16, 17, 18, 19, 20, 23, 24, 25, 26, 27, 28, 29, 30] [6, 21, 22] [3, 4, 5, 6, 7, 8, 0, 11, 9, 10, 12, 13, 14, 15, 16, 17, 18, 19, 20, 21, 22, 1, 2, 23, 24, 25, 26, 27, 28, 29, 30] rfl rfl rfl (by decide) rfl rfl (fun H locs hP hD hS => ?_)
  refine lv_istore_n (lv' := [(1, .int r2), (0, .ref q_this)]) hx hb d_HP_solve_8 rfl hl (by decide) rfl (fun ls hl => ?_)
  refine lv_aload_n hx hb d_HP_solve_9 rfl (lv_at hl 1 rfl) ?_
  refine lv_iload_n hx hb d_HP_solve_10 rfl (lv_at hl 0 rfl) ?_
  refine lv_iconst (v := (-1)) hx hb d_HP_solve_11 (by decide) ?_
  refine lv_icmp_eq (tgt := 19) hx hb d_HP_solve_12 (by decide) (fun hb3 => ?_) (fun hb3 => ?_)
  · have hF := ox_t hF hb3
    refine lv_iconst (v := 0) hx hb d_HP_solve_19 (by decide) ?_
    refine va_put (D := (dC, dI)) (ci := 5) (v := .int 0) (ty := .boolean) (C := R_HP) (T := F_HP) (N := 6) hx hb hts uw_HP t_HP t_HP_ok n_HP hown hK hP hD hS 0 rfl rfl 5 (by decide) (hts _ tw_263) (fun _ h9 => h9) rfl (by decide +kernel) rfl rfl (Nat.le_of_ble_eq_true rfl) d_HP_solve_20 (fun H locs hP hD hS => ?_)
    have hP : va_P (dC, dI) vwCl (wd_HP_solve q_this q_layout q_tried q_timing q_found q_works q_layout_low q_layout_high q_layout_loadedSeconds q_layout_emptySeconds q_tried_moves q_tried_rank q_timing_before q_timing_after q_timing_seconds q_timing_turns q_timing_cause q_timing_times q_found_order q_found_times q_found_order_moves q_found_order_rank q_works_carriers q_works_entries qr_layout_emptySeconds cI cO 0 v_layout_tanks s2_v_tried_count s2_v_timing_rules s2_v_found_cycle s2_v_found_order_count v_works_second v_works_cycleSecond v_works_nextRank v_works_entryStopped v_works_entered v_works_done v_works_lastStay v_works_hoistCarrier v_works_hoistMove v_works_hoistEntry v_works_hoistEnd f_layout_loadedSeconds s2_f_tried_moves s2_f_tried_rank s2_f_timing_before s2_f_timing_after s2_f_timing_seconds s2_f_timing_turns f_layout_low f_layout_high s2_f_timing_times s2_f_timing_cause s2_f_found_order_moves s2_f_found_order_rank s2_f_found_times f_works_carriers f_works_entries f_layout_emptySeconds) H := hP
    have hD : va_D A (wd_HP_solve q_this q_layout q_tried q_timing q_found q_works q_layout_low q_layout_high q_layout_loadedSeconds q_layout_emptySeconds q_tried_moves q_tried_rank q_timing_before q_timing_after q_timing_seconds q_timing_turns q_timing_cause q_timing_times q_found_order q_found_times q_found_order_moves q_found_order_rank q_works_carriers q_works_entries qr_layout_emptySeconds cI cO 0 v_layout_tanks s2_v_tried_count s2_v_timing_rules s2_v_found_cycle s2_v_found_order_count v_works_second v_works_cycleSecond v_works_nextRank v_works_entryStopped v_works_entered v_works_done v_works_lastStay v_works_hoistCarrier v_works_hoistMove v_works_hoistEntry v_works_hoistEnd f_layout_loadedSeconds s2_f_tried_moves s2_f_tried_rank s2_f_timing_before s2_f_timing_after s2_f_timing_seconds s2_f_timing_turns f_layout_low f_layout_high s2_f_timing_times s2_f_timing_cause s2_f_found_order_moves s2_f_found_order_rank s2_f_found_times f_works_carriers f_works_entries f_layout_emptySeconds) := hD
    refine lv_aload_n hx hb d_HP_solve_23 rfl (lv_at hl 1 rfl) ?_
    refine va_get (D := (dC, dI)) (ci := 5) (v := .ref q_works) (C := R_HP) (T := F_HP) (N := 6) hx hb hts uw_HP hown hK hP 0 rfl rfl 4 (by decide) (hts _ tw_299) (fun _ h9 => h9) rfl d_HP_solve_24 ?_
    obtain ⟨⟨s4_v_second, s4_v_cycleSecond, s4_v_nextRank, s4_v_entryStopped, s4_v_entered, s4_v_done, s4_v_lastStay, s4_v_hoistCarrier, s4_v_hoistMove, s4_v_hoistEntry, s4_v_hoistEnd, s4_f_carriers, s4_f_entries⟩, hc4, hF⟩ := ox_clS hF
    refine hq_cv (ws' := (wd_HP_solve q_this q_layout q_tried q_timing q_found q_works q_layout_low q_layout_high q_layout_loadedSeconds q_layout_emptySeconds q_tried_moves q_tried_rank q_timing_before q_timing_after q_timing_seconds q_timing_turns q_timing_cause q_timing_times q_found_order q_found_times q_found_order_moves q_found_order_rank q_works_carriers q_works_entries qr_layout_emptySeconds cI cO 0 v_layout_tanks s2_v_tried_count s2_v_timing_rules s2_v_found_cycle s2_v_found_order_count s4_v_second s4_v_cycleSecond s4_v_nextRank s4_v_entryStopped s4_v_entered s4_v_done s4_v_lastStay s4_v_hoistCarrier s4_v_hoistMove s4_v_hoistEntry s4_v_hoistEnd f_layout_loadedSeconds s2_f_tried_moves s2_f_tried_rank s2_f_timing_before s2_f_timing_after s2_f_timing_seconds s2_f_timing_turns f_layout_low f_layout_high s2_f_timing_times s2_f_timing_cause s2_f_found_order_moves s2_f_found_order_rank s2_f_found_times s4_f_carriers s4_f_entries f_layout_emptySeconds)) (hq_rV (As := []) (rest := []) ⟨hx, hb, hml, hown, hts⟩ (c_WK_reset l dC dI q_works q_layout q_found q_works_carriers q_works_entries cI _ z v_works_second v_works_cycleSecond v_works_nextRank v_works_entryStopped v_works_entered v_works_done v_works_lastStay v_works_hoistCarrier v_works_hoistMove v_works_hoistEntry v_works_hoistEnd f_works_carriers f_works_entries s4_v_second s4_v_cycleSecond s4_v_nextRank s4_v_entryStopped s4_v_entered s4_v_done s4_v_lastStay s4_v_hoistCarrier s4_v_hoistMove s4_v_hoistEntry s4_v_hoistEnd s4_f_carriers s4_f_entries hc4) (cwV 0 hts (hq_gV tw_300 tw_301 tw_302 tw_111 tw_303) rfl rfl rfl yv_WK_reset ⟨Nat.le_of_ble_eq_true rfl, Nat.le_of_ble_eq_true rfl⟩) hP hD hK [0] rfl 6 rfl rfl [6, 21, 22] rfl rfl rfl hl.1 rfl (Nat.le_of_ble_eq_true rfl) d_HP_solve_27 ⟨Nat.le_of_ble_eq_true rfl, Nat.le_of_ble_eq_true rfl⟩) hP hD hS hA [6, 21, 22] [0, 1, 2, 3, 4, 5, 7, 8, 9, 10, 11, 12, 13, 14, 15, 16, 17, 18, 19, 20, 23, 24, 25, 26, 27, 28, 29, 30] [0, 1, 2, 3, 4, 5, 28, 6, 7, 8, 9, 10, 11, 12, 13, 14, 15, 16, 17, 18, 19, 29, 30, 20, 21, 22, 23, 24, 25, 26, 27] rfl rfl rfl (by decide) rfl rfl (fun H locs hP hD hS => ?_)
    refine lv_iload_n hx hb d_HP_solve_30 rfl (lv_at hl 0 rfl) ?_
    cases hF
    exact hq_xiret hx hb hr hlocks hP hD hK hS (Nat.le_of_ble_eq_true rfl) (Nat.le_of_ble_eq_true rfl) d_HP_solve_31
  · have hF := ox_f hF hb3
    refine lv_iconst (v := 1) hx hb d_HP_solve_15 (by decide) ?_
    refine lv_goto (tgt := 20) hx hb d_HP_solve_16 (by decide) ?_
    refine va_put (D := (dC, dI)) (ci := 5) (v := .int 1) (ty := .boolean) (C := R_HP) (T := F_HP) (N := 6) hx hb hts uw_HP t_HP t_HP_ok n_HP hown hK hP hD hS 0 rfl rfl 5 (by decide) (hts _ tw_263) (fun _ h9 => h9) rfl (by decide +kernel) rfl rfl (Nat.le_of_ble_eq_true rfl) d_HP_solve_20 (fun H locs hP hD hS => ?_)
    have hP : va_P (dC, dI) vwCl (wd_HP_solve q_this q_layout q_tried q_timing q_found q_works q_layout_low q_layout_high q_layout_loadedSeconds q_layout_emptySeconds q_tried_moves q_tried_rank q_timing_before q_timing_after q_timing_seconds q_timing_turns q_timing_cause q_timing_times q_found_order q_found_times q_found_order_moves q_found_order_rank q_works_carriers q_works_entries qr_layout_emptySeconds cI cO 1 v_layout_tanks s2_v_tried_count s2_v_timing_rules s2_v_found_cycle s2_v_found_order_count v_works_second v_works_cycleSecond v_works_nextRank v_works_entryStopped v_works_entered v_works_done v_works_lastStay v_works_hoistCarrier v_works_hoistMove v_works_hoistEntry v_works_hoistEnd f_layout_loadedSeconds s2_f_tried_moves s2_f_tried_rank s2_f_timing_before s2_f_timing_after s2_f_timing_seconds s2_f_timing_turns f_layout_low f_layout_high s2_f_timing_times s2_f_timing_cause s2_f_found_order_moves s2_f_found_order_rank s2_f_found_times f_works_carriers f_works_entries f_layout_emptySeconds) H := hP
    have hD : va_D A (wd_HP_solve q_this q_layout q_tried q_timing q_found q_works q_layout_low q_layout_high q_layout_loadedSeconds q_layout_emptySeconds q_tried_moves q_tried_rank q_timing_before q_timing_after q_timing_seconds q_timing_turns q_timing_cause q_timing_times q_found_order q_found_times q_found_order_moves q_found_order_rank q_works_carriers q_works_entries qr_layout_emptySeconds cI cO 1 v_layout_tanks s2_v_tried_count s2_v_timing_rules s2_v_found_cycle s2_v_found_order_count v_works_second v_works_cycleSecond v_works_nextRank v_works_entryStopped v_works_entered v_works_done v_works_lastStay v_works_hoistCarrier v_works_hoistMove v_works_hoistEntry v_works_hoistEnd f_layout_loadedSeconds s2_f_tried_moves s2_f_tried_rank s2_f_timing_before s2_f_timing_after s2_f_timing_seconds s2_f_timing_turns f_layout_low f_layout_high s2_f_timing_times s2_f_timing_cause s2_f_found_order_moves s2_f_found_order_rank s2_f_found_times f_works_carriers f_works_entries f_layout_emptySeconds) := hD
    refine lv_aload_n hx hb d_HP_solve_23 rfl (lv_at hl 1 rfl) ?_
    refine va_get (D := (dC, dI)) (ci := 5) (v := .ref q_works) (C := R_HP) (T := F_HP) (N := 6) hx hb hts uw_HP hown hK hP 0 rfl rfl 4 (by decide) (hts _ tw_299) (fun _ h9 => h9) rfl d_HP_solve_24 ?_
    obtain ⟨⟨s5_v_second, s5_v_cycleSecond, s5_v_nextRank, s5_v_entryStopped, s5_v_entered, s5_v_done, s5_v_lastStay, s5_v_hoistCarrier, s5_v_hoistMove, s5_v_hoistEntry, s5_v_hoistEnd, s5_f_carriers, s5_f_entries⟩, hc5, hF⟩ := ox_clS hF
    refine hq_cv (ws' := (wd_HP_solve q_this q_layout q_tried q_timing q_found q_works q_layout_low q_layout_high q_layout_loadedSeconds q_layout_emptySeconds q_tried_moves q_tried_rank q_timing_before q_timing_after q_timing_seconds q_timing_turns q_timing_cause q_timing_times q_found_order q_found_times q_found_order_moves q_found_order_rank q_works_carriers q_works_entries qr_layout_emptySeconds cI cO 1 v_layout_tanks s2_v_tried_count s2_v_timing_rules s2_v_found_cycle s2_v_found_order_count s5_v_second s5_v_cycleSecond s5_v_nextRank s5_v_entryStopped s5_v_entered s5_v_done s5_v_lastStay s5_v_hoistCarrier s5_v_hoistMove s5_v_hoistEntry s5_v_hoistEnd f_layout_loadedSeconds s2_f_tried_moves s2_f_tried_rank s2_f_timing_before s2_f_timing_after s2_f_timing_seconds s2_f_timing_turns f_layout_low f_layout_high s2_f_timing_times s2_f_timing_cause s2_f_found_order_moves s2_f_found_order_rank s2_f_found_times s5_f_carriers s5_f_entries f_layout_emptySeconds)) (hq_rV (As := []) (rest := []) ⟨hx, hb, hml, hown, hts⟩ (c_WK_reset l dC dI q_works q_layout q_found q_works_carriers q_works_entries cI _ z v_works_second v_works_cycleSecond v_works_nextRank v_works_entryStopped v_works_entered v_works_done v_works_lastStay v_works_hoistCarrier v_works_hoistMove v_works_hoistEntry v_works_hoistEnd f_works_carriers f_works_entries s5_v_second s5_v_cycleSecond s5_v_nextRank s5_v_entryStopped s5_v_entered s5_v_done s5_v_lastStay s5_v_hoistCarrier s5_v_hoistMove s5_v_hoistEntry s5_v_hoistEnd s5_f_carriers s5_f_entries hc5) (cwV 0 hts (hq_gV tw_300 tw_301 tw_302 tw_111 tw_303) rfl rfl rfl yv_WK_reset ⟨Nat.le_of_ble_eq_true rfl, Nat.le_of_ble_eq_true rfl⟩) hP hD hK [0] rfl 6 rfl rfl [6, 21, 22] rfl rfl rfl hl.1 rfl (Nat.le_of_ble_eq_true rfl) d_HP_solve_27 ⟨Nat.le_of_ble_eq_true rfl, Nat.le_of_ble_eq_true rfl⟩) hP hD hS hA [6, 21, 22] [0, 1, 2, 3, 4, 5, 7, 8, 9, 10, 11, 12, 13, 14, 15, 16, 17, 18, 19, 20, 23, 24, 25, 26, 27, 28, 29, 30] [0, 1, 2, 3, 4, 5, 28, 6, 7, 8, 9, 10, 11, 12, 13, 14, 15, 16, 17, 18, 19, 29, 30, 20, 21, 22, 23, 24, 25, 26, 27] rfl rfl rfl (by decide) rfl rfl (fun H locs hP hD hS => ?_)
    refine lv_iload_n hx hb d_HP_solve_30 rfl (lv_at hl 0 rfl) ?_
    cases hF
    exact hq_xiret hx hb hr hlocks hP hD hK hS (Nat.le_of_ble_eq_true rfl) (Nat.le_of_ble_eq_true rfl) d_HP_solve_31
abbrev wd_HP_least (q_this : Nat) (q_layout : Nat) (q_tried : Nat) (q_timing : Nat) (q_found : Nat) (q_works : Nat) (q_layout_low : Nat) (q_layout_high : Nat) (q_layout_loadedSeconds : Nat) (q_layout_emptySeconds : Nat) (q_tried_moves : Nat) (q_tried_rank : Nat) (q_timing_before : Nat) (q_timing_after : Nat) (q_timing_seconds : Nat) (q_timing_turns : Nat) (q_timing_cause : Nat) (q_timing_times : Nat) (qr_layout_emptySeconds : Nat → Nat) (cI : ClassId) (cO : ClassId) (v_planned : Int32) (v_layout_tanks : Int32) (v_tried_count : Int32) (v_timing_rules : Int32) (f_layout_loadedSeconds : Nat → Int32) (f_tried_rank : Nat → Int32) (f_tried_moves : Nat → Int32) (f_timing_before : Nat → Int32) (f_timing_after : Nat → Int32) (f_timing_seconds : Nat → Int32) (f_timing_turns : Nat → Int32) (f_layout_low : Nat → Int32) (f_layout_high : Nat → Int32) (f_timing_times : Nat → Int32) (f_timing_cause : Nat → Int32) (f_layout_emptySeconds : Nat → Nat → Int32) : va_W := [(q_this, .inr (5, [.ref q_layout, .ref q_tried, .ref q_timing, .ref q_found, .ref q_works, .int v_planned])), (q_layout, .inr (0, [.int v_layout_tanks, .ref q_layout_low, .ref q_layout_high, .ref q_layout_loadedSeconds, .ref q_layout_emptySeconds])), (q_tried, .inr (1, [.int v_tried_count, .ref q_tried_moves, .ref q_tried_rank])), (q_timing, .inr (3, [.ref q_layout, .int v_timing_rules, .ref q_timing_before, .ref q_timing_after, .ref q_timing_seconds, .ref q_timing_turns, .ref q_timing_cause, .ref q_timing_times])), (q_layout_loadedSeconds, .inl (cI, 6, .inl f_layout_loadedSeconds)), (q_tried_rank, .inl (cI, 6, .inl f_tried_rank)), (q_tried_moves, .inl (cI, 6, .inl f_tried_moves)), (q_timing_before, .inl (cI, 16, .inl f_timing_before)), (q_timing_after, .inl (cI, 16, .inl f_timing_after)), (q_timing_seconds, .inl (cI, 16, .inl f_timing_seconds)), (q_timing_turns, .inl (cI, 16, .inl f_timing_turns)), (q_layout_low, .inl (cI, 6, .inl f_layout_low)), (q_layout_high, .inl (cI, 6, .inl f_layout_high)), (q_timing_times, .inl (cI, 6, .inl f_timing_times)), (q_timing_cause, .inl (cI, 6, .inl f_timing_cause)), (q_layout_emptySeconds, .inl (hq_out cO qr_layout_emptySeconds))] ++ hq_rows cI qr_layout_emptySeconds f_layout_emptySeconds
set_option maxHeartbeats 4000000 in
set_option maxRecDepth 100000 in
theorem x_HP_least (l : Launch) (hfl : l.flags = pinnedFlags ++ [noTraceFlag]) (dC : Nat → ClassId) (dI : Nat → Nat → Nat) (q_this : Nat) (q_layout : Nat) (q_tried : Nat) (q_timing : Nat) (q_found : Nat) (q_works : Nat) (q_layout_low : Nat) (q_layout_high : Nat) (q_layout_loadedSeconds : Nat) (q_layout_emptySeconds : Nat) (q_tried_moves : Nat) (q_tried_rank : Nat) (q_timing_before : Nat) (q_timing_after : Nat) (q_timing_seconds : Nat) (q_timing_turns : Nat) (q_timing_cause : Nat) (q_timing_times : Nat) (qr_layout_emptySeconds : Nat → Nat) (cI : ClassId) (cO : ClassId) (sz : Nat) (z : Nat) (a1 : Int32) (v_planned : Int32) (v_layout_tanks : Int32) (v_tried_count : Int32) (v_timing_rules : Int32) (f_layout_loadedSeconds : Nat → Int32) (f_tried_rank : Nat → Int32) (f_tried_moves : Nat → Int32) (f_timing_before : Nat → Int32) (f_timing_after : Nat → Int32) (f_timing_seconds : Nat → Int32) (f_timing_turns : Nat → Int32) (f_layout_low : Nat → Int32) (f_layout_high : Nat → Int32) (f_timing_times : Nat → Int32) (f_timing_cause : Nat → Int32) (f_layout_emptySeconds : Nat → Nat → Int32) (xc : Nat) (rr : Int32) (n_v_tried_count : Int32) (n_v_timing_rules : Int32) (n_f_tried_rank : Nat → Int32) (n_f_tried_moves : Nat → Int32) (n_f_timing_before : Nat → Int32) (n_f_timing_after : Nat → Int32) (n_f_timing_seconds : Nat → Int32) (n_f_timing_turns : Nat → Int32) (n_f_timing_times : Nat → Int32) (n_f_timing_cause : Nat → Int32) (hF : fn_HP_least z a1 v_layout_tanks v_tried_count v_timing_rules f_layout_loadedSeconds f_tried_rank f_tried_moves f_timing_before f_timing_after f_timing_seconds f_timing_turns f_layout_low f_layout_high f_timing_times f_timing_cause f_layout_emptySeconds = some (xc, rr, n_v_tried_count, n_v_timing_rules, n_f_tried_rank, n_f_tried_moves, n_f_timing_before, n_f_timing_after, n_f_timing_seconds, n_f_timing_turns, n_f_timing_times, n_f_timing_cause)) : hq_Met l y_HP_least w_HP_least ({ frames := 7, cells := 2, slots := 12, locals := 110 }) (hq_PcX (dC, dI) vwCl [(cI, .int), (cO, .array .int)] (wd_HP_least q_this q_layout q_tried q_timing q_found q_works q_layout_low q_layout_high q_layout_loadedSeconds q_layout_emptySeconds q_tried_moves q_tried_rank q_timing_before q_timing_after q_timing_seconds q_timing_turns q_timing_cause q_timing_times qr_layout_emptySeconds cI cO v_planned v_layout_tanks v_tried_count v_timing_rules f_layout_loadedSeconds f_tried_rank f_tried_moves f_timing_before f_timing_after f_timing_seconds f_timing_turns f_layout_low f_layout_high f_timing_times f_timing_cause f_layout_emptySeconds) sz [.ref q_this, .int a1]) (hq_Qx (dC, dI) vwCl [(cI, .int), (cO, .array .int)] (wd_HP_least q_this q_layout q_tried q_timing q_found q_works q_layout_low q_layout_high q_layout_loadedSeconds q_layout_emptySeconds q_tried_moves q_tried_rank q_timing_before q_timing_after q_timing_seconds q_timing_turns q_timing_cause q_timing_times qr_layout_emptySeconds cI cO v_planned v_layout_tanks n_v_tried_count n_v_timing_rules f_layout_loadedSeconds n_f_tried_rank n_f_tried_moves n_f_timing_before n_f_timing_after n_f_timing_seconds n_f_timing_turns f_layout_low f_layout_high n_f_timing_times n_f_timing_cause f_layout_emptySeconds) xc (some (.int rr)) (va_A (wd_HP_least q_this q_layout q_tried q_timing q_found q_works q_layout_low q_layout_high q_layout_loadedSeconds q_layout_emptySeconds q_tried_moves q_tried_rank q_timing_before q_timing_after q_timing_seconds q_timing_turns q_timing_cause q_timing_times qr_layout_emptySeconds cI cO v_planned v_layout_tanks v_tried_count v_timing_rules f_layout_loadedSeconds f_tried_rank f_tried_moves f_timing_before f_timing_after f_timing_seconds f_timing_turns f_layout_low f_layout_high f_timing_times f_timing_cause f_layout_emptySeconds) sz)) 2 12 (va_A (wd_HP_least q_this q_layout q_tried q_timing q_found q_works q_layout_low q_layout_high q_layout_loadedSeconds q_layout_emptySeconds q_tried_moves q_tried_rank q_timing_before q_timing_after q_timing_seconds q_timing_turns q_timing_cause q_timing_times qr_layout_emptySeconds cI cO v_planned v_layout_tanks v_tried_count v_timing_rules f_layout_loadedSeconds f_tried_rank f_tried_moves f_timing_before f_timing_after f_timing_seconds f_timing_turns f_layout_low f_layout_high f_timing_times f_timing_cause f_layout_emptySeconds) sz) := by
  refine hq_metX hfl (Qc := hq_Qx (dC, dI) vwCl [(cI, .int), (cO, .array .int)] (wd_HP_least q_this q_layout q_tried q_timing q_found q_works q_layout_low q_layout_high q_layout_loadedSeconds q_layout_emptySeconds q_tried_moves q_tried_rank q_timing_before q_timing_after q_timing_seconds q_timing_turns q_timing_cause q_timing_times qr_layout_emptySeconds cI cO v_planned v_layout_tanks n_v_tried_count n_v_timing_rules f_layout_loadedSeconds n_f_tried_rank n_f_tried_moves n_f_timing_before n_f_timing_after n_f_timing_seconds n_f_timing_turns f_layout_low f_layout_high n_f_timing_times n_f_timing_cause f_layout_emptySeconds) xc (some (.int rr))) (fr := fun A => A) (cc := b_HP_least) (maxL := 2) (ret := some .int) (by decide) rfl (Nat.le_of_ble_eq_true rfl) ?_
  intro p e s m args below meth c A ls hx hb hr hml hts hown hlocks hnm hP hD hK hA hS hl htr hex hG hns
  have hts : ∀ w ∈ tb0, w.before args s = true := fun w h => hts w (List.mem_cons_of_mem _ h)
  have hown : s.vm.findClass R_HP = some m.cls := hown
  have hl : lv_has ls 2 [(0, .ref q_this), (1, .int a1)] := hl
  unfold fn_HP_least at hF
  refine lv_aload_n hx hb d_HP_least_0 rfl (lv_at hl 0 rfl) ?_
  obtain ⟨x1, hc1, hF⟩ := ox_clS hF
  refine hq_cr (hq_rVX (As := []) (rest := []) ⟨hx, hb, hml, hown, hts⟩ (x_HP_requireReady l hfl dC dI q_this q_layout q_tried q_timing q_found q_works q_layout_low q_layout_high q_layout_loadedSeconds q_layout_emptySeconds qr_layout_emptySeconds cI cO _ z v_planned v_layout_tanks f_layout_loadedSeconds f_layout_emptySeconds x1 hc1) (cwV 0 hts (hq_gV tw_291 tw_292 tw_293 tw_266 tw_294) rfl rfl rfl yv_HP_requireReady ⟨Nat.le_of_ble_eq_true rfl, Nat.le_of_ble_eq_true rfl⟩) hP hD hK (hq_Gnow hG hns hS) [0, 1] rfl 0 rfl rfl [0, 1, 4, 15, 16, 17, 18, 19, 20, 21, 22] rfl rfl rfl hl.1 rfl (Nat.le_of_ble_eq_true rfl) d_HP_least_1 ⟨Nat.le_of_ble_eq_true rfl, Nat.le_of_ble_eq_true rfl⟩) (fun h1 => ?_) (fun h1 q H1 ce g1 g2 g3 g4 g5 => ?_)
  rotate_left
  · have hF := ox_t hF h1
    cases hF
    exact hq_xout hex hlocks h1 g1 g2 g3 (hq_keepP hP g5) hD hK (hq_keepS hS g4 g5) (Nat.le_of_ble_eq_true rfl) (Nat.le_of_ble_eq_true rfl)
  have hF := ox_fn hF h1
  refine lv_aload_n hx hb d_HP_least_4 rfl (lv_at hl 0 rfl) ?_
  refine va_get (D := (dC, dI)) (ci := 5) (v := .ref q_tried) (C := R_HP) (T := F_HP) (N := 6) hx hb hts uw_HP hown hK hP 0 rfl rfl 1 (by decide) (hts _ tw_141) (fun _ h9 => h9) rfl d_HP_least_5 ?_
  refine lv_iload_n hx hb d_HP_least_8 rfl (lv_at hl 1 rfl) ?_
  refine lv_aload_n hx hb d_HP_least_9 rfl (lv_at hl 0 rfl) ?_
  refine va_get (D := (dC, dI)) (ci := 5) (v := .ref q_layout) (C := R_HP) (T := F_HP) (N := 6) hx hb hts uw_HP hown hK hP 0 rfl rfl 0 (by decide) (hts _ tw_157) (fun _ h9 => h9) rfl d_HP_least_10 ?_
  refine va_get (D := (dC, dI)) (ci := 0) (v := .int v_layout_tanks) (C := R_LY) (T := F_LY) (N := 5) hx hb hts uw_LY hown hK hP 1 rfl rfl 0 (by decide) (hts _ tw_158) (fun _ h9 => h9) rfl d_HP_least_13 ?_
  obtain ⟨⟨r2, s2_v_count, s2_f_rank, s2_f_moves⟩, hc2, hF⟩ := ox_clS hF
  refine hq_ci (ws' := (wd_HP_least q_this q_layout q_tried q_timing q_found q_works q_layout_low q_layout_high q_layout_loadedSeconds q_layout_emptySeconds q_tried_moves q_tried_rank q_timing_before q_timing_after q_timing_seconds q_timing_turns q_timing_cause q_timing_times qr_layout_emptySeconds cI cO v_planned v_layout_tanks s2_v_count v_timing_rules f_layout_loadedSeconds s2_f_rank s2_f_moves f_timing_before f_timing_after f_timing_seconds f_timing_turns f_layout_low f_layout_high f_timing_times f_timing_cause f_layout_emptySeconds)) (hq_rV (As := [.int a1, .int v_layout_tanks]) (rest := []) ⟨hx, hb, hml, hown, hts⟩ (c_OR_read l dC dI q_tried q_tried_moves q_tried_rank cI _ z a1 v_layout_tanks v_tried_count f_tried_rank f_tried_moves r2 s2_v_count s2_f_rank s2_f_moves hc2) (cwV 2 hts (hq_gV tw_304 tw_305 tw_306 tw_24 tw_307) rfl rfl rfl yv_OR_read ⟨Nat.le_of_ble_eq_true rfl, Nat.le_of_ble_eq_true rfl⟩) hP hD hK [0] rfl 2 rfl rfl [2, 5, 6] rfl rfl rfl hl.1 rfl (Nat.le_of_ble_eq_true rfl) d_HP_least_16 ⟨Nat.le_of_ble_eq_true rfl, Nat.le_of_ble_eq_true rfl⟩) hP hD hS hA [2, 5, 6] [0, 1, 3, 4, 7, 8, 9, 10, 11, 12, 13, 14, 15, 16, 17, 18, 19, 20, 21, 22] [0, 1, 20, 2, 3, 21, 22, 4, 5, 6, 7, 8, 9, 10, 11, 12, 13, 14, 15, 16, 17, 18, 19] rfl rfl rfl (by decide) rfl rfl (fun H locs hP hD hS => ?_)
  obtain ⟨x3, hc3, hF⟩ := ox_clS hF
  refine hq_cr (hq_rSX (As := [.int r2]) (rest := []) ⟨hx, hb, hml, hown, hts⟩ (x_HP_require l hfl dC dI _ r2 x3 hc3) ⟨callB_of 1 hts (hq_g1 tw_270) rfl rfl rfl (hts _ tw_266) (hts _ tw_268) yd_HP_require ⟨Nat.le_of_ble_eq_true rfl, Nat.le_of_ble_eq_true rfl⟩, hts _ tw_269⟩ hP hD hK (hq_Gnow hG hns hS) [] rfl [] rfl rfl rfl hl.1 rfl (Nat.le_of_ble_eq_true rfl) d_HP_least_19 ⟨Nat.le_of_ble_eq_true rfl, Nat.le_of_ble_eq_true rfl⟩) (fun h3 => ?_) (fun h3 q H1 ce g1 g2 g3 g4 g5 => ?_)
  rotate_left
  · have hF := ox_t hF h3
    cases hF
    exact hq_xout hex hlocks h3 g1 g2 g3 (hq_keepP hP g5) hD hK (hq_keepS hS g4 g5) (Nat.le_of_ble_eq_true rfl) (Nat.le_of_ble_eq_true rfl)
  have hF := ox_fn hF h3
  refine lv_aload_n hx hb d_HP_least_22 rfl (lv_at hl 0 rfl) ?_
  refine va_get (D := (dC, dI)) (ci := 5) (v := .ref q_timing) (C := R_HP) (T := F_HP) (N := 6) hx hb hts uw_HP hown hK hP 0 rfl rfl 2 (by decide) (hts _ tw_140) (fun _ h9 => h9) rfl d_HP_least_23 ?_
  refine lv_aload_n hx hb d_HP_least_26 rfl (lv_at hl 0 rfl) ?_
  refine va_get (D := (dC, dI)) (ci := 5) (v := .ref q_tried) (C := R_HP) (T := F_HP) (N := 6) hx hb hts uw_HP hown hK hP 0 rfl rfl 1 (by decide) (hts _ tw_141) (fun _ h9 => h9) rfl d_HP_least_27 ?_
  refine lv_sipush (v := 2000) hx hb d_HP_least_30 (by decide) ?_
  obtain ⟨⟨r4, s4_v_rules, s4_f_before, s4_f_after, s4_f_seconds, s4_f_turns, s4_f_times, s4_f_cause⟩, hc4, hF⟩ := ox_clS hF
  refine hq_ci (ws' := (wd_HP_least q_this q_layout q_tried q_timing q_found q_works q_layout_low q_layout_high q_layout_loadedSeconds q_layout_emptySeconds q_tried_moves q_tried_rank q_timing_before q_timing_after q_timing_seconds q_timing_turns q_timing_cause q_timing_times qr_layout_emptySeconds cI cO v_planned v_layout_tanks s2_v_count s4_v_rules f_layout_loadedSeconds s2_f_rank s2_f_moves s4_f_before s4_f_after s4_f_seconds s4_f_turns f_layout_low f_layout_high s4_f_times s4_f_cause f_layout_emptySeconds)) (hq_rV (As := [.ref q_tried, .int 2000]) (rest := []) ⟨hx, hb, hml, hown, hts⟩ (c_TM_leastCycle l dC dI q_timing q_layout q_timing_before q_timing_after q_timing_seconds q_timing_turns q_timing_cause q_timing_times q_tried q_tried_moves q_tried_rank q_layout_low q_layout_high q_layout_loadedSeconds q_layout_emptySeconds qr_layout_emptySeconds cI cO _ z 2000 v_timing_rules s2_v_count v_layout_tanks s2_f_moves f_layout_loadedSeconds f_timing_before f_timing_after f_timing_seconds f_timing_turns s2_f_rank f_layout_low f_layout_high f_timing_times f_timing_cause f_layout_emptySeconds r4 s4_v_rules s4_f_before s4_f_after s4_f_seconds s4_f_turns s4_f_times s4_f_cause hc4) (cwV 2 hts (hq_gV tw_142 tw_143 tw_144 tw_52 tw_145) rfl rfl rfl yv_TM_leastCycle ⟨Nat.le_of_ble_eq_true rfl, Nat.le_of_ble_eq_true rfl⟩) hP hD hK [0, 1] rfl 3 rfl rfl [3, 2, 1, 6, 4, 7, 8, 9, 10, 5, 11, 12, 13, 14, 15, 16, 17, 18, 19, 20, 21, 22] rfl rfl rfl hl.1 rfl (Nat.le_of_ble_eq_true rfl) d_HP_least_33 ⟨Nat.le_of_ble_eq_true rfl, Nat.le_of_ble_eq_true rfl⟩) hP hD hS hA [3, 2, 1, 6, 4, 7, 8, 9, 10, 5, 11, 12, 13, 14, 15, 16, 17, 18, 19, 20, 21, 22] [0] [0, 3, 2, 1, 5, 10, 4, 6, 7, 8, 9, 11, 12, 13, 14, 15, 16, 17, 18, 19, 20, 21, 22] rfl rfl rfl (by decide) rfl rfl (fun H locs hP hD hS => ?_)
  cases hF
  exact hq_xiret hx hb hr hlocks hP hD hK hS (Nat.le_of_ble_eq_true rfl) (Nat.le_of_ble_eq_true rfl) d_HP_least_36
abbrev wd_HP_plan (q_this : Nat) (q_layout : Nat) (q_tried : Nat) (q_timing : Nat) (q_found : Nat) (q_works : Nat) (q_layout_low : Nat) (q_layout_high : Nat) (q_layout_loadedSeconds : Nat) (q_layout_emptySeconds : Nat) (q_found_order : Nat) (q_found_times : Nat) (q_found_order_moves : Nat) (q_found_order_rank : Nat) (cI : ClassId) (v_planned : Int32) (v_layout_tanks : Int32) (v_found_cycle : Int32) (v_found_order_count : Int32) (f_found_order_moves : Nat → Int32) (f_found_times : Nat → Int32) (f_layout_loadedSeconds : Nat → Int32) (f_found_order_rank : Nat → Int32) : va_W := [(q_this, .inr (5, [.ref q_layout, .ref q_tried, .ref q_timing, .ref q_found, .ref q_works, .int v_planned])), (q_layout, .inr (0, [.int v_layout_tanks, .ref q_layout_low, .ref q_layout_high, .ref q_layout_loadedSeconds, .ref q_layout_emptySeconds])), (q_found, .inr (2, [.ref q_found_order, .ref q_found_times, .int v_found_cycle])), (q_found_order, .inr (1, [.int v_found_order_count, .ref q_found_order_moves, .ref q_found_order_rank])), (q_found_order_moves, .inl (cI, 6, .inl f_found_order_moves)), (q_found_times, .inl (cI, 6, .inl f_found_times)), (q_layout_loadedSeconds, .inl (cI, 6, .inl f_layout_loadedSeconds)), (q_found_order_rank, .inl (cI, 6, .inl f_found_order_rank))]
set_option maxHeartbeats 4000000 in
set_option maxRecDepth 100000 in
theorem x_HP_plan (l : Launch) (hfl : l.flags = pinnedFlags ++ [noTraceFlag]) (dC : Nat → ClassId) (dI : Nat → Nat → Nat) (q_this : Nat) (q_layout : Nat) (q_tried : Nat) (q_timing : Nat) (q_found : Nat) (q_works : Nat) (q_layout_low : Nat) (q_layout_high : Nat) (q_layout_loadedSeconds : Nat) (q_layout_emptySeconds : Nat) (q_found_order : Nat) (q_found_times : Nat) (q_found_order_moves : Nat) (q_found_order_rank : Nat) (cI : ClassId) (sz : Nat) (z : Nat) (a1 : Int32) (a2 : Int32) (v_planned : Int32) (v_layout_tanks : Int32) (v_found_cycle : Int32) (v_found_order_count : Int32) (f_found_order_moves : Nat → Int32) (f_found_times : Nat → Int32) (f_layout_loadedSeconds : Nat → Int32) (f_found_order_rank : Nat → Int32) (xc : Nat) (rr : Int32) (hF : fn_HP_plan z a1 a2 v_planned v_layout_tanks v_found_cycle v_found_order_count f_found_order_moves f_found_times f_layout_loadedSeconds f_found_order_rank = some (xc, rr)) : hq_Met l y_HP_plan w_HP_plan ({ frames := 7, cells := 2, slots := 12, locals := 110 }) (hq_PcX (dC, dI) vwCl [(cI, .int)] (wd_HP_plan q_this q_layout q_tried q_timing q_found q_works q_layout_low q_layout_high q_layout_loadedSeconds q_layout_emptySeconds q_found_order q_found_times q_found_order_moves q_found_order_rank cI v_planned v_layout_tanks v_found_cycle v_found_order_count f_found_order_moves f_found_times f_layout_loadedSeconds f_found_order_rank) sz [.ref q_this, .int a1, .int a2]) (hq_Qx (dC, dI) vwCl [(cI, .int)] (wd_HP_plan q_this q_layout q_tried q_timing q_found q_works q_layout_low q_layout_high q_layout_loadedSeconds q_layout_emptySeconds q_found_order q_found_times q_found_order_moves q_found_order_rank cI v_planned v_layout_tanks v_found_cycle v_found_order_count f_found_order_moves f_found_times f_layout_loadedSeconds f_found_order_rank) xc (some (.int rr)) (va_A (wd_HP_plan q_this q_layout q_tried q_timing q_found q_works q_layout_low q_layout_high q_layout_loadedSeconds q_layout_emptySeconds q_found_order q_found_times q_found_order_moves q_found_order_rank cI v_planned v_layout_tanks v_found_cycle v_found_order_count f_found_order_moves f_found_times f_layout_loadedSeconds f_found_order_rank) sz)) 2 12 (va_A (wd_HP_plan q_this q_layout q_tried q_timing q_found q_works q_layout_low q_layout_high q_layout_loadedSeconds q_layout_emptySeconds q_found_order q_found_times q_found_order_moves q_found_order_rank cI v_planned v_layout_tanks v_found_cycle v_found_order_count f_found_order_moves f_found_times f_layout_loadedSeconds f_found_order_rank) sz) := by
  refine hq_metX hfl (Qc := hq_Qx (dC, dI) vwCl [(cI, .int)] (wd_HP_plan q_this q_layout q_tried q_timing q_found q_works q_layout_low q_layout_high q_layout_loadedSeconds q_layout_emptySeconds q_found_order q_found_times q_found_order_moves q_found_order_rank cI v_planned v_layout_tanks v_found_cycle v_found_order_count f_found_order_moves f_found_times f_layout_loadedSeconds f_found_order_rank) xc (some (.int rr))) (fr := fun A => A) (cc := b_HP_plan) (maxL := 3) (ret := some .int) (by decide) rfl (Nat.le_of_ble_eq_true rfl) ?_
  intro p e s m args below meth c A ls hx hb hr hml hts hown hlocks hnm hP hD hK hA hS hl htr hex hG hns
  have hts : ∀ w ∈ tb0, w.before args s = true := fun w h => hts w (List.mem_cons_of_mem _ h)
  have hown : s.vm.findClass R_HP = some m.cls := hown
  have hl : lv_has ls 3 [(0, .ref q_this), (1, .int a1), (2, .int a2)] := hl
  unfold fn_HP_plan at hF
  refine lv_aload_n hx hb d_HP_plan_0 rfl (lv_at hl 0 rfl) ?_
  obtain ⟨x1, hc1, hF⟩ := ox_clS hF
  refine hq_cr (hq_rVX (As := []) (rest := []) ⟨hx, hb, hml, hown, hts⟩ (x_HP_requirePlan l hfl dC dI q_this q_layout q_tried q_timing q_found q_works _ v_planned x1 hc1) (cwV 0 hts (hq_gV tw_308 tw_309 tw_310 tw_266 tw_311) rfl rfl rfl yv_HP_requirePlan ⟨Nat.le_of_ble_eq_true rfl, Nat.le_of_ble_eq_true rfl⟩) hP hD hK (hq_Gnow hG hns hS) [] rfl 0 rfl rfl [0] rfl rfl rfl hl.1 rfl (Nat.le_of_ble_eq_true rfl) d_HP_plan_1 ⟨Nat.le_of_ble_eq_true rfl, Nat.le_of_ble_eq_true rfl⟩) (fun h1 => ?_) (fun h1 q H1 ce g1 g2 g3 g4 g5 => ?_)
  rotate_left
  · have hF := ox_t hF h1
    cases hF
    exact hq_xout hex hlocks h1 g1 g2 g3 (hq_keepP hP g5) hD hK (hq_keepS hS g4 g5) (Nat.le_of_ble_eq_true rfl) (Nat.le_of_ble_eq_true rfl)
  have hF := ox_fn hF h1
  refine lv_iload_n hx hb d_HP_plan_4 rfl (lv_at hl 2 rfl) ?_
  by_cases hk0 : a2 = 0
  · have hF := ox_t hF hk0
    refine lv_tableIn (tgt := 40) hx hb d_HP_plan_5 (by rw [hk0]; decide) (by rw [hk0]; decide) (by rw [hk0]; rfl) (by decide) ?_
    refine lv_aload_n hx hb d_HP_plan_40 rfl (lv_at hl 0 rfl) ?_
    refine va_get (D := (dC, dI)) (ci := 5) (v := .ref q_layout) (C := R_HP) (T := F_HP) (N := 6) hx hb hts uw_HP hown hK hP 0 rfl rfl 0 (by decide) (hts _ tw_157) (fun _ h9 => h9) rfl d_HP_plan_41 ?_
    refine lv_iload_n hx hb d_HP_plan_44 rfl (lv_at hl 1 rfl) ?_
    obtain ⟨r2, hc2, hF⟩ := ox_clS hF
    refine hq_ci (ws' := (wd_HP_plan q_this q_layout q_tried q_timing q_found q_works q_layout_low q_layout_high q_layout_loadedSeconds q_layout_emptySeconds q_found_order q_found_times q_found_order_moves q_found_order_rank cI v_planned v_layout_tanks v_found_cycle v_found_order_count f_found_order_moves f_found_times f_layout_loadedSeconds f_found_order_rank)) (hq_rV (As := [.int a1]) (rest := []) ⟨hx, hb, hml, hown, hts⟩ (c_LY_hasMove l dC dI q_layout q_layout_low q_layout_high q_layout_loadedSeconds q_layout_emptySeconds _ a1 v_layout_tanks r2 hc2) (cwV 1 hts (hq_gV tw_281 tw_282 tw_283 tw_12 tw_284) rfl rfl rfl yv_LY_hasMove ⟨Nat.le_of_ble_eq_true rfl, Nat.le_of_ble_eq_true rfl⟩) hP hD hK [] rfl 1 rfl rfl [1] rfl rfl rfl hl.1 rfl (Nat.le_of_ble_eq_true rfl) d_HP_plan_45 ⟨Nat.le_of_ble_eq_true rfl, Nat.le_of_ble_eq_true rfl⟩) hP hD hS hA [1] [0, 2, 3, 4, 5, 6, 7] [0, 7, 1, 2, 3, 4, 5, 6] rfl rfl rfl (by decide) rfl rfl (fun H locs hP hD hS => ?_)
    obtain ⟨x3, hc3, hF⟩ := ox_clS hF
    refine hq_cr (hq_rSX (As := [.int r2]) (rest := []) ⟨hx, hb, hml, hown, hts⟩ (x_HP_require l hfl dC dI _ r2 x3 hc3) ⟨callB_of 1 hts (hq_g1 tw_270) rfl rfl rfl (hts _ tw_266) (hts _ tw_268) yd_HP_require ⟨Nat.le_of_ble_eq_true rfl, Nat.le_of_ble_eq_true rfl⟩, hts _ tw_269⟩ hP hD hK (hq_Gnow hG hns hS) [] rfl [] rfl rfl rfl hl.1 rfl (Nat.le_of_ble_eq_true rfl) d_HP_plan_48 ⟨Nat.le_of_ble_eq_true rfl, Nat.le_of_ble_eq_true rfl⟩) (fun h3 => ?_) (fun h3 q H1 ce g1 g2 g3 g4 g5 => ?_)
    rotate_left
    · have hF := ox_t hF h3
      cases hF
      exact hq_xout hex hlocks h3 g1 g2 g3 (hq_keepP hP g5) hD hK (hq_keepS hS g4 g5) (Nat.le_of_ble_eq_true rfl) (Nat.le_of_ble_eq_true rfl)
    have hF := ox_fn hF h3
    refine lv_aload_n hx hb d_HP_plan_51 rfl (lv_at hl 0 rfl) ?_
    refine va_get (D := (dC, dI)) (ci := 5) (v := .ref q_found) (C := R_HP) (T := F_HP) (N := 6) hx hb hts uw_HP hown hK hP 0 rfl rfl 3 (by decide) (hts _ tw_150) (fun _ h9 => h9) rfl d_HP_plan_52 ?_
    refine va_get (D := (dC, dI)) (ci := 2) (v := .ref q_found_order) (C := R_PL) (T := F_PL) (N := 3) hx hb hts uw_PL hown hK hP 2 rfl rfl 0 (by decide) (hts _ tw_312) (fun _ h9 => h9) rfl d_HP_plan_55 ?_
    refine va_get (D := (dC, dI)) (ci := 1) (v := .ref q_found_order_moves) (C := R_OR) (T := F_OR) (N := 3) hx hb hts uw_OR hown hK hP 3 rfl rfl 1 (by decide) (hts _ tw_313) (fun _ h9 => h9) rfl d_HP_plan_58 ?_
    refine lv_iload_n hx hb d_HP_plan_61 rfl (lv_at hl 1 rfl) ?_
    obtain ⟨hin, hF⟩ := ox_gdS hF
    refine va_iald hx hb hK hP 4 0 rfl rfl hin d_HP_plan_62 ?_
    cases hF
    exact hq_xiret hx hb hr hlocks hP hD hK hS (Nat.le_of_ble_eq_true rfl) (Nat.le_of_ble_eq_true rfl) d_HP_plan_63
  have hF := ox_f hF hk0
  by_cases hk1 : a2 = 1
  · have hF := ox_t hF hk1
    refine lv_tableIn (tgt := 64) hx hb d_HP_plan_5 (by rw [hk1]; decide) (by rw [hk1]; decide) (by rw [hk1]; rfl) (by decide) ?_
    refine lv_aload_n hx hb d_HP_plan_64 rfl (lv_at hl 0 rfl) ?_
    refine va_get (D := (dC, dI)) (ci := 5) (v := .ref q_layout) (C := R_HP) (T := F_HP) (N := 6) hx hb hts uw_HP hown hK hP 0 rfl rfl 0 (by decide) (hts _ tw_157) (fun _ h9 => h9) rfl d_HP_plan_65 ?_
    refine lv_iload_n hx hb d_HP_plan_68 rfl (lv_at hl 1 rfl) ?_
    obtain ⟨r4, hc4, hF⟩ := ox_clS hF
    refine hq_ci (ws' := (wd_HP_plan q_this q_layout q_tried q_timing q_found q_works q_layout_low q_layout_high q_layout_loadedSeconds q_layout_emptySeconds q_found_order q_found_times q_found_order_moves q_found_order_rank cI v_planned v_layout_tanks v_found_cycle v_found_order_count f_found_order_moves f_found_times f_layout_loadedSeconds f_found_order_rank)) (hq_rV (As := [.int a1]) (rest := []) ⟨hx, hb, hml, hown, hts⟩ (c_LY_hasMove l dC dI q_layout q_layout_low q_layout_high q_layout_loadedSeconds q_layout_emptySeconds _ a1 v_layout_tanks r4 hc4) (cwV 1 hts (hq_gV tw_281 tw_282 tw_283 tw_12 tw_284) rfl rfl rfl yv_LY_hasMove ⟨Nat.le_of_ble_eq_true rfl, Nat.le_of_ble_eq_true rfl⟩) hP hD hK [] rfl 1 rfl rfl [1] rfl rfl rfl hl.1 rfl (Nat.le_of_ble_eq_true rfl) d_HP_plan_69 ⟨Nat.le_of_ble_eq_true rfl, Nat.le_of_ble_eq_true rfl⟩) hP hD hS hA [1] [0, 2, 3, 4, 5, 6, 7] [0, 7, 1, 2, 3, 4, 5, 6] rfl rfl rfl (by decide) rfl rfl (fun H locs hP hD hS => ?_)
    obtain ⟨x5, hc5, hF⟩ := ox_clS hF
    refine hq_cr (hq_rSX (As := [.int r4]) (rest := []) ⟨hx, hb, hml, hown, hts⟩ (x_HP_require l hfl dC dI _ r4 x5 hc5) ⟨callB_of 1 hts (hq_g1 tw_270) rfl rfl rfl (hts _ tw_266) (hts _ tw_268) yd_HP_require ⟨Nat.le_of_ble_eq_true rfl, Nat.le_of_ble_eq_true rfl⟩, hts _ tw_269⟩ hP hD hK (hq_Gnow hG hns hS) [] rfl [] rfl rfl rfl hl.1 rfl (Nat.le_of_ble_eq_true rfl) d_HP_plan_72 ⟨Nat.le_of_ble_eq_true rfl, Nat.le_of_ble_eq_true rfl⟩) (fun h5 => ?_) (fun h5 q H1 ce g1 g2 g3 g4 g5 => ?_)
    rotate_left
    · have hF := ox_t hF h5
      cases hF
      exact hq_xout hex hlocks h5 g1 g2 g3 (hq_keepP hP g5) hD hK (hq_keepS hS g4 g5) (Nat.le_of_ble_eq_true rfl) (Nat.le_of_ble_eq_true rfl)
    have hF := ox_fn hF h5
    refine lv_aload_n hx hb d_HP_plan_75 rfl (lv_at hl 0 rfl) ?_
    refine va_get (D := (dC, dI)) (ci := 5) (v := .ref q_found) (C := R_HP) (T := F_HP) (N := 6) hx hb hts uw_HP hown hK hP 0 rfl rfl 3 (by decide) (hts _ tw_150) (fun _ h9 => h9) rfl d_HP_plan_76 ?_
    refine va_get (D := (dC, dI)) (ci := 2) (v := .ref q_found_times) (C := R_PL) (T := F_PL) (N := 3) hx hb hts uw_PL hown hK hP 2 rfl rfl 1 (by decide) (hts _ tw_314) (fun _ h9 => h9) rfl d_HP_plan_79 ?_
    refine lv_iload_n hx hb d_HP_plan_82 rfl (lv_at hl 1 rfl) ?_
    obtain ⟨hin, hF⟩ := ox_gdS hF
    refine va_iald hx hb hK hP 5 0 rfl rfl hin d_HP_plan_83 ?_
    cases hF
    exact hq_xiret hx hb hr hlocks hP hD hK hS (Nat.le_of_ble_eq_true rfl) (Nat.le_of_ble_eq_true rfl) d_HP_plan_84
  have hF := ox_f hF hk1
  by_cases hk2 : a2 = 2
  · have hF := ox_t hF hk2
    refine lv_tableIn (tgt := 85) hx hb d_HP_plan_5 (by rw [hk2]; decide) (by rw [hk2]; decide) (by rw [hk2]; rfl) (by decide) ?_
    refine lv_aload_n hx hb d_HP_plan_85 rfl (lv_at hl 0 rfl) ?_
    refine va_get (D := (dC, dI)) (ci := 5) (v := .ref q_layout) (C := R_HP) (T := F_HP) (N := 6) hx hb hts uw_HP hown hK hP 0 rfl rfl 0 (by decide) (hts _ tw_157) (fun _ h9 => h9) rfl d_HP_plan_86 ?_
    refine lv_iload_n hx hb d_HP_plan_89 rfl (lv_at hl 1 rfl) ?_
    obtain ⟨r6, hc6, hF⟩ := ox_clS hF
    refine hq_ci (ws' := (wd_HP_plan q_this q_layout q_tried q_timing q_found q_works q_layout_low q_layout_high q_layout_loadedSeconds q_layout_emptySeconds q_found_order q_found_times q_found_order_moves q_found_order_rank cI v_planned v_layout_tanks v_found_cycle v_found_order_count f_found_order_moves f_found_times f_layout_loadedSeconds f_found_order_rank)) (hq_rV (As := [.int a1]) (rest := []) ⟨hx, hb, hml, hown, hts⟩ (c_LY_hasTank l dC dI q_layout q_layout_low q_layout_high q_layout_loadedSeconds q_layout_emptySeconds _ a1 v_layout_tanks r6 hc6) (cwV 1 hts (hq_gV tw_275 tw_276 tw_277 tw_12 tw_278) rfl rfl rfl yv_LY_hasTank ⟨Nat.le_of_ble_eq_true rfl, Nat.le_of_ble_eq_true rfl⟩) hP hD hK [] rfl 1 rfl rfl [1] rfl rfl rfl hl.1 rfl (Nat.le_of_ble_eq_true rfl) d_HP_plan_90 ⟨Nat.le_of_ble_eq_true rfl, Nat.le_of_ble_eq_true rfl⟩) hP hD hS hA [1] [0, 2, 3, 4, 5, 6, 7] [0, 7, 1, 2, 3, 4, 5, 6] rfl rfl rfl (by decide) rfl rfl (fun H locs hP hD hS => ?_)
    obtain ⟨x7, hc7, hF⟩ := ox_clS hF
    refine hq_cr (hq_rSX (As := [.int r6]) (rest := []) ⟨hx, hb, hml, hown, hts⟩ (x_HP_require l hfl dC dI _ r6 x7 hc7) ⟨callB_of 1 hts (hq_g1 tw_270) rfl rfl rfl (hts _ tw_266) (hts _ tw_268) yd_HP_require ⟨Nat.le_of_ble_eq_true rfl, Nat.le_of_ble_eq_true rfl⟩, hts _ tw_269⟩ hP hD hK (hq_Gnow hG hns hS) [] rfl [] rfl rfl rfl hl.1 rfl (Nat.le_of_ble_eq_true rfl) d_HP_plan_93 ⟨Nat.le_of_ble_eq_true rfl, Nat.le_of_ble_eq_true rfl⟩) (fun h7 => ?_) (fun h7 q H1 ce g1 g2 g3 g4 g5 => ?_)
    rotate_left
    · have hF := ox_t hF h7
      cases hF
      exact hq_xout hex hlocks h7 g1 g2 g3 (hq_keepP hP g5) hD hK (hq_keepS hS g4 g5) (Nat.le_of_ble_eq_true rfl) (Nat.le_of_ble_eq_true rfl)
    have hF := ox_fn hF h7
    refine lv_aload_n hx hb d_HP_plan_96 rfl (lv_at hl 0 rfl) ?_
    refine va_get (D := (dC, dI)) (ci := 5) (v := .ref q_found) (C := R_HP) (T := F_HP) (N := 6) hx hb hts uw_HP hown hK hP 0 rfl rfl 3 (by decide) (hts _ tw_150) (fun _ h9 => h9) rfl d_HP_plan_97 ?_
    refine lv_iload_n hx hb d_HP_plan_100 rfl (lv_at hl 1 rfl) ?_
    refine lv_aload_n hx hb d_HP_plan_101 rfl (lv_at hl 0 rfl) ?_
    refine va_get (D := (dC, dI)) (ci := 5) (v := .ref q_layout) (C := R_HP) (T := F_HP) (N := 6) hx hb hts uw_HP hown hK hP 0 rfl rfl 0 (by decide) (hts _ tw_157) (fun _ h9 => h9) rfl d_HP_plan_102 ?_
    obtain ⟨r8, hc8, hF⟩ := ox_clS hF
    refine hq_ci (ws' := (wd_HP_plan q_this q_layout q_tried q_timing q_found q_works q_layout_low q_layout_high q_layout_loadedSeconds q_layout_emptySeconds q_found_order q_found_times q_found_order_moves q_found_order_rank cI v_planned v_layout_tanks v_found_cycle v_found_order_count f_found_order_moves f_found_times f_layout_loadedSeconds f_found_order_rank)) (hq_rV (As := [.int a1, .ref q_layout]) (rest := []) ⟨hx, hb, hml, hown, hts⟩ (c_PL_soakSeconds l dC dI q_found q_found_order q_found_times q_layout q_layout_low q_layout_high q_layout_loadedSeconds q_layout_emptySeconds q_found_order_moves q_found_order_rank cI _ a1 v_found_cycle v_layout_tanks v_found_order_count f_found_times f_layout_loadedSeconds f_found_order_rank r8 hc8) (cwV 2 hts (hq_gV tw_315 tw_316 tw_317 tw_155 tw_318) rfl rfl rfl yv_PL_soakSeconds ⟨Nat.le_of_ble_eq_true rfl, Nat.le_of_ble_eq_true rfl⟩) hP hD hK [0] rfl 2 rfl rfl [2, 1, 3, 5, 6, 7] rfl rfl rfl hl.1 rfl (Nat.le_of_ble_eq_true rfl) d_HP_plan_105 ⟨Nat.le_of_ble_eq_true rfl, Nat.le_of_ble_eq_true rfl⟩) hP hD hS hA [2, 1, 3, 5, 6, 7] [0, 4] [0, 3, 2, 4, 1, 5, 6, 7] rfl rfl rfl (by decide) rfl rfl (fun H locs hP hD hS => ?_)
    cases hF
    exact hq_xiret hx hb hr hlocks hP hD hK hS (Nat.le_of_ble_eq_true rfl) (Nat.le_of_ble_eq_true rfl) d_HP_plan_108
  have hF := ox_f hF hk2
  by_cases hk3 : a2 = 3
  · have hF := ox_t hF hk3
    refine lv_tableIn (tgt := 109) hx hb d_HP_plan_5 (by rw [hk3]; decide) (by rw [hk3]; decide) (by rw [hk3]; rfl) (by decide) ?_
    refine lv_aload_n hx hb d_HP_plan_109 rfl (lv_at hl 0 rfl) ?_
    refine va_get (D := (dC, dI)) (ci := 5) (v := .ref q_found) (C := R_HP) (T := F_HP) (N := 6) hx hb hts uw_HP hown hK hP 0 rfl rfl 3 (by decide) (hts _ tw_150) (fun _ h9 => h9) rfl d_HP_plan_110 ?_
    refine va_get (D := (dC, dI)) (ci := 2) (v := .int v_found_cycle) (C := R_PL) (T := F_PL) (N := 3) hx hb hts uw_PL hown hK hP 2 rfl rfl 2 (by decide) (hts _ tw_319) (fun _ h9 => h9) rfl d_HP_plan_113 ?_
    cases hF
    exact hq_xiret hx hb hr hlocks hP hD hK hS (Nat.le_of_ble_eq_true rfl) (Nat.le_of_ble_eq_true rfl) d_HP_plan_116
  have hF := ox_f hF hk3
  by_cases hk4 : a2 = 4
  · have hF := ox_t hF hk4
    refine lv_tableIn (tgt := 117) hx hb d_HP_plan_5 (by rw [hk4]; decide) (by rw [hk4]; decide) (by rw [hk4]; rfl) (by decide) ?_
    refine lv_aload_n hx hb d_HP_plan_117 rfl (lv_at hl 0 rfl) ?_
    refine va_get (D := (dC, dI)) (ci := 5) (v := .ref q_found) (C := R_HP) (T := F_HP) (N := 6) hx hb hts uw_HP hown hK hP 0 rfl rfl 3 (by decide) (hts _ tw_150) (fun _ h9 => h9) rfl d_HP_plan_118 ?_
    refine va_get (D := (dC, dI)) (ci := 2) (v := .ref q_found_order) (C := R_PL) (T := F_PL) (N := 3) hx hb hts uw_PL hown hK hP 2 rfl rfl 0 (by decide) (hts _ tw_312) (fun _ h9 => h9) rfl d_HP_plan_121 ?_
    obtain ⟨r9, hc9, hF⟩ := ox_clS hF
    refine hq_ci (ws' := (wd_HP_plan q_this q_layout q_tried q_timing q_found q_works q_layout_low q_layout_high q_layout_loadedSeconds q_layout_emptySeconds q_found_order q_found_times q_found_order_moves q_found_order_rank cI v_planned v_layout_tanks v_found_cycle v_found_order_count f_found_order_moves f_found_times f_layout_loadedSeconds f_found_order_rank)) (hq_rV (As := []) (rest := []) ⟨hx, hb, hml, hown, hts⟩ (c_OR_number l dC dI q_found_order q_found_order_moves q_found_order_rank cI _ z v_found_order_count f_found_order_moves r9 hc9) (cwV 0 hts (hq_gV tw_320 tw_321 tw_322 tw_24 tw_323) rfl rfl rfl yv_OR_number ⟨Nat.le_of_ble_eq_true rfl, Nat.le_of_ble_eq_true rfl⟩) hP hD hK [0] rfl 3 rfl rfl [3, 4] rfl rfl rfl hl.1 rfl (Nat.le_of_ble_eq_true rfl) d_HP_plan_124 ⟨Nat.le_of_ble_eq_true rfl, Nat.le_of_ble_eq_true rfl⟩) hP hD hS hA [3, 4] [0, 1, 2, 5, 6, 7] [0, 1, 2, 6, 7, 3, 4, 5] rfl rfl rfl (by decide) rfl rfl (fun H locs hP hD hS => ?_)
    cases hF
    exact hq_xiret hx hb hr hlocks hP hD hK hS (Nat.le_of_ble_eq_true rfl) (Nat.le_of_ble_eq_true rfl) d_HP_plan_127
  have hF := ox_f hF hk4
  refine lv_tableOut (tgt := 128) hx hb d_HP_plan_5 (hq_out5 hk0 hk1 hk2 hk3 hk4) (by decide) ?_
  cases hF
  exact hq_throw hx hb htr hex hlocks hown (by decide) (hts _ tw_259) (hts _ tw_260) (hq_atIAE hts hG) (hl.1.trans hml.symm) d_HP_plan_128 d_HP_plan_131 d_HP_plan_132 d_HP_plan_135 (Nat.le_of_ble_eq_true rfl) (Nat.le_of_ble_eq_true rfl) (Nat.le_of_ble_eq_true rfl) (Nat.le_of_ble_eq_true rfl) (Nat.le_of_ble_eq_true rfl) (Nat.le_of_ble_eq_true rfl) (fun t q ce hW h1 h2 h3 h4 h5 => ⟨Or.inr ⟨by decide, q, ce, rfl, h3, h4, h5⟩, ⟨hq_keepP hP h2, va_K.moved hW.alike hK, hD⟩, (hq_keepS hS h1 h2).F rfl⟩)
abbrev wd_HP_run (q_this : Nat) (q_layout : Nat) (q_tried : Nat) (q_timing : Nat) (q_found : Nat) (q_works : Nat) (q_works_carriers : Nat) (q_works_entries : Nat) (q_found_order : Nat) (q_found_times : Nat) (q_found_order_moves : Nat) (q_found_order_rank : Nat) (q_layout_low : Nat) (q_layout_high : Nat) (q_layout_loadedSeconds : Nat) (q_layout_emptySeconds : Nat) (cI : ClassId) (v_planned : Int32) (v_works_second : Int32) (v_works_cycleSecond : Int32) (v_works_nextRank : Int32) (v_works_entryStopped : Int32) (v_works_entered : Int32) (v_works_done : Int32) (v_works_lastStay : Int32) (v_works_hoistCarrier : Int32) (v_works_hoistMove : Int32) (v_works_hoistEntry : Int32) (v_works_hoistEnd : Int32) (v_found_cycle : Int32) (v_found_order_count : Int32) (v_layout_tanks : Int32) (f_found_order_moves : Nat → Int32) (f_found_times : Nat → Int32) (f_works_carriers : Nat → Int32) (f_works_entries : Nat → Int32) (f_layout_loadedSeconds : Nat → Int32) : va_W := [(q_this, .inr (5, [.ref q_layout, .ref q_tried, .ref q_timing, .ref q_found, .ref q_works, .int v_planned])), (q_works, .inr (4, [.ref q_layout, .ref q_found, .int v_works_second, .int v_works_cycleSecond, .int v_works_nextRank, .int v_works_entryStopped, .int v_works_entered, .int v_works_done, .int v_works_lastStay, .int v_works_hoistCarrier, .int v_works_hoistMove, .int v_works_hoistEntry, .int v_works_hoistEnd, .ref q_works_carriers, .ref q_works_entries])), (q_found, .inr (2, [.ref q_found_order, .ref q_found_times, .int v_found_cycle])), (q_found_order, .inr (1, [.int v_found_order_count, .ref q_found_order_moves, .ref q_found_order_rank])), (q_layout, .inr (0, [.int v_layout_tanks, .ref q_layout_low, .ref q_layout_high, .ref q_layout_loadedSeconds, .ref q_layout_emptySeconds])), (q_found_order_moves, .inl (cI, 6, .inl f_found_order_moves)), (q_found_times, .inl (cI, 6, .inl f_found_times)), (q_works_carriers, .inl (cI, 6, .inl f_works_carriers)), (q_works_entries, .inl (cI, 6, .inl f_works_entries)), (q_layout_loadedSeconds, .inl (cI, 6, .inl f_layout_loadedSeconds))]
set_option maxHeartbeats 4000000 in
set_option maxRecDepth 100000 in
theorem x_HP_run (l : Launch) (hfl : l.flags = pinnedFlags ++ [noTraceFlag]) (dC : Nat → ClassId) (dI : Nat → Nat → Nat) (q_this : Nat) (q_layout : Nat) (q_tried : Nat) (q_timing : Nat) (q_found : Nat) (q_works : Nat) (q_works_carriers : Nat) (q_works_entries : Nat) (q_found_order : Nat) (q_found_times : Nat) (q_found_order_moves : Nat) (q_found_order_rank : Nat) (q_layout_low : Nat) (q_layout_high : Nat) (q_layout_loadedSeconds : Nat) (q_layout_emptySeconds : Nat) (cI : ClassId) (sz : Nat) (z : Nat) (a1 : Int32) (v_planned : Int32) (v_works_second : Int32) (v_works_cycleSecond : Int32) (v_works_nextRank : Int32) (v_works_entryStopped : Int32) (v_works_entered : Int32) (v_works_done : Int32) (v_works_lastStay : Int32) (v_works_hoistCarrier : Int32) (v_works_hoistMove : Int32) (v_works_hoistEntry : Int32) (v_works_hoistEnd : Int32) (v_found_cycle : Int32) (v_found_order_count : Int32) (v_layout_tanks : Int32) (f_found_order_moves : Nat → Int32) (f_found_times : Nat → Int32) (f_works_carriers : Nat → Int32) (f_works_entries : Nat → Int32) (f_layout_loadedSeconds : Nat → Int32) (xc : Nat) (rr : Int32) (n_v_works_second : Int32) (n_v_works_cycleSecond : Int32) (n_v_works_nextRank : Int32) (n_v_works_entered : Int32) (n_v_works_done : Int32) (n_v_works_lastStay : Int32) (n_v_works_hoistCarrier : Int32) (n_v_works_hoistMove : Int32) (n_v_works_hoistEntry : Int32) (n_v_works_hoistEnd : Int32) (n_f_works_carriers : Nat → Int32) (n_f_works_entries : Nat → Int32) (hF : fn_HP_run z a1 v_planned v_works_second v_works_cycleSecond v_works_nextRank v_works_entryStopped v_works_entered v_works_done v_works_lastStay v_works_hoistCarrier v_works_hoistMove v_works_hoistEntry v_works_hoistEnd v_found_cycle v_layout_tanks f_found_order_moves f_found_times f_works_carriers f_works_entries f_layout_loadedSeconds = some (xc, rr, n_v_works_second, n_v_works_cycleSecond, n_v_works_nextRank, n_v_works_entered, n_v_works_done, n_v_works_lastStay, n_v_works_hoistCarrier, n_v_works_hoistMove, n_v_works_hoistEntry, n_v_works_hoistEnd, n_f_works_carriers, n_f_works_entries)) : hq_Met l y_HP_run w_HP_run ({ frames := 7, cells := 2, slots := 12, locals := 110 }) (hq_PcX (dC, dI) vwCl [(cI, .int)] (wd_HP_run q_this q_layout q_tried q_timing q_found q_works q_works_carriers q_works_entries q_found_order q_found_times q_found_order_moves q_found_order_rank q_layout_low q_layout_high q_layout_loadedSeconds q_layout_emptySeconds cI v_planned v_works_second v_works_cycleSecond v_works_nextRank v_works_entryStopped v_works_entered v_works_done v_works_lastStay v_works_hoistCarrier v_works_hoistMove v_works_hoistEntry v_works_hoistEnd v_found_cycle v_found_order_count v_layout_tanks f_found_order_moves f_found_times f_works_carriers f_works_entries f_layout_loadedSeconds) sz [.ref q_this, .int a1]) (hq_Qx (dC, dI) vwCl [(cI, .int)] (wd_HP_run q_this q_layout q_tried q_timing q_found q_works q_works_carriers q_works_entries q_found_order q_found_times q_found_order_moves q_found_order_rank q_layout_low q_layout_high q_layout_loadedSeconds q_layout_emptySeconds cI v_planned n_v_works_second n_v_works_cycleSecond n_v_works_nextRank v_works_entryStopped n_v_works_entered n_v_works_done n_v_works_lastStay n_v_works_hoistCarrier n_v_works_hoistMove n_v_works_hoistEntry n_v_works_hoistEnd v_found_cycle v_found_order_count v_layout_tanks f_found_order_moves f_found_times n_f_works_carriers n_f_works_entries f_layout_loadedSeconds) xc (some (.int rr)) (va_A (wd_HP_run q_this q_layout q_tried q_timing q_found q_works q_works_carriers q_works_entries q_found_order q_found_times q_found_order_moves q_found_order_rank q_layout_low q_layout_high q_layout_loadedSeconds q_layout_emptySeconds cI v_planned v_works_second v_works_cycleSecond v_works_nextRank v_works_entryStopped v_works_entered v_works_done v_works_lastStay v_works_hoistCarrier v_works_hoistMove v_works_hoistEntry v_works_hoistEnd v_found_cycle v_found_order_count v_layout_tanks f_found_order_moves f_found_times f_works_carriers f_works_entries f_layout_loadedSeconds) sz)) 2 12 (va_A (wd_HP_run q_this q_layout q_tried q_timing q_found q_works q_works_carriers q_works_entries q_found_order q_found_times q_found_order_moves q_found_order_rank q_layout_low q_layout_high q_layout_loadedSeconds q_layout_emptySeconds cI v_planned v_works_second v_works_cycleSecond v_works_nextRank v_works_entryStopped v_works_entered v_works_done v_works_lastStay v_works_hoistCarrier v_works_hoistMove v_works_hoistEntry v_works_hoistEnd v_found_cycle v_found_order_count v_layout_tanks f_found_order_moves f_found_times f_works_carriers f_works_entries f_layout_loadedSeconds) sz) := by
  refine hq_metX hfl (Qc := hq_Qx (dC, dI) vwCl [(cI, .int)] (wd_HP_run q_this q_layout q_tried q_timing q_found q_works q_works_carriers q_works_entries q_found_order q_found_times q_found_order_moves q_found_order_rank q_layout_low q_layout_high q_layout_loadedSeconds q_layout_emptySeconds cI v_planned n_v_works_second n_v_works_cycleSecond n_v_works_nextRank v_works_entryStopped n_v_works_entered n_v_works_done n_v_works_lastStay n_v_works_hoistCarrier n_v_works_hoistMove n_v_works_hoistEntry n_v_works_hoistEnd v_found_cycle v_found_order_count v_layout_tanks f_found_order_moves f_found_times n_f_works_carriers n_f_works_entries f_layout_loadedSeconds) xc (some (.int rr))) (fr := fun A => A) (cc := b_HP_run) (maxL := 4) (ret := some .int) (by decide) rfl (Nat.le_of_ble_eq_true rfl) ?_
  intro p e s m args below meth c A ls hx hb hr hml hts hown hlocks hnm hP hD hK hA hS hl htr hex hG hns
  have hts : ∀ w ∈ tb0, w.before args s = true := fun w h => hts w (List.mem_cons_of_mem _ h)
  have hown : s.vm.findClass R_HP = some m.cls := hown
  have hl : lv_has ls 4 [(0, .ref q_this), (1, .int a1)] := hl
  unfold fn_HP_run at hF
  have loop : ∀ fu : Nat, (∀ (i1 : Int32) (i2 : Int32) (i3 : Int32) (v_works_second : Int32) (v_works_cycleSecond : Int32) (v_works_nextRank : Int32) (v_works_entered : Int32) (v_works_done : Int32) (v_works_lastStay : Int32) (v_works_hoistCarrier : Int32) (v_works_hoistMove : Int32) (v_works_hoistEntry : Int32) (v_works_hoistEnd : Int32) (f_works_carriers : Nat → Int32) (f_works_entries : Nat → Int32) (H : Heap) (locs : List Loc) (ls : Array Slot), va_P (dC, dI) vwCl (wd_HP_run q_this q_layout q_tried q_timing q_found q_works q_works_carriers q_works_entries q_found_order q_found_times q_found_order_moves q_found_order_rank q_layout_low q_layout_high q_layout_loadedSeconds q_layout_emptySeconds cI v_planned v_works_second v_works_cycleSecond v_works_nextRank v_works_entryStopped v_works_entered v_works_done v_works_lastStay v_works_hoistCarrier v_works_hoistMove v_works_hoistEntry v_works_hoistEnd v_found_cycle v_found_order_count v_layout_tanks f_found_order_moves f_found_times f_works_carriers f_works_entries f_layout_loadedSeconds) H → va_D A (wd_HP_run q_this q_layout q_tried q_timing q_found q_works q_works_carriers q_works_entries q_found_order q_found_times q_found_order_moves q_found_order_rank q_layout_low q_layout_high q_layout_loadedSeconds q_layout_emptySeconds cI v_planned v_works_second v_works_cycleSecond v_works_nextRank v_works_entryStopped v_works_entered v_works_done v_works_lastStay v_works_hoistCarrier v_works_hoistMove v_works_hoistEntry v_works_hoistEnd v_found_cycle v_found_order_count v_layout_tanks f_found_order_moves f_found_times f_works_carriers f_works_entries f_layout_loadedSeconds) → va_S A s.heap H locs → lv_has ls 4 [(0, .ref q_this), (1, .int i1), (2, .int i2), (3, .int i3)] → lp_HP_run v_planned v_works_entryStopped v_found_cycle v_layout_tanks f_found_order_moves f_found_times f_layout_loadedSeconds fu 0 i1 i2 i3 v_works_second v_works_cycleSecond v_works_nextRank v_works_entered v_works_done v_works_lastStay v_works_hoistCarrier v_works_hoistMove v_works_hoistEntry v_works_hoistEnd f_works_carriers f_works_entries = some (xc, rr, n_v_works_second, n_v_works_cycleSecond, n_v_works_nextRank, n_v_works_entered, n_v_works_done, n_v_works_lastStay, n_v_works_hoistCarrier, n_v_works_hoistMove, n_v_works_hoistEntry, n_v_works_hoistEnd, n_f_works_carriers, n_f_works_entries) → W p l e ({ frames := 7, cells := 2, slots := 12, locals := 110 }) s m args below meth c H locs 2 12 (hq_MQ below (hq_Qx (dC, dI) vwCl [(cI, .int)] (wd_HP_run q_this q_layout q_tried q_timing q_found q_works q_works_carriers q_works_entries q_found_order q_found_times q_found_order_moves q_found_order_rank q_layout_low q_layout_high q_layout_loadedSeconds q_layout_emptySeconds cI v_planned n_v_works_second n_v_works_cycleSecond n_v_works_nextRank v_works_entryStopped n_v_works_entered n_v_works_done n_v_works_lastStay n_v_works_hoistCarrier n_v_works_hoistMove n_v_works_hoistEntry n_v_works_hoistEnd v_found_cycle v_found_order_count v_layout_tanks f_found_order_moves f_found_times n_f_works_carriers n_f_works_entries f_layout_loadedSeconds) xc (some (.int rr)) A) args s 2 12 A) (F0 m 19 ls [])) := by
    intro fu
    induction fu with
    | zero => exact (fun _ _ _ _ _ _ _ _ _ _ _ _ _ _ _ _ _ _ _ _ _ _ h => by cases h)
    | succ fu ih =>
      intro i1 i2 i3 v_works_second v_works_cycleSecond v_works_nextRank v_works_entered v_works_done v_works_lastStay v_works_hoistCarrier v_works_hoistMove v_works_hoistEntry v_works_hoistEnd f_works_carriers f_works_entries H locs ls hP hD hS hl hF
      have hF : st_HP_run v_planned v_works_entryStopped v_found_cycle v_layout_tanks f_found_order_moves f_found_times f_layout_loadedSeconds (lp_HP_run v_planned v_works_entryStopped v_found_cycle v_layout_tanks f_found_order_moves f_found_times f_layout_loadedSeconds fu) 0 i1 i2 i3 v_works_second v_works_cycleSecond v_works_nextRank v_works_entered v_works_done v_works_lastStay v_works_hoistCarrier v_works_hoistMove v_works_hoistEntry v_works_hoistEnd f_works_carriers f_works_entries = some (xc, rr, n_v_works_second, n_v_works_cycleSecond, n_v_works_nextRank, n_v_works_entered, n_v_works_done, n_v_works_lastStay, n_v_works_hoistCarrier, n_v_works_hoistMove, n_v_works_hoistEntry, n_v_works_hoistEnd, n_f_works_carriers, n_f_works_entries) := hF
      unfold st_HP_run at hF
      try dsimp only at hF
      refine lv_iload_n hx hb d_HP_run_19 rfl (lv_at hl 3 rfl) ?_
      refine lv_iload_n hx hb d_HP_run_20 rfl (lv_at hl 1 rfl) ?_
      refine lv_icmp_ge (tgt := 43) hx hb d_HP_run_21 (by decide) (fun hb4 => ?_) (fun hb4 => ?_)
      · have hF := ox_t hF hb4
        refine lv_iload_n hx hb d_HP_run_43 rfl (lv_at hl 2 rfl) ?_
        cases hF
        exact hq_xiret hx hb hr hlocks hP hD hK hS (Nat.le_of_ble_eq_true rfl) (Nat.le_of_ble_eq_true rfl) d_HP_run_44
      · have hF := ox_f hF hb4
        refine lv_aload_n hx hb d_HP_run_24 rfl (lv_at hl 0 rfl) ?_
        refine va_get (D := (dC, dI)) (ci := 5) (v := .ref q_works) (C := R_HP) (T := F_HP) (N := 6) hx hb hts uw_HP hown hK hP 0 rfl rfl 4 (by decide) (hts _ tw_299) (fun _ h9 => h9) rfl d_HP_run_25 ?_
        obtain ⟨⟨r5, s5_v_second, s5_v_cycleSecond, s5_v_nextRank, s5_v_entered, s5_v_done, s5_v_lastStay, s5_v_hoistCarrier, s5_v_hoistMove, s5_v_hoistEntry, s5_v_hoistEnd, s5_f_carriers, s5_f_entries⟩, hc5, hF⟩ := ox_clS hF
        refine hq_ci (ws' := (wd_HP_run q_this q_layout q_tried q_timing q_found q_works q_works_carriers q_works_entries q_found_order q_found_times q_found_order_moves q_found_order_rank q_layout_low q_layout_high q_layout_loadedSeconds q_layout_emptySeconds cI v_planned s5_v_second s5_v_cycleSecond s5_v_nextRank v_works_entryStopped s5_v_entered s5_v_done s5_v_lastStay s5_v_hoistCarrier s5_v_hoistMove s5_v_hoistEntry s5_v_hoistEnd v_found_cycle v_found_order_count v_layout_tanks f_found_order_moves f_found_times s5_f_carriers s5_f_entries f_layout_loadedSeconds)) (hq_rV (As := []) (rest := []) ⟨hx, hb, hml, hown, hts⟩ (c_WK_passSecond l dC dI q_works q_layout q_found q_works_carriers q_works_entries q_found_order q_found_times q_found_order_moves q_found_order_rank q_layout_low q_layout_high q_layout_loadedSeconds q_layout_emptySeconds cI _ v_works_second v_works_cycleSecond v_works_nextRank v_works_entryStopped v_works_entered v_works_done v_works_lastStay v_works_hoistCarrier v_works_hoistMove v_works_hoistEntry v_works_hoistEnd v_found_cycle v_found_order_count v_layout_tanks f_found_order_moves f_found_times f_works_carriers f_works_entries f_layout_loadedSeconds r5 s5_v_second s5_v_cycleSecond s5_v_nextRank s5_v_entered s5_v_done s5_v_lastStay s5_v_hoistCarrier s5_v_hoistMove s5_v_hoistEntry s5_v_hoistEnd s5_f_carriers s5_f_entries hc5) (cwV 0 hts (hq_gV tw_324 tw_325 tw_326 tw_111 tw_327) rfl rfl rfl yv_WK_passSecond ⟨Nat.le_of_ble_eq_true rfl, Nat.le_of_ble_eq_true rfl⟩) hP hD hK [0] rfl 1 rfl rfl [1, 2, 3, 4, 5, 6, 7, 8, 9] rfl rfl rfl hl.1 rfl (Nat.le_of_ble_eq_true rfl) d_HP_run_28 ⟨Nat.le_of_ble_eq_true rfl, Nat.le_of_ble_eq_true rfl⟩) hP hD hS hA [1, 2, 3, 4, 5, 6, 7, 8, 9] [0] [0, 1, 2, 3, 4, 5, 6, 7, 8, 9] rfl rfl rfl (by decide) rfl rfl (fun H locs hP hD hS => ?_)
        refine lv_if_eq (tgt := 37) hx hb d_HP_run_31 (by decide) (fun hb6 => ?_) (fun hb6 => ?_)
        · have hF := ox_t hF hb6
          refine lv_iinc (v := (i3 + 1)) (lv' := [(3, .int (i3 + 1)), (0, .ref q_this), (1, .int i1), (2, .int i2)]) hx hb d_HP_run_37 hl (k := 3) rfl rfl (by decide) rfl (fun ls hl => ?_)
          refine lv_goto (tgt := 19) hx hb d_HP_run_40 (by decide) ?_
          exact ih i1 i2 (i3 + 1) s5_v_second s5_v_cycleSecond s5_v_nextRank s5_v_entered s5_v_done s5_v_lastStay s5_v_hoistCarrier s5_v_hoistMove s5_v_hoistEntry s5_v_hoistEnd s5_f_carriers s5_f_entries _ _ _ hP hD hS (lv_sub hl [1, 2, 3, 0] rfl) hF
        · have hF := ox_f hF hb6
          refine lv_iinc (v := (i2 + 1)) (lv' := [(2, .int (i2 + 1)), (0, .ref q_this), (1, .int i1), (3, .int i3)]) hx hb d_HP_run_34 hl (k := 2) rfl rfl (by decide) rfl (fun ls hl => ?_)
          refine lv_iinc (v := (i3 + 1)) (lv' := [(3, .int (i3 + 1)), (2, .int (i2 + 1)), (0, .ref q_this), (1, .int i1)]) hx hb d_HP_run_37 hl (k := 3) rfl rfl (by decide) rfl (fun ls hl => ?_)
          refine lv_goto (tgt := 19) hx hb d_HP_run_40 (by decide) ?_
          exact ih i1 (i2 + 1) (i3 + 1) s5_v_second s5_v_cycleSecond s5_v_nextRank s5_v_entered s5_v_done s5_v_lastStay s5_v_hoistCarrier s5_v_hoistMove s5_v_hoistEntry s5_v_hoistEnd s5_f_carriers s5_f_entries _ _ _ hP hD hS (lv_sub hl [2, 3, 1, 0] rfl) hF
  refine lv_aload_n hx hb d_HP_run_0 rfl (lv_at hl 0 rfl) ?_
  obtain ⟨x1, hc1, hF⟩ := ox_clS hF
  refine hq_cr (hq_rVX (As := []) (rest := []) ⟨hx, hb, hml, hown, hts⟩ (x_HP_requirePlan l hfl dC dI q_this q_layout q_tried q_timing q_found q_works _ v_planned x1 hc1) (cwV 0 hts (hq_gV tw_308 tw_309 tw_310 tw_266 tw_311) rfl rfl rfl yv_HP_requirePlan ⟨Nat.le_of_ble_eq_true rfl, Nat.le_of_ble_eq_true rfl⟩) hP hD hK (hq_Gnow hG hns hS) [] rfl 0 rfl rfl [0] rfl rfl rfl hl.1 rfl (Nat.le_of_ble_eq_true rfl) d_HP_run_1 ⟨Nat.le_of_ble_eq_true rfl, Nat.le_of_ble_eq_true rfl⟩) (fun h1 => ?_) (fun h1 q H1 ce g1 g2 g3 g4 g5 => ?_)
  rotate_left
  · have hF := ox_t hF h1
    cases hF
    exact hq_xout hex hlocks h1 g1 g2 g3 (hq_keepP hP g5) hD hK (hq_keepS hS g4 g5) (Nat.le_of_ble_eq_true rfl) (Nat.le_of_ble_eq_true rfl)
  have hF := ox_fn hF h1
  refine lv_iload_n hx hb d_HP_run_4 rfl (lv_at hl 1 rfl) ?_
  refine lv_iconst (v := 0) hx hb d_HP_run_5 (by decide) ?_
  refine lv_sipush (v := 5000) hx hb d_HP_run_6 (by decide) ?_
  obtain ⟨r2, hc2, hF⟩ := ox_clS hF
  refine hq_ci (ws' := (wd_HP_run q_this q_layout q_tried q_timing q_found q_works q_works_carriers q_works_entries q_found_order q_found_times q_found_order_moves q_found_order_rank q_layout_low q_layout_high q_layout_loadedSeconds q_layout_emptySeconds cI v_planned v_works_second v_works_cycleSecond v_works_nextRank v_works_entryStopped v_works_entered v_works_done v_works_lastStay v_works_hoistCarrier v_works_hoistMove v_works_hoistEntry v_works_hoistEnd v_found_cycle v_found_order_count v_layout_tanks f_found_order_moves f_found_times f_works_carriers f_works_entries f_layout_loadedSeconds)) (hq_rS (As := [.int a1, .int 0, .int 5000]) (rest := []) ⟨hx, hb, hml, hown, hts⟩ (c_HP_isWithin l dC dI _ a1 0 5000 r2 hc2) ⟨callB_of 3 hts (hq_g1 tw_267) rfl rfl rfl (hts _ tw_266) (hts _ tw_264) yd_HP_isWithin ⟨Nat.le_of_ble_eq_true rfl, Nat.le_of_ble_eq_true rfl⟩, hts _ tw_265⟩ hP hD hK [] rfl [] rfl rfl rfl hl.1 rfl (Nat.le_of_ble_eq_true rfl) d_HP_run_9 ⟨Nat.le_of_ble_eq_true rfl, Nat.le_of_ble_eq_true rfl⟩) hP hD hS hA [] [0, 1, 2, 3, 4, 5, 6, 7, 8, 9] [0, 1, 2, 3, 4, 5, 6, 7, 8, 9] rfl rfl rfl (by decide) rfl rfl (fun H locs hP hD hS => ?_)
  obtain ⟨x3, hc3, hF⟩ := ox_clS hF
  refine hq_cr (hq_rSX (As := [.int r2]) (rest := []) ⟨hx, hb, hml, hown, hts⟩ (x_HP_require l hfl dC dI _ r2 x3 hc3) ⟨callB_of 1 hts (hq_g1 tw_270) rfl rfl rfl (hts _ tw_266) (hts _ tw_268) yd_HP_require ⟨Nat.le_of_ble_eq_true rfl, Nat.le_of_ble_eq_true rfl⟩, hts _ tw_269⟩ hP hD hK (hq_Gnow hG hns hS) [] rfl [] rfl rfl rfl hl.1 rfl (Nat.le_of_ble_eq_true rfl) d_HP_run_12 ⟨Nat.le_of_ble_eq_true rfl, Nat.le_of_ble_eq_true rfl⟩) (fun h3 => ?_) (fun h3 q H1 ce g1 g2 g3 g4 g5 => ?_)
  rotate_left
  · have hF := ox_t hF h3
    cases hF
    exact hq_xout hex hlocks h3 g1 g2 g3 (hq_keepP hP g5) hD hK (hq_keepS hS g4 g5) (Nat.le_of_ble_eq_true rfl) (Nat.le_of_ble_eq_true rfl)
  have hF := ox_fn hF h3
  refine lv_iconst (v := 0) hx hb d_HP_run_15 (by decide) ?_
  refine lv_istore_n (lv' := [(2, .int 0), (0, .ref q_this), (1, .int a1)]) hx hb d_HP_run_16 rfl hl (by decide) rfl (fun ls hl => ?_)
  refine lv_iconst (v := 0) hx hb d_HP_run_17 (by decide) ?_
  refine lv_istore_n (lv' := [(3, .int 0), (2, .int 0), (0, .ref q_this), (1, .int a1)]) hx hb d_HP_run_18 rfl hl (by decide) rfl (fun ls hl => ?_)
  exact (loop z) a1 0 0 v_works_second v_works_cycleSecond v_works_nextRank v_works_entered v_works_done v_works_lastStay v_works_hoistCarrier v_works_hoistMove v_works_hoistEntry v_works_hoistEnd f_works_carriers f_works_entries _ _ _ hP hD hS (lv_sub hl [2, 3, 1, 0] rfl) hF
abbrev wd_HP_stop (q_this : Nat) (q_layout : Nat) (q_tried : Nat) (q_timing : Nat) (q_found : Nat) (q_works : Nat) (q_works_carriers : Nat) (q_works_entries : Nat) (v_planned : Int32) (v_works_second : Int32) (v_works_cycleSecond : Int32) (v_works_nextRank : Int32) (v_works_entryStopped : Int32) (v_works_entered : Int32) (v_works_done : Int32) (v_works_lastStay : Int32) (v_works_hoistCarrier : Int32) (v_works_hoistMove : Int32) (v_works_hoistEntry : Int32) (v_works_hoistEnd : Int32) : va_W := [(q_this, .inr (5, [.ref q_layout, .ref q_tried, .ref q_timing, .ref q_found, .ref q_works, .int v_planned])), (q_works, .inr (4, [.ref q_layout, .ref q_found, .int v_works_second, .int v_works_cycleSecond, .int v_works_nextRank, .int v_works_entryStopped, .int v_works_entered, .int v_works_done, .int v_works_lastStay, .int v_works_hoistCarrier, .int v_works_hoistMove, .int v_works_hoistEntry, .int v_works_hoistEnd, .ref q_works_carriers, .ref q_works_entries]))]
set_option maxHeartbeats 4000000 in
set_option maxRecDepth 100000 in
theorem x_HP_stop (l : Launch) (hfl : l.flags = pinnedFlags ++ [noTraceFlag]) (dC : Nat → ClassId) (dI : Nat → Nat → Nat) (q_this : Nat) (q_layout : Nat) (q_tried : Nat) (q_timing : Nat) (q_found : Nat) (q_works : Nat) (q_works_carriers : Nat) (q_works_entries : Nat) (sz : Nat) (a1 : Int32) (v_planned : Int32) (v_works_second : Int32) (v_works_cycleSecond : Int32) (v_works_nextRank : Int32) (v_works_entryStopped : Int32) (v_works_entered : Int32) (v_works_done : Int32) (v_works_lastStay : Int32) (v_works_hoistCarrier : Int32) (v_works_hoistMove : Int32) (v_works_hoistEntry : Int32) (v_works_hoistEnd : Int32) (xc : Nat) (n_v_works_entryStopped : Int32) (hF : fn_HP_stop a1 v_planned v_works_entryStopped = some (xc, n_v_works_entryStopped)) : hq_Met l y_HP_stop w_HP_stop ({ frames := 7, cells := 1, slots := 6, locals := 110 }) (hq_PcX (dC, dI) vwCl [] (wd_HP_stop q_this q_layout q_tried q_timing q_found q_works q_works_carriers q_works_entries v_planned v_works_second v_works_cycleSecond v_works_nextRank v_works_entryStopped v_works_entered v_works_done v_works_lastStay v_works_hoistCarrier v_works_hoistMove v_works_hoistEntry v_works_hoistEnd) sz [.ref q_this, .int a1]) (hq_Qx (dC, dI) vwCl [] (wd_HP_stop q_this q_layout q_tried q_timing q_found q_works q_works_carriers q_works_entries v_planned v_works_second v_works_cycleSecond v_works_nextRank n_v_works_entryStopped v_works_entered v_works_done v_works_lastStay v_works_hoistCarrier v_works_hoistMove v_works_hoistEntry v_works_hoistEnd) xc none (va_A (wd_HP_stop q_this q_layout q_tried q_timing q_found q_works q_works_carriers q_works_entries v_planned v_works_second v_works_cycleSecond v_works_nextRank v_works_entryStopped v_works_entered v_works_done v_works_lastStay v_works_hoistCarrier v_works_hoistMove v_works_hoistEntry v_works_hoistEnd) sz)) 1 6 (va_A (wd_HP_stop q_this q_layout q_tried q_timing q_found q_works q_works_carriers q_works_entries v_planned v_works_second v_works_cycleSecond v_works_nextRank v_works_entryStopped v_works_entered v_works_done v_works_lastStay v_works_hoistCarrier v_works_hoistMove v_works_hoistEntry v_works_hoistEnd) sz) := by
  refine hq_metX hfl (Qc := hq_Qx (dC, dI) vwCl [] (wd_HP_stop q_this q_layout q_tried q_timing q_found q_works q_works_carriers q_works_entries v_planned v_works_second v_works_cycleSecond v_works_nextRank n_v_works_entryStopped v_works_entered v_works_done v_works_lastStay v_works_hoistCarrier v_works_hoistMove v_works_hoistEntry v_works_hoistEnd) xc none) (fr := fun A => A) (cc := b_HP_stop) (maxL := 2) (ret := none) (by decide) rfl (Nat.le_of_ble_eq_true rfl) ?_
  intro p e s m args below meth c A ls hx hb hr hml hts hown hlocks hnm hP hD hK hA hS hl htr hex hG hns
  have hts : ∀ w ∈ tb0, w.before args s = true := fun w h => hts w (List.mem_cons_of_mem _ h)
  have hown : s.vm.findClass R_HP = some m.cls := hown
  have hl : lv_has ls 2 [(0, .ref q_this), (1, .int a1)] := hl
  unfold fn_HP_stop at hF
  refine lv_aload_n hx hb d_HP_stop_0 rfl (lv_at hl 0 rfl) ?_
  obtain ⟨x1, hc1, hF⟩ := ox_clS hF
  refine hq_cr (hq_rVX (As := []) (rest := []) ⟨hx, hb, hml, hown, hts⟩ (x_HP_requirePlan l hfl dC dI q_this q_layout q_tried q_timing q_found q_works _ v_planned x1 hc1) (cwV 0 hts (hq_gV tw_308 tw_309 tw_310 tw_266 tw_311) rfl rfl rfl yv_HP_requirePlan ⟨Nat.le_of_ble_eq_true rfl, Nat.le_of_ble_eq_true rfl⟩) hP hD hK (hq_Gnow hG hns hS) [] rfl 0 rfl rfl [0] rfl rfl rfl hl.1 rfl (Nat.le_of_ble_eq_true rfl) d_HP_stop_1 ⟨Nat.le_of_ble_eq_true rfl, Nat.le_of_ble_eq_true rfl⟩) (fun h1 => ?_) (fun h1 q H1 ce g1 g2 g3 g4 g5 => ?_)
  rotate_left
  · have hF := ox_t hF h1
    cases hF
    exact hq_xout hex hlocks h1 g1 g2 g3 (hq_keepP hP g5) hD hK (hq_keepS hS g4 g5) (Nat.le_of_ble_eq_true rfl) (Nat.le_of_ble_eq_true rfl)
  have hF := ox_fn hF h1
  refine lv_aload_n hx hb d_HP_stop_4 rfl (lv_at hl 0 rfl) ?_
  refine va_get (D := (dC, dI)) (ci := 5) (v := .ref q_works) (C := R_HP) (T := F_HP) (N := 6) hx hb hts uw_HP hown hK hP 0 rfl rfl 4 (by decide) (hts _ tw_299) (fun _ h9 => h9) rfl d_HP_stop_5 ?_
  refine lv_iload_n hx hb d_HP_stop_8 rfl (lv_at hl 1 rfl) ?_
  obtain ⟨hbg, hF⟩ := ox_bgS hF
  refine va_put (D := (dC, dI)) (ci := 4) (v := .int a1) (ty := .boolean) (C := R_WK) (T := F_WK) (N := 15) hx hb hts uw_WK t_WK t_WK_ok n_WK hown hK hP hD hS 1 rfl rfl 5 (by decide) (hts _ tw_328) (fun _ h9 => h9) rfl (by decide +kernel) (ox_bool hbg).1 (ox_bool hbg).2 (Nat.le_of_ble_eq_true rfl) d_HP_stop_9 (fun H locs hP hD hS => ?_)
  have hP : va_P (dC, dI) vwCl (wd_HP_stop q_this q_layout q_tried q_timing q_found q_works q_works_carriers q_works_entries v_planned v_works_second v_works_cycleSecond v_works_nextRank a1 v_works_entered v_works_done v_works_lastStay v_works_hoistCarrier v_works_hoistMove v_works_hoistEntry v_works_hoistEnd) H := hP
  have hD : va_D A (wd_HP_stop q_this q_layout q_tried q_timing q_found q_works q_works_carriers q_works_entries v_planned v_works_second v_works_cycleSecond v_works_nextRank a1 v_works_entered v_works_done v_works_lastStay v_works_hoistCarrier v_works_hoistMove v_works_hoistEntry v_works_hoistEnd) := hD
  cases hF
  exact hq_xvret hx hb hr hlocks hP hD hK hS (Nat.le_of_ble_eq_true rfl) (Nat.le_of_ble_eq_true rfl) d_HP_stop_12
abbrev wd_HP_tank (q_this : Nat) (q_layout : Nat) (q_tried : Nat) (q_timing : Nat) (q_found : Nat) (q_works : Nat) (q_layout_low : Nat) (q_layout_high : Nat) (q_layout_loadedSeconds : Nat) (q_layout_emptySeconds : Nat) (q_works_carriers : Nat) (q_works_entries : Nat) (cI : ClassId) (v_planned : Int32) (v_layout_tanks : Int32) (v_works_second : Int32) (v_works_cycleSecond : Int32) (v_works_nextRank : Int32) (v_works_entryStopped : Int32) (v_works_entered : Int32) (v_works_done : Int32) (v_works_lastStay : Int32) (v_works_hoistCarrier : Int32) (v_works_hoistMove : Int32) (v_works_hoistEntry : Int32) (v_works_hoistEnd : Int32) (f_works_carriers : Nat → Int32) : va_W := [(q_this, .inr (5, [.ref q_layout, .ref q_tried, .ref q_timing, .ref q_found, .ref q_works, .int v_planned])), (q_layout, .inr (0, [.int v_layout_tanks, .ref q_layout_low, .ref q_layout_high, .ref q_layout_loadedSeconds, .ref q_layout_emptySeconds])), (q_works, .inr (4, [.ref q_layout, .ref q_found, .int v_works_second, .int v_works_cycleSecond, .int v_works_nextRank, .int v_works_entryStopped, .int v_works_entered, .int v_works_done, .int v_works_lastStay, .int v_works_hoistCarrier, .int v_works_hoistMove, .int v_works_hoistEntry, .int v_works_hoistEnd, .ref q_works_carriers, .ref q_works_entries])), (q_works_carriers, .inl (cI, 6, .inl f_works_carriers))]
set_option maxHeartbeats 4000000 in
set_option maxRecDepth 100000 in
theorem x_HP_tank (l : Launch) (hfl : l.flags = pinnedFlags ++ [noTraceFlag]) (dC : Nat → ClassId) (dI : Nat → Nat → Nat) (q_this : Nat) (q_layout : Nat) (q_tried : Nat) (q_timing : Nat) (q_found : Nat) (q_works : Nat) (q_layout_low : Nat) (q_layout_high : Nat) (q_layout_loadedSeconds : Nat) (q_layout_emptySeconds : Nat) (q_works_carriers : Nat) (q_works_entries : Nat) (cI : ClassId) (sz : Nat) (a1 : Int32) (v_planned : Int32) (v_layout_tanks : Int32) (v_works_second : Int32) (v_works_cycleSecond : Int32) (v_works_nextRank : Int32) (v_works_entryStopped : Int32) (v_works_entered : Int32) (v_works_done : Int32) (v_works_lastStay : Int32) (v_works_hoistCarrier : Int32) (v_works_hoistMove : Int32) (v_works_hoistEntry : Int32) (v_works_hoistEnd : Int32) (f_works_carriers : Nat → Int32) (xc : Nat) (rr : Int32) (hF : fn_HP_tank a1 v_planned v_layout_tanks f_works_carriers = some (xc, rr)) : hq_Met l y_HP_tank w_HP_tank ({ frames := 7, cells := 2, slots := 12, locals := 110 }) (hq_PcX (dC, dI) vwCl [(cI, .int)] (wd_HP_tank q_this q_layout q_tried q_timing q_found q_works q_layout_low q_layout_high q_layout_loadedSeconds q_layout_emptySeconds q_works_carriers q_works_entries cI v_planned v_layout_tanks v_works_second v_works_cycleSecond v_works_nextRank v_works_entryStopped v_works_entered v_works_done v_works_lastStay v_works_hoistCarrier v_works_hoistMove v_works_hoistEntry v_works_hoistEnd f_works_carriers) sz [.ref q_this, .int a1]) (hq_Qx (dC, dI) vwCl [(cI, .int)] (wd_HP_tank q_this q_layout q_tried q_timing q_found q_works q_layout_low q_layout_high q_layout_loadedSeconds q_layout_emptySeconds q_works_carriers q_works_entries cI v_planned v_layout_tanks v_works_second v_works_cycleSecond v_works_nextRank v_works_entryStopped v_works_entered v_works_done v_works_lastStay v_works_hoistCarrier v_works_hoistMove v_works_hoistEntry v_works_hoistEnd f_works_carriers) xc (some (.int rr)) (va_A (wd_HP_tank q_this q_layout q_tried q_timing q_found q_works q_layout_low q_layout_high q_layout_loadedSeconds q_layout_emptySeconds q_works_carriers q_works_entries cI v_planned v_layout_tanks v_works_second v_works_cycleSecond v_works_nextRank v_works_entryStopped v_works_entered v_works_done v_works_lastStay v_works_hoistCarrier v_works_hoistMove v_works_hoistEntry v_works_hoistEnd f_works_carriers) sz)) 2 12 (va_A (wd_HP_tank q_this q_layout q_tried q_timing q_found q_works q_layout_low q_layout_high q_layout_loadedSeconds q_layout_emptySeconds q_works_carriers q_works_entries cI v_planned v_layout_tanks v_works_second v_works_cycleSecond v_works_nextRank v_works_entryStopped v_works_entered v_works_done v_works_lastStay v_works_hoistCarrier v_works_hoistMove v_works_hoistEntry v_works_hoistEnd f_works_carriers) sz) := by
  refine hq_metX hfl (Qc := hq_Qx (dC, dI) vwCl [(cI, .int)] (wd_HP_tank q_this q_layout q_tried q_timing q_found q_works q_layout_low q_layout_high q_layout_loadedSeconds q_layout_emptySeconds q_works_carriers q_works_entries cI v_planned v_layout_tanks v_works_second v_works_cycleSecond v_works_nextRank v_works_entryStopped v_works_entered v_works_done v_works_lastStay v_works_hoistCarrier v_works_hoistMove v_works_hoistEntry v_works_hoistEnd f_works_carriers) xc (some (.int rr))) (fr := fun A => A) (cc := b_HP_tank) (maxL := 2) (ret := some .int) (by decide) rfl (Nat.le_of_ble_eq_true rfl) ?_
  intro p e s m args below meth c A ls hx hb hr hml hts hown hlocks hnm hP hD hK hA hS hl htr hex hG hns
  have hts : ∀ w ∈ tb0, w.before args s = true := fun w h => hts w (List.mem_cons_of_mem _ h)
  have hown : s.vm.findClass R_HP = some m.cls := hown
  have hl : lv_has ls 2 [(0, .ref q_this), (1, .int a1)] := hl
  unfold fn_HP_tank at hF
  refine lv_aload_n hx hb d_HP_tank_0 rfl (lv_at hl 0 rfl) ?_
  obtain ⟨x1, hc1, hF⟩ := ox_clS hF
  refine hq_cr (hq_rVX (As := []) (rest := []) ⟨hx, hb, hml, hown, hts⟩ (x_HP_requirePlan l hfl dC dI q_this q_layout q_tried q_timing q_found q_works _ v_planned x1 hc1) (cwV 0 hts (hq_gV tw_308 tw_309 tw_310 tw_266 tw_311) rfl rfl rfl yv_HP_requirePlan ⟨Nat.le_of_ble_eq_true rfl, Nat.le_of_ble_eq_true rfl⟩) hP hD hK (hq_Gnow hG hns hS) [] rfl 0 rfl rfl [0] rfl rfl rfl hl.1 rfl (Nat.le_of_ble_eq_true rfl) d_HP_tank_1 ⟨Nat.le_of_ble_eq_true rfl, Nat.le_of_ble_eq_true rfl⟩) (fun h1 => ?_) (fun h1 q H1 ce g1 g2 g3 g4 g5 => ?_)
  rotate_left
  · have hF := ox_t hF h1
    cases hF
    exact hq_xout hex hlocks h1 g1 g2 g3 (hq_keepP hP g5) hD hK (hq_keepS hS g4 g5) (Nat.le_of_ble_eq_true rfl) (Nat.le_of_ble_eq_true rfl)
  have hF := ox_fn hF h1
  refine lv_aload_n hx hb d_HP_tank_4 rfl (lv_at hl 0 rfl) ?_
  refine va_get (D := (dC, dI)) (ci := 5) (v := .ref q_layout) (C := R_HP) (T := F_HP) (N := 6) hx hb hts uw_HP hown hK hP 0 rfl rfl 0 (by decide) (hts _ tw_157) (fun _ h9 => h9) rfl d_HP_tank_5 ?_
  refine lv_iload_n hx hb d_HP_tank_8 rfl (lv_at hl 1 rfl) ?_
  obtain ⟨r2, hc2, hF⟩ := ox_clS hF
  refine hq_ci (ws' := (wd_HP_tank q_this q_layout q_tried q_timing q_found q_works q_layout_low q_layout_high q_layout_loadedSeconds q_layout_emptySeconds q_works_carriers q_works_entries cI v_planned v_layout_tanks v_works_second v_works_cycleSecond v_works_nextRank v_works_entryStopped v_works_entered v_works_done v_works_lastStay v_works_hoistCarrier v_works_hoistMove v_works_hoistEntry v_works_hoistEnd f_works_carriers)) (hq_rV (As := [.int a1]) (rest := []) ⟨hx, hb, hml, hown, hts⟩ (c_LY_hasTank l dC dI q_layout q_layout_low q_layout_high q_layout_loadedSeconds q_layout_emptySeconds _ a1 v_layout_tanks r2 hc2) (cwV 1 hts (hq_gV tw_275 tw_276 tw_277 tw_12 tw_278) rfl rfl rfl yv_LY_hasTank ⟨Nat.le_of_ble_eq_true rfl, Nat.le_of_ble_eq_true rfl⟩) hP hD hK [] rfl 1 rfl rfl [1] rfl rfl rfl hl.1 rfl (Nat.le_of_ble_eq_true rfl) d_HP_tank_9 ⟨Nat.le_of_ble_eq_true rfl, Nat.le_of_ble_eq_true rfl⟩) hP hD hS hA [1] [0, 2, 3] [0, 3, 1, 2] rfl rfl rfl (by decide) rfl rfl (fun H locs hP hD hS => ?_)
  obtain ⟨x3, hc3, hF⟩ := ox_clS hF
  refine hq_cr (hq_rSX (As := [.int r2]) (rest := []) ⟨hx, hb, hml, hown, hts⟩ (x_HP_require l hfl dC dI _ r2 x3 hc3) ⟨callB_of 1 hts (hq_g1 tw_270) rfl rfl rfl (hts _ tw_266) (hts _ tw_268) yd_HP_require ⟨Nat.le_of_ble_eq_true rfl, Nat.le_of_ble_eq_true rfl⟩, hts _ tw_269⟩ hP hD hK (hq_Gnow hG hns hS) [] rfl [] rfl rfl rfl hl.1 rfl (Nat.le_of_ble_eq_true rfl) d_HP_tank_12 ⟨Nat.le_of_ble_eq_true rfl, Nat.le_of_ble_eq_true rfl⟩) (fun h3 => ?_) (fun h3 q H1 ce g1 g2 g3 g4 g5 => ?_)
  rotate_left
  · have hF := ox_t hF h3
    cases hF
    exact hq_xout hex hlocks h3 g1 g2 g3 (hq_keepP hP g5) hD hK (hq_keepS hS g4 g5) (Nat.le_of_ble_eq_true rfl) (Nat.le_of_ble_eq_true rfl)
  have hF := ox_fn hF h3
  refine lv_aload_n hx hb d_HP_tank_15 rfl (lv_at hl 0 rfl) ?_
  refine va_get (D := (dC, dI)) (ci := 5) (v := .ref q_works) (C := R_HP) (T := F_HP) (N := 6) hx hb hts uw_HP hown hK hP 0 rfl rfl 4 (by decide) (hts _ tw_299) (fun _ h9 => h9) rfl d_HP_tank_16 ?_
  refine va_get (D := (dC, dI)) (ci := 4) (v := .ref q_works_carriers) (C := R_WK) (T := F_WK) (N := 15) hx hb hts uw_WK hown hK hP 2 rfl rfl 13 (by decide) (hts _ tw_329) (fun _ h9 => h9) rfl d_HP_tank_19 ?_
  refine lv_iload_n hx hb d_HP_tank_22 rfl (lv_at hl 1 rfl) ?_
  obtain ⟨hin, hF⟩ := ox_gdS hF
  refine va_iald hx hb hK hP 3 0 rfl rfl hin d_HP_tank_23 ?_
  cases hF
  exact hq_xiret hx hb hr hlocks hP hD hK hS (Nat.le_of_ble_eq_true rfl) (Nat.le_of_ble_eq_true rfl) d_HP_tank_24
abbrev wd_HP_state (q_this : Nat) (q_layout : Nat) (q_tried : Nat) (q_timing : Nat) (q_found : Nat) (q_works : Nat) (q_works_carriers : Nat) (q_works_entries : Nat) (q_layout_low : Nat) (q_layout_high : Nat) (q_layout_loadedSeconds : Nat) (q_layout_emptySeconds : Nat) (cI : ClassId) (v_planned : Int32) (v_works_second : Int32) (v_works_cycleSecond : Int32) (v_works_nextRank : Int32) (v_works_entryStopped : Int32) (v_works_entered : Int32) (v_works_done : Int32) (v_works_lastStay : Int32) (v_works_hoistCarrier : Int32) (v_works_hoistMove : Int32) (v_works_hoistEntry : Int32) (v_works_hoistEnd : Int32) (v_layout_tanks : Int32) (f_works_carriers : Nat → Int32) : va_W := [(q_this, .inr (5, [.ref q_layout, .ref q_tried, .ref q_timing, .ref q_found, .ref q_works, .int v_planned])), (q_works, .inr (4, [.ref q_layout, .ref q_found, .int v_works_second, .int v_works_cycleSecond, .int v_works_nextRank, .int v_works_entryStopped, .int v_works_entered, .int v_works_done, .int v_works_lastStay, .int v_works_hoistCarrier, .int v_works_hoistMove, .int v_works_hoistEntry, .int v_works_hoistEnd, .ref q_works_carriers, .ref q_works_entries])), (q_layout, .inr (0, [.int v_layout_tanks, .ref q_layout_low, .ref q_layout_high, .ref q_layout_loadedSeconds, .ref q_layout_emptySeconds])), (q_works_carriers, .inl (cI, 6, .inl f_works_carriers))]
set_option maxHeartbeats 4000000 in
set_option maxRecDepth 100000 in
theorem x_HP_state (l : Launch) (hfl : l.flags = pinnedFlags ++ [noTraceFlag]) (dC : Nat → ClassId) (dI : Nat → Nat → Nat) (q_this : Nat) (q_layout : Nat) (q_tried : Nat) (q_timing : Nat) (q_found : Nat) (q_works : Nat) (q_works_carriers : Nat) (q_works_entries : Nat) (q_layout_low : Nat) (q_layout_high : Nat) (q_layout_loadedSeconds : Nat) (q_layout_emptySeconds : Nat) (cI : ClassId) (sz : Nat) (z : Nat) (a1 : Int32) (v_planned : Int32) (v_works_second : Int32) (v_works_cycleSecond : Int32) (v_works_nextRank : Int32) (v_works_entryStopped : Int32) (v_works_entered : Int32) (v_works_done : Int32) (v_works_lastStay : Int32) (v_works_hoistCarrier : Int32) (v_works_hoistMove : Int32) (v_works_hoistEntry : Int32) (v_works_hoistEnd : Int32) (v_layout_tanks : Int32) (f_works_carriers : Nat → Int32) (xc : Nat) (rr : Int32) (hF : fn_HP_state z a1 v_planned v_works_second v_works_entered v_works_done v_works_lastStay v_works_hoistCarrier v_works_hoistMove v_layout_tanks f_works_carriers = some (xc, rr)) : hq_Met l y_HP_state w_HP_state ({ frames := 7, cells := 2, slots := 12, locals := 110 }) (hq_PcX (dC, dI) vwCl [(cI, .int)] (wd_HP_state q_this q_layout q_tried q_timing q_found q_works q_works_carriers q_works_entries q_layout_low q_layout_high q_layout_loadedSeconds q_layout_emptySeconds cI v_planned v_works_second v_works_cycleSecond v_works_nextRank v_works_entryStopped v_works_entered v_works_done v_works_lastStay v_works_hoistCarrier v_works_hoistMove v_works_hoistEntry v_works_hoistEnd v_layout_tanks f_works_carriers) sz [.ref q_this, .int a1]) (hq_Qx (dC, dI) vwCl [(cI, .int)] (wd_HP_state q_this q_layout q_tried q_timing q_found q_works q_works_carriers q_works_entries q_layout_low q_layout_high q_layout_loadedSeconds q_layout_emptySeconds cI v_planned v_works_second v_works_cycleSecond v_works_nextRank v_works_entryStopped v_works_entered v_works_done v_works_lastStay v_works_hoistCarrier v_works_hoistMove v_works_hoistEntry v_works_hoistEnd v_layout_tanks f_works_carriers) xc (some (.int rr)) (va_A (wd_HP_state q_this q_layout q_tried q_timing q_found q_works q_works_carriers q_works_entries q_layout_low q_layout_high q_layout_loadedSeconds q_layout_emptySeconds cI v_planned v_works_second v_works_cycleSecond v_works_nextRank v_works_entryStopped v_works_entered v_works_done v_works_lastStay v_works_hoistCarrier v_works_hoistMove v_works_hoistEntry v_works_hoistEnd v_layout_tanks f_works_carriers) sz)) 2 12 (va_A (wd_HP_state q_this q_layout q_tried q_timing q_found q_works q_works_carriers q_works_entries q_layout_low q_layout_high q_layout_loadedSeconds q_layout_emptySeconds cI v_planned v_works_second v_works_cycleSecond v_works_nextRank v_works_entryStopped v_works_entered v_works_done v_works_lastStay v_works_hoistCarrier v_works_hoistMove v_works_hoistEntry v_works_hoistEnd v_layout_tanks f_works_carriers) sz) := by
  refine hq_metX hfl (Qc := hq_Qx (dC, dI) vwCl [(cI, .int)] (wd_HP_state q_this q_layout q_tried q_timing q_found q_works q_works_carriers q_works_entries q_layout_low q_layout_high q_layout_loadedSeconds q_layout_emptySeconds cI v_planned v_works_second v_works_cycleSecond v_works_nextRank v_works_entryStopped v_works_entered v_works_done v_works_lastStay v_works_hoistCarrier v_works_hoistMove v_works_hoistEntry v_works_hoistEnd v_layout_tanks f_works_carriers) xc (some (.int rr))) (fr := fun A => A) (cc := b_HP_state) (maxL := 2) (ret := some .int) (by decide) rfl (Nat.le_of_ble_eq_true rfl) ?_
  intro p e s m args below meth c A ls hx hb hr hml hts hown hlocks hnm hP hD hK hA hS hl htr hex hG hns
  have hts : ∀ w ∈ tb0, w.before args s = true := fun w h => hts w (List.mem_cons_of_mem _ h)
  have hown : s.vm.findClass R_HP = some m.cls := hown
  have hl : lv_has ls 2 [(0, .ref q_this), (1, .int a1)] := hl
  unfold fn_HP_state at hF
  refine lv_aload_n hx hb d_HP_state_0 rfl (lv_at hl 0 rfl) ?_
  obtain ⟨x1, hc1, hF⟩ := ox_clS hF
  refine hq_cr (hq_rVX (As := []) (rest := []) ⟨hx, hb, hml, hown, hts⟩ (x_HP_requirePlan l hfl dC dI q_this q_layout q_tried q_timing q_found q_works _ v_planned x1 hc1) (cwV 0 hts (hq_gV tw_308 tw_309 tw_310 tw_266 tw_311) rfl rfl rfl yv_HP_requirePlan ⟨Nat.le_of_ble_eq_true rfl, Nat.le_of_ble_eq_true rfl⟩) hP hD hK (hq_Gnow hG hns hS) [] rfl 0 rfl rfl [0] rfl rfl rfl hl.1 rfl (Nat.le_of_ble_eq_true rfl) d_HP_state_1 ⟨Nat.le_of_ble_eq_true rfl, Nat.le_of_ble_eq_true rfl⟩) (fun h1 => ?_) (fun h1 q H1 ce g1 g2 g3 g4 g5 => ?_)
  rotate_left
  · have hF := ox_t hF h1
    cases hF
    exact hq_xout hex hlocks h1 g1 g2 g3 (hq_keepP hP g5) hD hK (hq_keepS hS g4 g5) (Nat.le_of_ble_eq_true rfl) (Nat.le_of_ble_eq_true rfl)
  have hF := ox_fn hF h1
  refine lv_iload_n hx hb d_HP_state_4 rfl (lv_at hl 1 rfl) ?_
  by_cases hk0 : a1 = 0
  · have hF := ox_t hF hk0
    refine lv_tableIn (tgt := 48) hx hb d_HP_state_5 (by rw [hk0]; decide) (by rw [hk0]; decide) (by rw [hk0]; rfl) (by decide) ?_
    refine lv_aload_n hx hb d_HP_state_48 rfl (lv_at hl 0 rfl) ?_
    refine va_get (D := (dC, dI)) (ci := 5) (v := .ref q_works) (C := R_HP) (T := F_HP) (N := 6) hx hb hts uw_HP hown hK hP 0 rfl rfl 4 (by decide) (hts _ tw_299) (fun _ h9 => h9) rfl d_HP_state_49 ?_
    refine va_get (D := (dC, dI)) (ci := 4) (v := .int v_works_second) (C := R_WK) (T := F_WK) (N := 15) hx hb hts uw_WK hown hK hP 1 rfl rfl 2 (by decide) (hts _ tw_330) (fun _ h9 => h9) rfl d_HP_state_52 ?_
    cases hF
    exact hq_xiret hx hb hr hlocks hP hD hK hS (Nat.le_of_ble_eq_true rfl) (Nat.le_of_ble_eq_true rfl) d_HP_state_55
  have hF := ox_f hF hk0
  by_cases hk1 : a1 = 1
  · have hF := ox_t hF hk1
    refine lv_tableIn (tgt := 56) hx hb d_HP_state_5 (by rw [hk1]; decide) (by rw [hk1]; decide) (by rw [hk1]; rfl) (by decide) ?_
    refine lv_aload_n hx hb d_HP_state_56 rfl (lv_at hl 0 rfl) ?_
    refine va_get (D := (dC, dI)) (ci := 5) (v := .ref q_works) (C := R_HP) (T := F_HP) (N := 6) hx hb hts uw_HP hown hK hP 0 rfl rfl 4 (by decide) (hts _ tw_299) (fun _ h9 => h9) rfl d_HP_state_57 ?_
    refine va_get (D := (dC, dI)) (ci := 4) (v := .int v_works_entered) (C := R_WK) (T := F_WK) (N := 15) hx hb hts uw_WK hown hK hP 1 rfl rfl 6 (by decide) (hts _ tw_331) (fun _ h9 => h9) rfl d_HP_state_60 ?_
    cases hF
    exact hq_xiret hx hb hr hlocks hP hD hK hS (Nat.le_of_ble_eq_true rfl) (Nat.le_of_ble_eq_true rfl) d_HP_state_63
  have hF := ox_f hF hk1
  by_cases hk2 : a1 = 2
  · have hF := ox_t hF hk2
    refine lv_tableIn (tgt := 64) hx hb d_HP_state_5 (by rw [hk2]; decide) (by rw [hk2]; decide) (by rw [hk2]; rfl) (by decide) ?_
    refine lv_aload_n hx hb d_HP_state_64 rfl (lv_at hl 0 rfl) ?_
    refine va_get (D := (dC, dI)) (ci := 5) (v := .ref q_works) (C := R_HP) (T := F_HP) (N := 6) hx hb hts uw_HP hown hK hP 0 rfl rfl 4 (by decide) (hts _ tw_299) (fun _ h9 => h9) rfl d_HP_state_65 ?_
    refine va_get (D := (dC, dI)) (ci := 4) (v := .int v_works_done) (C := R_WK) (T := F_WK) (N := 15) hx hb hts uw_WK hown hK hP 1 rfl rfl 7 (by decide) (hts _ tw_332) (fun _ h9 => h9) rfl d_HP_state_68 ?_
    cases hF
    exact hq_xiret hx hb hr hlocks hP hD hK hS (Nat.le_of_ble_eq_true rfl) (Nat.le_of_ble_eq_true rfl) d_HP_state_71
  have hF := ox_f hF hk2
  by_cases hk3 : a1 = 3
  · have hF := ox_t hF hk3
    refine lv_tableIn (tgt := 72) hx hb d_HP_state_5 (by rw [hk3]; decide) (by rw [hk3]; decide) (by rw [hk3]; rfl) (by decide) ?_
    refine lv_aload_n hx hb d_HP_state_72 rfl (lv_at hl 0 rfl) ?_
    refine va_get (D := (dC, dI)) (ci := 5) (v := .ref q_works) (C := R_HP) (T := F_HP) (N := 6) hx hb hts uw_HP hown hK hP 0 rfl rfl 4 (by decide) (hts _ tw_299) (fun _ h9 => h9) rfl d_HP_state_73 ?_
    refine va_get (D := (dC, dI)) (ci := 4) (v := .int v_works_hoistCarrier) (C := R_WK) (T := F_WK) (N := 15) hx hb hts uw_WK hown hK hP 1 rfl rfl 9 (by decide) (hts _ tw_333) (fun _ h9 => h9) rfl d_HP_state_76 ?_
    cases hF
    exact hq_xiret hx hb hr hlocks hP hD hK hS (Nat.le_of_ble_eq_true rfl) (Nat.le_of_ble_eq_true rfl) d_HP_state_79
  have hF := ox_f hF hk3
  by_cases hk4 : a1 = 4
  · have hF := ox_t hF hk4
    refine lv_tableIn (tgt := 80) hx hb d_HP_state_5 (by rw [hk4]; decide) (by rw [hk4]; decide) (by rw [hk4]; rfl) (by decide) ?_
    refine lv_aload_n hx hb d_HP_state_80 rfl (lv_at hl 0 rfl) ?_
    refine va_get (D := (dC, dI)) (ci := 5) (v := .ref q_works) (C := R_HP) (T := F_HP) (N := 6) hx hb hts uw_HP hown hK hP 0 rfl rfl 4 (by decide) (hts _ tw_299) (fun _ h9 => h9) rfl d_HP_state_81 ?_
    refine va_get (D := (dC, dI)) (ci := 4) (v := .int v_works_hoistMove) (C := R_WK) (T := F_WK) (N := 15) hx hb hts uw_WK hown hK hP 1 rfl rfl 10 (by decide) (hts _ tw_334) (fun _ h9 => h9) rfl d_HP_state_84 ?_
    cases hF
    exact hq_xiret hx hb hr hlocks hP hD hK hS (Nat.le_of_ble_eq_true rfl) (Nat.le_of_ble_eq_true rfl) d_HP_state_87
  have hF := ox_f hF hk4
  by_cases hk5 : a1 = 5
  · have hF := ox_t hF hk5
    refine lv_tableIn (tgt := 88) hx hb d_HP_state_5 (by rw [hk5]; decide) (by rw [hk5]; decide) (by rw [hk5]; rfl) (by decide) ?_
    refine lv_aload_n hx hb d_HP_state_88 rfl (lv_at hl 0 rfl) ?_
    refine va_get (D := (dC, dI)) (ci := 5) (v := .ref q_works) (C := R_HP) (T := F_HP) (N := 6) hx hb hts uw_HP hown hK hP 0 rfl rfl 4 (by decide) (hts _ tw_299) (fun _ h9 => h9) rfl d_HP_state_89 ?_
    obtain ⟨r2, hc2, hF⟩ := ox_clS hF
    refine hq_ci (ws' := (wd_HP_state q_this q_layout q_tried q_timing q_found q_works q_works_carriers q_works_entries q_layout_low q_layout_high q_layout_loadedSeconds q_layout_emptySeconds cI v_planned v_works_second v_works_cycleSecond v_works_nextRank v_works_entryStopped v_works_entered v_works_done v_works_lastStay v_works_hoistCarrier v_works_hoistMove v_works_hoistEntry v_works_hoistEnd v_layout_tanks f_works_carriers)) (hq_rV (As := []) (rest := []) ⟨hx, hb, hml, hown, hts⟩ (c_WK_isDrained l dC dI q_works q_layout q_found q_works_carriers q_works_entries q_layout_low q_layout_high q_layout_loadedSeconds q_layout_emptySeconds cI _ z v_works_second v_works_cycleSecond v_works_nextRank v_works_entryStopped v_works_entered v_works_done v_works_lastStay v_works_hoistCarrier v_works_hoistMove v_works_hoistEntry v_works_hoistEnd v_layout_tanks f_works_carriers r2 hc2) (cwV 0 hts (hq_gV tw_335 tw_336 tw_337 tw_111 tw_338) rfl rfl rfl yv_WK_isDrained ⟨Nat.le_of_ble_eq_true rfl, Nat.le_of_ble_eq_true rfl⟩) hP hD hK [0] rfl 1 rfl rfl [1, 2, 3] rfl rfl rfl hl.1 rfl (Nat.le_of_ble_eq_true rfl) d_HP_state_92 ⟨Nat.le_of_ble_eq_true rfl, Nat.le_of_ble_eq_true rfl⟩) hP hD hS hA [1, 2, 3] [0] [0, 1, 2, 3] rfl rfl rfl (by decide) rfl rfl (fun H locs hP hD hS => ?_)
    refine lv_if_eq (tgt := 102) hx hb d_HP_state_95 (by decide) (fun hb3 => ?_) (fun hb3 => ?_)
    · have hF := ox_t hF hb3
      refine lv_iconst (v := 0) hx hb d_HP_state_102 (by decide) ?_
      cases hF
      exact hq_xiret hx hb hr hlocks hP hD hK hS (Nat.le_of_ble_eq_true rfl) (Nat.le_of_ble_eq_true rfl) d_HP_state_103
    · have hF := ox_f hF hb3
      refine lv_iconst (v := 1) hx hb d_HP_state_98 (by decide) ?_
      refine lv_goto (tgt := 103) hx hb d_HP_state_99 (by decide) ?_
      cases hF
      exact hq_xiret hx hb hr hlocks hP hD hK hS (Nat.le_of_ble_eq_true rfl) (Nat.le_of_ble_eq_true rfl) d_HP_state_103
  have hF := ox_f hF hk5
  by_cases hk6 : a1 = 6
  · have hF := ox_t hF hk6
    refine lv_tableIn (tgt := 104) hx hb d_HP_state_5 (by rw [hk6]; decide) (by rw [hk6]; decide) (by rw [hk6]; rfl) (by decide) ?_
    refine lv_aload_n hx hb d_HP_state_104 rfl (lv_at hl 0 rfl) ?_
    refine va_get (D := (dC, dI)) (ci := 5) (v := .ref q_works) (C := R_HP) (T := F_HP) (N := 6) hx hb hts uw_HP hown hK hP 0 rfl rfl 4 (by decide) (hts _ tw_299) (fun _ h9 => h9) rfl d_HP_state_105 ?_
    refine va_get (D := (dC, dI)) (ci := 4) (v := .int v_works_lastStay) (C := R_WK) (T := F_WK) (N := 15) hx hb hts uw_WK hown hK hP 1 rfl rfl 8 (by decide) (hts _ tw_339) (fun _ h9 => h9) rfl d_HP_state_108 ?_
    cases hF
    exact hq_xiret hx hb hr hlocks hP hD hK hS (Nat.le_of_ble_eq_true rfl) (Nat.le_of_ble_eq_true rfl) d_HP_state_111
  have hF := ox_f hF hk6
  refine lv_tableOut (tgt := 112) hx hb d_HP_state_5 (hq_out7 hk0 hk1 hk2 hk3 hk4 hk5 hk6) (by decide) ?_
  cases hF
  exact hq_throw hx hb htr hex hlocks hown (by decide) (hts _ tw_259) (hts _ tw_260) (hq_atIAE hts hG) (hl.1.trans hml.symm) d_HP_state_112 d_HP_state_115 d_HP_state_116 d_HP_state_119 (Nat.le_of_ble_eq_true rfl) (Nat.le_of_ble_eq_true rfl) (Nat.le_of_ble_eq_true rfl) (Nat.le_of_ble_eq_true rfl) (Nat.le_of_ble_eq_true rfl) (Nat.le_of_ble_eq_true rfl) (fun t q ce hW h1 h2 h3 h4 h5 => ⟨Or.inr ⟨by decide, q, ce, rfl, h3, h4, h5⟩, ⟨hq_keepP hP h2, va_K.moved hW.alike hK, hD⟩, (hq_keepS hS h1 h2).F rfl⟩)
