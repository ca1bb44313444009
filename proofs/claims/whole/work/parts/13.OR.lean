abbrev wd_OR_rankMoves (q_this : Nat) (q_moves : Nat) (q_rank : Nat) (cI : ClassId) (v_count : Int32) (f_moves : Nat → Int32) (f_rank : Nat → Int32) : va_W := [(q_this, .inr (1, [.int v_count, .ref q_moves, .ref q_rank])), (q_moves, .inl (cI, 6, .inl f_moves)), (q_rank, .inl (cI, 6, .inl f_rank))]
set_option maxHeartbeats 4000000 in
set_option maxRecDepth 100000 in
theorem c_OR_rankMoves (l : Launch) (dC : Nat → ClassId) (dI : Nat → Nat → Nat) (q_this : Nat) (q_moves : Nat) (q_rank : Nat) (cI : ClassId) (sz : Nat) (z : Nat) (v_count : Int32) (f_moves : Nat → Int32) (f_rank : Nat → Int32) (n_f_rank : Nat → Int32) (hF : fn_OR_rankMoves z v_count f_moves f_rank = some n_f_rank) : Met l y_OR_rankMoves w_OR_rankMoves ({ frames := 0, cells := 0, slots := 0, locals := 0 }) (hq_Pc (dC, dI) vwCl [(cI, .int)] (wd_OR_rankMoves q_this q_moves q_rank cI v_count f_moves f_rank) sz [.ref q_this]) (hq_Qv (dC, dI) vwCl [(cI, .int)] (wd_OR_rankMoves q_this q_moves q_rank cI v_count f_moves n_f_rank) (va_A (wd_OR_rankMoves q_this q_moves q_rank cI v_count f_moves f_rank) sz)) 0 0 (va_A (wd_OR_rankMoves q_this q_moves q_rank cI v_count f_moves f_rank) sz) := by
  refine hq_met (Qc := (hq_Qv (dC, dI) vwCl [(cI, .int)] (wd_OR_rankMoves q_this q_moves q_rank cI v_count f_moves n_f_rank))) (cc := b_OR_rankMoves) (maxL := 2) (ret := none) (by decide) rfl (Nat.le_of_ble_eq_true rfl) ?_
  intro p e s m args below meth c A ls hx hb hr hml hts hown hlocks hnm hP hD hK hA hS hl
  have hts : ∀ w ∈ tb0, w.before args s = true := fun w h => hts w (List.mem_cons_of_mem _ h)
  have hown : s.vm.findClass R_OR = some m.cls := hown
  have hl : lv_has ls 2 [(0, .ref q_this)] := hl
  unfold fn_OR_rankMoves at hF
  have loop : ∀ fu : Nat, (∀ (i1 : Int32) (f_rank : Nat → Int32) (H : Heap) (locs : List Loc) (ls : Array Slot), va_P (dC, dI) vwCl (wd_OR_rankMoves q_this q_moves q_rank cI v_count f_moves f_rank) H → va_D A (wd_OR_rankMoves q_this q_moves q_rank cI v_count f_moves f_rank) → va_S A s.heap H locs → lv_has ls 2 [(0, .ref q_this), (1, .int i1)] → lp_OR_rankMoves v_count f_moves fu 0 i1 f_rank = some n_f_rank → W p l e ({ frames := 0, cells := 0, slots := 0, locals := 0 }) s m args below meth c H locs 0 0 (MQ below ((hq_Qv (dC, dI) vwCl [(cI, .int)] (wd_OR_rankMoves q_this q_moves q_rank cI v_count f_moves n_f_rank)) A) args s 0 0 A) (F0 m 2 ls [])) := by
    intro fu
    induction fu with
    | zero => exact (fun _ _ _ _ _ _ _ _ _ h => by cases h)
    | succ fu ih =>
      intro i1 f_rank H locs ls hP hD hS hl hF
      have hF : st_OR_rankMoves v_count f_moves (lp_OR_rankMoves v_count f_moves fu) 0 i1 f_rank = some n_f_rank := hF
      unfold st_OR_rankMoves at hF
      try dsimp only at hF
      refine lv_iload_n hx hb d_OR_rankMoves_2 rfl (lv_at hl 1 rfl) ?_
      refine lv_aload_n hx hb d_OR_rankMoves_3 rfl (lv_at hl 0 rfl) ?_
      refine va_get (D := (dC, dI)) (ci := 1) (v := .int v_count) (C := R_OR) (T := F_OR) (N := 3) hx hb hts uw_OR hown hK hP 0 rfl rfl 0 (by decide) (hts _ tw_18) (fun _ h9 => h9) rfl d_OR_rankMoves_4 ?_
      refine lv_icmp_ge (tgt := 28) hx hb d_OR_rankMoves_7 (by decide) (fun hb1 => ?_) (fun hb1 => ?_)
      · have hF := ox_t hF hb1
        cases hF
        exact hq_vret hx hb hr hlocks hP hD hK hS d_OR_rankMoves_28
      · have hF := ox_f hF hb1
        refine lv_aload_n hx hb d_OR_rankMoves_10 rfl (lv_at hl 0 rfl) ?_
        refine va_get (D := (dC, dI)) (ci := 1) (v := .ref q_rank) (C := R_OR) (T := F_OR) (N := 3) hx hb hts uw_OR hown hK hP 0 rfl rfl 2 (by decide) (hts _ tw_19) (fun _ h9 => h9) rfl d_OR_rankMoves_11 ?_
        refine lv_aload_n hx hb d_OR_rankMoves_14 rfl (lv_at hl 0 rfl) ?_
        refine va_get (D := (dC, dI)) (ci := 1) (v := .ref q_moves) (C := R_OR) (T := F_OR) (N := 3) hx hb hts uw_OR hown hK hP 0 rfl rfl 1 (by decide) (hts _ tw_20) (fun _ h9 => h9) rfl d_OR_rankMoves_15 ?_
        refine lv_iload_n hx hb d_OR_rankMoves_18 rfl (lv_at hl 1 rfl) ?_
        obtain ⟨hin, hF⟩ := ox_gdS hF
        refine va_iald hx hb hK hP 1 0 rfl rfl hin d_OR_rankMoves_19 ?_
        refine lv_iload_n hx hb d_OR_rankMoves_20 rfl (lv_at hl 1 rfl) ?_
        obtain ⟨hin, hF⟩ := ox_gdS hF
        refine va_iast hx hb hK hP hD hS 2 0 rfl rfl hin d_OR_rankMoves_21 (fun H locs hP hD hS => ?_)
        have hP : va_P (dC, dI) vwCl (wd_OR_rankMoves q_this q_moves q_rank cI v_count f_moves (upd f_rank (f_moves i1.toNatClampNeg).toNatClampNeg i1)) H := hP
        have hD : va_D A (wd_OR_rankMoves q_this q_moves q_rank cI v_count f_moves (upd f_rank (f_moves i1.toNatClampNeg).toNatClampNeg i1)) := hD
        refine lv_iinc (v := (i1 + 1)) (lv' := [(1, .int (i1 + 1)), (0, .ref q_this)]) hx hb d_OR_rankMoves_22 hl (k := 1) rfl rfl (by decide) rfl (fun ls hl => ?_)
        refine lv_goto (tgt := 2) hx hb d_OR_rankMoves_25 (by decide) ?_
        exact ih (i1 + 1) (upd f_rank (f_moves i1.toNatClampNeg).toNatClampNeg i1) _ _ _ hP hD hS (lv_sub hl [1, 0] rfl) hF
  refine lv_iconst (v := 0) hx hb d_OR_rankMoves_0 (by decide) ?_
  refine lv_istore_n (lv' := [(1, .int 0), (0, .ref q_this)]) hx hb d_OR_rankMoves_1 rfl hl (by decide) rfl (fun ls hl => ?_)
  exact (loop z) 0 f_rank _ _ _ hP hD hS (lv_sub hl [1, 0] rfl) hF
abbrev wd_OR_swap (q_this : Nat) (q_moves : Nat) (q_rank : Nat) (cI : ClassId) (v_count : Int32) (f_moves : Nat → Int32) : va_W := [(q_this, .inr (1, [.int v_count, .ref q_moves, .ref q_rank])), (q_moves, .inl (cI, 6, .inl f_moves))]
set_option maxHeartbeats 4000000 in
set_option maxRecDepth 100000 in
theorem c_OR_swap (l : Launch) (dC : Nat → ClassId) (dI : Nat → Nat → Nat) (q_this : Nat) (q_moves : Nat) (q_rank : Nat) (cI : ClassId) (sz : Nat) (a1 : Int32) (a2 : Int32) (v_count : Int32) (f_moves : Nat → Int32) (n_f_moves : Nat → Int32) (hF : fn_OR_swap a1 a2 f_moves = some n_f_moves) : Met l y_OR_swap w_OR_swap ({ frames := 0, cells := 0, slots := 0, locals := 0 }) (hq_Pc (dC, dI) vwCl [(cI, .int)] (wd_OR_swap q_this q_moves q_rank cI v_count f_moves) sz [.ref q_this, .int a1, .int a2]) (hq_Qv (dC, dI) vwCl [(cI, .int)] (wd_OR_swap q_this q_moves q_rank cI v_count n_f_moves) (va_A (wd_OR_swap q_this q_moves q_rank cI v_count f_moves) sz)) 0 0 (va_A (wd_OR_swap q_this q_moves q_rank cI v_count f_moves) sz) := by
  refine hq_met (Qc := (hq_Qv (dC, dI) vwCl [(cI, .int)] (wd_OR_swap q_this q_moves q_rank cI v_count n_f_moves))) (cc := b_OR_swap) (maxL := 4) (ret := none) (by decide) rfl (Nat.le_of_ble_eq_true rfl) ?_
  intro p e s m args below meth c A ls hx hb hr hml hts hown hlocks hnm hP hD hK hA hS hl
  have hts : ∀ w ∈ tb0, w.before args s = true := fun w h => hts w (List.mem_cons_of_mem _ h)
  have hown : s.vm.findClass R_OR = some m.cls := hown
  have hl : lv_has ls 4 [(0, .ref q_this), (1, .int a1), (2, .int a2)] := hl
  unfold fn_OR_swap at hF
  refine lv_aload_n hx hb d_OR_swap_0 rfl (lv_at hl 0 rfl) ?_
  refine va_get (D := (dC, dI)) (ci := 1) (v := .ref q_moves) (C := R_OR) (T := F_OR) (N := 3) hx hb hts uw_OR hown hK hP 0 rfl rfl 1 (by decide) (hts _ tw_20) (fun _ h9 => h9) rfl d_OR_swap_1 ?_
  refine lv_iload_n hx hb d_OR_swap_4 rfl (lv_at hl 1 rfl) ?_
  obtain ⟨hin, hF⟩ := ox_gdS hF
  refine va_iald hx hb hK hP 1 0 rfl rfl hin d_OR_swap_5 ?_
  refine lv_istore_n (lv' := [(3, .int (f_moves a1.toNatClampNeg)), (0, .ref q_this), (1, .int a1), (2, .int a2)]) hx hb d_OR_swap_6 rfl hl (by decide) rfl (fun ls hl => ?_)
  refine lv_aload_n hx hb d_OR_swap_7 rfl (lv_at hl 1 rfl) ?_
  refine va_get (D := (dC, dI)) (ci := 1) (v := .ref q_moves) (C := R_OR) (T := F_OR) (N := 3) hx hb hts uw_OR hown hK hP 0 rfl rfl 1 (by decide) (hts _ tw_20) (fun _ h9 => h9) rfl d_OR_swap_8 ?_
  refine lv_iload_n hx hb d_OR_swap_11 rfl (lv_at hl 2 rfl) ?_
  refine lv_aload_n hx hb d_OR_swap_12 rfl (lv_at hl 1 rfl) ?_
  refine va_get (D := (dC, dI)) (ci := 1) (v := .ref q_moves) (C := R_OR) (T := F_OR) (N := 3) hx hb hts uw_OR hown hK hP 0 rfl rfl 1 (by decide) (hts _ tw_20) (fun _ h9 => h9) rfl d_OR_swap_13 ?_
  refine lv_iload_n hx hb d_OR_swap_16 rfl (lv_at hl 3 rfl) ?_
  obtain ⟨hin, hF⟩ := ox_gdS hF
  refine va_iald hx hb hK hP 1 0 rfl rfl hin d_OR_swap_17 ?_
  obtain ⟨hin, hF⟩ := ox_gdS hF
  refine va_iast hx hb hK hP hD hS 1 0 rfl rfl hin d_OR_swap_18 (fun H locs hP hD hS => ?_)
  have hP : va_P (dC, dI) vwCl (wd_OR_swap q_this q_moves q_rank cI v_count (upd f_moves a1.toNatClampNeg (f_moves a2.toNatClampNeg))) H := hP
  have hD : va_D A (wd_OR_swap q_this q_moves q_rank cI v_count (upd f_moves a1.toNatClampNeg (f_moves a2.toNatClampNeg))) := hD
  refine lv_aload_n hx hb d_OR_swap_19 rfl (lv_at hl 1 rfl) ?_
  refine va_get (D := (dC, dI)) (ci := 1) (v := .ref q_moves) (C := R_OR) (T := F_OR) (N := 3) hx hb hts uw_OR hown hK hP 0 rfl rfl 1 (by decide) (hts _ tw_20) (fun _ h9 => h9) rfl d_OR_swap_20 ?_
  refine lv_iload_n hx hb d_OR_swap_23 rfl (lv_at hl 3 rfl) ?_
  refine lv_iload_n hx hb d_OR_swap_24 rfl (lv_at hl 0 rfl) ?_
  obtain ⟨hin, hF⟩ := ox_gdS hF
  refine va_iast hx hb hK hP hD hS 1 0 rfl rfl hin d_OR_swap_25 (fun H locs hP hD hS => ?_)
  have hP : va_P (dC, dI) vwCl (wd_OR_swap q_this q_moves q_rank cI v_count (upd (upd f_moves a1.toNatClampNeg (f_moves a2.toNatClampNeg)) a2.toNatClampNeg (f_moves a1.toNatClampNeg))) H := hP
  have hD : va_D A (wd_OR_swap q_this q_moves q_rank cI v_count (upd (upd f_moves a1.toNatClampNeg (f_moves a2.toNatClampNeg)) a2.toNatClampNeg (f_moves a1.toNatClampNeg))) := hD
  cases hF
  exact hq_vret hx hb hr hlocks hP hD hK hS d_OR_swap_26
abbrev wd_OR_reverseFrom (q_this : Nat) (q_moves : Nat) (q_rank : Nat) (cI : ClassId) (v_count : Int32) (f_moves : Nat → Int32) : va_W := [(q_this, .inr (1, [.int v_count, .ref q_moves, .ref q_rank])), (q_moves, .inl (cI, 6, .inl f_moves))]
set_option maxHeartbeats 4000000 in
set_option maxRecDepth 100000 in
theorem c_OR_reverseFrom (l : Launch) (dC : Nat → ClassId) (dI : Nat → Nat → Nat) (q_this : Nat) (q_moves : Nat) (q_rank : Nat) (cI : ClassId) (sz : Nat) (z : Nat) (a1 : Int32) (v_count : Int32) (f_moves : Nat → Int32) (n_f_moves : Nat → Int32) (hF : fn_OR_reverseFrom z a1 v_count f_moves = some n_f_moves) : Met l y_OR_reverseFrom w_OR_reverseFrom ({ frames := 1, cells := 0, slots := 0, locals := 23 }) (hq_Pc (dC, dI) vwCl [(cI, .int)] (wd_OR_reverseFrom q_this q_moves q_rank cI v_count f_moves) sz [.ref q_this, .int a1]) (hq_Qv (dC, dI) vwCl [(cI, .int)] (wd_OR_reverseFrom q_this q_moves q_rank cI v_count n_f_moves) (va_A (wd_OR_reverseFrom q_this q_moves q_rank cI v_count f_moves) sz)) 0 0 (va_A (wd_OR_reverseFrom q_this q_moves q_rank cI v_count f_moves) sz) := by
  refine hq_met (Qc := (hq_Qv (dC, dI) vwCl [(cI, .int)] (wd_OR_reverseFrom q_this q_moves q_rank cI v_count n_f_moves))) (cc := b_OR_reverseFrom) (maxL := 4) (ret := none) (by decide) rfl (Nat.le_of_ble_eq_true rfl) ?_
  intro p e s m args below meth c A ls hx hb hr hml hts hown hlocks hnm hP hD hK hA hS hl
  have hts : ∀ w ∈ tb0, w.before args s = true := fun w h => hts w (List.mem_cons_of_mem _ h)
  have hown : s.vm.findClass R_OR = some m.cls := hown
  have hl : lv_has ls 4 [(0, .ref q_this), (1, .int a1)] := hl
  unfold fn_OR_reverseFrom at hF
  have loop : ∀ fu : Nat, (∀ (i1 : Int32) (i2 : Int32) (i3 : Int32) (f_moves : Nat → Int32) (H : Heap) (locs : List Loc) (ls : Array Slot), va_P (dC, dI) vwCl (wd_OR_reverseFrom q_this q_moves q_rank cI v_count f_moves) H → va_D A (wd_OR_reverseFrom q_this q_moves q_rank cI v_count f_moves) → va_S A s.heap H locs → lv_has ls 4 [(0, .ref q_this), (1, .int i1), (2, .int i2), (3, .int i3)] → lp_OR_reverseFrom v_count fu 0 i1 i2 i3 f_moves = some n_f_moves → W p l e ({ frames := 1, cells := 0, slots := 0, locals := 23 }) s m args below meth c H locs 0 0 (MQ below ((hq_Qv (dC, dI) vwCl [(cI, .int)] (wd_OR_reverseFrom q_this q_moves q_rank cI v_count n_f_moves)) A) args s 0 0 A) (F0 m 9 ls [])) := by
    intro fu
    induction fu with
    | zero => exact (fun _ _ _ _ _ _ _ _ _ _ _ h => by cases h)
    | succ fu ih =>
      intro i1 i2 i3 f_moves H locs ls hP hD hS hl hF
      have hF : st_OR_reverseFrom v_count (lp_OR_reverseFrom v_count fu) 0 i1 i2 i3 f_moves = some n_f_moves := hF
      unfold st_OR_reverseFrom at hF
      try dsimp only at hF
      refine lv_iload_n hx hb d_OR_reverseFrom_9 rfl (lv_at hl 3 rfl) ?_
      refine lv_iload_n hx hb d_OR_reverseFrom_10 rfl (lv_at hl 2 rfl) ?_
      refine lv_icmp_ge (tgt := 29) hx hb d_OR_reverseFrom_11 (by decide) (fun hb1 => ?_) (fun hb1 => ?_)
      · have hF := ox_t hF hb1
        cases hF
        exact hq_vret hx hb hr hlocks hP hD hK hS d_OR_reverseFrom_29
      · have hF := ox_f hF hb1
        refine lv_aload_n hx hb d_OR_reverseFrom_14 rfl (lv_at hl 0 rfl) ?_
        refine lv_iload_n hx hb d_OR_reverseFrom_15 rfl (lv_at hl 3 rfl) ?_
        refine lv_iload_n hx hb d_OR_reverseFrom_16 rfl (lv_at hl 2 rfl) ?_
        obtain ⟨s2_f_moves, hc2, hF⟩ := ox_clS hF
        refine hq_cv (ws' := (wd_OR_reverseFrom q_this q_moves q_rank cI v_count s2_f_moves)) (hq_rV (As := [.int i3, .int i2]) (rest := []) ⟨hx, hb, hml, hown, hts⟩ (c_OR_swap l dC dI q_this q_moves q_rank cI _ i3 i2 v_count f_moves s2_f_moves hc2) (cwV 2 hts (hq_gV tw_21 tw_22 tw_23 tw_24 tw_25) rfl rfl rfl yv_OR_swap ⟨Nat.le_of_ble_eq_true rfl, Nat.le_of_ble_eq_true rfl⟩) hP hD hK [0] rfl 0 rfl rfl [0, 1] rfl rfl rfl hl.1 rfl (Nat.le_of_ble_eq_true rfl) d_OR_reverseFrom_17 ⟨Nat.zero_le _, Nat.zero_le _⟩) hP hD hS hA [0, 1] [] [0, 1] rfl rfl rfl (by decide) rfl rfl (fun H locs hP hD hS => ?_)
        refine lv_iinc (v := (i2 + (-1))) (lv' := [(2, .int (i2 + (-1))), (0, .ref q_this), (1, .int i1), (3, .int i3)]) hx hb d_OR_reverseFrom_20 hl (k := 2) rfl rfl (by decide) rfl (fun ls hl => ?_)
        refine lv_iinc (v := (i3 + 1)) (lv' := [(3, .int (i3 + 1)), (2, .int (i2 + (-1))), (0, .ref q_this), (1, .int i1)]) hx hb d_OR_reverseFrom_23 hl (k := 3) rfl rfl (by decide) rfl (fun ls hl => ?_)
        refine lv_goto (tgt := 9) hx hb d_OR_reverseFrom_26 (by decide) ?_
        exact ih i1 (i2 + (-1)) (i3 + 1) s2_f_moves _ _ _ hP hD hS (lv_sub hl [2, 3, 1, 0] rfl) hF
  refine lv_aload_n hx hb d_OR_reverseFrom_0 rfl (lv_at hl 0 rfl) ?_
  refine va_get (D := (dC, dI)) (ci := 1) (v := .int v_count) (C := R_OR) (T := F_OR) (N := 3) hx hb hts uw_OR hown hK hP 0 rfl rfl 0 (by decide) (hts _ tw_18) (fun _ h9 => h9) rfl d_OR_reverseFrom_1 ?_
  refine lv_iconst (v := 1) hx hb d_OR_reverseFrom_4 (by decide) ?_
  refine lv_isub hx hb d_OR_reverseFrom_5 ?_
  refine lv_istore_n (lv' := [(2, .int (v_count - 1)), (0, .ref q_this), (1, .int a1)]) hx hb d_OR_reverseFrom_6 rfl hl (by decide) rfl (fun ls hl => ?_)
  refine lv_iload_n hx hb d_OR_reverseFrom_7 rfl (lv_at hl 2 rfl) ?_
  refine lv_istore_n (lv' := [(3, .int a1), (2, .int (v_count - 1)), (0, .ref q_this), (1, .int a1)]) hx hb d_OR_reverseFrom_8 rfl hl (by decide) rfl (fun ls hl => ?_)
  exact (loop z) a1 (v_count - 1) a1 f_moves _ _ _ hP hD hS (lv_sub hl [2, 3, 1, 0] rfl) hF
abbrev wd_OR_toFirst (q_this : Nat) (q_moves : Nat) (q_rank : Nat) (cI : ClassId) (v_count : Int32) (f_moves : Nat → Int32) (f_rank : Nat → Int32) : va_W := [(q_this, .inr (1, [.int v_count, .ref q_moves, .ref q_rank])), (q_moves, .inl (cI, 6, .inl f_moves)), (q_rank, .inl (cI, 6, .inl f_rank))]
set_option maxHeartbeats 4000000 in
set_option maxRecDepth 100000 in
theorem c_OR_toFirst (l : Launch) (dC : Nat → ClassId) (dI : Nat → Nat → Nat) (q_this : Nat) (q_moves : Nat) (q_rank : Nat) (cI : ClassId) (sz : Nat) (z : Nat) (a1 : Int32) (v_count : Int32) (f_moves : Nat → Int32) (f_rank : Nat → Int32) (n_v_count : Int32) (n_f_moves : Nat → Int32) (n_f_rank : Nat → Int32) (hF : fn_OR_toFirst z a1 v_count f_moves f_rank = some (n_v_count, n_f_moves, n_f_rank)) : Met l y_OR_toFirst w_OR_toFirst ({ frames := 1, cells := 0, slots := 0, locals := 21 }) (hq_Pc (dC, dI) vwCl [(cI, .int)] (wd_OR_toFirst q_this q_moves q_rank cI v_count f_moves f_rank) sz [.ref q_this, .int a1]) (hq_Qv (dC, dI) vwCl [(cI, .int)] (wd_OR_toFirst q_this q_moves q_rank cI n_v_count n_f_moves n_f_rank) (va_A (wd_OR_toFirst q_this q_moves q_rank cI v_count f_moves f_rank) sz)) 0 0 (va_A (wd_OR_toFirst q_this q_moves q_rank cI v_count f_moves f_rank) sz) := by
  refine hq_met (Qc := (hq_Qv (dC, dI) vwCl [(cI, .int)] (wd_OR_toFirst q_this q_moves q_rank cI n_v_count n_f_moves n_f_rank))) (cc := b_OR_toFirst) (maxL := 3) (ret := none) (by decide) rfl (Nat.le_of_ble_eq_true rfl) ?_
  intro p e s m args below meth c A ls hx hb hr hml hts hown hlocks hnm hP hD hK hA hS hl
  have hts : ∀ w ∈ tb0, w.before args s = true := fun w h => hts w (List.mem_cons_of_mem _ h)
  have hown : s.vm.findClass R_OR = some m.cls := hown
  have hl : lv_has ls 3 [(0, .ref q_this), (1, .int a1)] := hl
  unfold fn_OR_toFirst at hF
  have loop : ∀ fu : Nat, (∀ (i1 : Int32) (i2 : Int32) (v_count : Int32) (f_moves : Nat → Int32) (f_rank : Nat → Int32) (H : Heap) (locs : List Loc) (ls : Array Slot), va_P (dC, dI) vwCl (wd_OR_toFirst q_this q_moves q_rank cI v_count f_moves f_rank) H → va_D A (wd_OR_toFirst q_this q_moves q_rank cI v_count f_moves f_rank) → va_S A s.heap H locs → lv_has ls 3 [(0, .ref q_this), (1, .int i1), (2, .int i2)] → lp_OR_toFirst z fu 0 i1 i2 v_count f_moves f_rank = some (n_v_count, n_f_moves, n_f_rank) → W p l e ({ frames := 1, cells := 0, slots := 0, locals := 21 }) s m args below meth c H locs 0 0 (MQ below ((hq_Qv (dC, dI) vwCl [(cI, .int)] (wd_OR_toFirst q_this q_moves q_rank cI n_v_count n_f_moves n_f_rank)) A) args s 0 0 A) (F0 m 9 ls [])) := by
    intro fu
    induction fu with
    | zero => exact (fun _ _ _ _ _ _ _ _ _ _ _ _ h => by cases h)
    | succ fu ih =>
      intro i1 i2 v_count f_moves f_rank H locs ls hP hD hS hl hF
      have hF : st_OR_toFirst z (lp_OR_toFirst z fu) 0 i1 i2 v_count f_moves f_rank = some (n_v_count, n_f_moves, n_f_rank) := hF
      unfold st_OR_toFirst at hF
      try dsimp only at hF
      refine lv_iload_n hx hb d_OR_toFirst_9 rfl (lv_at hl 2 rfl) ?_
      refine lv_aload_n hx hb d_OR_toFirst_10 rfl (lv_at hl 0 rfl) ?_
      refine va_get (D := (dC, dI)) (ci := 1) (v := .int v_count) (C := R_OR) (T := F_OR) (N := 3) hx hb hts uw_OR hown hK hP 0 rfl rfl 0 (by decide) (hts _ tw_18) (fun _ h9 => h9) rfl d_OR_toFirst_11 ?_
      refine lv_icmp_ge (tgt := 30) hx hb d_OR_toFirst_14 (by decide) (fun hb1 => ?_) (fun hb1 => ?_)
      · have hF := ox_t hF hb1
        refine lv_aload_n hx hb d_OR_toFirst_30 rfl (lv_at hl 0 rfl) ?_
        obtain ⟨s2_f_rank, hc2, hF⟩ := ox_clS hF
        refine hq_cv (ws' := (wd_OR_toFirst q_this q_moves q_rank cI v_count f_moves s2_f_rank)) (hq_rV (As := []) (rest := []) ⟨hx, hb, hml, hown, hts⟩ (c_OR_rankMoves l dC dI q_this q_moves q_rank cI _ z v_count f_moves f_rank s2_f_rank hc2) (cwV 0 hts (hq_gV tw_26 tw_27 tw_28 tw_24 tw_29) rfl rfl rfl yv_OR_rankMoves ⟨Nat.le_of_ble_eq_true rfl, Nat.le_of_ble_eq_true rfl⟩) hP hD hK [0] rfl 0 rfl rfl [0, 1, 2] rfl rfl rfl hl.1 rfl (Nat.le_of_ble_eq_true rfl) d_OR_toFirst_31 ⟨Nat.zero_le _, Nat.zero_le _⟩) hP hD hS hA [0, 1, 2] [] [0, 1, 2] rfl rfl rfl (by decide) rfl rfl (fun H locs hP hD hS => ?_)
        cases hF
        exact hq_vret hx hb hr hlocks hP hD hK hS d_OR_toFirst_34
      · have hF := ox_f hF hb1
        refine lv_aload_n hx hb d_OR_toFirst_17 rfl (lv_at hl 0 rfl) ?_
        refine va_get (D := (dC, dI)) (ci := 1) (v := .ref q_moves) (C := R_OR) (T := F_OR) (N := 3) hx hb hts uw_OR hown hK hP 0 rfl rfl 1 (by decide) (hts _ tw_20) (fun _ h9 => h9) rfl d_OR_toFirst_18 ?_
        refine lv_iload_n hx hb d_OR_toFirst_21 rfl (lv_at hl 2 rfl) ?_
        refine lv_iload_n hx hb d_OR_toFirst_22 rfl (lv_at hl 2 rfl) ?_
        obtain ⟨hin, hF⟩ := ox_gdS hF
        refine va_iast hx hb hK hP hD hS 1 0 rfl rfl hin d_OR_toFirst_23 (fun H locs hP hD hS => ?_)
        have hP : va_P (dC, dI) vwCl (wd_OR_toFirst q_this q_moves q_rank cI v_count (upd f_moves i2.toNatClampNeg i2) f_rank) H := hP
        have hD : va_D A (wd_OR_toFirst q_this q_moves q_rank cI v_count (upd f_moves i2.toNatClampNeg i2) f_rank) := hD
        refine lv_iinc (v := (i2 + 1)) (lv' := [(2, .int (i2 + 1)), (0, .ref q_this), (1, .int i1)]) hx hb d_OR_toFirst_24 hl (k := 2) rfl rfl (by decide) rfl (fun ls hl => ?_)
        refine lv_goto (tgt := 9) hx hb d_OR_toFirst_27 (by decide) ?_
        exact ih i1 (i2 + 1) v_count (upd f_moves i2.toNatClampNeg i2) f_rank _ _ _ hP hD hS (lv_sub hl [1, 2, 0] rfl) hF
  refine lv_aload_n hx hb d_OR_toFirst_0 rfl (lv_at hl 0 rfl) ?_
  refine lv_iload_n hx hb d_OR_toFirst_1 rfl (lv_at hl 1 rfl) ?_
  refine lv_iconst (v := 1) hx hb d_OR_toFirst_2 (by decide) ?_
  refine lv_iadd hx hb d_OR_toFirst_3 ?_
  refine va_put (D := (dC, dI)) (ci := 1) (v := .int (a1 + 1)) (ty := .int) (C := R_OR) (T := F_OR) (N := 3) hx hb hts uw_OR t_OR t_OR_ok n_OR hown hK hP hD hS 0 rfl rfl 0 (by decide) (hts _ tw_18) (fun _ h9 => h9) rfl (by decide +kernel) rfl rfl (Nat.le_of_ble_eq_true rfl) d_OR_toFirst_4 (fun H locs hP hD hS => ?_)
  have hP : va_P (dC, dI) vwCl (wd_OR_toFirst q_this q_moves q_rank cI (a1 + 1) f_moves f_rank) H := hP
  have hD : va_D A (wd_OR_toFirst q_this q_moves q_rank cI (a1 + 1) f_moves f_rank) := hD
  refine lv_iconst (v := 0) hx hb d_OR_toFirst_7 (by decide) ?_
  refine lv_istore_n (lv' := [(2, .int 0), (0, .ref q_this), (1, .int a1)]) hx hb d_OR_toFirst_8 rfl hl (by decide) rfl (fun ls hl => ?_)
  exact (loop z) a1 0 (a1 + 1) f_moves f_rank _ _ _ hP hD hS (lv_sub hl [1, 2, 0] rfl) hF
abbrev wd_OR_toNext (q_this : Nat) (q_moves : Nat) (q_rank : Nat) (cI : ClassId) (v_count : Int32) (f_moves : Nat → Int32) (f_rank : Nat → Int32) : va_W := [(q_this, .inr (1, [.int v_count, .ref q_moves, .ref q_rank])), (q_moves, .inl (cI, 6, .inl f_moves)), (q_rank, .inl (cI, 6, .inl f_rank))]
set_option maxHeartbeats 4000000 in
set_option maxRecDepth 100000 in
theorem c_OR_toNext (l : Launch) (dC : Nat → ClassId) (dI : Nat → Nat → Nat) (q_this : Nat) (q_moves : Nat) (q_rank : Nat) (cI : ClassId) (sz : Nat) (z : Nat) (v_count : Int32) (f_moves : Nat → Int32) (f_rank : Nat → Int32) (rr : Int32) (n_f_moves : Nat → Int32) (n_f_rank : Nat → Int32) (hF : fn_OR_toNext z v_count f_moves f_rank = some (rr, n_f_moves, n_f_rank)) : Met l y_OR_toNext w_OR_toNext ({ frames := 2, cells := 0, slots := 0, locals := 46 }) (hq_Pc (dC, dI) vwCl [(cI, .int)] (wd_OR_toNext q_this q_moves q_rank cI v_count f_moves f_rank) sz [.ref q_this]) (hq_Qi (dC, dI) vwCl [(cI, .int)] (wd_OR_toNext q_this q_moves q_rank cI v_count n_f_moves n_f_rank) rr (va_A (wd_OR_toNext q_this q_moves q_rank cI v_count f_moves f_rank) sz)) 0 0 (va_A (wd_OR_toNext q_this q_moves q_rank cI v_count f_moves f_rank) sz) := by
  refine hq_met (Qc := (hq_Qi (dC, dI) vwCl [(cI, .int)] (wd_OR_toNext q_this q_moves q_rank cI v_count n_f_moves n_f_rank) rr)) (cc := b_OR_toNext) (maxL := 3) (ret := some .boolean) (by decide) rfl (Nat.le_of_ble_eq_true rfl) ?_
  intro p e s m args below meth c A ls hx hb hr hml hts hown hlocks hnm hP hD hK hA hS hl
  have hts : ∀ w ∈ tb0, w.before args s = true := fun w h => hts w (List.mem_cons_of_mem _ h)
  have hown : s.vm.findClass R_OR = some m.cls := hown
  have hl : lv_has ls 3 [(0, .ref q_this)] := hl
  unfold fn_OR_toNext at hF
  have loop : ∀ fu : Nat, (∀ (i1 : Int32) (i2 : Int32) (f_moves : Nat → Int32) (f_rank : Nat → Int32) (H : Heap) (locs : List Loc) (ls : Array Slot), va_P (dC, dI) vwCl (wd_OR_toNext q_this q_moves q_rank cI v_count f_moves f_rank) H → va_D A (wd_OR_toNext q_this q_moves q_rank cI v_count f_moves f_rank) → va_S A s.heap H locs → lv_has ls 3 [(0, .ref q_this), (1, .int i1)] → lp_OR_toNext z v_count fu 0 i1 i2 f_moves f_rank = some (rr, n_f_moves, n_f_rank) → W p l e ({ frames := 2, cells := 0, slots := 0, locals := 46 }) s m args below meth c H locs 0 0 (MQ below ((hq_Qi (dC, dI) vwCl [(cI, .int)] (wd_OR_toNext q_this q_moves q_rank cI v_count n_f_moves n_f_rank) rr) A) args s 0 0 A) (F0 m 7 ls [])) ∧ (∀ (i1 : Int32) (i2 : Int32) (f_moves : Nat → Int32) (f_rank : Nat → Int32) (H : Heap) (locs : List Loc) (ls : Array Slot), va_P (dC, dI) vwCl (wd_OR_toNext q_this q_moves q_rank cI v_count f_moves f_rank) H → va_D A (wd_OR_toNext q_this q_moves q_rank cI v_count f_moves f_rank) → va_S A s.heap H locs → lv_has ls 3 [(0, .ref q_this), (1, .int i1), (2, .int i2)] → lp_OR_toNext z v_count fu 1 i1 i2 f_moves f_rank = some (rr, n_f_moves, n_f_rank) → W p l e ({ frames := 2, cells := 0, slots := 0, locals := 46 }) s m args below meth c H locs 0 0 (MQ below ((hq_Qi (dC, dI) vwCl [(cI, .int)] (wd_OR_toNext q_this q_moves q_rank cI v_count n_f_moves n_f_rank) rr) A) args s 0 0 A) (F0 m 49 ls [])) := by
    intro fu
    induction fu with
    | zero => exact ⟨(fun _ _ _ _ _ _ _ _ _ _ _ h => by cases h), (fun _ _ _ _ _ _ _ _ _ _ _ h => by cases h)⟩
    | succ fu ih =>
      refine ⟨?_, ?_⟩
      · intro i1 i2 f_moves f_rank H locs ls hP hD hS hl hF
        have hF : st_OR_toNext z v_count (lp_OR_toNext z v_count fu) 0 i1 i2 f_moves f_rank = some (rr, n_f_moves, n_f_rank) := hF
        unfold st_OR_toNext at hF
        try dsimp only at hF
        refine lv_iload_n hx hb d_OR_toNext_7 rfl (lv_at hl 1 rfl) ?_
        refine lv_iconst (v := 1) hx hb d_OR_toNext_8 (by decide) ?_
        refine lv_icmp_lt (tgt := 35) hx hb d_OR_toNext_9 (by decide) (fun hb1 => ?_) (fun hb1 => ?_)
        · have hF := ox_t hF hb1
          refine lv_iload_n hx hb d_OR_toNext_35 rfl (lv_at hl 1 rfl) ?_
          refine lv_iconst (v := 1) hx hb d_OR_toNext_36 (by decide) ?_
          refine lv_icmp_ge (tgt := 42) hx hb d_OR_toNext_37 (by decide) (fun hb2 => ?_) (fun hb2 => ?_)
          · have hF := ox_t hF hb2
            refine lv_aload_n hx hb d_OR_toNext_42 rfl (lv_at hl 0 rfl) ?_
            refine va_get (D := (dC, dI)) (ci := 1) (v := .int v_count) (C := R_OR) (T := F_OR) (N := 3) hx hb hts uw_OR hown hK hP 0 rfl rfl 0 (by decide) (hts _ tw_18) (fun _ h9 => h9) rfl d_OR_toNext_43 ?_
            refine lv_iconst (v := 1) hx hb d_OR_toNext_46 (by decide) ?_
            refine lv_isub hx hb d_OR_toNext_47 ?_
            refine lv_istore_n (lv' := [(2, .int (v_count - 1)), (0, .ref q_this), (1, .int i1)]) hx hb d_OR_toNext_48 rfl hl (by decide) rfl (fun ls hl => ?_)
            exact ih.2 i1 (v_count - 1) f_moves f_rank _ _ _ hP hD hS (lv_sub hl [1, 2, 0] rfl) hF
          · have hF := ox_f hF hb2
            refine lv_iconst (v := 0) hx hb d_OR_toNext_40 (by decide) ?_
            cases hF
            exact hq_zret hx hb hr (by decide) hlocks hP hD hK hS d_OR_toNext_41
        · have hF := ox_f hF hb1
          refine lv_aload_n hx hb d_OR_toNext_12 rfl (lv_at hl 0 rfl) ?_
          refine va_get (D := (dC, dI)) (ci := 1) (v := .ref q_moves) (C := R_OR) (T := F_OR) (N := 3) hx hb hts uw_OR hown hK hP 0 rfl rfl 1 (by decide) (hts _ tw_20) (fun _ h9 => h9) rfl d_OR_toNext_13 ?_
          refine lv_iload_n hx hb d_OR_toNext_16 rfl (lv_at hl 1 rfl) ?_
          obtain ⟨hin, hF⟩ := ox_gdS hF
          refine va_iald hx hb hK hP 1 0 rfl rfl hin d_OR_toNext_17 ?_
          refine lv_aload_n hx hb d_OR_toNext_18 rfl (lv_at hl 0 rfl) ?_
          refine va_get (D := (dC, dI)) (ci := 1) (v := .ref q_moves) (C := R_OR) (T := F_OR) (N := 3) hx hb hts uw_OR hown hK hP 0 rfl rfl 1 (by decide) (hts _ tw_20) (fun _ h9 => h9) rfl d_OR_toNext_19 ?_
          refine lv_iload_n hx hb d_OR_toNext_22 rfl (lv_at hl 1 rfl) ?_
          refine lv_iconst (v := 1) hx hb d_OR_toNext_23 (by decide) ?_
          refine lv_iadd hx hb d_OR_toNext_24 ?_
          obtain ⟨hin, hF⟩ := ox_gdS hF
          refine va_iald hx hb hK hP 1 0 rfl rfl hin d_OR_toNext_25 ?_
          refine lv_icmp_le (tgt := 35) hx hb d_OR_toNext_26 (by decide) (fun hb3 => ?_) (fun hb3 => ?_)
          · have hF := ox_t hF hb3
            refine lv_iload_n hx hb d_OR_toNext_35 rfl (lv_at hl 1 rfl) ?_
            refine lv_iconst (v := 1) hx hb d_OR_toNext_36 (by decide) ?_
            refine lv_icmp_ge (tgt := 42) hx hb d_OR_toNext_37 (by decide) (fun hb4 => ?_) (fun hb4 => ?_)
            · have hF := ox_t hF hb4
              refine lv_aload_n hx hb d_OR_toNext_42 rfl (lv_at hl 0 rfl) ?_
              refine va_get (D := (dC, dI)) (ci := 1) (v := .int v_count) (C := R_OR) (T := F_OR) (N := 3) hx hb hts uw_OR hown hK hP 0 rfl rfl 0 (by decide) (hts _ tw_18) (fun _ h9 => h9) rfl d_OR_toNext_43 ?_
              refine lv_iconst (v := 1) hx hb d_OR_toNext_46 (by decide) ?_
              refine lv_isub hx hb d_OR_toNext_47 ?_
              refine lv_istore_n (lv' := [(2, .int (v_count - 1)), (0, .ref q_this), (1, .int i1)]) hx hb d_OR_toNext_48 rfl hl (by decide) rfl (fun ls hl => ?_)
              exact ih.2 i1 (v_count - 1) f_moves f_rank _ _ _ hP hD hS (lv_sub hl [1, 2, 0] rfl) hF
            · have hF := ox_f hF hb4
              refine lv_iconst (v := 0) hx hb d_OR_toNext_40 (by decide) ?_
              cases hF
              exact hq_zret hx hb hr (by decide) hlocks hP hD hK hS d_OR_toNext_41
          · have hF := ox_f hF hb3
            refine lv_iinc (v := (i1 + (-1))) (lv' := [(1, .int (i1 + (-1))), (0, .ref q_this)]) hx hb d_OR_toNext_29 hl (k := 1) rfl rfl (by decide) rfl (fun ls hl => ?_)
            refine lv_goto (tgt := 7) hx hb d_OR_toNext_32 (by decide) ?_
            exact ih.1 (i1 + (-1)) 0 f_moves f_rank _ _ _ hP hD hS (lv_sub hl [1, 0] rfl) hF
      · intro i1 i2 f_moves f_rank H locs ls hP hD hS hl hF
        have hF : st_OR_toNext z v_count (lp_OR_toNext z v_count fu) 1 i1 i2 f_moves f_rank = some (rr, n_f_moves, n_f_rank) := hF
        unfold st_OR_toNext at hF
        try dsimp only at hF
        refine lv_iload_n hx hb d_OR_toNext_49 rfl (lv_at hl 2 rfl) ?_
        refine lv_iload_n hx hb d_OR_toNext_50 rfl (lv_at hl 1 rfl) ?_
        refine lv_iconst (v := 1) hx hb d_OR_toNext_51 (by decide) ?_
        refine lv_iadd hx hb d_OR_toNext_52 ?_
        refine lv_icmp_le (tgt := 77) hx hb d_OR_toNext_53 (by decide) (fun hb5 => ?_) (fun hb5 => ?_)
        · have hF := ox_t hF hb5
          refine lv_aload_n hx hb d_OR_toNext_77 rfl (lv_at hl 0 rfl) ?_
          refine lv_iload_n hx hb d_OR_toNext_78 rfl (lv_at hl 1 rfl) ?_
          refine lv_iload_n hx hb d_OR_toNext_79 rfl (lv_at hl 2 rfl) ?_
          obtain ⟨s6_f_moves, hc6, hF⟩ := ox_clS hF
          refine hq_cv (ws' := (wd_OR_toNext q_this q_moves q_rank cI v_count s6_f_moves f_rank)) (hq_rV (As := [.int i1, .int i2]) (rest := []) ⟨hx, hb, hml, hown, hts⟩ (c_OR_swap l dC dI q_this q_moves q_rank cI _ i1 i2 v_count f_moves s6_f_moves hc6) (cwV 2 hts (hq_gV tw_21 tw_22 tw_23 tw_24 tw_25) rfl rfl rfl yv_OR_swap ⟨Nat.le_of_ble_eq_true rfl, Nat.le_of_ble_eq_true rfl⟩) hP hD hK [0] rfl 0 rfl rfl [0, 1] rfl rfl rfl hl.1 rfl (Nat.le_of_ble_eq_true rfl) d_OR_toNext_80 ⟨Nat.zero_le _, Nat.zero_le _⟩) hP hD hS hA [0, 1] [2] [1, 2, 0] rfl rfl rfl (by decide) rfl rfl (fun H locs hP hD hS => ?_)
          refine lv_aload_n hx hb d_OR_toNext_83 rfl (lv_at hl 0 rfl) ?_
          refine lv_iload_n hx hb d_OR_toNext_84 rfl (lv_at hl 1 rfl) ?_
          refine lv_iconst (v := 1) hx hb d_OR_toNext_85 (by decide) ?_
          refine lv_iadd hx hb d_OR_toNext_86 ?_
          obtain ⟨s7_f_moves, hc7, hF⟩ := ox_clS hF
          refine hq_cv (ws' := (wd_OR_toNext q_this q_moves q_rank cI v_count s7_f_moves f_rank)) (hq_rV (As := [.int (i1 + 1)]) (rest := []) ⟨hx, hb, hml, hown, hts⟩ (c_OR_reverseFrom l dC dI q_this q_moves q_rank cI _ z (i1 + 1) v_count s6_f_moves s7_f_moves hc7) (cwV 1 hts (hq_gV tw_30 tw_31 tw_32 tw_24 tw_33) rfl rfl rfl yv_OR_reverseFrom ⟨Nat.le_of_ble_eq_true rfl, Nat.le_of_ble_eq_true rfl⟩) hP hD hK [0] rfl 0 rfl rfl [0, 1] rfl rfl rfl hl.1 rfl (Nat.le_of_ble_eq_true rfl) d_OR_toNext_87 ⟨Nat.zero_le _, Nat.zero_le _⟩) hP hD hS hA [0, 1] [2] [1, 2, 0] rfl rfl rfl (by decide) rfl rfl (fun H locs hP hD hS => ?_)
          refine lv_aload_n hx hb d_OR_toNext_90 rfl (lv_at hl 0 rfl) ?_
          obtain ⟨s8_f_rank, hc8, hF⟩ := ox_clS hF
          refine hq_cv (ws' := (wd_OR_toNext q_this q_moves q_rank cI v_count s7_f_moves s8_f_rank)) (hq_rV (As := []) (rest := []) ⟨hx, hb, hml, hown, hts⟩ (c_OR_rankMoves l dC dI q_this q_moves q_rank cI _ z v_count s7_f_moves f_rank s8_f_rank hc8) (cwV 0 hts (hq_gV tw_26 tw_27 tw_28 tw_24 tw_29) rfl rfl rfl yv_OR_rankMoves ⟨Nat.le_of_ble_eq_true rfl, Nat.le_of_ble_eq_true rfl⟩) hP hD hK [0] rfl 0 rfl rfl [0, 1, 2] rfl rfl rfl hl.1 rfl (Nat.le_of_ble_eq_true rfl) d_OR_toNext_91 ⟨Nat.zero_le _, Nat.zero_le _⟩) hP hD hS hA [0, 1, 2] [] [0, 1, 2] rfl rfl rfl (by decide) rfl rfl (fun H locs hP hD hS => ?_)
          refine lv_iconst (v := 1) hx hb d_OR_toNext_94 (by decide) ?_
          cases hF
          exact hq_zret hx hb hr (by decide) hlocks hP hD hK hS d_OR_toNext_95
        · have hF := ox_f hF hb5
          refine lv_aload_n hx hb d_OR_toNext_56 rfl (lv_at hl 0 rfl) ?_
          refine va_get (D := (dC, dI)) (ci := 1) (v := .ref q_moves) (C := R_OR) (T := F_OR) (N := 3) hx hb hts uw_OR hown hK hP 0 rfl rfl 1 (by decide) (hts _ tw_20) (fun _ h9 => h9) rfl d_OR_toNext_57 ?_
          refine lv_iload_n hx hb d_OR_toNext_60 rfl (lv_at hl 2 rfl) ?_
          obtain ⟨hin, hF⟩ := ox_gdS hF
          refine va_iald hx hb hK hP 1 0 rfl rfl hin d_OR_toNext_61 ?_
          refine lv_aload_n hx hb d_OR_toNext_62 rfl (lv_at hl 0 rfl) ?_
          refine va_get (D := (dC, dI)) (ci := 1) (v := .ref q_moves) (C := R_OR) (T := F_OR) (N := 3) hx hb hts uw_OR hown hK hP 0 rfl rfl 1 (by decide) (hts _ tw_20) (fun _ h9 => h9) rfl d_OR_toNext_63 ?_
          refine lv_iload_n hx hb d_OR_toNext_66 rfl (lv_at hl 1 rfl) ?_
          obtain ⟨hin, hF⟩ := ox_gdS hF
          refine va_iald hx hb hK hP 1 0 rfl rfl hin d_OR_toNext_67 ?_
          refine lv_icmp_ge (tgt := 77) hx hb d_OR_toNext_68 (by decide) (fun hb9 => ?_) (fun hb9 => ?_)
          · have hF := ox_t hF hb9
            refine lv_aload_n hx hb d_OR_toNext_77 rfl (lv_at hl 0 rfl) ?_
            refine lv_iload_n hx hb d_OR_toNext_78 rfl (lv_at hl 1 rfl) ?_
            refine lv_iload_n hx hb d_OR_toNext_79 rfl (lv_at hl 2 rfl) ?_
            obtain ⟨s10_f_moves, hc10, hF⟩ := ox_clS hF
            refine hq_cv (ws' := (wd_OR_toNext q_this q_moves q_rank cI v_count s10_f_moves f_rank)) (hq_rV (As := [.int i1, .int i2]) (rest := []) ⟨hx, hb, hml, hown, hts⟩ (c_OR_swap l dC dI q_this q_moves q_rank cI _ i1 i2 v_count f_moves s10_f_moves hc10) (cwV 2 hts (hq_gV tw_21 tw_22 tw_23 tw_24 tw_25) rfl rfl rfl yv_OR_swap ⟨Nat.le_of_ble_eq_true rfl, Nat.le_of_ble_eq_true rfl⟩) hP hD hK [0] rfl 0 rfl rfl [0, 1] rfl rfl rfl hl.1 rfl (Nat.le_of_ble_eq_true rfl) d_OR_toNext_80 ⟨Nat.zero_le _, Nat.zero_le _⟩) hP hD hS hA [0, 1] [2] [1, 2, 0] rfl rfl rfl (by decide) rfl rfl (fun H locs hP hD hS => ?_)
            refine lv_aload_n hx hb d_OR_toNext_83 rfl (lv_at hl 0 rfl) ?_
            refine lv_iload_n hx hb d_OR_toNext_84 rfl (lv_at hl 1 rfl) ?_
            refine lv_iconst (v := 1) hx hb d_OR_toNext_85 (by decide) ?_
            refine lv_iadd hx hb d_OR_toNext_86 ?_
            obtain ⟨s11_f_moves, hc11, hF⟩ := ox_clS hF
            refine hq_cv (ws' := (wd_OR_toNext q_this q_moves q_rank cI v_count s11_f_moves f_rank)) (hq_rV (As := [.int (i1 + 1)]) (rest := []) ⟨hx, hb, hml, hown, hts⟩ (c_OR_reverseFrom l dC dI q_this q_moves q_rank cI _ z (i1 + 1) v_count s10_f_moves s11_f_moves hc11) (cwV 1 hts (hq_gV tw_30 tw_31 tw_32 tw_24 tw_33) rfl rfl rfl yv_OR_reverseFrom ⟨Nat.le_of_ble_eq_true rfl, Nat.le_of_ble_eq_true rfl⟩) hP hD hK [0] rfl 0 rfl rfl [0, 1] rfl rfl rfl hl.1 rfl (Nat.le_of_ble_eq_true rfl) d_OR_toNext_87 ⟨Nat.zero_le _, Nat.zero_le _⟩) hP hD hS hA [0, 1] [2] [1, 2, 0] rfl rfl rfl (by decide) rfl rfl (fun H locs hP hD hS => ?_)
            refine lv_aload_n hx hb d_OR_toNext_90 rfl (lv_at hl 0 rfl) ?_
            obtain ⟨s12_f_rank, hc12, hF⟩ := ox_clS hF
            refine hq_cv (ws' := (wd_OR_toNext q_this q_moves q_rank cI v_count s11_f_moves s12_f_rank)) (hq_rV (As := []) (rest := []) ⟨hx, hb, hml, hown, hts⟩ (c_OR_rankMoves l dC dI q_this q_moves q_rank cI _ z v_count s11_f_moves f_rank s12_f_rank hc12) (cwV 0 hts (hq_gV tw_26 tw_27 tw_28 tw_24 tw_29) rfl rfl rfl yv_OR_rankMoves ⟨Nat.le_of_ble_eq_true rfl, Nat.le_of_ble_eq_true rfl⟩) hP hD hK [0] rfl 0 rfl rfl [0, 1, 2] rfl rfl rfl hl.1 rfl (Nat.le_of_ble_eq_true rfl) d_OR_toNext_91 ⟨Nat.zero_le _, Nat.zero_le _⟩) hP hD hS hA [0, 1, 2] [] [0, 1, 2] rfl rfl rfl (by decide) rfl rfl (fun H locs hP hD hS => ?_)
            refine lv_iconst (v := 1) hx hb d_OR_toNext_94 (by decide) ?_
            cases hF
            exact hq_zret hx hb hr (by decide) hlocks hP hD hK hS d_OR_toNext_95
          · have hF := ox_f hF hb9
            refine lv_iinc (v := (i2 + (-1))) (lv' := [(2, .int (i2 + (-1))), (0, .ref q_this), (1, .int i1)]) hx hb d_OR_toNext_71 hl (k := 2) rfl rfl (by decide) rfl (fun ls hl => ?_)
            refine lv_goto (tgt := 49) hx hb d_OR_toNext_74 (by decide) ?_
            exact ih.2 i1 (i2 + (-1)) f_moves f_rank _ _ _ hP hD hS (lv_sub hl [1, 2, 0] rfl) hF
  refine lv_aload_n hx hb d_OR_toNext_0 rfl (lv_at hl 0 rfl) ?_
  refine va_get (D := (dC, dI)) (ci := 1) (v := .int v_count) (C := R_OR) (T := F_OR) (N := 3) hx hb hts uw_OR hown hK hP 0 rfl rfl 0 (by decide) (hts _ tw_18) (fun _ h9 => h9) rfl d_OR_toNext_1 ?_
  refine lv_iconst (v := 2) hx hb d_OR_toNext_4 (by decide) ?_
  refine lv_isub hx hb d_OR_toNext_5 ?_
  refine lv_istore_n (lv' := [(1, .int (v_count - 2)), (0, .ref q_this)]) hx hb d_OR_toNext_6 rfl hl (by decide) rfl (fun ls hl => ?_)
  exact (loop z).1 (v_count - 2) 0 f_moves f_rank _ _ _ hP hD hS (lv_sub hl [1, 0] rfl) hF
abbrev wd_OR_read (q_this : Nat) (q_moves : Nat) (q_rank : Nat) (cI : ClassId) (v_count : Int32) (f_rank : Nat → Int32) (f_moves : Nat → Int32) : va_W := [(q_this, .inr (1, [.int v_count, .ref q_moves, .ref q_rank])), (q_rank, .inl (cI, 6, .inl f_rank)), (q_moves, .inl (cI, 6, .inl f_moves))]
set_option maxHeartbeats 4000000 in
set_option maxRecDepth 100000 in
theorem c_OR_read (l : Launch) (dC : Nat → ClassId) (dI : Nat → Nat → Nat) (q_this : Nat) (q_moves : Nat) (q_rank : Nat) (cI : ClassId) (sz : Nat) (z : Nat) (a1 : Int32) (a2 : Int32) (v_count : Int32) (f_rank : Nat → Int32) (f_moves : Nat → Int32) (rr : Int32) (n_v_count : Int32) (n_f_rank : Nat → Int32) (n_f_moves : Nat → Int32) (hF : fn_OR_read z a1 a2 v_count f_rank f_moves = some (rr, n_v_count, n_f_rank, n_f_moves)) : Met l y_OR_read w_OR_read ({ frames := 1, cells := 0, slots := 0, locals := 23 }) (hq_Pc (dC, dI) vwCl [(cI, .int)] (wd_OR_read q_this q_moves q_rank cI v_count f_rank f_moves) sz [.ref q_this, .int a1, .int a2]) (hq_Qi (dC, dI) vwCl [(cI, .int)] (wd_OR_read q_this q_moves q_rank cI n_v_count n_f_rank n_f_moves) rr (va_A (wd_OR_read q_this q_moves q_rank cI v_count f_rank f_moves) sz)) 0 0 (va_A (wd_OR_read q_this q_moves q_rank cI v_count f_rank f_moves) sz) := by
  refine hq_met (Qc := (hq_Qi (dC, dI) vwCl [(cI, .int)] (wd_OR_read q_this q_moves q_rank cI n_v_count n_f_rank n_f_moves) rr)) (cc := b_OR_read) (maxL := 6) (ret := some .boolean) (by decide) rfl (Nat.le_of_ble_eq_true rfl) ?_
  intro p e s m args below meth c A ls hx hb hr hml hts hown hlocks hnm hP hD hK hA hS hl
  have hts : ∀ w ∈ tb0, w.before args s = true := fun w h => hts w (List.mem_cons_of_mem _ h)
  have hown : s.vm.findClass R_OR = some m.cls := hown
  have hl : lv_has ls 6 [(0, .ref q_this), (1, .int a1), (2, .int a2)] := hl
  unfold fn_OR_read at hF
  have loop : ∀ fu : Nat, (∀ (i1 : Int32) (i2 : Int32) (i3 : Int32) (i4 : Int32) (v_count : Int32) (f_rank : Nat → Int32) (f_moves : Nat → Int32) (H : Heap) (locs : List Loc) (ls : Array Slot), va_P (dC, dI) vwCl (wd_OR_read q_this q_moves q_rank cI v_count f_rank f_moves) H → va_D A (wd_OR_read q_this q_moves q_rank cI v_count f_rank f_moves) → va_S A s.heap H locs → lv_has ls 6 [(0, .ref q_this), (1, .int i1), (2, .int i2), (3, .int i3), (4, .int i4)] → lp_OR_read z fu 0 i1 i2 i3 i4 v_count f_rank f_moves = some (rr, n_v_count, n_f_rank, n_f_moves) → W p l e ({ frames := 1, cells := 0, slots := 0, locals := 23 }) s m args below meth c H locs 0 0 (MQ below ((hq_Qi (dC, dI) vwCl [(cI, .int)] (wd_OR_read q_this q_moves q_rank cI n_v_count n_f_rank n_f_moves) rr) A) args s 0 0 A) (F0 m 20 ls [])) := by
    intro fu
    induction fu with
    | zero => exact (fun _ _ _ _ _ _ _ _ _ _ _ _ _ _ h => by cases h)
    | succ fu ih =>
      intro i1 i2 i3 i4 v_count f_rank f_moves H locs ls hP hD hS hl hF
      have hF : st_OR_read z (lp_OR_read z fu) 0 i1 i2 i3 i4 v_count f_rank f_moves = some (rr, n_v_count, n_f_rank, n_f_moves) := hF
      unfold st_OR_read at hF
      try dsimp only at hF
      refine lv_iload hx hb d_OR_read_20 (lv_at hl 4 rfl) ?_
      refine lv_iconst (v := 1) hx hb d_OR_read_22 (by decide) ?_
      refine lv_icmp_lt (tgt := 85) hx hb d_OR_read_23 (by decide) (fun hb2 => ?_) (fun hb2 => ?_)
      · have hF := ox_t hF hb2
        refine lv_aload_n hx hb d_OR_read_85 rfl (lv_at hl 0 rfl) ?_
        refine va_get (D := (dC, dI)) (ci := 1) (v := .ref q_moves) (C := R_OR) (T := F_OR) (N := 3) hx hb hts uw_OR hown hK hP 0 rfl rfl 1 (by decide) (hts _ tw_20) (fun _ h9 => h9) rfl d_OR_read_86 ?_
        refine lv_iconst (v := 0) hx hb d_OR_read_89 (by decide) ?_
        refine lv_iconst (v := 0) hx hb d_OR_read_90 (by decide) ?_
        have hin : vp_in 0 6 := by unfold vp_in; decide
        refine va_iast hx hb hK hP hD hS 2 0 rfl rfl hin d_OR_read_91 (fun H locs hP hD hS => ?_)
        have hP : va_P (dC, dI) vwCl (wd_OR_read q_this q_moves q_rank cI v_count f_rank (upd f_moves 0 0)) H := hP
        have hD : va_D A (wd_OR_read q_this q_moves q_rank cI v_count f_rank (upd f_moves 0 0)) := hD
        refine lv_iload_n hx hb d_OR_read_92 rfl (lv_at hl 3 rfl) ?_
        refine lv_if_ne (tgt := 100) hx hb d_OR_read_93 (by decide) (fun hb3 => ?_) (fun hb3 => ?_)
        · have hF := ox_t hF hb3
          refine lv_iconst (v := 0) hx hb d_OR_read_100 (by decide) ?_
          cases hF
          exact hq_zret hx hb hr (by decide) hlocks hP hD hK hS d_OR_read_101
        · have hF := ox_fn hF hb3
          refine lv_iconst (v := 1) hx hb d_OR_read_96 (by decide) ?_
          refine lv_goto (tgt := 101) hx hb d_OR_read_97 (by decide) ?_
          cases hF
          exact hq_zret hx hb hr (by decide) hlocks hP hD hK hS d_OR_read_101
      · have hF := ox_f hF hb2
        refine lv_iload_n hx hb d_OR_read_26 rfl (lv_at hl 3 rfl) ?_
        refine lv_bipush (v := 10) hx hb d_OR_read_27 (by decide) ?_
        refine lv_irem hx hb d_OR_read_29 (by decide) ?_
        refine lv_istore (lv' := [(5, .int (i3 - i3 / 10 * 10)), (0, .ref q_this), (1, .int i1), (2, .int i2), (3, .int i3), (4, .int i4)]) hx hb d_OR_read_30 hl (by decide) rfl (fun ls hl => ?_)
        refine lv_iload hx hb d_OR_read_32 (lv_at hl 0 rfl) ?_
        refine lv_iconst (v := 1) hx hb d_OR_read_34 (by decide) ?_
        refine lv_icmp_lt (tgt := 54) hx hb d_OR_read_35 (by decide) (fun hb4 => ?_) (fun hb4 => ?_)
        · have hF := ox_t hF hb4
          refine lv_iconst (v := 0) hx hb d_OR_read_54 (by decide) ?_
          cases hF
          exact hq_zret hx hb hr (by decide) hlocks hP hD hK hS d_OR_read_55
        · have hF := ox_f hF hb4
          refine lv_iload hx hb d_OR_read_38 (lv_at hl 0 rfl) ?_
          refine lv_iload_n hx hb d_OR_read_40 rfl (lv_at hl 3 rfl) ?_
          refine lv_icmp_gt (tgt := 54) hx hb d_OR_read_41 (by decide) (fun hb5 => ?_) (fun hb5 => ?_)
          · have hF := ox_t hF hb5
            refine lv_iconst (v := 0) hx hb d_OR_read_54 (by decide) ?_
            cases hF
            exact hq_zret hx hb hr (by decide) hlocks hP hD hK hS d_OR_read_55
          · have hF := ox_f hF hb5
            refine lv_aload_n hx hb d_OR_read_44 rfl (lv_at hl 1 rfl) ?_
            refine va_get (D := (dC, dI)) (ci := 1) (v := .ref q_rank) (C := R_OR) (T := F_OR) (N := 3) hx hb hts uw_OR hown hK hP 0 rfl rfl 2 (by decide) (hts _ tw_19) (fun _ h9 => h9) rfl d_OR_read_45 ?_
            refine lv_iload hx hb d_OR_read_48 (lv_at hl 0 rfl) ?_
            obtain ⟨hin, hF⟩ := ox_gdS hF
            refine va_iald hx hb hK hP 1 0 rfl rfl hin d_OR_read_50 ?_
            refine lv_if_eq (tgt := 56) hx hb d_OR_read_51 (by decide) (fun hb6 => ?_) (fun hb6 => ?_)
            · have hF := ox_t hF hb6
              refine lv_aload_n hx hb d_OR_read_56 rfl (lv_at hl 1 rfl) ?_
              refine va_get (D := (dC, dI)) (ci := 1) (v := .ref q_moves) (C := R_OR) (T := F_OR) (N := 3) hx hb hts uw_OR hown hK hP 0 rfl rfl 1 (by decide) (hts _ tw_20) (fun _ h9 => h9) rfl d_OR_read_57 ?_
              refine lv_iload hx hb d_OR_read_60 (lv_at hl 5 rfl) ?_
              refine lv_iload hx hb d_OR_read_62 (lv_at hl 0 rfl) ?_
              obtain ⟨hin, hF⟩ := ox_gdS hF
              refine va_iast hx hb hK hP hD hS 2 0 rfl rfl hin d_OR_read_64 (fun H locs hP hD hS => ?_)
              have hP : va_P (dC, dI) vwCl (wd_OR_read q_this q_moves q_rank cI v_count f_rank (upd f_moves i4.toNatClampNeg (i3 - i3 / 10 * 10))) H := hP
              have hD : va_D A (wd_OR_read q_this q_moves q_rank cI v_count f_rank (upd f_moves i4.toNatClampNeg (i3 - i3 / 10 * 10))) := hD
              refine lv_aload_n hx hb d_OR_read_65 rfl (lv_at hl 1 rfl) ?_
              refine va_get (D := (dC, dI)) (ci := 1) (v := .ref q_rank) (C := R_OR) (T := F_OR) (N := 3) hx hb hts uw_OR hown hK hP 0 rfl rfl 2 (by decide) (hts _ tw_19) (fun _ h9 => h9) rfl d_OR_read_66 ?_
              refine lv_iload hx hb d_OR_read_69 (lv_at hl 0 rfl) ?_
              refine lv_iload hx hb d_OR_read_71 (lv_at hl 5 rfl) ?_
              obtain ⟨hin, hF⟩ := ox_gdS hF
              refine va_iast hx hb hK hP hD hS 1 0 rfl rfl hin d_OR_read_73 (fun H locs hP hD hS => ?_)
              have hP : va_P (dC, dI) vwCl (wd_OR_read q_this q_moves q_rank cI v_count (upd f_rank (i3 - i3 / 10 * 10).toNatClampNeg i4) (upd f_moves i4.toNatClampNeg (i3 - i3 / 10 * 10))) H := hP
              have hD : va_D A (wd_OR_read q_this q_moves q_rank cI v_count (upd f_rank (i3 - i3 / 10 * 10).toNatClampNeg i4) (upd f_moves i4.toNatClampNeg (i3 - i3 / 10 * 10))) := hD
              refine lv_iload_n hx hb d_OR_read_74 rfl (lv_at hl 4 rfl) ?_
              refine lv_bipush (v := 10) hx hb d_OR_read_75 (by decide) ?_
              refine lv_idiv hx hb d_OR_read_77 (by decide) ?_
              refine lv_istore_n (lv' := [(3, .int (i3 / 10)), (5, .int (i3 - i3 / 10 * 10)), (0, .ref q_this), (1, .int i1), (2, .int i2), (4, .int i4)]) hx hb d_OR_read_78 rfl hl (by decide) rfl (fun ls hl => ?_)
              refine lv_iinc (v := (i4 + (-1))) (lv' := [(4, .int (i4 + (-1))), (3, .int (i3 / 10)), (5, .int (i3 - i3 / 10 * 10)), (0, .ref q_this), (1, .int i1), (2, .int i2)]) hx hb d_OR_read_79 hl (k := 5) rfl rfl (by decide) rfl (fun ls hl => ?_)
              refine lv_goto (tgt := 20) hx hb d_OR_read_82 (by decide) ?_
              exact ih i1 i2 (i3 / 10) (i4 + (-1)) v_count (upd f_rank (i3 - i3 / 10 * 10).toNatClampNeg i4) (upd f_moves i4.toNatClampNeg (i3 - i3 / 10 * 10)) _ _ _ hP hD hS (lv_sub hl [3, 4, 5, 1, 0] rfl) hF
            · have hF := ox_f hF hb6
              refine lv_iconst (v := 0) hx hb d_OR_read_54 (by decide) ?_
              cases hF
              exact hq_zret hx hb hr (by decide) hlocks hP hD hK hS d_OR_read_55
  refine lv_aload_n hx hb d_OR_read_0 rfl (lv_at hl 0 rfl) ?_
  refine lv_iload_n hx hb d_OR_read_1 rfl (lv_at hl 2 rfl) ?_
  refine lv_iconst (v := 1) hx hb d_OR_read_2 (by decide) ?_
  refine lv_iadd hx hb d_OR_read_3 ?_
  refine va_put (D := (dC, dI)) (ci := 1) (v := .int (a2 + 1)) (ty := .int) (C := R_OR) (T := F_OR) (N := 3) hx hb hts uw_OR t_OR t_OR_ok n_OR hown hK hP hD hS 0 rfl rfl 0 (by decide) (hts _ tw_18) (fun _ h9 => h9) rfl (by decide +kernel) rfl rfl (Nat.le_of_ble_eq_true rfl) d_OR_read_4 (fun H locs hP hD hS => ?_)
  have hP : va_P (dC, dI) vwCl (wd_OR_read q_this q_moves q_rank cI (a2 + 1) f_rank f_moves) H := hP
  have hD : va_D A (wd_OR_read q_this q_moves q_rank cI (a2 + 1) f_rank f_moves) := hD
  refine lv_aload_n hx hb d_OR_read_7 rfl (lv_at hl 0 rfl) ?_
  refine va_get (D := (dC, dI)) (ci := 1) (v := .ref q_rank) (C := R_OR) (T := F_OR) (N := 3) hx hb hts uw_OR hown hK hP 0 rfl rfl 2 (by decide) (hts _ tw_19) (fun _ h9 => h9) rfl d_OR_read_8 ?_
  refine lv_iconst (v := 0) hx hb d_OR_read_11 (by decide) ?_
  obtain ⟨s1_f_p0, hc1, hF⟩ := ox_clS hF
  refine hq_cv (ws' := (wd_OR_read q_this q_moves q_rank cI (a2 + 1) s1_f_p0 f_moves)) (hq_rS (As := [.ref q_rank, .int 0]) (rest := []) ⟨hx, hb, hml, hown, hts⟩ (c_AR_fill l dC dI q_rank cI 6 _ z 0 f_rank s1_f_p0 hc1) ⟨callB_of 2 hts (hq_g1 tw_5) rfl rfl rfl (hts _ tw_4) (hts _ tw_34) yd_AR_fill ⟨Nat.le_of_ble_eq_true rfl, Nat.le_of_ble_eq_true rfl⟩, hts _ tw_3⟩ hP hD hK [0] rfl [1] rfl rfl rfl hl.1 rfl (Nat.le_of_ble_eq_true rfl) d_OR_read_12 ⟨Nat.zero_le _, Nat.zero_le _⟩) hP hD hS hA [1] [0, 2] [0, 2, 1] rfl rfl rfl (by decide) rfl rfl (fun H locs hP hD hS => ?_)
  refine lv_iload_n hx hb d_OR_read_15 rfl (lv_at hl 1 rfl) ?_
  refine lv_istore_n (lv' := [(3, .int a1), (0, .ref q_this), (1, .int a1), (2, .int a2)]) hx hb d_OR_read_16 rfl hl (by decide) rfl (fun ls hl => ?_)
  refine lv_iload_n hx hb d_OR_read_17 rfl (lv_at hl 3 rfl) ?_
  refine lv_istore (lv' := [(4, .int a2), (3, .int a1), (0, .ref q_this), (1, .int a1), (2, .int a2)]) hx hb d_OR_read_18 hl (by decide) rfl (fun ls hl => ?_)
  exact (loop z) a1 a2 a1 a2 (a2 + 1) s1_f_p0 f_moves _ _ _ hP hD hS (lv_sub hl [2, 3, 4, 1, 0] rfl) hF
abbrev wd_OR_number (q_this : Nat) (q_moves : Nat) (q_rank : Nat) (cI : ClassId) (v_count : Int32) (f_moves : Nat → Int32) : va_W := [(q_this, .inr (1, [.int v_count, .ref q_moves, .ref q_rank])), (q_moves, .inl (cI, 6, .inl f_moves))]
set_option maxHeartbeats 4000000 in
set_option maxRecDepth 100000 in
theorem c_OR_number (l : Launch) (dC : Nat → ClassId) (dI : Nat → Nat → Nat) (q_this : Nat) (q_moves : Nat) (q_rank : Nat) (cI : ClassId) (sz : Nat) (z : Nat) (v_count : Int32) (f_moves : Nat → Int32) (rr : Int32) (hF : fn_OR_number z v_count f_moves = some rr) : Met l y_OR_number w_OR_number ({ frames := 0, cells := 0, slots := 0, locals := 0 }) (hq_Pc (dC, dI) vwCl [(cI, .int)] (wd_OR_number q_this q_moves q_rank cI v_count f_moves) sz [.ref q_this]) (hq_Qi (dC, dI) vwCl [(cI, .int)] (wd_OR_number q_this q_moves q_rank cI v_count f_moves) rr (va_A (wd_OR_number q_this q_moves q_rank cI v_count f_moves) sz)) 0 0 (va_A (wd_OR_number q_this q_moves q_rank cI v_count f_moves) sz) := by
  refine hq_met (Qc := (hq_Qi (dC, dI) vwCl [(cI, .int)] (wd_OR_number q_this q_moves q_rank cI v_count f_moves) rr)) (cc := b_OR_number) (maxL := 3) (ret := some .int) (by decide) rfl (Nat.le_of_ble_eq_true rfl) ?_
  intro p e s m args below meth c A ls hx hb hr hml hts hown hlocks hnm hP hD hK hA hS hl
  have hts : ∀ w ∈ tb0, w.before args s = true := fun w h => hts w (List.mem_cons_of_mem _ h)
  have hown : s.vm.findClass R_OR = some m.cls := hown
  have hl : lv_has ls 3 [(0, .ref q_this)] := hl
  unfold fn_OR_number at hF
  have loop : ∀ fu : Nat, (∀ (i1 : Int32) (i2 : Int32) (H : Heap) (locs : List Loc) (ls : Array Slot), va_P (dC, dI) vwCl (wd_OR_number q_this q_moves q_rank cI v_count f_moves) H → va_D A (wd_OR_number q_this q_moves q_rank cI v_count f_moves) → va_S A s.heap H locs → lv_has ls 3 [(0, .ref q_this), (1, .int i1), (2, .int i2)] → lp_OR_number v_count f_moves fu 0 i1 i2 = some rr → W p l e ({ frames := 0, cells := 0, slots := 0, locals := 0 }) s m args below meth c H locs 0 0 (MQ below ((hq_Qi (dC, dI) vwCl [(cI, .int)] (wd_OR_number q_this q_moves q_rank cI v_count f_moves) rr) A) args s 0 0 A) (F0 m 4 ls [])) := by
    intro fu
    induction fu with
    | zero => exact (fun _ _ _ _ _ _ _ _ _ h => by cases h)
    | succ fu ih =>
      intro i1 i2 H locs ls hP hD hS hl hF
      have hF : st_OR_number v_count f_moves (lp_OR_number v_count f_moves fu) 0 i1 i2 = some rr := hF
      unfold st_OR_number at hF
      try dsimp only at hF
      refine lv_iload_n hx hb d_OR_number_4 rfl (lv_at hl 2 rfl) ?_
      refine lv_aload_n hx hb d_OR_number_5 rfl (lv_at hl 0 rfl) ?_
      refine va_get (D := (dC, dI)) (ci := 1) (v := .int v_count) (C := R_OR) (T := F_OR) (N := 3) hx hb hts uw_OR hown hK hP 0 rfl rfl 0 (by decide) (hts _ tw_18) (fun _ h9 => h9) rfl d_OR_number_6 ?_
      refine lv_icmp_ge (tgt := 30) hx hb d_OR_number_9 (by decide) (fun hb1 => ?_) (fun hb1 => ?_)
      · have hF := ox_t hF hb1
        refine lv_iload_n hx hb d_OR_number_30 rfl (lv_at hl 1 rfl) ?_
        cases hF
        exact hq_iret hx hb hr hlocks hP hD hK hS d_OR_number_31
      · have hF := ox_f hF hb1
        refine lv_bipush (v := 10) hx hb d_OR_number_12 (by decide) ?_
        refine lv_iload_n hx hb d_OR_number_14 rfl (lv_at hl 1 rfl) ?_
        refine lv_imul hx hb d_OR_number_15 ?_
        refine lv_aload_n hx hb d_OR_number_16 rfl (lv_at hl 0 rfl) ?_
        refine va_get (D := (dC, dI)) (ci := 1) (v := .ref q_moves) (C := R_OR) (T := F_OR) (N := 3) hx hb hts uw_OR hown hK hP 0 rfl rfl 1 (by decide) (hts _ tw_20) (fun _ h9 => h9) rfl d_OR_number_17 ?_
        refine lv_iload_n hx hb d_OR_number_20 rfl (lv_at hl 2 rfl) ?_
        obtain ⟨hin, hF⟩ := ox_gdS hF
        refine va_iald hx hb hK hP 1 0 rfl rfl hin d_OR_number_21 ?_
        refine lv_iadd hx hb d_OR_number_22 ?_
        refine lv_istore_n (lv' := [(1, .int ((10 * i1) + (f_moves i2.toNatClampNeg))), (0, .ref q_this), (2, .int i2)]) hx hb d_OR_number_23 rfl hl (by decide) rfl (fun ls hl => ?_)
        refine lv_iinc (v := (i2 + 1)) (lv' := [(2, .int (i2 + 1)), (1, .int ((10 * i1) + (f_moves i2.toNatClampNeg))), (0, .ref q_this)]) hx hb d_OR_number_24 hl (k := 2) rfl rfl (by decide) rfl (fun ls hl => ?_)
        refine lv_goto (tgt := 4) hx hb d_OR_number_27 (by decide) ?_
        exact ih ((10 * i1) + (f_moves i2.toNatClampNeg)) (i2 + 1) _ _ _ hP hD hS (lv_sub hl [2, 1, 0] rfl) hF
  refine lv_iconst (v := 0) hx hb d_OR_number_0 (by decide) ?_
  refine lv_istore_n (lv' := [(1, .int 0), (0, .ref q_this)]) hx hb d_OR_number_1 rfl hl (by decide) rfl (fun ls hl => ?_)
  refine lv_iconst (v := 1) hx hb d_OR_number_2 (by decide) ?_
  refine lv_istore_n (lv' := [(2, .int 1), (1, .int 0), (0, .ref q_this)]) hx hb d_OR_number_3 rfl hl (by decide) rfl (fun ls hl => ?_)
  exact (loop z) 0 1 _ _ _ hP hD hS (lv_sub hl [2, 1, 0] rfl) hF
abbrev wd_OR_soakTurns (q_this : Nat) (q_moves : Nat) (q_rank : Nat) (cI : ClassId) (v_count : Int32) (f_rank : Nat → Int32) : va_W := [(q_this, .inr (1, [.int v_count, .ref q_moves, .ref q_rank])), (q_rank, .inl (cI, 6, .inl f_rank))]
set_option maxHeartbeats 4000000 in
set_option maxRecDepth 100000 in
theorem c_OR_soakTurns (l : Launch) (dC : Nat → ClassId) (dI : Nat → Nat → Nat) (q_this : Nat) (q_moves : Nat) (q_rank : Nat) (cI : ClassId) (sz : Nat) (a1 : Int32) (v_count : Int32) (f_rank : Nat → Int32) (rr : Int32) (hF : fn_OR_soakTurns a1 f_rank = some rr) : Met l y_OR_soakTurns w_OR_soakTurns ({ frames := 0, cells := 0, slots := 0, locals := 0 }) (hq_Pc (dC, dI) vwCl [(cI, .int)] (wd_OR_soakTurns q_this q_moves q_rank cI v_count f_rank) sz [.ref q_this, .int a1]) (hq_Qi (dC, dI) vwCl [(cI, .int)] (wd_OR_soakTurns q_this q_moves q_rank cI v_count f_rank) rr (va_A (wd_OR_soakTurns q_this q_moves q_rank cI v_count f_rank) sz)) 0 0 (va_A (wd_OR_soakTurns q_this q_moves q_rank cI v_count f_rank) sz) := by
  refine hq_met (Qc := (hq_Qi (dC, dI) vwCl [(cI, .int)] (wd_OR_soakTurns q_this q_moves q_rank cI v_count f_rank) rr)) (cc := b_OR_soakTurns) (maxL := 2) (ret := some .int) (by decide) rfl (Nat.le_of_ble_eq_true rfl) ?_
  intro p e s m args below meth c A ls hx hb hr hml hts hown hlocks hnm hP hD hK hA hS hl
  have hts : ∀ w ∈ tb0, w.before args s = true := fun w h => hts w (List.mem_cons_of_mem _ h)
  have hown : s.vm.findClass R_OR = some m.cls := hown
  have hl : lv_has ls 2 [(0, .ref q_this), (1, .int a1)] := hl
  unfold fn_OR_soakTurns at hF
  refine lv_aload_n hx hb d_OR_soakTurns_0 rfl (lv_at hl 0 rfl) ?_
  refine va_get (D := (dC, dI)) (ci := 1) (v := .ref q_rank) (C := R_OR) (T := F_OR) (N := 3) hx hb hts uw_OR hown hK hP 0 rfl rfl 2 (by decide) (hts _ tw_19) (fun _ h9 => h9) rfl d_OR_soakTurns_1 ?_
  refine lv_iload_n hx hb d_OR_soakTurns_4 rfl (lv_at hl 1 rfl) ?_
  obtain ⟨hin, hF⟩ := ox_gdS hF
  refine va_iald hx hb hK hP 1 0 rfl rfl hin d_OR_soakTurns_5 ?_
  refine lv_aload_n hx hb d_OR_soakTurns_6 rfl (lv_at hl 0 rfl) ?_
  refine va_get (D := (dC, dI)) (ci := 1) (v := .ref q_rank) (C := R_OR) (T := F_OR) (N := 3) hx hb hts uw_OR hown hK hP 0 rfl rfl 2 (by decide) (hts _ tw_19) (fun _ h9 => h9) rfl d_OR_soakTurns_7 ?_
  refine lv_iload_n hx hb d_OR_soakTurns_10 rfl (lv_at hl 1 rfl) ?_
  refine lv_iconst (v := 1) hx hb d_OR_soakTurns_11 (by decide) ?_
  refine lv_isub hx hb d_OR_soakTurns_12 ?_
  obtain ⟨hin, hF⟩ := ox_gdS hF
  refine va_iald hx hb hK hP 1 0 rfl rfl hin d_OR_soakTurns_13 ?_
  refine lv_icmp_ge (tgt := 21) hx hb d_OR_soakTurns_14 (by decide) (fun hb1 => ?_) (fun hb1 => ?_)
  · have hF := ox_t hF hb1
    refine lv_iconst (v := 0) hx hb d_OR_soakTurns_21 (by decide) ?_
    cases hF
    exact hq_iret hx hb hr hlocks hP hD hK hS d_OR_soakTurns_22
  · have hF := ox_f hF hb1
    refine lv_iconst (v := 1) hx hb d_OR_soakTurns_17 (by decide) ?_
    refine lv_goto (tgt := 22) hx hb d_OR_soakTurns_18 (by decide) ?_
    cases hF
    exact hq_iret hx hb hr hlocks hP hD hK hS d_OR_soakTurns_22
abbrev wd_OR_copyFrom (q_p1 : Nat) (q_p1_moves : Nat) (q_p1_rank : Nat) (q_this : Nat) (q_moves : Nat) (q_rank : Nat) (cI : ClassId) (v_p1_count : Int32) (v_count : Int32) (f_p1_moves : Nat → Int32) (f_moves : Nat → Int32) (f_p1_rank : Nat → Int32) (f_rank : Nat → Int32) : va_W := [(q_p1, .inr (1, [.int v_p1_count, .ref q_p1_moves, .ref q_p1_rank])), (q_this, .inr (1, [.int v_count, .ref q_moves, .ref q_rank])), (q_p1_moves, .inl (cI, 6, .inl f_p1_moves)), (q_moves, .inl (cI, 6, .inl f_moves)), (q_p1_rank, .inl (cI, 6, .inl f_p1_rank)), (q_rank, .inl (cI, 6, .inl f_rank))]
set_option maxHeartbeats 4000000 in
set_option maxRecDepth 100000 in
theorem c_OR_copyFrom (l : Launch) (dC : Nat → ClassId) (dI : Nat → Nat → Nat) (q_p1 : Nat) (q_p1_moves : Nat) (q_p1_rank : Nat) (q_this : Nat) (q_moves : Nat) (q_rank : Nat) (cI : ClassId) (sz : Nat) (v_p1_count : Int32) (v_count : Int32) (f_p1_moves : Nat → Int32) (f_moves : Nat → Int32) (f_p1_rank : Nat → Int32) (f_rank : Nat → Int32) (n_v_count : Int32) (n_f_moves : Nat → Int32) (n_f_rank : Nat → Int32) (hF : fn_OR_copyFrom v_p1_count v_count f_p1_moves f_moves f_p1_rank f_rank = some (n_v_count, n_f_moves, n_f_rank)) : Met l y_OR_copyFrom w_OR_copyFrom ({ frames := 1, cells := 0, slots := 0, locals := 60 }) (hq_Pc (dC, dI) vwCl [(cI, .int)] (wd_OR_copyFrom q_p1 q_p1_moves q_p1_rank q_this q_moves q_rank cI v_p1_count v_count f_p1_moves f_moves f_p1_rank f_rank) sz [.ref q_this, .ref q_p1]) (hq_Qv (dC, dI) vwCl [(cI, .int)] (wd_OR_copyFrom q_p1 q_p1_moves q_p1_rank q_this q_moves q_rank cI v_p1_count n_v_count f_p1_moves n_f_moves f_p1_rank n_f_rank) (va_A (wd_OR_copyFrom q_p1 q_p1_moves q_p1_rank q_this q_moves q_rank cI v_p1_count v_count f_p1_moves f_moves f_p1_rank f_rank) sz)) 0 0 (va_A (wd_OR_copyFrom q_p1 q_p1_moves q_p1_rank q_this q_moves q_rank cI v_p1_count v_count f_p1_moves f_moves f_p1_rank f_rank) sz) := by
  refine hq_met (Qc := (hq_Qv (dC, dI) vwCl [(cI, .int)] (wd_OR_copyFrom q_p1 q_p1_moves q_p1_rank q_this q_moves q_rank cI v_p1_count n_v_count f_p1_moves n_f_moves f_p1_rank n_f_rank))) (cc := b_OR_copyFrom) (maxL := 2) (ret := none) (by decide) rfl (Nat.le_of_ble_eq_true rfl) ?_
  intro p e s m args below meth c A ls hx hb hr hml hts hown hlocks hnm hP hD hK hA hS hl
  have hts : ∀ w ∈ tb0, w.before args s = true := fun w h => hts w (List.mem_cons_of_mem _ h)
  have hown : s.vm.findClass R_OR = some m.cls := hown
  have hl : lv_has ls 2 [(0, .ref q_this), (1, .ref q_p1)] := hl
  unfold fn_OR_copyFrom at hF
  refine lv_aload_n hx hb d_OR_copyFrom_0 rfl (lv_at hl 0 rfl) ?_
  refine lv_aload_n hx hb d_OR_copyFrom_1 rfl (lv_at hl 1 rfl) ?_
  refine va_get (D := (dC, dI)) (ci := 1) (v := .int v_p1_count) (C := R_OR) (T := F_OR) (N := 3) hx hb hts uw_OR hown hK hP 0 rfl rfl 0 (by decide) (hts _ tw_18) (fun _ h9 => h9) rfl d_OR_copyFrom_2 ?_
  refine va_put (D := (dC, dI)) (ci := 1) (v := .int v_p1_count) (ty := .int) (C := R_OR) (T := F_OR) (N := 3) hx hb hts uw_OR t_OR t_OR_ok n_OR hown hK hP hD hS 1 rfl rfl 0 (by decide) (hts _ tw_18) (fun _ h9 => h9) rfl (by decide +kernel) rfl rfl (Nat.le_of_ble_eq_true rfl) d_OR_copyFrom_5 (fun H locs hP hD hS => ?_)
  have hP : va_P (dC, dI) vwCl (wd_OR_copyFrom q_p1 q_p1_moves q_p1_rank q_this q_moves q_rank cI v_p1_count v_p1_count f_p1_moves f_moves f_p1_rank f_rank) H := hP
  have hD : va_D A (wd_OR_copyFrom q_p1 q_p1_moves q_p1_rank q_this q_moves q_rank cI v_p1_count v_p1_count f_p1_moves f_moves f_p1_rank f_rank) := hD
  refine lv_aload_n hx hb d_OR_copyFrom_8 rfl (lv_at hl 1 rfl) ?_
  refine va_get (D := (dC, dI)) (ci := 1) (v := .ref q_p1_moves) (C := R_OR) (T := F_OR) (N := 3) hx hb hts uw_OR hown hK hP 0 rfl rfl 1 (by decide) (hts _ tw_20) (fun _ h9 => h9) rfl d_OR_copyFrom_9 ?_
  refine lv_iconst (v := 0) hx hb d_OR_copyFrom_12 (by decide) ?_
  refine lv_aload_n hx hb d_OR_copyFrom_13 rfl (lv_at hl 0 rfl) ?_
  refine va_get (D := (dC, dI)) (ci := 1) (v := .ref q_moves) (C := R_OR) (T := F_OR) (N := 3) hx hb hts uw_OR hown hK hP 1 rfl rfl 1 (by decide) (hts _ tw_20) (fun _ h9 => h9) rfl d_OR_copyFrom_14 ?_
  refine lv_iconst (v := 0) hx hb d_OR_copyFrom_17 (by decide) ?_
  refine lv_bipush (v := 6) hx hb d_OR_copyFrom_18 (by decide) ?_
  refine va_copyi hx hb (by rw [hml]; exact hl.1.symm) hown (hts _ tw_35) (hts _ tw_36) (hts _ tw_37) (hts _ tw_38) hK hP hD hS 2 3 0 0 rfl rfl rfl rfl rfl (by decide) (by decide) (by decide) (by decide) (by decide) (fun _ _ => rfl) (by decide) (by decide) d_OR_copyFrom_20 (fun H locs hP hD hS => ?_)
  have hP : va_P (dC, dI) vwCl (wd_OR_copyFrom q_p1 q_p1_moves q_p1_rank q_this q_moves q_rank cI v_p1_count v_p1_count f_p1_moves (va_cpy f_p1_moves f_moves 0 0 6) f_p1_rank f_rank) H := hP
  have hD : va_D A (wd_OR_copyFrom q_p1 q_p1_moves q_p1_rank q_this q_moves q_rank cI v_p1_count v_p1_count f_p1_moves (va_cpy f_p1_moves f_moves 0 0 6) f_p1_rank f_rank) := hD
  refine lv_aload_n hx hb d_OR_copyFrom_23 rfl (lv_at hl 1 rfl) ?_
  refine va_get (D := (dC, dI)) (ci := 1) (v := .ref q_p1_rank) (C := R_OR) (T := F_OR) (N := 3) hx hb hts uw_OR hown hK hP 0 rfl rfl 2 (by decide) (hts _ tw_19) (fun _ h9 => h9) rfl d_OR_copyFrom_24 ?_
  refine lv_iconst (v := 0) hx hb d_OR_copyFrom_27 (by decide) ?_
  refine lv_aload_n hx hb d_OR_copyFrom_28 rfl (lv_at hl 0 rfl) ?_
  refine va_get (D := (dC, dI)) (ci := 1) (v := .ref q_rank) (C := R_OR) (T := F_OR) (N := 3) hx hb hts uw_OR hown hK hP 1 rfl rfl 2 (by decide) (hts _ tw_19) (fun _ h9 => h9) rfl d_OR_copyFrom_29 ?_
  refine lv_iconst (v := 0) hx hb d_OR_copyFrom_32 (by decide) ?_
  refine lv_bipush (v := 6) hx hb d_OR_copyFrom_33 (by decide) ?_
  refine va_copyi hx hb (by rw [hml]; exact hl.1.symm) hown (hts _ tw_35) (hts _ tw_36) (hts _ tw_37) (hts _ tw_38) hK hP hD hS 4 5 0 0 rfl rfl rfl rfl rfl (by decide) (by decide) (by decide) (by decide) (by decide) (fun _ _ => rfl) (by decide) (by decide) d_OR_copyFrom_35 (fun H locs hP hD hS => ?_)
  have hP : va_P (dC, dI) vwCl (wd_OR_copyFrom q_p1 q_p1_moves q_p1_rank q_this q_moves q_rank cI v_p1_count v_p1_count f_p1_moves (va_cpy f_p1_moves f_moves 0 0 6) f_p1_rank (va_cpy f_p1_rank f_rank 0 0 6)) H := hP
  have hD : va_D A (wd_OR_copyFrom q_p1 q_p1_moves q_p1_rank q_this q_moves q_rank cI v_p1_count v_p1_count f_p1_moves (va_cpy f_p1_moves f_moves 0 0 6) f_p1_rank (va_cpy f_p1_rank f_rank 0 0 6)) := hD
  cases hF
  exact hq_vret hx hb hr hlocks hP hD hK hS d_OR_copyFrom_38
