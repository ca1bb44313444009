abbrev wd_AR_fill (q_p0 : Nat) (cI : ClassId) (n : Nat) (f_p0 : Nat → Int32) : va_W := [(q_p0, .inl (cI, n, .inl f_p0))]
set_option maxHeartbeats 4000000 in
set_option maxRecDepth 100000 in
theorem c_AR_fill (l : Launch) (dC : Nat → ClassId) (dI : Nat → Nat → Nat) (q_p0 : Nat) (cI : ClassId) (n : Nat) (sz : Nat) (z : Nat) (a1 : Int32) (f_p0 : Nat → Int32) (n_f_p0 : Nat → Int32) (hF : fn_AR_fill z n a1 f_p0 = some n_f_p0) : Met l y_AR_fill w_AR_fill ({ frames := 0, cells := 0, slots := 0, locals := 0 }) (hq_Pc (dC, dI) vwCl [(cI, .int)] (wd_AR_fill q_p0 cI n f_p0) sz [.ref q_p0, .int a1]) (hq_Qv (dC, dI) vwCl [(cI, .int)] (wd_AR_fill q_p0 cI n n_f_p0) (va_A (wd_AR_fill q_p0 cI n f_p0) sz)) 0 0 (va_A (wd_AR_fill q_p0 cI n f_p0) sz) := by
  refine hq_met (Qc := (hq_Qv (dC, dI) vwCl [(cI, .int)] (wd_AR_fill q_p0 cI n n_f_p0))) (cc := b_AR_fill) (maxL := 4) (ret := none) (by decide) rfl (Nat.le_of_ble_eq_true rfl) ?_
  intro p e s m args below meth c A ls hx hb hr hml hts hown hlocks hnm hP hD hK hA hS hl
  have hts : ∀ w ∈ tb0, w.before args s = true := fun w h => hts w (List.mem_cons_of_mem _ h)
  have hown : s.vm.findClass R_AR = some m.cls := hown
  have hl : lv_has ls 4 [(0, .ref q_p0), (1, .int a1)] := hl
  unfold fn_AR_fill at hF
  have loop : ∀ fu : Nat, (∀ (i1 : Int32) (i2 : Int32) (i3 : Int32) (f_p0 : Nat → Int32) (H : Heap) (locs : List Loc) (ls : Array Slot), va_P (dC, dI) vwCl (wd_AR_fill q_p0 cI n f_p0) H → va_D A (wd_AR_fill q_p0 cI n f_p0) → va_S A s.heap H locs → lv_has ls 4 [(0, .ref q_p0), (1, .int i1), (2, .int i2), (3, .int i3)] → lp_AR_fill n fu 0 i1 i2 i3 f_p0 = some n_f_p0 → W p l e ({ frames := 0, cells := 0, slots := 0, locals := 0 }) s m args below meth c H locs 0 0 (MQ below ((hq_Qv (dC, dI) vwCl [(cI, .int)] (wd_AR_fill q_p0 cI n n_f_p0)) A) args s 0 0 A) (F0 m 5 ls [])) := by
    intro fu
    induction fu with
    | zero => exact (fun _ _ _ _ _ _ _ _ _ _ _ h => by cases h)
    | succ fu ih =>
      intro i1 i2 i3 f_p0 H locs ls hP hD hS hl hF
      have hF : st_AR_fill n (lp_AR_fill n fu) 0 i1 i2 i3 f_p0 = some n_f_p0 := hF
      unfold st_AR_fill at hF
      try dsimp only at hF
      refine lv_iload_n hx hb d_AR_fill_5 rfl (lv_at hl 2 rfl) ?_
      refine lv_iload_n hx hb d_AR_fill_6 rfl (lv_at hl 3 rfl) ?_
      refine lv_icmp_ge (tgt := 20) hx hb d_AR_fill_7 (by decide) (fun hb1 => ?_) (fun hb1 => ?_)
      · have hF := ox_t hF hb1
        cases hF
        exact hq_vret hx hb hr hlocks hP hD hK hS d_AR_fill_20
      · have hF := ox_f hF hb1
        refine lv_aload_n hx hb d_AR_fill_10 rfl (lv_at hl 0 rfl) ?_
        refine lv_iload_n hx hb d_AR_fill_11 rfl (lv_at hl 2 rfl) ?_
        refine lv_iload_n hx hb d_AR_fill_12 rfl (lv_at hl 1 rfl) ?_
        obtain ⟨hin, hF⟩ := ox_gdS hF
        refine va_iast hx hb hK hP hD hS 0 0 rfl rfl hin d_AR_fill_13 (fun H locs hP hD hS => ?_)
        have hP : va_P (dC, dI) vwCl (wd_AR_fill q_p0 cI n (upd f_p0 i2.toNatClampNeg i1)) H := hP
        have hD : va_D A (wd_AR_fill q_p0 cI n (upd f_p0 i2.toNatClampNeg i1)) := hD
        refine lv_iinc (v := (i2 + 1)) (lv' := [(2, .int (i2 + 1)), (0, .ref q_p0), (1, .int i1), (3, .int i3)]) hx hb d_AR_fill_14 hl (k := 2) rfl rfl (by decide) rfl (fun ls hl => ?_)
        refine lv_goto (tgt := 5) hx hb d_AR_fill_17 (by decide) ?_
        exact ih i1 (i2 + 1) i3 (upd f_p0 i2.toNatClampNeg i1) _ _ _ hP hD hS (lv_sub hl [1, 2, 0, 3] rfl) hF
  refine lv_iconst (v := 0) hx hb d_AR_fill_0 (by decide) ?_
  refine lv_istore_n (lv' := [(2, .int 0), (0, .ref q_p0), (1, .int a1)]) hx hb d_AR_fill_1 rfl hl (by decide) rfl (fun ls hl => ?_)
  refine lv_aload_n hx hb d_AR_fill_2 rfl (lv_at hl 1 rfl) ?_
  refine va_alen (v := (Int32.ofNat n)) hx hb hK hP 0 0 rfl rfl rfl d_AR_fill_3 ?_
  refine lv_istore_n (lv' := [(3, .int (Int32.ofNat n)), (2, .int 0), (0, .ref q_p0), (1, .int a1)]) hx hb d_AR_fill_4 rfl hl (by decide) rfl (fun ls hl => ?_)
  exact (loop z) a1 0 (Int32.ofNat n) f_p0 _ _ _ hP hD hS (lv_sub hl [2, 3, 1, 0] rfl) hF
