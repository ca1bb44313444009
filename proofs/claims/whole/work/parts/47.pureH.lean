/-! Call by call: both sides stand alike. -/
def PR (t c : Nat) (pl cyc cn2 se cs nr st en dn ls hc hm he hd : Int32) (fm fr ft ca et : Nat → Int32) (mcyc mse men mdn mtk mst mmo mends moh mbeg : Int32) (po pt mc mb : Nat → Int32) : Prop :=
  pl = 0 ∨ (pl = 1 ∧ ∃ (n : Nat) (q : Nat → Nat) (T : Nat) (d : Nat → Int) (s : Nat), s ≤ 5000 * c ∧ (vld t n ∧ ord t (Pn t n) q ∧ 2 ≤ T ∧ T ≤ 2000 ∧ cyc = nI T ∧ mcyc = nI T ∧ cn2 = nI (t + 1) ∧ rep t fm (Pn t n) ∧ rep t po (Pn t n) ∧ (∀ i, i ≤ t → fr i = nI (q i)) ∧ (∀ v, v ≤ t → ft v = pt v ∧ (ft v).toInt = d v) ∧ d 0 = 0 ∧ (∀ v, v ≤ t → 0 ≤ d v ∧ d v < T) ∧ ∀ k, k < t → d (Pn t n k) < d (Pn t n (k + 1))) ∧ wkR t s T (Pn t n) d se cs nr st en dn ls hc hm he hd ca et mse men mdn mtk mst mmo mends moh mbeg mc mb)
theorem PR.up {t c : Nat} {pl cyc cn2 se cs nr st en dn ls hc hm he hd : Int32} {fm fr ft ca et : Nat → Int32} {mcyc mse men mdn mtk mst mmo mends moh mbeg : Int32} {po pt mc mb : Nat → Int32} (h : PR t c pl cyc cn2 se cs nr st en dn ls hc hm he hd fm fr ft ca et mcyc mse men mdn mtk mst mmo mends moh mbeg po pt mc mb) : PR t (c + 1) pl cyc cn2 se cs nr st en dn ls hc hm he hd fm fr ft ca et mcyc mse men mdn mtk mst mmo mends moh mbeg po pt mc mb := by
  rcases h with h | ⟨h, n, q, T, d, s, h1, h2⟩
  · exact Or.inl h
  · exact Or.inr ⟨h, n, q, T, d, s, by omega, h2⟩
theorem PR.pl {t c : Nat} {pl cyc cn2 se cs nr st en dn ls hc hm he hd : Int32} {fm fr ft ca et : Nat → Int32} {mcyc mse men mdn mtk mst mmo mends moh mbeg : Int32} {po pt mc mb : Nat → Int32} (h : PR t c pl cyc cn2 se cs nr st en dn ls hc hm he hd fm fr ft ca et mcyc mse men mdn mtk mst mmo mends moh mbeg po pt mc mb) : pl = 0 ∨ (pl = 1 ∧ plR t cyc cn2 fm fr ft mcyc po pt) := by
  rcases h with h | ⟨h, n, q, T, d, s, h1, h2, h3⟩
  · exact Or.inl h
  · exact Or.inr ⟨h, n, q, T, d, h2⟩
def Rel (c : Nat) : XS → MS → Prop
  | (pl, tk, cnt, rl, cyc, cn2, se, cs, nr, st, en, dn, ls, hc, hm, he, hd, low, high, ld, mv, rk, B, A, S, U, cau, tms, fm, fr, ft, ca, et, out, es), (th, mt, hp, mcyc, mse, men, mdn, mtk, mst, mmo, mends, moh, mbeg, mlow, mhigh, mld, em, o, pc, tm, po, pt, mc, mb) => ∃ t : Nat, tk = nI t ∧ mt = nI t ∧ mlow = low ∧ mhigh = high ∧ mld = ld ∧ dat t low high ld es em ∧ hp = pl ∧ PR t c pl cyc cn2 se cs nr st en dn ls hc hm he hd fm fr ft ca et mcyc mse men mdn mtk mst mmo mends moh mbeg po pt mc mb
theorem LY_reset_fuel {z : Nat} (hz : 100 ≤ z) (a t0 : Int32) (low high ld : Nat → Int32) (es : Nat → Nat → Int32) : fn_LY_reset z a t0 low high ld es = fn_LY_reset 100 a t0 low high ld es := by
  unfold fn_LY_reset
  simp only [pz_fill (n := 6) (z := z) (by decide) (by omega), pz_fill (n := 7) (z := z) (by decide) (by omega), pz_fill (n := 6) (z := 100) (by decide) (by omega), pz_fill (n := 7) (z := 100) (by decide) (by omega), ox_clE]
theorem nlt_le {a b : Int32} (h : ¬ a < b) : b.toInt ≤ a.toInt := by
  rw [Int32.lt_iff_toInt_lt] at h
  omega
theorem dat_soak {t : Nat} {low high ld : Nat → Int32} {es : Nat → Nat → Int32} {em : Nat → Int32} (h : dat t low high ld es em) {k : Nat} {a2 a3 : Int32} (h3 : ¬ a2 < 0) (h4 : ¬ a3 < a2) (h5 : ¬ 500 < a3) : dat t (upd low k a2) (upd high k a3) ld es em := by
  refine ⟨h.1, fun j hj => ?_, h.2.2⟩
  have a := h.2.1 j hj
  by_cases e : j = k
  · subst e
    rw [pk_us, pk_us]
    exact ⟨nlt_le h3, nlt_le h4, nlt_le h5, a.2.2.2.1, a.2.2.2.2⟩
  · rw [pk_un e, pk_un e]
    exact a
theorem dat_loaded {t : Nat} {low high ld : Nat → Int32} {es : Nat → Nat → Int32} {em : Nat → Int32} (h : dat t low high ld es em) {k : Nat} {a2 : Int32} (h3 : ¬ a2 < 1) (h4 : ¬ 100 < a2) : dat t low high (upd ld k a2) es em := by
  refine ⟨h.1, fun j hj => ?_, h.2.2⟩
  have a := h.2.1 j hj
  by_cases e : j = k
  · subst e
    rw [pk_us]
    exact ⟨a.1, a.2.1, a.2.2.1, nlt_le h3, nlt_le h4⟩
  · rw [pk_un e]
    exact a
theorem dat_empty {t : Nat} {low high ld : Nat → Int32} {es : Nat → Nat → Int32} {em : Nat → Int32} (h : dat t low high ld es em) {u v : Nat} (hu : u ≤ 6) (hv : v ≤ 6) {a3 : Int32} (h3 : ¬ a3 < 0) (h4 : ¬ 100 < a3) : dat t low high ld (va_up es u (upd (es u) v a3)) (upd em (7 * u + v) a3) := by
  refine ⟨h.1, h.2.1, fun x y hx hy => ?_⟩
  have a := h.2.2 x y hx hy
  by_cases e : x = u
  · subst e
    have e1 : va_up es x (upd (es x) v a3) x = upd (es x) v a3 := if_pos rfl
    rw [e1]
    by_cases e2 : y = v
    · subst e2
      rw [pk_us, pk_us]
      exact ⟨rfl, nlt_le h3, nlt_le h4⟩
    · rw [pk_un e2, pk_un (show 7 * x + y ≠ 7 * x + v by omega)]
      exact a
  · have e1 : va_up es u (upd (es u) v a3) x = es x := if_neg e
    rw [e1, pk_un (show 7 * x + y ≠ 7 * u + v by omega)]
    exact a
theorem ox_ans {α : Type} {k b : Int32} {y : Int64} {r x : α} (h : k = 0 → y = b.toInt64) : (if ¬ k = 0 then r else if lg_cmp y b.toInt64 = 0 then r else x) = r := by
  by_cases e : k = 0
  · rw [if_neg (fun q => q e), if_pos ((lg_cmp_eq _ _).mpr (h e))]
  · rw [if_pos e]
theorem op0 {c t L : Nat} {xs : Nat → Int32} {i : Int32} (g1 : vp_in (i + 1) L) {pl cnt rl cyc cn2 se cs nr st en dn ls hc hm he hd : Int32} {low high ld mv rk B A S U cau tms fm fr ft ca et : Nat → Int32} {out : Nat → Int64} {es : Nat → Nat → Int32} {th mcyc mse men mdn mtk mst mmo mends moh mbeg : Int32} {em o pc tm po pt mc mb : Nat → Int32} (hd9 : dat t low high ld es em) (hP : PR t c pl cyc cn2 se cs nr st en dn ls hc hm he hd fm fr ft ca et mcyc mse men mdn mtk mst mmo mends moh mbeg po pt mc mb) : ∃ X' M', Rel (c + 1) X' M' ∧ ∃ N, ∀ z, N ≤ z → ∀ rec, cs_LW_0 z L xs rec i (pl, (nI t), cnt, rl, cyc, cn2, se, cs, nr, st, en, dn, ls, hc, hm, he, hd, low, high, ld, mv, rk, B, A, S, U, cau, tms, fm, fr, ft, ca, et, out, es) (th, (nI t), pl, mcyc, mse, men, mdn, mtk, mst, mmo, mends, moh, mbeg, low, high, ld, em, o, pc, tm, po, pt, mc, mb) = rec (i + 4) X' M' := by
  by_cases h : xs (i + 1).toNatClampNeg < 1 ∨ 5 < xs (i + 1).toNatClampNeg
  · refine ⟨(pl, (nI t), cnt, rl, cyc, cn2, se, cs, nr, st, en, dn, ls, hc, hm, he, hd, low, high, ld, mv, rk, B, A, S, U, cau, tms, fm, fr, ft, ca, et, out, es), (1, (nI t), pl, mcyc, mse, men, mdn, mtk, mst, mmo, mends, moh, mbeg, low, high, ld, em, o, pc, tm, po, pt, mc, mb), ⟨t, rfl, rfl, rfl, rfl, rfl, hd9, rfl, hP.up⟩, 0, fun z _ rec => ?_⟩
    simp only [cs_LW_0, ox_gdI g1, LW_line_no h, MD_line_no h, ox_clE, fn_MD_thrown, if_true]
  · obtain ⟨k, k1, k2, e⟩ := rng (lo := 1) (hi := 5) (fun q => h (Or.inl q)) (fun q => h (Or.inr q)) (by decide) (by decide)
    obtain ⟨es9, q1, q2⟩ := LW_line_ok (z := 100) (Nat.le_refl _) k1 k2 pl (nI t) low high ld es
    refine ⟨(0, (nI k), cnt, rl, cyc, cn2, se, cs, nr, st, en, dn, ls, hc, hm, he, hd, (fl6 0 low), (fl6 500 high), (fl6 10 ld), mv, rk, B, A, S, U, cau, tms, fm, fr, ft, ca, et, out, es9), (0, (nI k), 0, mcyc, mse, men, mdn, mtk, mst, mmo, mends, moh, mbeg, (fl6 0 low), (fl6 500 high), (fl6 10 ld), (fun j => if j < 49 then 0 else em j), o, pc, tm, po, pt, mc, mb), ⟨k, rfl, rfl, rfl, rfl, rfl, dat_new k1 k2 low high ld es9 em q2, rfl, Or.inl rfl⟩, 100, fun z hz rec => ?_⟩
    obtain ⟨es8, r1, r2⟩ := LW_line_ok (z := z) hz k1 k2 pl (nI t) low high ld es
    have ee : es8 = es9 := by
      have a1 := LY_reset_fuel hz (nI k) (nI t) low high ld es
      have b1 : fn_LW_line z (nI k) pl (nI t) low high ld es = fn_LW_line 100 (nI k) pl (nI t) low high ld es := by
        unfold fn_LW_line fn_HP_line
        rw [a1]
      rw [r1, q1] at b1
      simpa using b1
    subst ee
    simp only [cs_LW_0, ox_gdI g1, e, r1, MD_line_ok hz k1 k2, ox_clE, fn_MD_thrown, if_true]
theorem op1 {c t L : Nat} {xs : Nat → Int32} {i : Int32} (g1 : vp_in (i + 1) L) (g2 : vp_in (i + 2) L) (g3 : vp_in (i + 3) L) {pl cnt rl cyc cn2 se cs nr st en dn ls hc hm he hd : Int32} {low high ld mv rk B A S U cau tms fm fr ft ca et : Nat → Int32} {out : Nat → Int64} {es : Nat → Nat → Int32} {th mcyc mse men mdn mtk mst mmo mends moh mbeg : Int32} {em o pc tm po pt mc mb : Nat → Int32} (hd9 : dat t low high ld es em) (hP : PR t c pl cyc cn2 se cs nr st en dn ls hc hm he hd fm fr ft ca et mcyc mse men mdn mtk mst mmo mends moh mbeg po pt mc mb) : ∃ X' M', Rel (c + 1) X' M' ∧ ∃ N, ∀ z, N ≤ z → ∀ rec, cs_LW_1 z L xs rec i (pl, (nI t), cnt, rl, cyc, cn2, se, cs, nr, st, en, dn, ls, hc, hm, he, hd, low, high, ld, mv, rk, B, A, S, U, cau, tms, fm, fr, ft, ca, et, out, es) (th, (nI t), pl, mcyc, mse, men, mdn, mtk, mst, mmo, mends, moh, mbeg, low, high, ld, em, o, pc, tm, po, pt, mc, mb) = rec (i + 4) X' M' := by
  by_cases h : xs (i + 1).toNatClampNeg < 1 ∨ nI t < xs (i + 1).toNatClampNeg ∨ xs (i + 2).toNatClampNeg < 0 ∨ xs (i + 3).toNatClampNeg < xs (i + 2).toNatClampNeg ∨ 500 < xs (i + 3).toNatClampNeg
  · refine ⟨(pl, (nI t), cnt, rl, cyc, cn2, se, cs, nr, st, en, dn, ls, hc, hm, he, hd, low, high, ld, mv, rk, B, A, S, U, cau, tms, fm, fr, ft, ca, et, out, es), (1, (nI t), pl, mcyc, mse, men, mdn, mtk, mst, mmo, mends, moh, mbeg, low, high, ld, em, o, pc, tm, po, pt, mc, mb), ⟨t, rfl, rfl, rfl, rfl, rfl, hd9, rfl, hP.up⟩, 0, fun z _ rec => ?_⟩
    simp only [cs_LW_1, ox_gdI g1, ox_gdI g2, ox_gdI g3, LW_soak_no h, MD_soak_no h, ox_clE, fn_MD_thrown, if_true]
  · have ht := hd9.1.2
    have h1 : ¬ xs (i + 1).toNatClampNeg < 1 := fun q => h (Or.inl q)
    have h2 : ¬ nI t < xs (i + 1).toNatClampNeg := fun q => h (Or.inr (Or.inl q))
    have h3 : ¬ xs (i + 2).toNatClampNeg < 0 := fun q => h (Or.inr (Or.inr (Or.inl q)))
    have h4 : ¬ xs (i + 3).toNatClampNeg < xs (i + 2).toNatClampNeg := fun q => h (Or.inr (Or.inr (Or.inr (Or.inl q))))
    have h5 : ¬ 500 < xs (i + 3).toNatClampNeg := fun q => h (Or.inr (Or.inr (Or.inr (Or.inr q))))
    obtain ⟨k, k1, k2, e⟩ := rng (lo := 1) h1 h2 (by decide) (by omega)
    rw [e] at h2
    refine ⟨(0, (nI t), cnt, rl, cyc, cn2, se, cs, nr, st, en, dn, ls, hc, hm, he, hd, (upd low k (xs (i + 2).toNatClampNeg)), (upd high k (xs (i + 3).toNatClampNeg)), ld, mv, rk, B, A, S, U, cau, tms, fm, fr, ft, ca, et, out, es), (0, (nI t), 0, mcyc, mse, men, mdn, mtk, mst, mmo, mends, moh, mbeg, (upd low k (xs (i + 2).toNatClampNeg)), (upd high k (xs (i + 3).toNatClampNeg)), ld, em, o, pc, tm, po, pt, mc, mb), ⟨t, rfl, rfl, rfl, rfl, rfl, dat_soak (k := k) hd9 h3 h4 h5, rfl, Or.inl rfl⟩, 0, fun z _ rec => ?_⟩
    simp only [cs_LW_1, ox_gdI g1, ox_gdI g2, ox_gdI g3, e, LW_soak_ok k1 (Nat.le_trans k2 ht) h2 h3 h4 h5, MD_soak_ok k1 (Nat.le_trans k2 ht) h2 h3 h4 h5, ox_clE, fn_MD_thrown, if_true]
theorem op2 {c t L : Nat} {xs : Nat → Int32} {i : Int32} (g1 : vp_in (i + 1) L) (g2 : vp_in (i + 2) L) {pl cnt rl cyc cn2 se cs nr st en dn ls hc hm he hd : Int32} {low high ld mv rk B A S U cau tms fm fr ft ca et : Nat → Int32} {out : Nat → Int64} {es : Nat → Nat → Int32} {th mcyc mse men mdn mtk mst mmo mends moh mbeg : Int32} {em o pc tm po pt mc mb : Nat → Int32} (hd9 : dat t low high ld es em) (hP : PR t c pl cyc cn2 se cs nr st en dn ls hc hm he hd fm fr ft ca et mcyc mse men mdn mtk mst mmo mends moh mbeg po pt mc mb) : ∃ X' M', Rel (c + 1) X' M' ∧ ∃ N, ∀ z, N ≤ z → ∀ rec, cs_LW_2 z L xs rec i (pl, (nI t), cnt, rl, cyc, cn2, se, cs, nr, st, en, dn, ls, hc, hm, he, hd, low, high, ld, mv, rk, B, A, S, U, cau, tms, fm, fr, ft, ca, et, out, es) (th, (nI t), pl, mcyc, mse, men, mdn, mtk, mst, mmo, mends, moh, mbeg, low, high, ld, em, o, pc, tm, po, pt, mc, mb) = rec (i + 4) X' M' := by
  by_cases h : xs (i + 1).toNatClampNeg < 0 ∨ nI t < xs (i + 1).toNatClampNeg ∨ xs (i + 2).toNatClampNeg < 1 ∨ 100 < xs (i + 2).toNatClampNeg
  · refine ⟨(pl, (nI t), cnt, rl, cyc, cn2, se, cs, nr, st, en, dn, ls, hc, hm, he, hd, low, high, ld, mv, rk, B, A, S, U, cau, tms, fm, fr, ft, ca, et, out, es), (1, (nI t), pl, mcyc, mse, men, mdn, mtk, mst, mmo, mends, moh, mbeg, low, high, ld, em, o, pc, tm, po, pt, mc, mb), ⟨t, rfl, rfl, rfl, rfl, rfl, hd9, rfl, hP.up⟩, 0, fun z _ rec => ?_⟩
    simp only [cs_LW_2, ox_gdI g1, ox_gdI g2, LW_loaded_no h, MD_loaded_no h, ox_clE, fn_MD_thrown, if_true]
  · have ht := hd9.1.2
    have h1 : ¬ xs (i + 1).toNatClampNeg < 0 := fun q => h (Or.inl q)
    have h2 : ¬ nI t < xs (i + 1).toNatClampNeg := fun q => h (Or.inr (Or.inl q))
    have h3 : ¬ xs (i + 2).toNatClampNeg < 1 := fun q => h (Or.inr (Or.inr (Or.inl q)))
    have h4 : ¬ 100 < xs (i + 2).toNatClampNeg := fun q => h (Or.inr (Or.inr (Or.inr q)))
    obtain ⟨k, k1, k2, e⟩ := rng (lo := 0) h1 h2 (by decide) (by omega)
    rw [e] at h2
    refine ⟨(0, (nI t), cnt, rl, cyc, cn2, se, cs, nr, st, en, dn, ls, hc, hm, he, hd, low, high, (upd ld k (xs (i + 2).toNatClampNeg)), mv, rk, B, A, S, U, cau, tms, fm, fr, ft, ca, et, out, es), (0, (nI t), 0, mcyc, mse, men, mdn, mtk, mst, mmo, mends, moh, mbeg, low, high, (upd ld k (xs (i + 2).toNatClampNeg)), em, o, pc, tm, po, pt, mc, mb), ⟨t, rfl, rfl, rfl, rfl, rfl, dat_loaded (k := k) hd9 h3 h4, rfl, Or.inl rfl⟩, 0, fun z _ rec => ?_⟩
    simp only [cs_LW_2, ox_gdI g1, ox_gdI g2, e, LW_loaded_ok (Nat.le_trans k2 ht) h2 h3 h4, MD_loaded_ok (Nat.le_trans k2 ht) h2 h3 h4, ox_clE, fn_MD_thrown, if_true]
theorem op3 {c t L : Nat} {xs : Nat → Int32} {i : Int32} (g1 : vp_in (i + 1) L) (g2 : vp_in (i + 2) L) (g3 : vp_in (i + 3) L) {pl cnt rl cyc cn2 se cs nr st en dn ls hc hm he hd : Int32} {low high ld mv rk B A S U cau tms fm fr ft ca et : Nat → Int32} {out : Nat → Int64} {es : Nat → Nat → Int32} {th mcyc mse men mdn mtk mst mmo mends moh mbeg : Int32} {em o pc tm po pt mc mb : Nat → Int32} (hd9 : dat t low high ld es em) (hP : PR t c pl cyc cn2 se cs nr st en dn ls hc hm he hd fm fr ft ca et mcyc mse men mdn mtk mst mmo mends moh mbeg po pt mc mb) : ∃ X' M', Rel (c + 1) X' M' ∧ ∃ N, ∀ z, N ≤ z → ∀ rec, cs_LW_3 z L xs rec i (pl, (nI t), cnt, rl, cyc, cn2, se, cs, nr, st, en, dn, ls, hc, hm, he, hd, low, high, ld, mv, rk, B, A, S, U, cau, tms, fm, fr, ft, ca, et, out, es) (th, (nI t), pl, mcyc, mse, men, mdn, mtk, mst, mmo, mends, moh, mbeg, low, high, ld, em, o, pc, tm, po, pt, mc, mb) = rec (i + 4) X' M' := by
  by_cases h : xs (i + 1).toNatClampNeg < 0 ∨ nI t + 1 < xs (i + 1).toNatClampNeg ∨ xs (i + 2).toNatClampNeg < 0 ∨ nI t + 1 < xs (i + 2).toNatClampNeg ∨ xs (i + 1).toNatClampNeg = xs (i + 2).toNatClampNeg ∨ xs (i + 3).toNatClampNeg < 0 ∨ 100 < xs (i + 3).toNatClampNeg
  · refine ⟨(pl, (nI t), cnt, rl, cyc, cn2, se, cs, nr, st, en, dn, ls, hc, hm, he, hd, low, high, ld, mv, rk, B, A, S, U, cau, tms, fm, fr, ft, ca, et, out, es), (1, (nI t), pl, mcyc, mse, men, mdn, mtk, mst, mmo, mends, moh, mbeg, low, high, ld, em, o, pc, tm, po, pt, mc, mb), ⟨t, rfl, rfl, rfl, rfl, rfl, hd9, rfl, hP.up⟩, 0, fun z _ rec => ?_⟩
    simp only [cs_LW_3, ox_gdI g1, ox_gdI g2, ox_gdI g3, LW_empty_no h, MD_empty_no h, ox_clE, fn_MD_thrown, if_true]
  · have ht := hd9.1.2
    have h1 : ¬ xs (i + 1).toNatClampNeg < 0 := fun q => h (Or.inl q)
    have h2 : ¬ nI t + 1 < xs (i + 1).toNatClampNeg := fun q => h (Or.inr (Or.inl q))
    have h3 : ¬ xs (i + 2).toNatClampNeg < 0 := fun q => h (Or.inr (Or.inr (Or.inl q)))
    have h4 : ¬ nI t + 1 < xs (i + 2).toNatClampNeg := fun q => h (Or.inr (Or.inr (Or.inr (Or.inl q))))
    have h5 : ¬ xs (i + 1).toNatClampNeg = xs (i + 2).toNatClampNeg := fun q => h (Or.inr (Or.inr (Or.inr (Or.inr (Or.inl q)))))
    have h6 : ¬ xs (i + 3).toNatClampNeg < 0 := fun q => h (Or.inr (Or.inr (Or.inr (Or.inr (Or.inr (Or.inl q))))))
    have h7 : ¬ 100 < xs (i + 3).toNatClampNeg := fun q => h (Or.inr (Or.inr (Or.inr (Or.inr (Or.inr (Or.inr q))))))
    have n2 := h2
    have n4 := h4
    rw [nI_1] at n2 n4
    obtain ⟨u, u1, u2, eu⟩ := rng (lo := 0) h1 n2 (by decide) (by omega)
    obtain ⟨v, v1, v2, ev⟩ := rng (lo := 0) h3 n4 (by decide) (by omega)
    rw [eu] at h2
    rw [ev] at h4
    have huv : u ≠ v := fun q => h5 (by rw [eu, ev, q])
    have hu : u ≤ 6 := by omega
    have hv : v ≤ 6 := by omega
    refine ⟨(0, (nI t), cnt, rl, cyc, cn2, se, cs, nr, st, en, dn, ls, hc, hm, he, hd, low, high, ld, mv, rk, B, A, S, U, cau, tms, fm, fr, ft, ca, et, out, (va_up es u (upd (es u) v (xs (i + 3).toNatClampNeg)))), (0, (nI t), 0, mcyc, mse, men, mdn, mtk, mst, mmo, mends, moh, mbeg, low, high, ld, (upd em (7 * u + v) (xs (i + 3).toNatClampNeg)), o, pc, tm, po, pt, mc, mb), ⟨t, rfl, rfl, rfl, rfl, rfl, dat_empty hd9 hu hv h6 h7, rfl, Or.inl rfl⟩, 0, fun z _ rec => ?_⟩
    simp only [cs_LW_3, ox_gdI g1, ox_gdI g2, ox_gdI g3, eu, ev, LW_empty_ok hu hv huv h2 h4 h6 h7, MD_empty_ok hu hv huv h2 h4 h6 h7, ox_clE, fn_MD_thrown, if_true]
theorem op4 {c t L : Nat} {xs : Nat → Int32} {i : Int32}  {pl cnt rl cyc cn2 se cs nr st en dn ls hc hm he hd : Int32} {low high ld mv rk B A S U cau tms fm fr ft ca et : Nat → Int32} {out : Nat → Int64} {es : Nat → Nat → Int32} {th mcyc mse men mdn mtk mst mmo mends moh mbeg : Int32} {em o pc tm po pt mc mb : Nat → Int32} (hd9 : dat t low high ld es em) (hP : PR t c pl cyc cn2 se cs nr st en dn ls hc hm he hd fm fr ft ca et mcyc mse men mdn mtk mst mmo mends moh mbeg po pt mc mb) : ∃ X' M', Rel (c + 1) X' M' ∧ ∃ N, ∀ z, N ≤ z → ∀ rec, cs_LW_4 z L xs rec i (pl, (nI t), cnt, rl, cyc, cn2, se, cs, nr, st, en, dn, ls, hc, hm, he, hd, low, high, ld, mv, rk, B, A, S, U, cau, tms, fm, fr, ft, ca, et, out, es) (th, (nI t), pl, mcyc, mse, men, mdn, mtk, mst, mmo, mends, moh, mbeg, low, high, ld, em, o, pc, tm, po, pt, mc, mb) = rec (i + 4) X' M' := by
  obtain ⟨r, ⟨N1, e1⟩, N2, e2⟩ := ready_pair hd9 th
  refine ⟨(pl, (nI t), cnt, rl, cyc, cn2, se, cs, nr, st, en, dn, ls, hc, hm, he, hd, low, high, ld, mv, rk, B, A, S, U, cau, tms, fm, fr, ft, ca, et, out, es), (0, (nI t), pl, mcyc, mse, men, mdn, mtk, mst, mmo, mends, moh, mbeg, low, high, ld, em, o, pc, tm, po, pt, mc, mb), ⟨t, rfl, rfl, rfl, rfl, rfl, hd9, rfl, hP.up⟩, N1 + N2, fun z hz rec => ?_⟩
  have q1 := e1 z (by omega)
  have q2 := e2 z (by omega)
  simp only [cs_LW_4, q1, q2, ox_clE, if_true]
theorem op5 {c t L : Nat} {xs : Nat → Int32} {i : Int32}  {pl cnt rl cyc cn2 se cs nr st en dn ls hc hm he hd : Int32} {low high ld mv rk B A S U cau tms fm fr ft ca et : Nat → Int32} {out : Nat → Int64} {es : Nat → Nat → Int32} {th mcyc mse men mdn mtk mst mmo mends moh mbeg : Int32} {em o pc tm po pt mc mb : Nat → Int32} (hd9 : dat t low high ld es em) (hP : PR t c pl cyc cn2 se cs nr st en dn ls hc hm he hd fm fr ft ca et mcyc mse men mdn mtk mst mmo mends moh mbeg po pt mc mb) : ∃ X' M', Rel (c + 1) X' M' ∧ ∃ N, ∀ z, N ≤ z → ∀ rec, cs_LW_5 z L xs rec i (pl, (nI t), cnt, rl, cyc, cn2, se, cs, nr, st, en, dn, ls, hc, hm, he, hd, low, high, ld, mv, rk, B, A, S, U, cau, tms, fm, fr, ft, ca, et, out, es) (th, (nI t), pl, mcyc, mse, men, mdn, mtk, mst, mmo, mends, moh, mbeg, low, high, ld, em, o, pc, tm, po, pt, mc, mb) = rec (i + 4) X' M' := by
  rcases solve_pair hd9 pl cnt rl cyc cn2 se cs nr st en dn ls hc hm he hd mv rk B A S U tms cau fm fr ft ca et out th pl mcyc mse men mdn mtk mst mmo moh mends mbeg mc o pc tm po pt mb with ⟨⟨N1, e1⟩, N2, e2⟩ | ⟨pl1, cnt1, rl1, cyc1, cn21, mv1, rk1, B1, A1, S1, U1, f1, c1, fm1, fr1, ft1, ca1, et1, out1, ans, mcyc1, mc1, o1, pc1, tm1, po1, pt1, ⟨N1, e1⟩, ⟨N2, e2⟩, ha, hp9⟩
  · refine ⟨(pl, (nI t), cnt, rl, cyc, cn2, se, cs, nr, st, en, dn, ls, hc, hm, he, hd, low, high, ld, mv, rk, B, A, S, U, cau, tms, fm, fr, ft, ca, et, out, es), (1, (nI t), pl, mcyc, mse, men, mdn, mtk, mst, mmo, mends, moh, mbeg, low, high, ld, em, o, pc, tm, po, pt, mc, mb), ⟨t, rfl, rfl, rfl, rfl, rfl, hd9, rfl, hP.up⟩, N1 + N2, fun z hz rec => ?_⟩
    have q1 := e1 z (by omega)
    have q2 := e2 z (by omega)
    simp only [cs_LW_5, q1, q2, ox_clE, fn_MD_thrown, if_true]
    rw [if_pos (by decide)]
  · have hP1 : PR t (c + 1) pl1 cyc1 cn21 0 0 0 0 0 0 0 0 (-1) 0 0 fm1 fr1 ft1 ca1 et1 mcyc1 0 0 0 0 0 (-1) mends 0 mbeg po1 pt1 mc1 mb := by
      rcases hp9 with h | ⟨h, ⟨n, q, T, d, h2⟩, h3, h4⟩
      · exact Or.inl h
      · have h2' := h2
        obtain ⟨v1, v2, v3, v4, v5, v6, v7, v8, v9, v10, v11, v12, v13, v14⟩ := h2'
        exact Or.inr ⟨h, n, q, T, d, 0, Nat.zero_le _, h2, wk_new v3 hd9.1.2 (fun j hj => (v13 _ (v2.2.1 j hj).1).1) ca1 et1 mc1 mb mends mbeg h3 h4⟩
    refine ⟨(pl1, (nI t), cnt1, rl1, cyc1, cn21, 0, 0, 0, 0, 0, 0, 0, 0, (-1), 0, 0, low, high, ld, mv1, rk1, B1, A1, S1, U1, c1, f1, fm1, fr1, ft1, ca1, et1, out1, es), (0, (nI t), pl1, mcyc1, 0, 0, 0, 0, 0, (-1), mends, 0, mbeg, low, high, ld, em, o1, pc1, tm1, po1, pt1, mc1, mb), ⟨t, rfl, rfl, rfl, rfl, rfl, hd9, rfl, hP1⟩, N1 + N2, fun z hz rec => ?_⟩
    have q1 := e1 z (by omega)
    have q2 := e2 z (by omega)
    simp only [cs_LW_5, q1, q2, ox_clE, fn_MD_thrown, if_true]
    rw [if_neg (fun q => q trivial), if_pos ((lg_cmp_eq _ _).mpr ha)]
theorem op6 {c t L : Nat} {xs : Nat → Int32} {i : Int32} (g1 : vp_in (i + 1) L) {pl cnt rl cyc cn2 se cs nr st en dn ls hc hm he hd : Int32} {low high ld mv rk B A S U cau tms fm fr ft ca et : Nat → Int32} {out : Nat → Int64} {es : Nat → Nat → Int32} {th mcyc mse men mdn mtk mst mmo mends moh mbeg : Int32} {em o pc tm po pt mc mb : Nat → Int32} (hd9 : dat t low high ld es em) (hP : PR t c pl cyc cn2 se cs nr st en dn ls hc hm he hd fm fr ft ca et mcyc mse men mdn mtk mst mmo mends moh mbeg po pt mc mb) : ∃ X' M', Rel (c + 1) X' M' ∧ ∃ N, ∀ z, N ≤ z → ∀ rec, cs_LW_6 z L xs rec i (pl, (nI t), cnt, rl, cyc, cn2, se, cs, nr, st, en, dn, ls, hc, hm, he, hd, low, high, ld, mv, rk, B, A, S, U, cau, tms, fm, fr, ft, ca, et, out, es) (th, (nI t), pl, mcyc, mse, men, mdn, mtk, mst, mmo, mends, moh, mbeg, low, high, ld, em, o, pc, tm, po, pt, mc, mb) = rec (i + 4) X' M' := by
  obtain ⟨k, b, cnt1, rl1, rk1, mv1, B1, A1, S1, U1, f1, c1, out1, o1, pc1, tm1, ⟨N1, e1⟩, ⟨N2, e2⟩, ha⟩ := least_pair hd9 (xs (i + 1).toNatClampNeg) cnt rl th rk mv B A S U tms cau out o pc tm
  refine ⟨(pl, (nI t), cnt1, rl1, cyc, cn2, se, cs, nr, st, en, dn, ls, hc, hm, he, hd, low, high, ld, mv1, rk1, B1, A1, S1, U1, c1, f1, fm, fr, ft, ca, et, out1, es), (k, (nI t), pl, mcyc, mse, men, mdn, mtk, mst, mmo, mends, moh, mbeg, low, high, ld, em, o1, pc1, tm1, po, pt, mc, mb), ⟨t, rfl, rfl, rfl, rfl, rfl, hd9, rfl, hP.up⟩, N1 + N2, fun z hz rec => ?_⟩
  have q1 := e1 z (by omega)
  have q2 := e2 z (by omega)
  simp only [cs_LW_6, ox_gdI g1, q1, q2, ox_clE, fn_MD_thrown, if_true]
  exact ox_ans ha
theorem op7 {c t L : Nat} {xs : Nat → Int32} {i : Int32} (g1 : vp_in (i + 1) L) (g2 : vp_in (i + 2) L) {pl cnt rl cyc cn2 se cs nr st en dn ls hc hm he hd : Int32} {low high ld mv rk B A S U cau tms fm fr ft ca et : Nat → Int32} {out : Nat → Int64} {es : Nat → Nat → Int32} {th mcyc mse men mdn mtk mst mmo mends moh mbeg : Int32} {em o pc tm po pt mc mb : Nat → Int32} (hd9 : dat t low high ld es em) (hP : PR t c pl cyc cn2 se cs nr st en dn ls hc hm he hd fm fr ft ca et mcyc mse men mdn mtk mst mmo mends moh mbeg po pt mc mb) : ∃ X' M', Rel (c + 1) X' M' ∧ ∃ N, ∀ z, N ≤ z → ∀ rec, cs_LW_7 z L xs rec i (pl, (nI t), cnt, rl, cyc, cn2, se, cs, nr, st, en, dn, ls, hc, hm, he, hd, low, high, ld, mv, rk, B, A, S, U, cau, tms, fm, fr, ft, ca, et, out, es) (th, (nI t), pl, mcyc, mse, men, mdn, mtk, mst, mmo, mends, moh, mbeg, low, high, ld, em, o, pc, tm, po, pt, mc, mb) = rec (i + 4) X' M' := by
  obtain ⟨k, b, out1, ⟨N1, e1⟩, ⟨N2, e2⟩, ha⟩ := plan_pair hd9 (xs (i + 1).toNatClampNeg) (xs (i + 2).toNatClampNeg) th pl cyc cn2 mcyc fm fr ft po pt out hP.pl
  refine ⟨(pl, (nI t), cnt, rl, cyc, cn2, se, cs, nr, st, en, dn, ls, hc, hm, he, hd, low, high, ld, mv, rk, B, A, S, U, cau, tms, fm, fr, ft, ca, et, out1, es), (k, (nI t), pl, mcyc, mse, men, mdn, mtk, mst, mmo, mends, moh, mbeg, low, high, ld, em, o, pc, tm, po, pt, mc, mb), ⟨t, rfl, rfl, rfl, rfl, rfl, hd9, rfl, hP.up⟩, N1 + N2, fun z hz rec => ?_⟩
  have q1 := e1 z (by omega)
  have q2 := e2 z (by omega)
  simp only [cs_LW_7, ox_gdI g1, ox_gdI g2, q1, q2, ox_clE, fn_MD_thrown, if_true]
  exact ox_ans ha
theorem op8 {c t L : Nat} {xs : Nat → Int32} {i : Int32} (g1 : vp_in (i + 1) L) {pl cnt rl cyc cn2 se cs nr st en dn ls hc hm he hd : Int32} {low high ld mv rk B A S U cau tms fm fr ft ca et : Nat → Int32} {out : Nat → Int64} {es : Nat → Nat → Int32} {th mcyc mse men mdn mtk mst mmo mends moh mbeg : Int32} {em o pc tm po pt mc mb : Nat → Int32} (hc9 : c ≤ 600) (hd9 : dat t low high ld es em) (hP : PR t c pl cyc cn2 se cs nr st en dn ls hc hm he hd fm fr ft ca et mcyc mse men mdn mtk mst mmo mends moh mbeg po pt mc mb) : ∃ X' M', Rel (c + 1) X' M' ∧ ∃ N, ∀ z, N ≤ z → ∀ rec, cs_LW_8 z L xs rec i (pl, (nI t), cnt, rl, cyc, cn2, se, cs, nr, st, en, dn, ls, hc, hm, he, hd, low, high, ld, mv, rk, B, A, S, U, cau, tms, fm, fr, ft, ca, et, out, es) (th, (nI t), pl, mcyc, mse, men, mdn, mtk, mst, mmo, mends, moh, mbeg, low, high, ld, em, o, pc, tm, po, pt, mc, mb) = rec (i + 4) X' M' := by
  have both : ∃ (k b se1 cs1 nr1 en1 dn1 ls1 hc1 hm1 he1 hd1 mse1 men1 mdn1 mtk1 mmo1 mends1 moh1 mbeg1 : Int32) (ca1 et1 mc1 mb1 : Nat → Int32) (out1 : Nat → Int64), Ev (fun z => fn_LW_run z (xs (i + 1).toNatClampNeg) pl se cs nr st en dn ls hc hm he hd cyc (nI t) fm ft ca et ld out) (k, se1, cs1, nr1, en1, dn1, ls1, hc1, hm1, he1, hd1, ca1, et1, out1) ∧ Ev (fun z => fn_MD_run z (xs (i + 1).toNatClampNeg) th (nI t) pl mcyc mse men mdn mtk mst mmo mends moh mbeg mc mb pt ld) (b, k, mse1, men1, mdn1, mtk1, mmo1, mends1, moh1, mbeg1, mc1, mb1) ∧ (k = 0 → out1 0 = b.toInt64) ∧ PR t (c + 1) pl cyc cn2 se1 cs1 nr1 st en1 dn1 ls1 hc1 hm1 he1 hd1 fm fr ft ca1 et1 mcyc mse1 men1 mdn1 mtk1 mst mmo1 mends1 moh1 mbeg1 po pt mc1 mb1 := by
    rcases hP with h | ⟨h, n, q, T, d, s, hs, hh, hw⟩
    · obtain ⟨k, b, se1, cs1, nr1, en1, dn1, ls1, hc1, hm1, he1, hd1, mse1, men1, mdn1, mtk1, mmo1, mends1, moh1, mbeg1, ca1, et1, mc1, mb1, out1, s1, ⟨N1, e1⟩, ⟨N2, e2⟩, ha, hs1, hw1⟩ := run_pair (t := t) (T := 0) (p := fun j => j) (q := fun j => j) (d := fun _ => 0) (fm := fm) (ft := ft) (pt := pt) (ld := ld) (s := 0) hd9.1.2 (by decide) (xs (i + 1).toNatClampNeg) pl th cyc mcyc se cs nr st en dn ls hc hm he hd mse men mdn mtk mst mmo mends moh mbeg ca et mc mb out (Or.inl h)
      exact ⟨k, b, se1, cs1, nr1, en1, dn1, ls1, hc1, hm1, he1, hd1, mse1, men1, mdn1, mtk1, mmo1, mends1, moh1, mbeg1, ca1, et1, mc1, mb1, out1, ⟨N1, e1⟩, ⟨N2, e2⟩, ha, Or.inl h⟩
    · have hh' := hh
      obtain ⟨v1, v2, v3, v4, v5, v6, v7, v8, v9, v10, v11, v12, v13, v14⟩ := hh'
      obtain ⟨k, b, se1, cs1, nr1, en1, dn1, ls1, hc1, hm1, he1, hd1, mse1, men1, mdn1, mtk1, mmo1, mends1, moh1, mbeg1, ca1, et1, mc1, mb1, out1, s1, ⟨N1, e1⟩, ⟨N2, e2⟩, ha, hs1, hw1⟩ := run_pair (t := t) (T := T) (p := Pn t n) (q := q) (d := d) (fm := fm) (ft := ft) (pt := pt) (ld := ld) (s := s) hd9.1.2 (by omega) (xs (i + 1).toNatClampNeg) pl th cyc mcyc se cs nr st en dn ls hc hm he hd mse men mdn mtk mst mmo mends moh mbeg ca et mc mb out (Or.inr ⟨h, v3, v4, v5, v6, v2, v14, v13, v8, v11, hw⟩)
      exact ⟨k, b, se1, cs1, nr1, en1, dn1, ls1, hc1, hm1, he1, hd1, mse1, men1, mdn1, mtk1, mmo1, mends1, moh1, mbeg1, ca1, et1, mc1, mb1, out1, ⟨N1, e1⟩, ⟨N2, e2⟩, ha, Or.inr ⟨h, n, q, T, d, s1, by omega, hh, hw1 h⟩⟩
  obtain ⟨k, b, se1, cs1, nr1, en1, dn1, ls1, hc1, hm1, he1, hd1, mse1, men1, mdn1, mtk1, mmo1, mends1, moh1, mbeg1, ca1, et1, mc1, mb1, out1, ⟨N1, e1⟩, ⟨N2, e2⟩, ha, hP1⟩ := both
  refine ⟨(pl, (nI t), cnt, rl, cyc, cn2, se1, cs1, nr1, st, en1, dn1, ls1, hc1, hm1, he1, hd1, low, high, ld, mv, rk, B, A, S, U, cau, tms, fm, fr, ft, ca1, et1, out1, es), (k, (nI t), pl, mcyc, mse1, men1, mdn1, mtk1, mst, mmo1, mends1, moh1, mbeg1, low, high, ld, em, o, pc, tm, po, pt, mc1, mb1), ⟨t, rfl, rfl, rfl, rfl, rfl, hd9, rfl, hP1⟩, N1 + N2, fun z hz rec => ?_⟩
  have q1 := e1 z (by omega)
  have q2 := e2 z (by omega)
  simp only [cs_LW_8, ox_gdI g1, q1, q2, ox_clE, fn_MD_thrown, if_true]
  exact ox_ans ha
theorem PR.pl01 {t c : Nat} {pl cyc cn2 se cs nr st en dn ls hc hm he hd : Int32} {fm fr ft ca et : Nat → Int32} {mcyc mse men mdn mtk mst mmo mends moh mbeg : Int32} {po pt mc mb : Nat → Int32} (h : PR t c pl cyc cn2 se cs nr st en dn ls hc hm he hd fm fr ft ca et mcyc mse men mdn mtk mst mmo mends moh mbeg po pt mc mb) : pl = 0 ∨ pl = 1 := by
  rcases h with h | ⟨h, -⟩
  · exact Or.inl h
  · exact Or.inr h
theorem PR.stop {t c : Nat} {pl cyc cn2 se cs nr st en dn ls hc hm he hd : Int32} {fm fr ft ca et : Nat → Int32} {mcyc mse men mdn mtk mst mmo mends moh mbeg : Int32} {po pt mc mb : Nat → Int32} (h : PR t c pl cyc cn2 se cs nr st en dn ls hc hm he hd fm fr ft ca et mcyc mse men mdn mtk mst mmo mends moh mbeg po pt mc mb) {a : Int32} (ha : a = 0 ∨ a = 1) : PR t c pl cyc cn2 se cs nr a en dn ls hc hm he hd fm fr ft ca et mcyc mse men mdn mtk a mmo mends moh mbeg po pt mc mb := by
  rcases h with h | ⟨h, n, q, T, d, s, h1, h2, w1, w2, w3, w4, w5, w6⟩
  · exact Or.inl h
  · exact Or.inr ⟨h, n, q, T, d, s, h1, h2, w1, w2, w3, w4, ⟨rfl, ha⟩, w6⟩
theorem op9 {c t L : Nat} {xs : Nat → Int32} {i : Int32} (g1 : vp_in (i + 1) L) {pl cnt rl cyc cn2 se cs nr st en dn ls hc hm he hd : Int32} {low high ld mv rk B A S U cau tms fm fr ft ca et : Nat → Int32} {out : Nat → Int64} {es : Nat → Nat → Int32} {th mcyc mse men mdn mtk mst mmo mends moh mbeg : Int32} {em o pc tm po pt mc mb : Nat → Int32} (hd9 : dat t low high ld es em) (hP : PR t c pl cyc cn2 se cs nr st en dn ls hc hm he hd fm fr ft ca et mcyc mse men mdn mtk mst mmo mends moh mbeg po pt mc mb) : ∃ X' M', Rel (c + 1) X' M' ∧ ∃ N, ∀ z, N ≤ z → ∀ rec, cs_LW_9 z L xs rec i (pl, (nI t), cnt, rl, cyc, cn2, se, cs, nr, st, en, dn, ls, hc, hm, he, hd, low, high, ld, mv, rk, B, A, S, U, cau, tms, fm, fr, ft, ca, et, out, es) (th, (nI t), pl, mcyc, mse, men, mdn, mtk, mst, mmo, mends, moh, mbeg, low, high, ld, em, o, pc, tm, po, pt, mc, mb) = rec (i + 4) X' M' := by
  by_cases h0 : xs (i + 1).toNatClampNeg = 0
  · rcases stop_pair (a := 0) (by decide) pl st th mst hP.pl01 with ⟨p0, e1, e2⟩ | ⟨p0, e1, e2⟩
    · refine ⟨(pl, (nI t), cnt, rl, cyc, cn2, se, cs, nr, st, en, dn, ls, hc, hm, he, hd, low, high, ld, mv, rk, B, A, S, U, cau, tms, fm, fr, ft, ca, et, out, es), (1, (nI t), pl, mcyc, mse, men, mdn, mtk, mst, mmo, mends, moh, mbeg, low, high, ld, em, o, pc, tm, po, pt, mc, mb), ⟨t, rfl, rfl, rfl, rfl, rfl, hd9, rfl, hP.up⟩, 0, fun z _ rec => ?_⟩
      simp only [cs_LW_9, ox_gdI g1, if_pos h0, e1, e2, ox_clE, fn_MD_thrown, if_true]
    · refine ⟨(pl, (nI t), cnt, rl, cyc, cn2, se, cs, nr, 0, en, dn, ls, hc, hm, he, hd, low, high, ld, mv, rk, B, A, S, U, cau, tms, fm, fr, ft, ca, et, out, es), (0, (nI t), pl, mcyc, mse, men, mdn, mtk, 0, mmo, mends, moh, mbeg, low, high, ld, em, o, pc, tm, po, pt, mc, mb), ⟨t, rfl, rfl, rfl, rfl, rfl, hd9, rfl, (hP.stop (a := 0) (by decide)).up⟩, 0, fun z _ rec => ?_⟩
      simp only [cs_LW_9, ox_gdI g1, if_pos h0, e1, e2, ox_clE, fn_MD_thrown, if_true]
  · rcases stop_pair (a := 1) (by decide) pl st th mst hP.pl01 with ⟨p0, e1, e2⟩ | ⟨p0, e1, e2⟩
    · refine ⟨(pl, (nI t), cnt, rl, cyc, cn2, se, cs, nr, st, en, dn, ls, hc, hm, he, hd, low, high, ld, mv, rk, B, A, S, U, cau, tms, fm, fr, ft, ca, et, out, es), (1, (nI t), pl, mcyc, mse, men, mdn, mtk, mst, mmo, mends, moh, mbeg, low, high, ld, em, o, pc, tm, po, pt, mc, mb), ⟨t, rfl, rfl, rfl, rfl, rfl, hd9, rfl, hP.up⟩, 0, fun z _ rec => ?_⟩
      simp only [cs_LW_9, ox_gdI g1, if_neg h0, e1, e2, ox_clE, fn_MD_thrown, if_true]
    · refine ⟨(pl, (nI t), cnt, rl, cyc, cn2, se, cs, nr, 1, en, dn, ls, hc, hm, he, hd, low, high, ld, mv, rk, B, A, S, U, cau, tms, fm, fr, ft, ca, et, out, es), (0, (nI t), pl, mcyc, mse, men, mdn, mtk, 1, mmo, mends, moh, mbeg, low, high, ld, em, o, pc, tm, po, pt, mc, mb), ⟨t, rfl, rfl, rfl, rfl, rfl, hd9, rfl, (hP.stop (a := 1) (by decide)).up⟩, 0, fun z _ rec => ?_⟩
      simp only [cs_LW_9, ox_gdI g1, if_neg h0, e1, e2, ox_clE, fn_MD_thrown, if_true]
theorem op10 {c t L : Nat} {xs : Nat → Int32} {i : Int32} (g1 : vp_in (i + 1) L) {pl cnt rl cyc cn2 se cs nr st en dn ls hc hm he hd : Int32} {low high ld mv rk B A S U cau tms fm fr ft ca et : Nat → Int32} {out : Nat → Int64} {es : Nat → Nat → Int32} {th mcyc mse men mdn mtk mst mmo mends moh mbeg : Int32} {em o pc tm po pt mc mb : Nat → Int32} (hd9 : dat t low high ld es em) (hP : PR t c pl cyc cn2 se cs nr st en dn ls hc hm he hd fm fr ft ca et mcyc mse men mdn mtk mst mmo mends moh mbeg po pt mc mb) : ∃ X' M', Rel (c + 1) X' M' ∧ ∃ N, ∀ z, N ≤ z → ∀ rec, cs_LW_10 z L xs rec i (pl, (nI t), cnt, rl, cyc, cn2, se, cs, nr, st, en, dn, ls, hc, hm, he, hd, low, high, ld, mv, rk, B, A, S, U, cau, tms, fm, fr, ft, ca, et, out, es) (th, (nI t), pl, mcyc, mse, men, mdn, mtk, mst, mmo, mends, moh, mbeg, low, high, ld, em, o, pc, tm, po, pt, mc, mb) = rec (i + 4) X' M' := by
  have hp9 : pl = 0 ∨ (pl = 1 ∧ ∀ i, 1 ≤ i → i ≤ t → ca i = mc i) := by
    rcases hP with h | ⟨h, n, q, T, d, s, h1, h2, w1, w2, w3, w4, w5, w6, w7, w8, w9, w10, w11, w12, w13⟩
    · exact Or.inl h
    · exact Or.inr ⟨h, fun i a b => (w13 i a b).1⟩
  obtain ⟨k, b, out1, e1, e2, ha⟩ := tank_pair hd9.1.2 (xs (i + 1).toNatClampNeg) pl th ca mc out hp9
  refine ⟨(pl, (nI t), cnt, rl, cyc, cn2, se, cs, nr, st, en, dn, ls, hc, hm, he, hd, low, high, ld, mv, rk, B, A, S, U, cau, tms, fm, fr, ft, ca, et, out1, es), (k, (nI t), pl, mcyc, mse, men, mdn, mtk, mst, mmo, mends, moh, mbeg, low, high, ld, em, o, pc, tm, po, pt, mc, mb), ⟨t, rfl, rfl, rfl, rfl, rfl, hd9, rfl, hP.up⟩, 0, fun z hz rec => ?_⟩
  simp only [cs_LW_10, ox_gdI g1, e1, e2, ox_clE, fn_MD_thrown, if_true]
  exact ox_ans ha
theorem op11 {c t L : Nat} {xs : Nat → Int32} {i : Int32} (g1 : vp_in (i + 1) L) {pl cnt rl cyc cn2 se cs nr st en dn ls hc hm he hd : Int32} {low high ld mv rk B A S U cau tms fm fr ft ca et : Nat → Int32} {out : Nat → Int64} {es : Nat → Nat → Int32} {th mcyc mse men mdn mtk mst mmo mends moh mbeg : Int32} {em o pc tm po pt mc mb : Nat → Int32} (hd9 : dat t low high ld es em) (hP : PR t c pl cyc cn2 se cs nr st en dn ls hc hm he hd fm fr ft ca et mcyc mse men mdn mtk mst mmo mends moh mbeg po pt mc mb) : ∃ X' M', Rel (c + 1) X' M' ∧ ∃ N, ∀ z, N ≤ z → ∀ rec, cs_LW_11 z L xs rec i (pl, (nI t), cnt, rl, cyc, cn2, se, cs, nr, st, en, dn, ls, hc, hm, he, hd, low, high, ld, mv, rk, B, A, S, U, cau, tms, fm, fr, ft, ca, et, out, es) (th, (nI t), pl, mcyc, mse, men, mdn, mtk, mst, mmo, mends, moh, mbeg, low, high, ld, em, o, pc, tm, po, pt, mc, mb) = rec (i + 4) X' M' := by
  have both : ∃ (k b : Int32) (out1 : Nat → Int64), Ev (fun z => fn_LW_state z (xs (i + 1).toNatClampNeg) pl se en dn ls hc hm (nI t) ca out) (k, out1) ∧ Ev (fun z => fn_MD_state z (xs (i + 1).toNatClampNeg) th (nI t) pl mse men mdn mtk mmo moh mc) (b, k) ∧ (k = 0 → out1 0 = b.toInt64) := by
    rcases hP with h | ⟨h, n, q, T, d, s, hs, hh, hw⟩
    · exact state_pair (t := t) (s := 0) (T := 0) (p := fun j => j) (d := fun _ => 0) hd9.1.2 (xs (i + 1).toNatClampNeg) pl th se cs nr st en dn ls hc hm he hd ca et mse men mdn mtk mst mmo mends moh mbeg mc mb out (Or.inl h)
    · exact state_pair (t := t) (s := s) (T := T) (p := Pn t n) (d := d) hd9.1.2 (xs (i + 1).toNatClampNeg) pl th se cs nr st en dn ls hc hm he hd ca et mse men mdn mtk mst mmo mends moh mbeg mc mb out (Or.inr ⟨h, hw⟩)
  obtain ⟨k, b, out1, ⟨N1, e1⟩, ⟨N2, e2⟩, ha⟩ := both
  refine ⟨(pl, (nI t), cnt, rl, cyc, cn2, se, cs, nr, st, en, dn, ls, hc, hm, he, hd, low, high, ld, mv, rk, B, A, S, U, cau, tms, fm, fr, ft, ca, et, out1, es), (k, (nI t), pl, mcyc, mse, men, mdn, mtk, mst, mmo, mends, moh, mbeg, low, high, ld, em, o, pc, tm, po, pt, mc, mb), ⟨t, rfl, rfl, rfl, rfl, rfl, hd9, rfl, hP.up⟩, N1 + N2, fun z hz rec => ?_⟩
  have q1 := e1 z (by omega)
  have q2 := e2 z (by omega)
  simp only [cs_LW_11, ox_gdI g1, q1, q2, ox_clE, fn_MD_thrown, if_true]
  exact ox_ans ha

/-! The whole walk of the law: its answer is 1. -/
theorem st_all {c L : Nat} {xs : Nat → Int32} {i : Int32} (hn : ¬ (Int32.ofNat L - 4) < i) (g0 : vp_in i L) (g1 : vp_in (i + 1) L) (g2 : vp_in (i + 2) L) (g3 : vp_in (i + 3) L) (hc : c ≤ 600) (X : XS) (M : MS) (hR : Rel c X M) : ∃ X' M', Rel (c + 1) X' M' ∧ ∃ N, ∀ z, N ≤ z → ∀ rec, st_LW_law z L xs rec i X M = rec (i + 4) X' M' := by
  obtain ⟨pl, tk, cnt, rl, cyc, cn2, se, cs, nr, st, en, dn, ls, hc0, hm, he, hd, low, high, ld, mv, rk, B, A, S, U, cau, tms, fm, fr, ft, ca, et, out, es⟩ := X
  obtain ⟨th, mt, hp, mcyc, mse, men, mdn, mtk, mst, mmo, mends, moh, mbeg, mlow, mhigh, mld, em, o, pc, tm, po, pt, mc, mb⟩ := M
  obtain ⟨t, rfl, rfl, rfl, rfl, rfl, hd9, rfl, hP⟩ := hR
  by_cases h0 : (xs i.toNatClampNeg &&& 15) = 0
  · obtain ⟨X', M', r, N, h⟩ := op0 (c := c) (L := L) (xs := xs) (i := i) g1 hd9 hP
    exact ⟨X', M', r, N, fun z hz rec => by rw [st_LW_law, if_neg hn, ox_gdI g0, if_pos h0]; exact h z hz rec⟩
  by_cases h1 : (xs i.toNatClampNeg &&& 15) = 1
  · obtain ⟨X', M', r, N, h⟩ := op1 (c := c) (L := L) (xs := xs) (i := i) g1 g2 g3 hd9 hP
    exact ⟨X', M', r, N, fun z hz rec => by rw [st_LW_law, if_neg hn, ox_gdI g0, if_neg h0, if_pos h1]; exact h z hz rec⟩
  by_cases h2 : (xs i.toNatClampNeg &&& 15) = 2
  · obtain ⟨X', M', r, N, h⟩ := op2 (c := c) (L := L) (xs := xs) (i := i) g1 g2 hd9 hP
    exact ⟨X', M', r, N, fun z hz rec => by rw [st_LW_law, if_neg hn, ox_gdI g0, if_neg h0, if_neg h1, if_pos h2]; exact h z hz rec⟩
  by_cases h3 : (xs i.toNatClampNeg &&& 15) = 3
  · obtain ⟨X', M', r, N, h⟩ := op3 (c := c) (L := L) (xs := xs) (i := i) g1 g2 g3 hd9 hP
    exact ⟨X', M', r, N, fun z hz rec => by rw [st_LW_law, if_neg hn, ox_gdI g0, if_neg h0, if_neg h1, if_neg h2, if_pos h3]; exact h z hz rec⟩
  by_cases h4 : (xs i.toNatClampNeg &&& 15) = 4
  · obtain ⟨X', M', r, N, h⟩ := op4 (c := c) (L := L) (xs := xs) (i := i)  hd9 hP
    exact ⟨X', M', r, N, fun z hz rec => by rw [st_LW_law, if_neg hn, ox_gdI g0, if_neg h0, if_neg h1, if_neg h2, if_neg h3, if_pos h4]; exact h z hz rec⟩
  by_cases h5 : (xs i.toNatClampNeg &&& 15) = 5
  · obtain ⟨X', M', r, N, h⟩ := op5 (c := c) (L := L) (xs := xs) (i := i)  hd9 hP
    exact ⟨X', M', r, N, fun z hz rec => by rw [st_LW_law, if_neg hn, ox_gdI g0, if_neg h0, if_neg h1, if_neg h2, if_neg h3, if_neg h4, if_pos h5]; exact h z hz rec⟩
  by_cases h6 : (xs i.toNatClampNeg &&& 15) = 6
  · obtain ⟨X', M', r, N, h⟩ := op6 (c := c) (L := L) (xs := xs) (i := i) g1 hd9 hP
    exact ⟨X', M', r, N, fun z hz rec => by rw [st_LW_law, if_neg hn, ox_gdI g0, if_neg h0, if_neg h1, if_neg h2, if_neg h3, if_neg h4, if_neg h5, if_pos h6]; exact h z hz rec⟩
  by_cases h7 : (xs i.toNatClampNeg &&& 15) = 7
  · obtain ⟨X', M', r, N, h⟩ := op7 (c := c) (L := L) (xs := xs) (i := i) g1 g2 hd9 hP
    exact ⟨X', M', r, N, fun z hz rec => by rw [st_LW_law, if_neg hn, ox_gdI g0, if_neg h0, if_neg h1, if_neg h2, if_neg h3, if_neg h4, if_neg h5, if_neg h6, if_pos h7]; exact h z hz rec⟩
  by_cases h8 : (xs i.toNatClampNeg &&& 15) = 8
  · obtain ⟨X', M', r, N, h⟩ := op8 (c := c) (L := L) (xs := xs) (i := i) g1 hc hd9 hP
    exact ⟨X', M', r, N, fun z hz rec => by rw [st_LW_law, if_neg hn, ox_gdI g0, if_neg h0, if_neg h1, if_neg h2, if_neg h3, if_neg h4, if_neg h5, if_neg h6, if_neg h7, if_pos h8]; exact h z hz rec⟩
  by_cases h9 : (xs i.toNatClampNeg &&& 15) = 9
  · obtain ⟨X', M', r, N, h⟩ := op9 (c := c) (L := L) (xs := xs) (i := i) g1 hd9 hP
    exact ⟨X', M', r, N, fun z hz rec => by rw [st_LW_law, if_neg hn, ox_gdI g0, if_neg h0, if_neg h1, if_neg h2, if_neg h3, if_neg h4, if_neg h5, if_neg h6, if_neg h7, if_neg h8, if_pos h9]; exact h z hz rec⟩
  by_cases h10 : (xs i.toNatClampNeg &&& 15) = 10
  · obtain ⟨X', M', r, N, h⟩ := op10 (c := c) (L := L) (xs := xs) (i := i) g1 hd9 hP
    exact ⟨X', M', r, N, fun z hz rec => by rw [st_LW_law, if_neg hn, ox_gdI g0, if_neg h0, if_neg h1, if_neg h2, if_neg h3, if_neg h4, if_neg h5, if_neg h6, if_neg h7, if_neg h8, if_neg h9, if_pos h10]; exact h z hz rec⟩
  by_cases h11 : (xs i.toNatClampNeg &&& 15) = 11
  · obtain ⟨X', M', r, N, h⟩ := op11 (c := c) (L := L) (xs := xs) (i := i) g1 hd9 hP
    exact ⟨X', M', r, N, fun z hz rec => by rw [st_LW_law, if_neg hn, ox_gdI g0, if_neg h0, if_neg h1, if_neg h2, if_neg h3, if_neg h4, if_neg h5, if_neg h6, if_neg h7, if_neg h8, if_neg h9, if_neg h10, if_pos h11]; exact h z hz rec⟩
  exact ⟨_, _, ⟨t, rfl, rfl, rfl, rfl, rfl, hd9, rfl, hP.up⟩, 0, fun z _ rec => by rw [st_LW_law, if_neg hn, ox_gdI g0, if_neg h0, if_neg h1, if_neg h2, if_neg h3, if_neg h4, if_neg h5, if_neg h6, if_neg h7, if_neg h8, if_neg h9, if_neg h10, if_neg h11]⟩
theorem law_loop {L : Nat} (hL : L ≤ 2048) {xs : Nat → Int32} : ∀ (fu c : Nat) (X : XS) (M : MS), Rel c X M → 4 * c ≤ L → L < 4 * c + 4 * fu → ∃ N, ∀ z, N ≤ z → lp_LW_law z L xs fu (nI (4 * c)) X M = some 1 := by
  intro fu
  induction fu with
  | zero =>
    intro c X M _ h1 h2
    omega
  | succ fu ih =>
    intro c X M hR h1 h2
    have eL : (Int32.ofNat L - 4).toInt = (L : Int) - 4 := by
      have a : (Int32.ofNat L).toInt = (L : Int) := nI_toInt (n := L) (by omega)
      have b : (4 : Int32).toInt = 4 := by decide
      rw [Jvm.Kit.i32_sub (by rw [a, b]; omega) (by rw [a, b]; omega), a, b]
    have eI : (nI (4 * c)).toInt = ((4 * c : Nat) : Int) := nI_toInt (by omega)
    by_cases hn : (Int32.ofNat L - 4) < nI (4 * c)
    · exact ⟨0, fun z _ => by rw [lp_LW_law, st_LW_law, if_pos hn]⟩
    · have h4 : 4 * c + 4 ≤ L := by
        rw [Int32.lt_iff_toInt_lt, eL, eI] at hn
        omega
      have e1 : nI (4 * c) + 1 = nI (4 * c + 1) := nI_add (4 * c) 1
      have e2 : nI (4 * c) + 2 = nI (4 * c + 2) := nI_add (4 * c) 2
      have e3 : nI (4 * c) + 3 = nI (4 * c + 3) := nI_add (4 * c) 3
      have e4 : nI (4 * c) + 4 = nI (4 * (c + 1)) := nI_add (4 * c) 4
      obtain ⟨X1, M1, hR1, N1, hN1⟩ := st_all (c := c) (L := L) (xs := xs) (i := nI (4 * c)) hn (nI_in (by omega) (by omega)) (by rw [e1]; exact nI_in (by omega) (by omega)) (by rw [e2]; exact nI_in (by omega) (by omega)) (by rw [e3]; exact nI_in (by omega) (by omega)) (by omega) X M hR
      obtain ⟨N2, hN2⟩ := ih (c + 1) X1 M1 hR1 (by omega) (by omega)
      refine ⟨N1 + N2, fun z hz => ?_⟩
      rw [lp_LW_law, hN1 z (by omega), e4]
      exact hN2 z (by omega)
theorem law_true {L : Nat} (hL : L ≤ 2048) (xs : Nat → Int32) : ∃ (z : Nat) (es : Nat → Nat → Int32),
    fn_LY_reset z 1 0 (fun _ => 0) (fun _ => 0) (fun _ => 0) (fun _ _ => 0) = some (1, fl6 0 (fun _ => 0), fl6 500 (fun _ => 0), fl6 10 (fun _ => 0), es) ∧
    fn_WK_reset z 0 0 0 0 0 0 0 0 0 0 0 (fun _ => 0) (fun _ => 0) = some (0, 0, 0, 0, 0, 0, 0, 0, -1, 0, 0, (fun j => if j < 6 then 0 else 0), (fun j => if j < 6 then 0 else 0)) ∧
    fn_MD_clear z 1 1 0 (fun _ => 0) (fun _ => 0) (fun _ => 0) (fun _ => 0) = some (1, 0, fl6 0 (fun _ => 0), fl6 500 (fun _ => 0), fl6 10 (fun _ => 0), fun j => if j < 49 then 0 else 0) ∧
    lp_LW_law z L xs 600 0 (0, 1, 0, 0, 0, 0, 0, 0, 0, 0, 0, 0, 0, 0, (-1), 0, 0, (fl6 0 (fun _ => 0)), (fl6 500 (fun _ => 0)), (fl6 10 (fun _ => 0)), (fun _ => 0), (fun _ => 0), (fun _ => 0), (fun _ => 0), (fun _ => 0), (fun _ => 0), (fun _ => 0), (fun _ => 0), (fun _ => 0), (fun _ => 0), (fun _ => 0), (fun j => if j < 6 then 0 else 0), (fun j => if j < 6 then 0 else 0), (fun _ => (0 : Int64)), es) (0, 1, 0, 0, 0, 0, 0, 0, 0, (-1), 0, 0, 0, (fl6 0 (fun _ => 0)), (fl6 500 (fun _ => 0)), (fl6 10 (fun _ => 0)), (fun j => if j < 49 then 0 else 0), (fun _ => 0), (fun _ => 0), (fun _ => 0), (fun _ => 0), (fun _ => 0), (fun _ => 0), (fun _ => 0)) = some 1 := by
  obtain ⟨es, q1, q2⟩ := LY_reset_eq (z := 100) (Nat.le_refl _) 1 0 (fun _ => 0) (fun _ => 0) (fun _ => 0) (fun _ _ => 0)
  obtain ⟨N1, h1⟩ := WK_reset_eq 0 0 0 0 0 0 0 0 0 0 0 (fun _ => 0) (fun _ => 0)
  have hR : Rel 0 (0, 1, 0, 0, 0, 0, 0, 0, 0, 0, 0, 0, 0, 0, (-1), 0, 0, (fl6 0 (fun _ => 0)), (fl6 500 (fun _ => 0)), (fl6 10 (fun _ => 0)), (fun _ => 0), (fun _ => 0), (fun _ => 0), (fun _ => 0), (fun _ => 0), (fun _ => 0), (fun _ => 0), (fun _ => 0), (fun _ => 0), (fun _ => 0), (fun _ => 0), (fun j => if j < 6 then 0 else 0), (fun j => if j < 6 then 0 else 0), (fun _ => (0 : Int64)), es) (0, 1, 0, 0, 0, 0, 0, 0, 0, (-1), 0, 0, 0, (fl6 0 (fun _ => 0)), (fl6 500 (fun _ => 0)), (fl6 10 (fun _ => 0)), (fun j => if j < 49 then 0 else 0), (fun _ => 0), (fun _ => 0), (fun _ => 0), (fun _ => 0), (fun _ => 0), (fun _ => 0), (fun _ => 0)) := ⟨1, rfl, rfl, rfl, rfl, rfl, dat_new (t := 1) (Nat.le_refl _) (by decide) (fun _ => 0) (fun _ => 0) (fun _ => 0) es (fun _ => 0) q2, rfl, Or.inl rfl⟩
  obtain ⟨N2, h2⟩ := law_loop hL (xs := xs) 600 0 _ _ hR (Nat.zero_le _) (by omega)
  refine ⟨100 + N1 + N2, es, ?_, h1 _ (by omega), MD_clear_eq (by omega) 1 1 0 (fun _ => 0) (fun _ => 0) (fun _ => 0) (fun _ => 0), h2 _ (by omega)⟩
  rw [LY_reset_fuel (by omega)]
  exact q1

