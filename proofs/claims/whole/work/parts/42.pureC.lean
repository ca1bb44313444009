/-! The reference: whether a T fits an order. -/
theorem MD_behind_eq {t : Nat} {low high ld : Nat → Int32} {es : Nat → Nat → Int32} {em : Nat → Int32} (hd : dat t low high ld es em) {a b : Nat} (ha : a ≤ 5) (hb : b ≤ 6) : fn_MD_behind (nI a) (nI b) ld em = some (ld a + es (a + 1) b) := by
  unfold fn_MD_behind
  have e : 7 * (nI a + 1) + nI b = nI (7 * (a + 1) + b) := by rw [nI_1, show (7 : Int32) = nI 7 from rfl, nI_mul, nI_add]
  rw [e, ox_gdN (by omega) (by decide), ox_gdN (by omega) (by decide), nI_clamp (by omega), nI_clamp (by omega), (hd.2.2 (a + 1) b (by omega) (by omega)).1]
theorem ne10 : ¬ (1 : Int32) = 0 := by decide
def sk (t r : Nat) : Nat := if r < t then r else r + 1
/-- times as the rounds have them, up to the last move -/
def tmr (t : Nat) (M : Int) (f : Nat → Int32) (x : rg_S) : Prop := (∀ v, v ≤ t → (f v).toInt = x.1 v) ∧ ∀ v, 0 ≤ x.1 v ∧ x.1 v ≤ M
def rsn (t k : Nat) (nw : Int32) (x : rg_S) : Prop := (nw = 0 ∧ ∀ v, v ≤ t → x.2.2 v ≠ k) ∨ (nw = 1 ∧ ∃ v, v ≤ t ∧ x.2.2 v = k)
theorem MD_raise1 {t : Nat} (h5 : t ≤ 5) {bf af : Nat → Nat} {w : Nat → Int} {k r : Nat} {M : Int} {f : Nat → Int32} {x : rg_S} (hx : tmr t M f x) (ha : af r ≤ t) (hw : w r ≤ 2600) {due : Int32} (hdue : due.toInt = x.1 (bf r) + w r) : ∃ b f', fn_MD_raise (nI (af r)) due f = some (b, f') ∧ tmr t (M + 2600) f' (rg_step bf af w k r x) ∧ ((b = 0 ∧ rg_step bf af w k r x = x) ∨ (b = 1 ∧ (rg_step bf af w k r x).2.2 (af r) = k)) := by
  obtain ⟨t1, t2⟩ := hx
  unfold fn_MD_raise
  rw [ox_gdN (by omega) (by decide), nI_clamp (by omega)]
  by_cases c : x.1 (af r) < x.1 (bf r) + w r
  · have c1 : f (af r) < due := by rw [Int32.lt_iff_toInt_lt, hdue, t1 _ ha]; exact c
    have es : rg_step bf af w k r x = (rg_up x.1 (af r) (x.1 (bf r) + w r), rg_up x.2.1 (af r) r, rg_up x.2.2 (af r) k) := by simp [rg_step, c]
    rw [if_pos c1, ox_gdN (by omega) (by decide), es]
    refine ⟨1, _, rfl, ⟨fun v hv => ?_, fun v => ?_⟩, Or.inr ⟨rfl, by dsimp only; rw [rg_upS]⟩⟩
    · dsimp only
      by_cases e : v = af r
      · subst e; rw [pk_us, rg_upS]; exact hdue
      · rw [pk_un e, rg_upN _ _ e]; exact t1 v hv
    · dsimp only
      have b1 := t2 (bf r)
      have b2 := t2 (af r)
      by_cases e : v = af r
      · subst e; rw [rg_upS]; omega
      · rw [rg_upN _ _ e]; have := t2 v; omega
  · have c1 : ¬ f (af r) < due := by rw [Int32.lt_iff_toInt_lt, hdue, t1 _ ha]; exact c
    have es : rg_step bf af w k r x = x := by simp [rg_step, c]
    rw [if_neg c1, es]
    exact ⟨0, f, rfl, ⟨t1, fun v => by have := t2 v; omega⟩, Or.inl ⟨rfl, rfl⟩⟩
theorem rsn_next {t k : Nat} {nw b : Int32} {x y : rg_S} {a : Nat} (ha : a ≤ t) (hs : rsn t k nw x) (hb : (b = 0 ∧ y = x) ∨ (b = 1 ∧ y.2.2 a = k)) : (b = 0 ∧ rsn t k nw y) ∨ (b = 1 ∧ rsn t k 1 y) := by
  rcases hb with ⟨e, h⟩ | ⟨e, h⟩
  · exact Or.inl ⟨e, by rw [h]; exact hs⟩
  · exact Or.inr ⟨e, Or.inr ⟨rfl, a, ha, h⟩⟩
theorem rsn_01 {t k : Nat} {nw : Int32} {x : rg_S} (h : rsn t k nw x) : nw = 0 ∨ nw = 1 := by
  rcases h with h | h
  · exact Or.inl h.1
  · exact Or.inr h.1
section RA
variable {t : Nat} {p q : Nat → Nat} {low high ld : Nat → Int32} {es : Nat → Nat → Int32} {em : Nat → Int32} {od pc : Nat → Int32}
/-- the reference's rules -/
abbrev qB (t : Nat) (p : Nat → Nat) : Nat → Nat := fun r => rB t p (sk t r)
abbrev qA (t : Nat) (p : Nat → Nat) : Nat → Nat := fun r => rA t p (sk t r)
abbrev qW (t : Nat) (p q : Nat → Nat) (low high ld : Nat → Int32) (es : Nat → Nat → Int32) (T : Int) : Nat → Int := fun r => rW t p q low high ld es T (sk t r)
theorem sk_lt {r : Nat} (hr : r < 3 * t) : sk t r < 3 * t + 1 := by unfold sk; split <;> omega
theorem MD_raB (hd : dat t low high ld es em) (ho : ord t p q) (hpc : ∀ i, i ≤ t → pc i = nI (q i)) {T : Int32} (hT0 : 0 ≤ T.toInt) (hT : T.toInt ≤ 2000) {k : Nat} {x : rg_S} : ∀ (m i : Nat) (M : Int) (f : Nat → Int32) (nw : Int32), i + m = t → 0 ≤ M → M + m * 5200 ≤ 1000000 → tmr t M f (rg_run (qB t p) (qA t p) (qW t p q low high ld es T.toInt) k (t + 2 * i) x) → rsn t k nw (rg_run (qB t p) (qA t p) (qW t p q low high ld es T.toInt) k (t + 2 * i) x) →
    ∃ nw' f', Ev (fun fu => lp_MD_raiseAll (nI t) od ld em pc low high fu 1 T nw (nI (i + 1)) f) (nw', f') ∧ tmr t (M + m * 5200) f' (rg_run (qB t p) (qA t p) (qW t p q low high ld es T.toInt) k (3 * t) x) ∧ rsn t k nw' (rg_run (qB t p) (qA t p) (qW t p q low high ld es T.toInt) k (3 * t) x) := by
  obtain ⟨⟨h1, h5⟩, hk, hE⟩ := id hd
  intro m
  induction m with
  | zero =>
    intro i M f nw him hM0 hM ht hs
    refine ⟨nw, f, ?_, ?_, ?_⟩
    · refine Ev.step (fun fu => sq_MD_raiseAll_1 ..) ?_
      refine Ev.pos (nI_lt (by omega) (by omega)) ?_
      refine Ev.congr (fun z => if_pos (rsn_01 hs)) (Ev.ret rfl)
    · rw [show t + 2 * i = 3 * t by omega] at ht
      have e : M + ((0 : Nat) : Int) * 5200 = M := by simp
      rw [e]; exact ht
    · rw [show t + 2 * i = 3 * t by omega] at hs
      exact hs
  | succ m ih =>
    intro i M f nw him hM0 hM ht hs
    have d1 := hk i (by omega)
    have d2 := hk (i + 1) (by omega)
    have sk1 : sk t (t + 2 * i) = t + 1 + 2 * i := by unfold sk; rw [if_neg (by omega)]; omega
    have sk2 : sk t (t + 2 * i + 1) = t + 1 + 2 * i + 1 := by unfold sk; rw [if_neg (by omega)]; omega
    have x1 : ∀ r, r = t + 1 + 2 * i → ¬ r < t ∧ ¬ r = t ∧ ¬ r ≤ t ∧ (r - (t + 1)) % 2 = 0 ∧ (r - (t + 1)) / 2 = i := fun r hr' => by omega
    have x2 : ∀ r, r = t + 1 + 2 * i + 1 → ¬ r < t ∧ ¬ r = t ∧ ¬ r ≤ t ∧ ¬ (r - (t + 1)) % 2 = 0 ∧ (r - (t + 1)) / 2 = i := fun r hr' => by omega
    obtain ⟨y1, y2, y3, y4, y5⟩ := x1 _ rfl
    obtain ⟨z1, z2, z3, z4, z5⟩ := x2 _ rfl
    have B1 : qB t p (t + 2 * i) = i := by show rB t p (sk t (t + 2 * i)) = i; rw [sk1]; unfold rB; rw [if_neg y3, if_pos y4, y5]
    have A1 : qA t p (t + 2 * i) = i + 1 := by show rA t p (sk t (t + 2 * i)) = i + 1; rw [sk1]; unfold rA; rw [if_neg y1, if_neg y2, if_pos y4, y5]
    have B2 : qB t p (t + 2 * i + 1) = i + 1 := by show rB t p (sk t (t + 2 * i + 1)) = i + 1; rw [sk2]; unfold rB; rw [if_neg z3, if_neg z4, z5]
    have A2 : qA t p (t + 2 * i + 1) = i := by show rA t p (sk t (t + 2 * i + 1)) = i; rw [sk2]; unfold rA; rw [if_neg z1, if_neg z2, if_neg z4, z5]
    have W1 : qW t p q low high ld es T.toInt (t + 2 * i) = (ld i).toInt + (low (i + 1)).toInt - rO q i * T.toInt := by
      show rW t p q low high ld es T.toInt (sk t (t + 2 * i)) = _
      rw [sk1]; unfold rW rS rU; rw [if_neg y1, if_neg y2, if_pos y4, y5, if_neg y1, if_neg y2, if_pos y4, Int.neg_mul]; omega
    have W2 : qW t p q low high ld es T.toInt (t + 2 * i + 1) = - (ld i).toInt - (high (i + 1)).toInt + rO q i * T.toInt := by
      show rW t p q low high ld es T.toInt (sk t (t + 2 * i + 1)) = _
      rw [sk2]; unfold rW rS rU; rw [if_neg z1, if_neg z2, if_neg z4, z5, if_neg z1, if_neg z2, if_neg z4]
    have hrun1 : rg_run (qB t p) (qA t p) (qW t p q low high ld es T.toInt) k (t + 2 * i + 1) x = rg_step (qB t p) (qA t p) (qW t p q low high ld es T.toInt) k (t + 2 * i) (rg_run (qB t p) (qA t p) (qW t p q low high ld es T.toInt) k (t + 2 * i) x) := rfl
    have hrun2 : rg_run (qB t p) (qA t p) (qW t p q low high ld es T.toInt) k (t + 2 * (i + 1)) x = rg_step (qB t p) (qA t p) (qW t p q low high ld es T.toInt) k (t + 2 * i + 1) (rg_run (qB t p) (qA t p) (qW t p q low high ld es T.toInt) k (t + 2 * i + 1) x) := rfl
    have e1 : nI (i + 1) - 1 = nI i := nI_pred i
    have pi := hpc i (by omega)
    have pi1 := hpc (i + 1) (by omega)
    have qi := (ho.2.2 i (by omega)).1
    have qi1 := (ho.2.2 (i + 1) (by omega)).1
    -- the seconds that go over the cycle's end
    obtain ⟨more, hmore, hcase⟩ : ∃ more : Int32, more.toInt = rO q i * T.toInt ∧ ((q i ≤ q (i + 1) ∧ more = 0) ∨ (¬ q i ≤ q (i + 1) ∧ more = T)) := by
      by_cases c : q i ≤ q (i + 1)
      · refine ⟨0, ?_, Or.inl ⟨c, rfl⟩⟩
        unfold rO; rw [if_neg (by omega)]; simp
      · refine ⟨T, ?_, Or.inr ⟨c, rfl⟩⟩
        unfold rO; rw [if_pos (by omega)]; simp
    have hmb : 0 ≤ more.toInt ∧ more.toInt ≤ 2000 := by
      rcases hcase with ⟨-, e⟩ | ⟨-, e⟩ <;> rw [e]
      · rw [Int32.toInt_zero]; omega
      · omega
    have ti := ht.2 i
    have ti1 := ht.2 (i + 1)
    have hmm : ((m + 1 : Nat) : Int) * 5200 = m * 5200 + 5200 := by omega
    have due1 : (f i + ld i + low (i + 1) - more).toInt = (rg_run (qB t p) (qA t p) (qW t p q low high ld es T.toInt) k (t + 2 * i) x).1 (qB t p (t + 2 * i)) + qW t p q low high ld es T.toInt (t + 2 * i) := by
      rw [B1, W1, ← ht.1 i (by omega), ← hmore]
      have := ht.1 i (by omega)
      have a1 : (f i + ld i).toInt = (f i).toInt + (ld i).toInt := Jvm.Kit.i32_add (by omega) (by omega)
      have a2 : (f i + ld i + low (i + 1)).toInt = (f i).toInt + (ld i).toInt + (low (i + 1)).toInt := by rw [Jvm.Kit.i32_add (by omega) (by omega), a1]
      rw [Jvm.Kit.i32_sub (by omega) (by omega), a2]
      omega
    obtain ⟨b1, f1, r1, r2, r3⟩ := MD_raise1 (bf := qB t p) (af := qA t p) (w := qW t p q low high ld es T.toInt) (r := t + 2 * i) (k := k) h5 ht (by rw [A1]; omega) (by rw [W1, ← hmore]; omega) due1
    rw [← hrun1] at r2 r3
    rw [A1] at r1
    have s1 := rsn_next (a := qA t p (t + 2 * i)) (by rw [A1]; omega) hs r3
    have ti2 := r2.2 (i + 1)
    have due2 : (f1 (i + 1) + more - ld i - high (i + 1)).toInt = (rg_run (qB t p) (qA t p) (qW t p q low high ld es T.toInt) k (t + 2 * i + 1) x).1 (qB t p (t + 2 * i + 1)) + qW t p q low high ld es T.toInt (t + 2 * i + 1) := by
      rw [B2, W2, ← r2.1 (i + 1) (by omega), ← hmore]
      have := r2.1 (i + 1) (by omega)
      have a1 : (f1 (i + 1) + more).toInt = (f1 (i + 1)).toInt + more.toInt := Jvm.Kit.i32_add (by omega) (by omega)
      have a2 : (f1 (i + 1) + more - ld i).toInt = (f1 (i + 1)).toInt + more.toInt - (ld i).toInt := by rw [Jvm.Kit.i32_sub (by omega) (by omega), a1]
      rw [Jvm.Kit.i32_sub (by omega) (by omega), a2]
      omega
    obtain ⟨b2, f2, u1, u2, u3⟩ := MD_raise1 (bf := qB t p) (af := qA t p) (w := qW t p q low high ld es T.toInt) (r := t + 2 * i + 1) (k := k) h5 r2 (by rw [A2]; omega) (by rw [W2, ← hmore]; omega) due2
    rw [← hrun2] at u2 u3
    rw [A2] at u1
    have nM : M + 2600 + 2600 + (m : Int) * 5200 = M + ((m + 1 : Nat) : Int) * 5200 := by omega
    -- the news behind both
    have fin : ∀ nw2, rsn t k nw2 (rg_run (qB t p) (qA t p) (qW t p q low high ld es T.toInt) k (t + 2 * (i + 1)) x) → ∃ nw' f', Ev (fun fu => lp_MD_raiseAll (nI t) od ld em pc low high fu 1 T nw2 (nI (i + 1 + 1)) f2) (nw', f') ∧ tmr t (M + ((m + 1 : Nat) : Int) * 5200) f' (rg_run (qB t p) (qA t p) (qW t p q low high ld es T.toInt) k (3 * t) x) ∧ rsn t k nw' (rg_run (qB t p) (qA t p) (qW t p q low high ld es T.toInt) k (3 * t) x) := by
      intro nw2 hs2
      obtain ⟨nw', f', v1, v2, v3⟩ := ih (i + 1) (M + 2600 + 2600) f2 nw2 (by omega) (by omega) (by omega) u2 hs2
      exact ⟨nw', f', v1, by rw [← nM]; exact v2, v3⟩
    have body : ∃ nw2, rsn t k nw2 (rg_run (qB t p) (qA t p) (qW t p q low high ld es T.toInt) k (t + 2 * (i + 1)) x) ∧ ∀ (v : Int32 × (Nat → Int32)), Ev (fun fu => lp_MD_raiseAll (nI t) od ld em pc low high fu 1 T nw2 (nI (i + 1 + 1)) f2) v → Ev (fun fu => lp_MD_raiseAll (nI t) od ld em pc low high fu 1 T nw (nI (i + 1)) f) v := by
      rcases s1 with ⟨eb1, s1⟩ | ⟨eb1, s1⟩
      · have s2 := rsn_next (a := qA t p (t + 2 * i + 1)) (by rw [A2]; omega) s1 u3
        rcases s2 with ⟨eb2, s2⟩ | ⟨eb2, s2⟩
        · refine ⟨nw, s2, fun v hv => ?_⟩
          refine Ev.step (fun fu => sq_MD_raiseAll_1 ..) ?_
          refine Ev.neg (nI_nlt (by omega) (by omega)) ?_
          simp only [e1, nI_clamp (show i < 2 ^ 31 by omega), nI_clamp (show i + 1 < 2 ^ 31 by omega), pi, pi1, nI_1]
          refine Ev.gdN (by omega) (by decide) (Ev.gdN (by omega) (by decide) ?_)
          subst eb1; subst eb2
          rcases hcase with ⟨c, e⟩ | ⟨c, e⟩ <;> subst e
          · refine Ev.pos (nI_le c (by omega)) ?_
            refine Ev.gdN (by omega) (by decide) (Ev.gdN (by omega) (by decide) (Ev.gdN (by omega) (by decide) ?_))
            refine Ev.cl0 r1 ?_
            refine Ev.neg (fun q => q rfl) ?_
            rcases rsn_01 hs with en | en <;> subst en
            · refine Ev.pos rfl (Ev.gdN (by omega) (by decide) (Ev.gdN (by omega) (by decide) (Ev.gdN (by omega) (by decide) (Ev.cl0 u1 ?_))))
              exact Ev.neg (fun q => q rfl) hv
            · refine Ev.neg (by decide) (Ev.gdN (by omega) (by decide) (Ev.gdN (by omega) (by decide) (Ev.gdN (by omega) (by decide) (Ev.cl0 u1 ?_))))
              exact Ev.neg (fun q => q rfl) hv
          · refine Ev.neg (nI_ge (by omega) (by omega)) ?_
            refine Ev.gdN (by omega) (by decide) (Ev.gdN (by omega) (by decide) (Ev.gdN (by omega) (by decide) ?_))
            refine Ev.cl0 r1 ?_
            refine Ev.neg (fun q => q rfl) ?_
            rcases rsn_01 hs with en | en <;> subst en
            · refine Ev.pos rfl (Ev.gdN (by omega) (by decide) (Ev.gdN (by omega) (by decide) (Ev.gdN (by omega) (by decide) (Ev.cl0 u1 ?_))))
              exact Ev.neg (fun q => q rfl) hv
            · refine Ev.neg (by decide) (Ev.gdN (by omega) (by decide) (Ev.gdN (by omega) (by decide) (Ev.gdN (by omega) (by decide) (Ev.cl0 u1 ?_))))
              exact Ev.neg (fun q => q rfl) hv
        · refine ⟨1, s2, fun v hv => ?_⟩
          refine Ev.step (fun fu => sq_MD_raiseAll_1 ..) ?_
          refine Ev.neg (nI_nlt (by omega) (by omega)) ?_
          simp only [e1, nI_clamp (show i < 2 ^ 31 by omega), nI_clamp (show i + 1 < 2 ^ 31 by omega), pi, pi1, nI_1]
          refine Ev.gdN (by omega) (by decide) (Ev.gdN (by omega) (by decide) ?_)
          subst eb1; subst eb2
          rcases hcase with ⟨c, e⟩ | ⟨c, e⟩ <;> subst e
          · refine Ev.pos (nI_le c (by omega)) ?_
            refine Ev.gdN (by omega) (by decide) (Ev.gdN (by omega) (by decide) (Ev.gdN (by omega) (by decide) ?_))
            refine Ev.cl0 r1 ?_
            refine Ev.neg (fun q => q rfl) ?_
            rcases rsn_01 hs with en | en <;> subst en
            · refine Ev.pos rfl (Ev.gdN (by omega) (by decide) (Ev.gdN (by omega) (by decide) (Ev.gdN (by omega) (by decide) (Ev.cl0 u1 ?_))))
              exact Ev.pos ne10 hv
            · refine Ev.neg (by decide) (Ev.gdN (by omega) (by decide) (Ev.gdN (by omega) (by decide) (Ev.gdN (by omega) (by decide) (Ev.cl0 u1 ?_))))
              exact Ev.pos ne10 hv
          · refine Ev.neg (nI_ge (by omega) (by omega)) ?_
            refine Ev.gdN (by omega) (by decide) (Ev.gdN (by omega) (by decide) (Ev.gdN (by omega) (by decide) ?_))
            refine Ev.cl0 r1 ?_
            refine Ev.neg (fun q => q rfl) ?_
            rcases rsn_01 hs with en | en <;> subst en
            · refine Ev.pos rfl (Ev.gdN (by omega) (by decide) (Ev.gdN (by omega) (by decide) (Ev.gdN (by omega) (by decide) (Ev.cl0 u1 ?_))))
              exact Ev.pos ne10 hv
            · refine Ev.neg (by decide) (Ev.gdN (by omega) (by decide) (Ev.gdN (by omega) (by decide) (Ev.gdN (by omega) (by decide) (Ev.cl0 u1 ?_))))
              exact Ev.pos ne10 hv
      · have s2 := rsn_next (a := qA t p (t + 2 * i + 1)) (by rw [A2]; omega) s1 u3
        have s2 : (b2 = 0 ∨ b2 = 1) ∧ rsn t k 1 (rg_run (qB t p) (qA t p) (qW t p q low high ld es T.toInt) k (t + 2 * (i + 1)) x) := by
          rcases s2 with ⟨a, b⟩ | ⟨a, b⟩
          · exact ⟨Or.inl a, b⟩
          · exact ⟨Or.inr a, b⟩
        refine ⟨1, s2.2, fun v hv => ?_⟩
        refine Ev.step (fun fu => sq_MD_raiseAll_1 ..) ?_
        refine Ev.neg (nI_nlt (by omega) (by omega)) ?_
        simp only [e1, nI_clamp (show i < 2 ^ 31 by omega), nI_clamp (show i + 1 < 2 ^ 31 by omega), pi, pi1, nI_1]
        refine Ev.gdN (by omega) (by decide) (Ev.gdN (by omega) (by decide) ?_)
        subst eb1
        rcases hcase with ⟨c, e⟩ | ⟨c, e⟩ <;> subst e
        · refine Ev.pos (nI_le c (by omega)) ?_
          refine Ev.gdN (by omega) (by decide) (Ev.gdN (by omega) (by decide) (Ev.gdN (by omega) (by decide) ?_))
          refine Ev.cl0 r1 ?_
          refine Ev.pos ne10 ?_
          refine (Ev.gdN (by omega) (by decide) (Ev.gdN (by omega) (by decide) (Ev.gdN (by omega) (by decide) (Ev.cl0 u1 ?_))))
          rcases s2.1 with e | e <;> subst e
          · exact Ev.neg (fun q => q rfl) hv
          · exact Ev.pos ne10 hv
        · refine Ev.neg (nI_ge (by omega) (by omega)) ?_
          refine Ev.gdN (by omega) (by decide) (Ev.gdN (by omega) (by decide) (Ev.gdN (by omega) (by decide) ?_))
          refine Ev.cl0 r1 ?_
          refine Ev.pos ne10 ?_
          refine (Ev.gdN (by omega) (by decide) (Ev.gdN (by omega) (by decide) (Ev.gdN (by omega) (by decide) (Ev.cl0 u1 ?_))))
          rcases s2.1 with e | e <;> subst e
          · exact Ev.neg (fun q => q rfl) hv
          · exact Ev.pos ne10 hv
    obtain ⟨nw2, hs2, hb⟩ := body
    obtain ⟨nw', f', v1, v2, v3⟩ := fin nw2 hs2
    exact ⟨nw', f', hb _ v1, v2, v3⟩
end RA

section RF
variable {t : Nat} {p q : Nat → Nat} {low high ld : Nat → Int32} {es : Nat → Nat → Int32} {em : Nat → Int32} {od pc : Nat → Int32}
theorem MD_raA (hd : dat t low high ld es em) (ho : ord t p q) (hod : ∀ k, k ≤ t → od k = nI (p k)) (hpc : ∀ i, i ≤ t → pc i = nI (q i)) {T : Int32} (hT0 : 0 ≤ T.toInt) (hT : T.toInt ≤ 2000) {k : Nat} {x : rg_S} : ∀ (m i : Nat) (M : Int) (f : Nat → Int32) (nw : Int32), i + m = t → 0 ≤ M → M + m * 2600 + t * 5200 ≤ 1000000 → tmr t M f (rg_run (qB t p) (qA t p) (qW t p q low high ld es T.toInt) k i x) → rsn t k nw (rg_run (qB t p) (qA t p) (qW t p q low high ld es T.toInt) k i x) →
    ∃ nw' f', Ev (fun fu => lp_MD_raiseAll (nI t) od ld em pc low high fu 0 T nw (nI i) f) (nw', f') ∧ tmr t (M + m * 2600 + t * 5200) f' (rg_run (qB t p) (qA t p) (qW t p q low high ld es T.toInt) k (3 * t) x) ∧ rsn t k nw' (rg_run (qB t p) (qA t p) (qW t p q low high ld es T.toInt) k (3 * t) x) := by
  obtain ⟨⟨h1, h5⟩, hk, hE⟩ := id hd
  intro m
  induction m with
  | zero =>
    intro i M f nw him hM0 hM ht hs
    have e : i = t := by omega
    subst e
    have em0 : M + ((0 : Nat) : Int) * 2600 + (i : Int) * 5200 = M + (i : Int) * 5200 := by simp
    obtain ⟨nw', f', g1, g2, g3⟩ := MD_raB (od := od) hd ho hpc hT0 hT i 0 M f nw (by omega) hM0 (by omega) ht hs
    refine ⟨nw', f', ?_, by rw [em0]; exact g2, g3⟩
    refine Ev.step (fun fu => sq_MD_raiseAll_0 ..) ?_
    exact Ev.pos (nI_le (by omega) (by omega)) g1
  | succ m ih =>
    intro i M f nw him hM0 hM ht hs
    have sk1 : sk t i = i := by unfold sk; rw [if_pos (by omega)]
    have B1 : qB t p i = p i := by show rB t p (sk t i) = p i; rw [sk1]; unfold rB; rw [if_pos (by omega)]
    have A1 : qA t p i = p (i + 1) := by show rA t p (sk t i) = p (i + 1); rw [sk1]; unfold rA; rw [if_pos (by omega)]
    have W1 : qW t p q low high ld es T.toInt i = (ld (p i)).toInt + (es (p i + 1) (p (i + 1))).toInt := by
      show rW t p q low high ld es T.toInt (sk t i) = _
      rw [sk1]; unfold rW rS rU; rw [if_pos (by omega), if_pos (by omega)]; omega
    have p0 := (ho.2.1 i (by omega)).1
    have p1 := (ho.2.1 (i + 1) (by omega)).1
    have d1 := hk (p i) (by omega)
    have d2 := hE (p i + 1) (p (i + 1)) (by omega) (by omega)
    have hrun1 : rg_run (qB t p) (qA t p) (qW t p q low high ld es T.toInt) k (i + 1) x = rg_step (qB t p) (qA t p) (qW t p q low high ld es T.toInt) k i (rg_run (qB t p) (qA t p) (qW t p q low high ld es T.toInt) k i x) := rfl
    have ti := ht.2 (p i)
    have hmm : ((m + 1 : Nat) : Int) * 2600 = m * 2600 + 2600 := by omega
    have due1 : (f (p i) + (ld (p i) + es (p i + 1) (p (i + 1)))).toInt = (rg_run (qB t p) (qA t p) (qW t p q low high ld es T.toInt) k i x).1 (qB t p i) + qW t p q low high ld es T.toInt i := by
      rw [B1, W1, ← ht.1 (p i) p0]
      have := ht.1 (p i) p0
      have a1 : (ld (p i) + es (p i + 1) (p (i + 1))).toInt = (ld (p i)).toInt + (es (p i + 1) (p (i + 1))).toInt := Jvm.Kit.i32_add (by omega) (by omega)
      rw [Jvm.Kit.i32_add (by omega) (by omega), a1]
    obtain ⟨b1, f1, r1, r2, r3⟩ := MD_raise1 (bf := qB t p) (af := qA t p) (w := qW t p q low high ld es T.toInt) (r := i) (k := k) h5 ht (by rw [A1]; omega) (by rw [W1]; omega) due1
    rw [← hrun1] at r2 r3
    rw [A1] at r1
    have s1 := rsn_next (a := qA t p i) (by rw [A1]; omega) hs r3
    have nM : M + 2600 + (m : Int) * 2600 + (t : Int) * 5200 = M + ((m + 1 : Nat) : Int) * 2600 + (t : Int) * 5200 := by omega
    have fin : ∀ nw2, rsn t k nw2 (rg_run (qB t p) (qA t p) (qW t p q low high ld es T.toInt) k (i + 1) x) → ∃ nw' f', Ev (fun fu => lp_MD_raiseAll (nI t) od ld em pc low high fu 0 T nw2 (nI (i + 1)) f1) (nw', f') ∧ tmr t (M + ((m + 1 : Nat) : Int) * 2600 + (t : Int) * 5200) f' (rg_run (qB t p) (qA t p) (qW t p q low high ld es T.toInt) k (3 * t) x) ∧ rsn t k nw' (rg_run (qB t p) (qA t p) (qW t p q low high ld es T.toInt) k (3 * t) x) := by
      intro nw2 hs2
      obtain ⟨nw', f', v1, v2, v3⟩ := ih (i + 1) (M + 2600) f1 nw2 (by omega) (by omega) (by omega) r2 hs2
      exact ⟨nw', f', v1, by rw [← nM]; exact v2, v3⟩
    have pre : ∀ (v : Int32 × (Nat → Int32)), Ev (fun fu => if ¬ b1 = 0 then lp_MD_raiseAll (nI t) od ld em pc low high fu 0 T 1 (nI (i + 1)) f1 else if nw = 0 then lp_MD_raiseAll (nI t) od ld em pc low high fu 0 T 0 (nI (i + 1)) f1 else lp_MD_raiseAll (nI t) od ld em pc low high fu 0 T 1 (nI (i + 1)) f1) v → Ev (fun fu => lp_MD_raiseAll (nI t) od ld em pc low high fu 0 T nw (nI i) f) v := by
      intro v hv
      refine Ev.step (fun fu => sq_MD_raiseAll_0 ..) ?_
      refine Ev.neg (nI_ge (by omega) (by omega)) ?_
      simp only [nI_1, nI_clamp (show i < 2 ^ 31 by omega), nI_clamp (show i + 1 < 2 ^ 31 by omega), hod i (by omega), hod (i + 1) (by omega), nI_clamp (show p i < 2 ^ 31 by omega)]
      refine Ev.gdN (by omega) (by decide) (Ev.gdN (by omega) (by decide) (Ev.gdN (by omega) (by decide) (Ev.gdN (by omega) (by decide) (Ev.gdN (by omega) (by decide) ?_))))
      refine Ev.cl0 (MD_behind_eq hd (by omega) (by omega)) ?_
      refine Ev.cl0 r1 ?_
      exact hv
    rcases s1 with ⟨eb1, s1⟩ | ⟨eb1, s1⟩
    · obtain ⟨nw', f', v1, v2, v3⟩ := fin nw s1
      refine ⟨nw', f', pre _ ?_, v2, v3⟩
      refine Ev.neg (fun h => h eb1) ?_
      rcases rsn_01 hs with en | en <;> subst en
      · exact Ev.pos rfl v1
      · exact Ev.neg ne10 v1
    · obtain ⟨nw', f', v1, v2, v3⟩ := fin 1 s1
      exact ⟨nw', f', pre _ (Ev.pos (by rw [eb1]; exact ne10) v1), v2, v3⟩
/-- a round of the reference -/
theorem MD_round (hd : dat t low high ld es em) (ho : ord t p q) (hod : ∀ k, k ≤ t → od k = nI (p k)) (hpc : ∀ i, i ≤ t → pc i = nI (q i)) {T : Int32} (hT0 : 0 ≤ T.toInt) (hT : T.toInt ≤ 2000) {j : Nat} (hj : j ≤ 9) {f : Nat → Int32} (ht : tmr t (j * 41600) f (rg_all (qB t p) (qA t p) (qW t p q low high ld es T.toInt) (3 * t) j x00)) :
    ∃ nw f', Ev (fun z => fn_MD_raiseAll z T (nI t) od f ld em pc low high) (nw, f') ∧ tmr t ((j + 1 : Nat) * 41600) f' (rg_all (qB t p) (qA t p) (qW t p q low high ld es T.toInt) (3 * t) (j + 1) x00) ∧ rsn t (j + 1) nw (rg_all (qB t p) (qA t p) (qW t p q low high ld es T.toInt) (3 * t) (j + 1) x00) := by
  obtain ⟨⟨h1, h5⟩, -, -⟩ := id hd
  obtain ⟨nw, f', g1, g2, g3⟩ := MD_raA hd ho hod hpc hT0 hT (k := j + 1) (x := rg_all (qB t p) (qA t p) (qW t p q low high ld es T.toInt) (3 * t) j x00) t 0 (j * 41600) f 0 (by omega) (by omega) (by omega) ht (Or.inl ⟨rfl, fun v _ => by
    have := rg_allG (bf := qB t p) (af := qA t p) (w := qW t p q low high ld es T.toInt) (R := 3 * t) (x := x00) (fun _ => rfl) j v
    show (rg_all (qB t p) (qA t p) (qW t p q low high ld es T.toInt) (3 * t) j x00).2.2 v ≠ j + 1
    omega⟩)
  refine ⟨nw, f', g1, ⟨g2.1, fun v => ?_⟩, g3⟩
  have := g2.2 v
  refine ⟨this.1, ?_⟩
  have h7 : (rg_all (qB t p) (qA t p) (qW t p q low high ld es T.toInt) (3 * t) (j + 1) x00).1 v ≤ (j : Int) * 41600 + (t : Int) * 2600 + (t : Int) * 5200 := this.2
  omega
theorem q_facts (h1 : 1 ≤ t) (ho : ord t p q) : (∀ r, r < 3 * t → qB t p r ≠ qA t p r) ∧ (∀ r, r < 3 * t → qB t p r ≤ t) ∧ ∀ r, r < 3 * t → qA t p r ≤ t :=
  ⟨fun r hr => rBA_ne h1 ho (sk_lt hr), fun r hr => rB_le ho (sk_lt hr), fun r hr => rA_le ho (sk_lt hr)⟩
/-- a solution of all rules is one of the reference's -/
theorem q_sol {T : Int} {L : Nat → Int} (hL : ∀ r, r < 3 * t + 1 → L (rB t p r) + rW t p q low high ld es T r ≤ L (rA t p r)) : ∀ r, r < 3 * t → L (qB t p r) + qW t p q low high ld es T r ≤ L (qA t p r) := fun r hr => hL _ (sk_lt hr)
theorem MD_noF (h1 : 1 ≤ t) (h5 : t ≤ 5) (ho : ord t p q) {T : Int} {v : Nat} (hv : v ≤ t) (hg : (rg_all (qB t p) (qA t p) (qW t p q low high ld es T) (3 * t) (t + 1) x00).2.2 v = t + 1) : ¬ Feas t p q low high ld es T := by
  obtain ⟨q1, q2, q3⟩ := q_facts (p := p) (q := q) h1 ho
  have hi : rg_inv (qB t p) (qA t p) (qW t p q low high ld es T) (3 * t) (t + 1) (3 * t) (rg_all (qB t p) (qA t p) (qW t p q low high ld es T) (3 * t) (t + 1) x00) := rg_runI q1 (by omega) (rg_allI q1 (fun _ => 0) (fun _ => 0) t) (3 * t) (Nat.le_refl _)
  obtain ⟨j, r1, r2, r3, r4, r5, r6⟩ := rg_ring hi (fun r hr => Nat.lt_succ_of_le (q2 r hr)) (Nat.lt_succ_of_le hv) hg
  intro ⟨L, hL⟩
  have := rg_sol (L := L) (q_sol (p := p) (q := q) hL) j _ (fun i _ => ⟨(hi.1 _ (r4 i)).1, (hi.1 _ (r4 i)).2.1⟩)
  rw [r3] at this
  omega
theorem MD_yes (hd : dat t low high ld es em) (ho : ord t p q) {T : Int} {d : Nat → Int} (hl : lst (3 * t) (qB t p) (qA t p) (qW t p q low high ld es T) d) (h0 : d 0 = 0) (hw : d (p t) + rS t p low high ld es t ≤ T) : lst (3 * t + 1) (rB t p) (rA t p) (rW t p q low high ld es T) d := by
  refine ⟨fun r hr => ?_, hl.2.1, fun L hL hL0 => hl.2.2 L (q_sol (p := p) (q := q) hL) hL0⟩
  by_cases c1 : r < t
  · have := hl.1 r (by omega)
    have e : sk t r = r := by unfold sk; rw [if_pos c1]
    show d (rB t p r) + rW t p q low high ld es T r ≤ d (rA t p r)
    rw [← e]; exact this
  · by_cases c2 : r = t
    · subst c2
      rw [rA_t, rB_t, rW_t, h0]; omega
    · have := hl.1 (r - 1) (by omega)
      have e : sk t (r - 1) = r := by unfold sk; rw [if_neg (by omega)]; omega
      show d (rB t p r) + rW t p q low high ld es T r ≤ d (rA t p r)
      rw [← e]; exact this
theorem MD_no (hd : dat t low high ld es em) (ho : ord t p q) {T : Int} {d : Nat → Int} (hl : lst (3 * t) (qB t p) (qA t p) (qW t p q low high ld es T) d) (h : ¬ (d 0 = 0 ∧ d (p t) + rS t p low high ld es t ≤ T)) : ¬ Feas t p q low high ld es T := by
  intro hF
  obtain ⟨L, h1, h2, h3⟩ := feas_norm hd ho hF
  have h4 := hl.2.2 L (q_sol (p := p) (q := q) h1) h2
  have h5 := (sol_lt hd ho h1 h3).2
  have := h4 0
  have := h4 (p t)
  have := hl.2.1 0
  exact h ⟨by omega, by omega⟩
/-- the last check -/
theorem MD_fits2n (z : Nat) (h5 : t ≤ 5) (T i2 : Int32) (f : Nat → Int32) : ∀ (m i : Nat), i + m = t + 1 → Ev (fun fu => lp_MD_fits z (nI t) od ld em pc low high fu 2 T i2 0 (nI i) f) (0, f) := by
  intro m
  induction m with
  | zero =>
    intro i hi
    refine Ev.step (fun fu => sq_MD_fits_2 ..) ?_
    refine Ev.pos (nI_lt (by omega) (by omega)) ?_
    exact Ev.congr (fun z => if_pos (Or.inl rfl)) (Ev.ret rfl)
  | succ m ih =>
    intro i hi
    refine Ev.step (fun fu => sq_MD_fits_2 ..) ?_
    refine Ev.neg (nI_nlt (by omega) (by omega)) (Ev.pos rfl ?_)
    rw [nI_1]
    exact ih (i + 1) (by omega)
theorem MD_fits2y (z : Nat) (h5 : t ≤ 5) (T i2 : Int32) (f : Nat → Int32) (hf : ∀ v, v ≤ t → (f v).toInt < T.toInt) : ∀ (m i : Nat), i + m = t + 1 → Ev (fun fu => lp_MD_fits z (nI t) od ld em pc low high fu 2 T i2 1 (nI i) f) (1, f) := by
  intro m
  induction m with
  | zero =>
    intro i hi
    refine Ev.step (fun fu => sq_MD_fits_2 ..) ?_
    refine Ev.pos (nI_lt (by omega) (by omega)) ?_
    exact Ev.congr (fun z => if_pos (Or.inr rfl)) (Ev.ret rfl)
  | succ m ih =>
    intro i hi
    refine Ev.step (fun fu => sq_MD_fits_2 ..) ?_
    refine Ev.neg (nI_nlt (by omega) (by omega)) (Ev.neg ne10 (Ev.gdN (by omega) (by decide) ?_))
    rw [nI_clamp (by omega), nI_1]
    refine Ev.neg ?_ (ih (i + 1) (by omega))
    rw [Int32.le_iff_toInt_le]
    have := hf i (by omega)
    omega
theorem fits_z (z : Nat) : ∀ fu, lp_MD_fits z (nI t) od ld em pc low high fu 2 = lp_MD_fits 0 (nI t) od ld em pc low high fu 2
  | 0 => rfl
  | fu + 1 => by
    funext i1 i2 i3 i4 f
    rw [sq_MD_fits_2, sq_MD_fits_2, fits_z z fu]
end RF

theorem Ev2.ofEv {α : Type} {f : Nat → Nat → Option α} {g : Nat → Option α} {v : α} (hs : ∀ z fu, f z fu = g fu) (h : Ev g v) : Ev2 f v := by
  obtain ⟨N, hN⟩ := h
  exact ⟨N, fun z fu _ hf => by rw [hs]; exact hN fu hf⟩
section RG
variable {t : Nat} {p q : Nat → Nat} {low high ld : Nat → Int32} {es : Nat → Nat → Int32} {em : Nat → Int32} {od pc : Nat → Int32}
def ftR (t : Nat) (p q : Nat → Nat) (low high ld : Nat → Int32) (es : Nat → Nat → Int32) (T : Int) (b : Int32) (f : Nat → Int32) : Prop :=
  (b = 0 ∧ ¬ Feas t p q low high ld es T) ∨ (b = 1 ∧ ∃ d, (∀ v, v ≤ t → (f v).toInt = d v) ∧ lst (3 * t + 1) (rB t p) (rA t p) (rW t p q low high ld es T) d)
theorem MD_fits1 (hd : dat t low high ld es em) (ho : ord t p q) (hod : ∀ k, k ≤ t → od k = nI (p k)) (hpc : ∀ i, i ≤ t → pc i = nI (q i)) {T : Int32} (hT0 : 0 ≤ T.toInt) (hT : T.toInt ≤ 2000) : ∀ (m j : Nat) (f : Nat → Int32), j + m = 9 → tmr t (j * 41600) f (rg_all (qB t p) (qA t p) (qW t p q low high ld es T.toInt) (3 * t) j x00) → (∀ k, 1 ≤ k → k ≤ j → ∃ v, v ≤ t ∧ (rg_all (qB t p) (qA t p) (qW t p q low high ld es T.toInt) (3 * t) k x00).2.2 v = k) →
    ∃ b f', Ev2 (fun z fu => lp_MD_fits z (nI t) od ld em pc low high fu 1 T (nI j) 0 0 f) (b, f') ∧ ftR t p q low high ld es T.toInt b f' := by
  obtain ⟨⟨h1, h5⟩, hk, hE⟩ := id hd
  intro m
  induction m with
  | zero =>
    intro j f hj ht hall
    refine ⟨0, f, ?_, Or.inl ⟨rfl, ?_⟩⟩
    · refine Ev2.step (fun z fu => sq_MD_fits_1 ..) ?_
      refine Ev2.pos (show (9 : Int32) ≤ nI j from nI_le (a := 9) (by omega) (by omega)) ?_
      exact Ev2.ofEv (fun z fu => by rw [fits_z]; rfl) (MD_fits2n (od := od) (ld := ld) (em := em) (pc := pc) (low := low) (high := high) 0 h5 T (nI j) f (t + 1) 0 (by omega))
    · obtain ⟨v, hv, hg⟩ := hall (t + 1) (by omega) (by omega)
      exact MD_noF h1 h5 ho hv hg
  | succ m ih =>
    intro j f hj ht hall
    obtain ⟨nw, f', g1, g2, g3⟩ := MD_round hd ho hod hpc hT0 hT (j := j) (by omega) ht
    have n9 : ¬ (9 : Int32) ≤ nI j := nI_ge (b := 9) (by omega) (by decide)
    rcases g3 with ⟨en, hq⟩ | ⟨en, hq⟩
    · subst en
      obtain ⟨q1, q2, q3⟩ := q_facts (p := p) (q := q) h1 ho
      have hl : lst (3 * t) (qB t p) (qA t p) (qW t p q low high ld es T.toInt) (rg_all (qB t p) (qA t p) (qW t p q low high ld es T.toInt) (3 * t) (j + 1) x00).1 := by
        refine ⟨fun r hr => ?_, fun v => (g2.2 v).1, fun L hL hL0 v => rg_allLe (x := x00) (fun v => hL0 v) hL (j + 1) v⟩
        have hi : rg_inv (qB t p) (qA t p) (qW t p q low high ld es T.toInt) (3 * t) (j + 1) (3 * t) (rg_all (qB t p) (qA t p) (qW t p q low high ld es T.toInt) (3 * t) (j + 1) x00) := rg_runI q1 (by omega) (rg_allI q1 (fun _ => 0) (fun _ => 0) j) (3 * t) (Nat.le_refl _)
        have h7 := hq (qB t p r) (q2 r hr)
        have h8 := rg_allG (bf := qB t p) (af := qA t p) (w := qW t p q low high ld es T.toInt) (R := 3 * t) (x := x00) (fun _ => rfl) (j + 1) (qB t p r)
        exact hi.2.2.1 r hr (by omega)
      obtain ⟨g2a, g2b⟩ := g2
      generalize (rg_all (qB t p) (qA t p) (qW t p q low high ld es T.toInt) (3 * t) (j + 1) x00).1 = d at hl g2a g2b
      have f0 := g2a 0 (by omega)
      have hpt := (ho.2.1 t (Nat.le_refl _)).1
      have fp := g2a (p t) hpt
      have tb := g2b (p t)
      have eS : rS t p low high ld es t = (ld (p t)).toInt + (es (p t + 1) 0).toInt := by unfold rS; rw [if_neg (by omega), if_pos rfl]
      have k1 := hk (p t) (by omega)
      have k2 := hE (p t + 1) 0 (by omega) (by omega)
      have a1 : (ld (p t) + es (p t + 1) 0).toInt = rS t p low high ld es t := by rw [eS]; exact Jvm.Kit.i32_add (by omega) (by omega)
      have a2 : (f' (p t) + (ld (p t) + es (p t + 1) 0)).toInt = d (p t) + rS t p low high ld es t := by rw [Jvm.Kit.i32_add (by omega) (by omega), a1, fp]
      by_cases c0 : d 0 = 0
      · have z0 : f' 0 = 0 := by apply Int32.toInt_inj.mp; rw [f0, c0]; rfl
        have pre : ∀ v, Ev2 (fun z fu => if T < f' (p t) + (ld (p t) + es (p t + 1) 0) then lp_MD_fits z (nI t) od ld em pc low high fu 2 T (nI j) 0 0 f' else lp_MD_fits z (nI t) od ld em pc low high fu 2 T (nI j) 1 0 f') v → Ev2 (fun z fu => lp_MD_fits z (nI t) od ld em pc low high fu 1 T (nI j) 0 0 f) v := by
          intro v hv
          refine Ev2.step (fun z fu => sq_MD_fits_1 ..) ?_
          refine Ev2.neg n9 (Ev2.cl g1 (Ev2.pos rfl (Ev2.neg (fun h => h z0) ?_)))
          simp only [nI_clamp (show t < 2 ^ 31 by omega), hod t (Nat.le_refl _), nI_clamp (show p t < 2 ^ 31 by omega)]
          refine Ev2.gdN (by omega) (by decide) (Ev2.gdN (by omega) (by decide) (Ev2.gdN (by omega) (by decide) ?_))
          exact Ev2.cl0 (MD_behind_eq (b := 0) hd (by omega) (by omega)) hv
        by_cases c1 : d (p t) + rS t p low high ld es t ≤ T.toInt
        · have hy := MD_yes hd ho hl c0 c1
          refine ⟨1, f', pre _ (Ev2.neg (by rw [Int32.lt_iff_toInt_lt, a2]; omega) ?_), Or.inr ⟨rfl, d, g2a, hy⟩⟩
          have hlt := (sol_lt hd ho hy.1 c0).1
          exact Ev2.ofEv (fun z fu => by rw [fits_z]; rfl) (MD_fits2y (od := od) (ld := ld) (em := em) (pc := pc) (low := low) (high := high) 0 h5 T (nI j) f' (fun v hv => by rw [g2a v hv]; exact hlt v hv) (t + 1) 0 (by omega))
        · refine ⟨0, f', pre _ (Ev2.pos (by rw [Int32.lt_iff_toInt_lt, a2]; omega) ?_), Or.inl ⟨rfl, MD_no hd ho hl (fun h => c1 h.2)⟩⟩
          exact Ev2.ofEv (fun z fu => by rw [fits_z]; rfl) (MD_fits2n (od := od) (ld := ld) (em := em) (pc := pc) (low := low) (high := high) 0 h5 T (nI j) f' (t + 1) 0 (by omega))
      · refine ⟨0, f', ?_, Or.inl ⟨rfl, MD_no hd ho hl (fun h => c0 h.1)⟩⟩
        refine Ev2.step (fun z fu => sq_MD_fits_1 ..) ?_
        refine Ev2.neg n9 (Ev2.cl g1 (Ev2.pos rfl (Ev2.pos (fun h => c0 ?_) ?_)))
        · rw [← f0, h]; rfl
        · exact Ev2.ofEv (fun z fu => by rw [fits_z]; rfl) (MD_fits2n (od := od) (ld := ld) (em := em) (pc := pc) (low := low) (high := high) 0 h5 T (nI j) f' (t + 1) 0 (by omega))
    · subst en
      obtain ⟨b, f2, u1, u2⟩ := ih (j + 1) f' (by omega) g2 (fun k k1 k2 => by
        by_cases e : k = j + 1
        · subst e; exact hq
        · exact hall k k1 (by omega))
      refine ⟨b, f2, ?_, u2⟩
      refine Ev2.step (fun z fu => sq_MD_fits_1 ..) ?_
      refine Ev2.neg n9 (Ev2.cl g1 (Ev2.neg ne10 ?_))
      rw [nI_1]
      exact u1
theorem MD_fits0 (h5 : t ≤ 5) (T : Int32) {v : Int32 × (Nat → Int32)} : ∀ (m i : Nat) (f : Nat → Int32), i + m = t + 1 → Ev2 (fun z fu => lp_MD_fits z (nI t) od ld em pc low high fu 1 T 0 0 0 (fun j => if i ≤ j ∧ j ≤ t then 0 else f j)) v → Ev2 (fun z fu => lp_MD_fits z (nI t) od ld em pc low high fu 0 T (nI i) 0 0 f) v := by
  intro m
  induction m with
  | zero =>
    intro i f hi hv
    refine Ev2.step (fun z fu => sq_MD_fits_0 ..) ?_
    refine Ev2.pos (nI_lt (by omega) (by omega)) ?_
    have e : (fun j => if i ≤ j ∧ j ≤ t then 0 else f j) = f := by funext j; rw [if_neg (by omega)]
    rw [e] at hv
    exact hv
  | succ m ih =>
    intro i f hi hv
    refine Ev2.step (fun z fu => sq_MD_fits_0 ..) ?_
    refine Ev2.neg (nI_nlt (by omega) (by omega)) (Ev2.gdN (by omega) (by decide) ?_)
    rw [nI_1, nI_clamp (by omega)]
    refine ih (i + 1) _ (by omega) ?_
    have e : (fun j => if i + 1 ≤ j ∧ j ≤ t then 0 else upd f i 0 j) = (fun j => if i ≤ j ∧ j ≤ t then 0 else f j) := by
      funext j
      by_cases h : j = i
      · subst h
        rw [if_neg (by omega), if_pos (by omega)]
        exact pk_us
      · rw [pk_un h]
        by_cases h2 : i + 1 ≤ j ∧ j ≤ t
        · rw [if_pos h2, if_pos (by omega)]
        · rw [if_neg h2, if_neg (by omega)]
    rw [e]
    exact hv
theorem MD_fits_eq (hd : dat t low high ld es em) (ho : ord t p q) (hod : ∀ k, k ≤ t → od k = nI (p k)) (hpc : ∀ i, i ≤ t → pc i = nI (q i)) {T : Int32} (hT0 : 0 ≤ T.toInt) (hT : T.toInt ≤ 2000) (f : Nat → Int32) : ∃ b f', Ev (fun z => fn_MD_fits z T (nI t) f od ld em pc low high) (b, f') ∧ ftR t p q low high ld es T.toInt b f' := by
  obtain ⟨⟨h1, h5⟩, -, -⟩ := id hd
  obtain ⟨b, f', g1, g2⟩ := MD_fits1 hd ho hod hpc hT0 hT 9 0 (fun j => if 0 ≤ j ∧ j ≤ t then 0 else f j) (by omega) ⟨fun v hv => by dsimp only; rw [if_pos ⟨Nat.zero_le _, hv⟩]; rfl, fun v => by show (0 : Int) ≤ 0 ∧ (0 : Int) ≤ _; omega⟩ (fun k k1 k2 => by omega)
  exact ⟨b, f', (MD_fits0 h5 T (t + 1) 0 f (by omega) g1).diag, g2⟩
/-- the places of the moves -/
theorem MD_seatL (h5 : t ≤ 5) (ho : ord t p q) (hod : ∀ k, k ≤ t → od k = nI (p k)) : ∀ (m k : Nat) (g : Nat → Int32), k + m = t + 1 → (∀ j, j < k → g (p j) = nI j) → ∃ g', Ev (fun fu => lp_MD_seat (nI t) od fu 0 (nI k) g) g' ∧ ∀ j, j ≤ t → g' (p j) = nI j := by
  intro m
  induction m with
  | zero =>
    intro k g hk hg
    refine ⟨g, ?_, fun j hj => hg j (by omega)⟩
    refine Ev.step (fun fu => sq_MD_seat_0 ..) ?_
    exact Ev.pos (nI_lt (by omega) (by omega)) (Ev.ret rfl)
  | succ m ih =>
    intro k g hk hg
    have pk := (ho.2.1 k (by omega)).1
    obtain ⟨g', h1, h2⟩ := ih (k + 1) (upd g (p k) (nI k)) (by omega) (fun j hj => by
      by_cases e : j = k
      · subst e; exact pk_us
      · rw [pk_un (fun h => e (ord_inj ho (by omega) (by omega) h))]
        exact hg j (by omega))
    refine ⟨g', ?_, h2⟩
    refine Ev.step (fun fu => sq_MD_seat_0 ..) ?_
    refine Ev.neg (nI_nlt (by omega) (by omega)) ?_
    rw [nI_clamp (by omega), hod k (by omega), nI_clamp (by omega), nI_1]
    exact Ev.gdN (by omega) (by decide) (Ev.gdN (by omega) (by decide) h1)
/-- the answer for an order on the reference's side -/
def loR (t : Nat) (p q : Nat → Nat) (low high ld : Nat → Int32) (es : Nat → Nat → Int32) (lm : Nat) (res : Int32) (f : Nat → Int32) : Prop :=
  (res = -1 ∧ ∀ X : Int, sW (rS t p low high ld es) (t + 1) ≤ X → X ≤ lm → ¬ Feas t p q low high ld es X) ∨
  ∃ T : Nat, res = nI T ∧ sW (rS t p low high ld es) (t + 1) ≤ T ∧ T ≤ lm ∧ (∀ X : Int, sW (rS t p low high ld es) (t + 1) ≤ X → X < T → ¬ Feas t p q low high ld es X) ∧ ∃ d, (∀ v, v ≤ t → (f v).toInt = d v) ∧ lst (3 * t + 1) (rB t p) (rA t p) (rW t p q low high ld es T) d
theorem MD_lo1 (hd : dat t low high ld es em) (ho : ord t p q) (hod : ∀ k, k ≤ t → od k = nI (p k)) (hpc : ∀ i, i ≤ t → pc i = nI (q i)) {lm : Nat} (hlm : lm ≤ 2000) (i2 : Int32) : ∀ (m T : Nat) (f : Nat → Int32), lm + 1 ≤ T + m → T ≤ 4000 → sW (rS t p low high ld es) (t + 1) ≤ T → (∀ X : Int, sW (rS t p low high ld es) (t + 1) ≤ X → X < T → ¬ Feas t p q low high ld es X) →
    ∃ res f', Ev2 (fun z fu => lp_MD_leastOf z (nI t) od ld em low high fu 1 (nI lm) i2 (nI T) pc f) (res, pc, f') ∧ loR t p q low high ld es lm res f' := by
  intro m
  induction m with
  | zero =>
    intro T f hm hT4 hT hX
    refine ⟨-1, f, ?_, Or.inl ⟨rfl, fun X h1 h2 => hX X h1 (by omega)⟩⟩
    refine Ev2.step (fun z fu => sq_MD_leastOf_1 ..) ?_
    exact Ev2.pos (nI_lt (by omega) (by omega)) (Ev2.ret rfl)
  | succ m ih =>
    intro T f hm hT4 hT hX
    by_cases c : lm < T
    · refine ⟨-1, f, ?_, Or.inl ⟨rfl, fun X h1 h2 => hX X h1 (by omega)⟩⟩
      refine Ev2.step (fun z fu => sq_MD_leastOf_1 ..) ?_
      exact Ev2.pos (nI_lt c (by omega)) (Ev2.ret rfl)
    · have eT : (nI T).toInt = T := nI_toInt (by omega)
      obtain ⟨b, f', g1, g2⟩ := MD_fits_eq hd ho hod hpc (T := nI T) (by omega) (by omega) f
      rw [eT] at g2
      rcases g2 with ⟨e, hn⟩ | ⟨e, hy⟩
      · subst e
        obtain ⟨res, f2, k1, k2⟩ := ih (T + 1) f' (by omega) (by omega) (by omega) (fun X x1 x2 => by
          by_cases e : X = T
          · rw [e]; exact hn
          · exact hX X x1 (by omega))
        refine ⟨res, f2, ?_, k2⟩
        refine Ev2.step (fun z fu => sq_MD_leastOf_1 ..) ?_
        refine Ev2.neg (nI_nlt (by omega) (by omega)) (Ev2.cl g1 (Ev2.pos rfl ?_))
        rw [nI_1]
        exact k1
      · subst e
        refine ⟨nI T, f', ?_, Or.inr ⟨T, rfl, hT, by omega, hX, hy⟩⟩
        refine Ev2.step (fun z fu => sq_MD_leastOf_1 ..) ?_
        exact Ev2.neg (nI_nlt (by omega) (by omega)) (Ev2.cl g1 (Ev2.neg ne10 (Ev2.ret rfl)))
theorem MD_lo0 (hd : dat t low high ld es em) (ho : ord t p q) (hod : ∀ k, k ≤ t → od k = nI (p k)) (hpc : ∀ i, i ≤ t → pc i = nI (q i)) {lm : Nat} (hlm : lm ≤ 2000) (f : Nat → Int32) : ∀ (m k : Nat) (rd : Int32), k + m = t + 1 → rd.toInt = sW (rS t p low high ld es) k →
    ∃ res f', Ev2 (fun z fu => lp_MD_leastOf z (nI t) od ld em low high fu 0 (nI lm) rd (nI k) pc f) (res, pc, f') ∧ loR t p q low high ld es lm res f' := by
  obtain ⟨⟨h1, h5⟩, hk, hE⟩ := id hd
  intro m
  induction m with
  | zero =>
    intro k rd hkm hs
    have e : k = t + 1 := by omega
    subst e
    have wb := sW_b (f := rS t p low high ld es) (B := 600) (t + 1) (fun r hr' => by have := rS_b hd ho (r := r) (by omega); omega)
    have fr := sW_ge (f := rS t p low high ld es) (t + 1) (fun r hr' => (rS_b hd ho (r := r) (by omega)).2.2 (by omega))
    have erd : rd = nI rd.toInt.toNat := by
      apply Int32.toInt_inj.mp
      rw [nI_toInt (by omega)]
      omega
    obtain ⟨res, f', g1, g2⟩ := MD_lo1 hd ho hod hpc hlm rd (lm + 1) rd.toInt.toNat f (by omega) (by omega) (by omega) (fun X x1 x2 => by omega)
    refine ⟨res, f', ?_, g2⟩
    refine Ev2.step (fun z fu => sq_MD_leastOf_0 ..) ?_
    refine Ev2.pos (nI_lt (by omega) (by omega)) (Ev2.pos ?_ ?_)
    · rw [Int32.le_iff_toInt_le]
      have : (1 : Int32).toInt = 1 := by decide
      omega
    · rw [← erd] at g1
      exact g1
  | succ m ih =>
    intro k rd hkm hs
    have pk := (ho.2.1 k (by omega)).1
    have wb := sW_b (f := rS t p low high ld es) (B := 600) k (fun r hr' => by have := rS_b hd ho (r := r) (by omega); omega)
    have d1 := hk (p k) (by omega)
    by_cases c : k = t
    · subst c
      have d2 := hE (p k + 1) 0 (by omega) (by omega)
      have eS : rS k p low high ld es k = (ld (p k)).toInt + (es (p k + 1) 0).toInt := by unfold rS; rw [if_neg (by omega), if_pos rfl]
      have w1 : (ld (p k) + es (p k + 1) 0).toInt = rS k p low high ld es k := by rw [Jvm.Kit.i32_add (by omega) (by omega), eS]
      obtain ⟨res, f', g1, g2⟩ := ih (k + 1) (rd + (ld (p k) + es (p k + 1) 0)) (by omega) (by rw [Jvm.Kit.i32_add (by omega) (by omega), hs, w1]; rfl)
      refine ⟨res, f', ?_, g2⟩
      refine Ev2.step (fun z fu => sq_MD_leastOf_0 ..) ?_
      refine Ev2.neg (nI_nlt (by omega) (by omega)) (Ev2.gdN (by omega) (by decide) (Ev2.neg (fun h => h rfl) ?_))
      rw [nI_clamp (by omega), hod k (by omega), nI_1]
      exact Ev2.cl0 (MD_behind_eq (b := 0) hd (by omega) (by omega)) g1
    · have pk1 := (ho.2.1 (k + 1) (by omega)).1
      have d2 := hE (p k + 1) (p (k + 1)) (by omega) (by omega)
      have eS : rS t p low high ld es k = (ld (p k)).toInt + (es (p k + 1) (p (k + 1))).toInt := by unfold rS; rw [if_pos (by omega)]
      have w1 : (ld (p k) + es (p k + 1) (p (k + 1))).toInt = rS t p low high ld es k := by rw [Jvm.Kit.i32_add (by omega) (by omega), eS]
      obtain ⟨res, f', g1, g2⟩ := ih (k + 1) (rd + (ld (p k) + es (p k + 1) (p (k + 1)))) (by omega) (by rw [Jvm.Kit.i32_add (by omega) (by omega), hs, w1]; rfl)
      refine ⟨res, f', ?_, g2⟩
      refine Ev2.step (fun z fu => sq_MD_leastOf_0 ..) ?_
      refine Ev2.neg (nI_nlt (by omega) (by omega)) (Ev2.gdN (by omega) (by decide) (Ev2.pos (fun h => c ((nI_eq (by omega) (by omega)).mp h)) ?_))
      rw [nI_1, nI_clamp (by omega), nI_clamp (by omega), hod k (by omega), hod (k + 1) (by omega)]
      exact Ev2.gdN (by omega) (by decide) (Ev2.cl0 (MD_behind_eq hd (by omega) (by omega)) g1)
theorem MD_leastOf_eq (hd : dat t low high ld es em) (ho : ord t p q) (hod : ∀ k, k ≤ t → od k = nI (p k)) {lm : Nat} (hlm : lm ≤ 2000) (pc f : Nat → Int32) : ∃ res pc' f', Ev (fun z => fn_MD_leastOf z (nI lm) (nI t) od pc ld em f low high) (res, pc', f') ∧ loR t p q low high ld es lm res f' := by
  obtain ⟨⟨h1, h5⟩, -, -⟩ := id hd
  obtain ⟨pc', s1, s2⟩ := MD_seatL h5 ho hod (t + 1) 0 pc (by omega) (fun j hj => absurd hj (Nat.not_lt_zero j))
  have hpc : ∀ i, i ≤ t → pc' i = nI (q i) := fun i hi => by
    have := s2 (q i) (ho.2.2 i hi).1
    rw [(ho.2.2 i hi).2] at this
    exact this
  obtain ⟨res, f', g1, g2⟩ := MD_lo0 hd ho hod hpc hlm f (t + 1) 0 0 (by omega) Int32.toInt_zero
  refine ⟨res, pc', f', ?_, g2⟩
  unfold fn_MD_leastOf
  exact Ev.cl s1 g1.diag
/-- both sides give one answer, and one row of times -/
theorem same_least (hd : dat t low high ld es em) (ho : ord t p q) {lm : Nat} {r1 r2 : Int32} {f1 f2 : Nat → Int32} (hlm : lm ≤ 2000) (h1 : lcR t p q low high ld es lm r1 f1) (h2 : loR t p q low high ld es lm r2 f2) : r1 = r2 ∧ ((r1 = -1) ∨ ∃ T : Nat, r1 = nI T ∧ 2 ≤ T ∧ T ≤ lm ∧ (∀ v, v ≤ t → f1 v = f2 v) ∧ ∃ d, (∀ v, v ≤ t → (f1 v).toInt = d v) ∧ lst (3 * t + 1) (rB t p) (rA t p) (rW t p q low high ld es T) d ∧ sW (rS t p low high ld es) (t + 1) ≤ T) := by
  have feas : ∀ {T : Nat} {d : Nat → Int}, lst (3 * t + 1) (rB t p) (rA t p) (rW t p q low high ld es T) d → Feas t p q low high ld es T := fun h => ⟨_, h.1⟩
  obtain ⟨⟨t1, t5⟩, -, -⟩ := id hd
  have fr := sW_ge (f := rS t p low high ld es) (t + 1) (fun r hr' => (rS_b hd ho (r := r) (by omega)).2.2 (by omega))
  rcases h1 with ⟨a1, a2⟩ | ⟨T1, a1, a2, a3, a4, d1, a5, a6⟩
  · rcases h2 with ⟨b1, b2⟩ | ⟨T2, b1, b2, b3, b4, d2, b5, b6⟩
    · exact ⟨a1.trans b1.symm, Or.inl a1⟩
    · exact absurd (feas b6) (a2 T2 b2 (by omega))
  · rcases h2 with ⟨b1, b2⟩ | ⟨T2, b1, b2, b3, b4, d2, b5, b6⟩
    · exact absurd (feas a6) (b2 T1 a2 (by omega))
    · have e : T1 = T2 := by
        rcases Nat.lt_trichotomy T1 T2 with h | h | h
        · exact absurd (feas a6) (b4 T1 a2 (by omega))
        · exact h
        · exact absurd (feas b6) (a4 T2 b2 (by omega))
      subst e
      refine ⟨a1.trans b1.symm, Or.inr ⟨T1, a1, ?_, a3, fun v hv => ?_, d1, fun v hv => a5 v (by omega), a6, a2⟩⟩
      · omega
      · apply Int32.toInt_inj.mp
        rw [a5 v (by omega), b5 v hv]
        have e1 := a6.2.2 d2 b6.1 b6.2.1 v
        have e2 := b6.2.2 d1 a6.1 a6.2.1 v
        omega
end RG

