/-! plan, on both sides. -/
theorem bt_01 (X : Prop) : bt X = 0 ∨ bt X = 1 := by
  by_cases h : X
  · exact Or.inr (bt_pos h)
  · exact Or.inl (bt_neg h)
theorem MD_soakL {t : Nat} (h5 : t ≤ 5) {p q : Nat → Nat} (ho : ord t p q) {po : Nat → Int32} (hpo : rep t po p) {i : Nat} (hi : i + 1 ≤ t) (cy : Int32) (pt ld : Nat → Int32) : ∀ (m k : Nat), k + m = q i → Ev (fun fu => lp_MD_soakOf (nI t) cy pt ld po fu 0 (nI (i + 1)) (bt (q (i + 1) < k)) (nI k)) (pt (i + 1) - pt i - ld i + (if q (i + 1) < q i then cy else 0)) := by
  have q1 := (ho.2.2 i (by omega))
  have q2 := (ho.2.2 (i + 1) hi)
  have e1 : nI (i + 1) - 1 = nI i := nI_pred i
  intro m
  induction m with
  | zero =>
    intro k hk
    have ek : k = q i := by omega
    subst ek
    refine Ev.step (fun fu => sq_MD_soakOf_0 ..) ?_
    refine Ev.neg (nI_nlt (by omega) (by omega)) (Ev.gdN (by omega) (by decide) ?_)
    rw [nI_clamp (by omega), hpo (q i) q1.1, q1.2, e1, nI_clamp (by omega), nI_clamp (by omega)]
    refine Ev.neg (fun h => h rfl) (Ev.gdN (by omega) (by decide) (Ev.gdN (by omega) (by decide) (Ev.gdN (by omega) (by decide) ?_)))
    by_cases c : q (i + 1) < q i
    · rw [bt_pos c, if_pos c]
      exact Ev.neg ne10 (Ev.ret rfl)
    · rw [bt_neg c, if_neg c]
      exact Ev.pos rfl (Ev.ret rfl)
  | succ m ih =>
    intro k hk
    have nxt := ih (k + 1) (by omega)
    have pk := (ho.2.1 k (by omega))
    refine Ev.step (fun fu => sq_MD_soakOf_0 ..) ?_
    refine Ev.neg (nI_nlt (by omega) (by omega)) (Ev.gdN (by omega) (by decide) ?_)
    rw [nI_clamp (by omega), hpo k (by omega), e1, nI_1]
    refine Ev.pos (fun h => ?_) ?_
    · have := (nI_eq (by omega) (by omega)).mp h
      rw [← this, pk.2] at hk
      omega
    by_cases c : q (i + 1) < k
    · rw [bt_pos c]
      rw [bt_pos (show q (i + 1) < k + 1 by omega)] at nxt
      exact Ev.pos ne10 nxt
    · rw [bt_neg c]
      refine Ev.neg (fun h => h rfl) (Ev.gdN (by omega) (by decide) ?_)
      by_cases e : p k = i + 1
      · have : q (i + 1) = k := by rw [← e]; exact pk.2
        rw [bt_pos (show q (i + 1) < k + 1 by omega)] at nxt
        exact Ev.neg (fun h => h (by rw [e])) nxt
      · have : q (i + 1) ≠ k := fun h => e (by rw [← h]; exact q2.2)
        rw [bt_neg (show ¬ q (i + 1) < k + 1 by omega)] at nxt
        exact Ev.pos (fun h => e ((nI_eq (by omega) (by omega)).mp h)) nxt
theorem num_pair {t : Nat} (h5 : t ≤ 5) {fm po : Nat → Int32} (hp : ∀ k, k ≤ t → fm k = po k) (pl cy : Int32) (pt ld : Nat → Int32) (z : Nat) (i1 i2 i3 th : Int32) : ∀ (m k : Nat) (x : Int32), k + m = t + 1 → ∃ y, Ev (fun fu => lp_OR_number (nI (t + 1)) fm fu 0 x (nI k)) y ∧ Ev2 (fun z fu => lp_MD_plan z (nI t) pl cy po pt ld fu 2 i1 i2 i3 x (nI k) th) (y, th) := by
  intro m
  induction m with
  | zero =>
    intro k x hk
    refine ⟨x, ?_, ?_⟩
    · refine Ev.step (fun fu => sq_OR_number_0 ..) ?_
      exact Ev.pos (nI_le (by omega) (by omega)) (Ev.ret rfl)
    · refine Ev2.step (fun z fu => sq_MD_plan_2 ..) ?_
      exact Ev2.pos (nI_lt (by omega) (by omega)) (Ev2.ret rfl)
  | succ m ih =>
    intro k x hk
    obtain ⟨y, g1, g2⟩ := ih (k + 1) (10 * x + fm k) (by omega)
    refine ⟨y, ?_, ?_⟩
    · refine Ev.step (fun fu => sq_OR_number_0 ..) ?_
      refine Ev.neg (nI_ge (by omega) (by omega)) (Ev.gdN (by omega) (by decide) ?_)
      rw [nI_clamp (by omega), nI_1]
      exact g1
    · refine Ev2.step (fun z fu => sq_MD_plan_2 ..) ?_
      refine Ev2.neg (nI_nlt (by omega) (by omega)) (Ev2.gdN (by omega) (by decide) ?_)
      rw [nI_clamp (by omega), nI_1, ← hp k (by omega)]
      exact g2
def plG (t : Nat) (a1 a2 : Int32) : Prop := ¬ a2 < 0 ∧ ¬ 4 < a2 ∧ (2 < a2 ∨ (¬ a2 = 2 ∧ ¬ a1 < 0 ∧ ¬ nI t < a1) ∨ (a2 = 2 ∧ ¬ a1 < 1 ∧ ¬ nI t < a1))
theorem MD_in_eq (a lo hi : Int32) : fn_MD_in a lo hi = some (bt (¬ a < lo ∧ ¬ hi < a)) := by
  unfold fn_MD_in
  by_cases c1 : a < lo
  · rw [if_pos c1, bt_neg (fun h => h.1 c1)]
  · rw [if_neg c1]
    by_cases c2 : hi < a
    · rw [if_pos c2, bt_neg (fun h => h.2 c2)]
    · rw [if_neg c2, bt_pos ⟨c1, c2⟩]
theorem MD_plan_pre (t : Nat) (a1 a2 th pl cy : Int32) (po pt ld : Nat → Int32) {val} (h : Ev2 (fun z fu => lp_MD_plan z (nI t) pl cy po pt ld fu 0 a1 a2 (bt (plG t a1 a2)) 0 0 th) val) : Ev (fun z => fn_MD_plan z a1 a2 th (nI t) pl cy po pt ld) val := by
  unfold fn_MD_plan
  refine Ev.cl0 (MD_in_eq ..) ?_
  by_cases c1 : ¬ a2 < 0 ∧ ¬ 4 < a2
  · rw [bt_pos c1]
    refine Ev.neg ne10 ?_
    by_cases c2 : 2 < a2
    · rw [bt_pos ⟨c1.1, c1.2, Or.inl c2⟩] at h
      exact Ev.pos c2 h.diag
    · refine Ev.neg c2 ?_
      by_cases c3 : a2 = 2
      · refine Ev.neg (fun q => q c3) (Ev.cl0 (MD_in_eq ..) ?_)
        by_cases c4 : ¬ a1 < 1 ∧ ¬ nI t < a1
        · rw [bt_pos ⟨c1.1, c1.2, Or.inr (Or.inr ⟨c3, c4.1, c4.2⟩)⟩] at h
          rw [bt_pos c4]
          exact Ev.neg ne10 h.diag
        · rw [bt_neg (fun q => by
            rcases q.2.2 with q | q | q
            · exact c2 q
            · exact q.1 c3
            · exact c4 ⟨q.2.1, q.2.2⟩)] at h
          rw [bt_neg c4]
          exact Ev.pos rfl h.diag
      · refine Ev.pos c3 (Ev.cl0 (MD_in_eq ..) ?_)
        by_cases c4 : ¬ a1 < 0 ∧ ¬ nI t < a1
        · rw [bt_pos ⟨c1.1, c1.2, Or.inr (Or.inl ⟨c3, c4.1, c4.2⟩)⟩] at h
          rw [bt_pos c4]
          exact Ev.neg ne10 h.diag
        · rw [bt_neg (fun q => by
            rcases q.2.2 with q | q | q
            · exact c2 q
            · exact c4 ⟨q.2.1, q.2.2⟩
            · exact c3 q.1)] at h
          rw [bt_neg c4]
          exact Ev.pos rfl h.diag
  · rw [bt_neg (fun q => c1 ⟨q.1, q.2.1⟩)] at h
    rw [bt_neg c1]
    exact Ev.pos rfl h.diag
theorem plan_pair {t : Nat} {low high ld : Nat → Int32} {es : Nat → Nat → Int32} {em : Nat → Int32} (hd : dat t low high ld es em) (a1 a2 th pl cyc cn2 mcyc : Int32) (fm fr ft po pt : Nat → Int32) (out : Nat → Int64) (hpl : pl = 0 ∨ (pl = 1 ∧ plR t cyc cn2 fm fr ft mcyc po pt)) :
    ∃ (k b : Int32) (out' : Nat → Int64), Ev (fun z => fn_LW_plan z a1 a2 pl (nI t) cyc cn2 fm ft ld fr out) (k, out') ∧ Ev (fun z => fn_MD_plan z a1 a2 th (nI t) pl mcyc po pt ld) (b, k) ∧ (k = 0 → out' 0 = b.toInt64) := by
  obtain ⟨⟨h1, h5⟩, hk, -⟩ := id hd
  -- an answer r on both sides
  have okX : ∀ r : Int32, Ev (fun z => fn_HP_plan z a1 a2 pl (nI t) cyc cn2 fm ft ld fr) (0, r) → Ev (fun z => fn_LW_plan z a1 a2 pl (nI t) cyc cn2 fm ft ld fr out) (0, vp_updL out 0 r.toInt64) := by
    intro r h
    unfold fn_LW_plan
    exact Ev.cl h (Ev.neg (fun q => q rfl) (Ev.ret rfl))
  have noX : Ev (fun z => fn_HP_plan z a1 a2 pl (nI t) cyc cn2 fm ft ld fr) (2, 0) → Ev (fun z => fn_LW_plan z a1 a2 pl (nI t) cyc cn2 fm ft ld fr out) (2, out) := by
    intro h
    unfold fn_LW_plan
    exact Ev.cl h (Ev.pos (show ¬ (2 : Nat) = 0 by decide) (Ev.neg (show ¬ (2 : Nat) = 1 by decide) (Ev.pos (show (2 : Nat) = 2 from rfl) (Ev.ret rfl))))
  rcases hpl with e | ⟨e, n, q, T, d, hv, ho, t2, t2k, e1, e2, e3, e4, e5, e6, e7, e8, e9, e10⟩
  · subst e
    refine ⟨1, 0, out, ?_, MD_plan_pre t a1 a2 th 0 mcyc po pt ld ?_, fun h => absurd h ne10⟩
    · unfold fn_LW_plan fn_HP_plan fn_HP_requirePlan
      refine Ev.cl (a := (1, 0)) ?_ (Ev.pos (show ¬ (1 : Nat) = 0 by decide) (Ev.pos (show (1 : Nat) = 1 from rfl) (Ev.ret rfl)))
      exact Ev.cl0 (a := 1) (by rw [if_neg (fun h => h rfl)]) (Ev.pos (show ¬ (1 : Nat) = 0 by decide) (Ev.ret rfl))
    · refine Ev2.step (fun z fu => sq_MD_plan_0 ..) ?_
      refine Ev2.neg (fun h => h rfl) (Ev2.cl0 (a := (1, 1)) (by unfold fn_MD_refuse; rw [if_neg ne10]) (Ev2.neg ne10 (Ev2.ret rfl)))
  · subst e
    have req : fn_HP_requirePlan 1 = some 0 := by unfold fn_HP_requirePlan; rw [if_pos ne10]
    have yes : plG t a1 a2 → ∀ b, Ev2 (fun z fu => lp_MD_plan z (nI t) 1 mcyc po pt ld fu 1 a1 a2 1 0 0 0) (b, 0) → Ev (fun z => fn_MD_plan z a1 a2 th (nI t) 1 mcyc po pt ld) (b, 0) := by
      intro hg b hb
      refine MD_plan_pre t a1 a2 th 1 mcyc po pt ld ?_
      rw [bt_pos hg]
      refine Ev2.step (fun z fu => sq_MD_plan_0 ..) ?_
      exact Ev2.pos ne10 (Ev2.pos ne10 (Ev2.cl0 (a := (0, 0)) (by unfold fn_MD_refuse; rw [if_pos rfl, if_pos rfl]) (Ev2.pos rfl hb)))
    have no : ¬ plG t a1 a2 → Ev (fun z => fn_MD_plan z a1 a2 th (nI t) 1 mcyc po pt ld) (0, 2) := by
      intro hg
      refine MD_plan_pre t a1 a2 th 1 mcyc po pt ld ?_
      rw [bt_neg hg]
      refine Ev2.step (fun z fu => sq_MD_plan_0 ..) ?_
      exact Ev2.pos ne10 (Ev2.neg (fun h => h rfl) (Ev2.cl0 (a := (1, 2)) (by unfold fn_MD_refuse; rw [if_pos rfl, if_neg ne10]) (Ev2.neg ne10 (Ev2.ret rfl))))
    have hasM : fn_LY_hasMove a1 (nI t) = some (bt (¬ a1 < 0 ∧ ¬ nI t < a1)) := MD_in_eq a1 0 (nI t)
    have hasT : fn_LY_hasTank a1 (nI t) = some (bt (¬ a1 < 1 ∧ ¬ nI t < a1)) := MD_in_eq a1 1 (nI t)
    have rq1 : fn_HP_require 1 = some 0 := by unfold fn_HP_require; rw [if_pos ne10]
    have rq0 : fn_HP_require 0 = some 2 := by unfold fn_HP_require; rw [if_neg (fun h => h rfl)]
    have d20 : ¬ (2 : Nat) = 0 := by decide
    have d00 : ¬ ¬ (0 : Nat) = 0 := by decide
    by_cases a0 : a2 = 0
    · subst a0
      by_cases c : ¬ a1 < 0 ∧ ¬ nI t < a1
      · obtain ⟨k, -, hkt, rfl⟩ := rng (lo := 0) c.1 c.2 (by decide) (by omega)
        refine ⟨0, po k, _, okX (po k) ?_, yes ⟨by decide, by decide, Or.inr (Or.inl ⟨by decide, c.1, c.2⟩)⟩ _ ?_, fun _ => pk_uLs⟩
        · unfold fn_HP_plan
          rw [bt_pos c] at hasM
          refine Ev.cl0 req (Ev.neg d00 (Ev.pos rfl (Ev.cl0 hasM (Ev.cl0 rq1 (Ev.neg d00 (Ev.gdN (by omega) (by decide) ?_))))))
          rw [nI_clamp (by omega)]
          exact Ev.ret (by rw [e4 k hkt, e5 k hkt])
        · refine Ev2.step (fun z fu => sq_MD_plan_1 ..) ?_
          refine Ev2.pos rfl (Ev2.gdN (by omega) (by decide) ?_)
          rw [nI_clamp (by omega)]
          exact Ev2.ret rfl
      · refine ⟨2, 0, out, noX ?_, no (fun h => ?_), fun h => absurd h (by decide)⟩
        · unfold fn_HP_plan
          rw [bt_neg c] at hasM
          exact Ev.cl0 req (Ev.neg d00 (Ev.pos rfl (Ev.cl0 hasM (Ev.cl0 rq0 (Ev.pos d20 (Ev.ret rfl))))))
        · rcases h.2.2 with h | h | h
          · exact absurd h (by decide)
          · exact c ⟨h.2.1, h.2.2⟩
          · exact absurd h.1 (by decide)
    by_cases a0' : a2 = 1
    · subst a0'
      by_cases c : ¬ a1 < 0 ∧ ¬ nI t < a1
      · obtain ⟨k, -, hkt, rfl⟩ := rng (lo := 0) c.1 c.2 (by decide) (by omega)
        refine ⟨0, pt k, _, okX (pt k) ?_, yes ⟨by decide, by decide, Or.inr (Or.inl ⟨by decide, c.1, c.2⟩)⟩ _ ?_, fun _ => pk_uLs⟩
        · unfold fn_HP_plan
          rw [bt_pos c] at hasM
          refine Ev.cl0 req (Ev.neg d00 (Ev.neg a0 (Ev.pos rfl (Ev.cl0 hasM (Ev.cl0 rq1 (Ev.neg d00 (Ev.gdN (by omega) (by decide) ?_)))))))
          rw [nI_clamp (by omega)]
          exact Ev.ret (by rw [(e7 k hkt).1])
        · refine Ev2.step (fun z fu => sq_MD_plan_1 ..) ?_
          refine Ev2.neg a0 (Ev2.pos rfl (Ev2.gdN (by omega) (by decide) ?_))
          rw [nI_clamp (by omega)]
          exact Ev2.ret rfl
      · refine ⟨2, 0, out, noX ?_, no (fun h => ?_), fun h => absurd h (by decide)⟩
        · unfold fn_HP_plan
          rw [bt_neg c] at hasM
          exact Ev.cl0 req (Ev.neg d00 (Ev.neg a0 (Ev.pos rfl (Ev.cl0 hasM (Ev.cl0 rq0 (Ev.pos d20 (Ev.ret rfl)))))))
        · rcases h.2.2 with h | h | h
          · exact absurd h (by decide)
          · exact c ⟨h.2.1, h.2.2⟩
          · exact absurd h.1 (by decide)
    by_cases a0'' : a2 = 2
    · subst a0''
      by_cases c : ¬ a1 < 1 ∧ ¬ nI t < a1
      · obtain ⟨k, hk1, hkt, rfl⟩ := rng (lo := 1) c.1 c.2 (by decide) (by omega)
        obtain ⟨i, rfl⟩ : ∃ i, k = i + 1 := ⟨k - 1, by omega⟩
        have q1 := ho.2.2 i (by omega)
        have hso := MD_soakL h5 ho e5 hkt mcyc pt ld (q i) 0 (by omega)
        rw [bt_neg (Nat.not_lt_zero _)] at hso
        obtain ⟨o, o1, o2, o3⟩ := OR_turns h5 (fun j hj => ⟨(ho.2.2 j hj).1, e6 j hj⟩) hkt
        refine ⟨0, pt (i + 1) - pt i - ld i + (if q (i + 1) < q i then mcyc else 0), _, okX (pt (i + 1) - pt i - ld i + (if q (i + 1) < q i then mcyc else 0)) ?_, yes ⟨by decide, by decide, Or.inr (Or.inr ⟨rfl, c.1, c.2⟩)⟩ _ ?_, fun _ => pk_uLs⟩
        · unfold fn_HP_plan
          rw [bt_pos c] at hasT
          refine Ev.cl0 req (Ev.neg d00 (Ev.neg a0 (Ev.neg a0' (Ev.pos rfl (Ev.cl0 hasT (Ev.cl0 rq1 (Ev.neg d00 ?_)))))))
          refine Ev.cl0 (a := pt (i + 1) - pt i - ld i + (if q (i + 1) < q i then mcyc else 0)) ?_ (Ev.ret rfl)
          unfold fn_PL_soakSeconds
          have f1 : nI (i + 1) - 1 = nI i := nI_pred i
          rw [f1, nI_clamp (show i < 2 ^ 31 by omega), nI_clamp (show i + 1 < 2 ^ 31 by omega)]
          simp only [ox_gdN (show i < 6 by omega) (show 6 < 2 ^ 31 by decide), ox_gdN (show i + 1 < 6 by omega) (show 6 < 2 ^ 31 by decide), o1, ox_clE]
          congr 1
          have x1 := e7 i (by omega)
          have x2 := e7 (i + 1) hkt
          have x3 := e9 i (by omega)
          have x4 := e9 (i + 1) hkt
          have x5 := hk i (by omega)
          rw [x1.1, x2.1]
          rw [x1.1] at x1
          rw [x2.1] at x2
          have y1 := x1.2
          have y2 := x2.2
          have eT : (nI T).toInt = T := nI_toInt (by omega)
          unfold rO at o2
          by_cases cq : q (i + 1) < q i
          · rw [if_pos cq] at o2 ⊢
            have : o = 1 := by apply Int32.toInt_inj.mp; rw [o2]; decide
            rw [this, Int32.one_mul, e1, e2]
            clear hso okX noX yes no
            (simp only [vp_in_iff, Int32.lt_iff_toInt_lt, Int32.le_iff_toInt_le, ← Int32.toInt_inj, Int32.toInt_add, Int32.toInt_sub, Int32.toInt_neg, Int32.toInt_zero, Int.bmod_def, Int32.reduceToInt, ne_eq] at *; omega)
          · rw [if_neg cq] at o2 ⊢
            have : o = 0 := by apply Int32.toInt_inj.mp; rw [o2]; decide
            rw [this, Int32.zero_mul]
            clear hso okX noX yes no
            (simp only [vp_in_iff, Int32.lt_iff_toInt_lt, Int32.le_iff_toInt_le, ← Int32.toInt_inj, Int32.toInt_add, Int32.toInt_sub, Int32.toInt_neg, Int32.toInt_zero, Int.bmod_def, Int32.reduceToInt, ne_eq] at *; omega)
        · refine Ev2.step (fun z fu => sq_MD_plan_1 ..) ?_
          exact Ev2.neg a0 (Ev2.neg a0' (Ev2.pos rfl (Ev2.cl hso (Ev2.ret rfl))))
      · refine ⟨2, 0, out, noX ?_, no (fun h => ?_), fun h => absurd h (by decide)⟩
        · unfold fn_HP_plan
          rw [bt_neg c] at hasT
          exact Ev.cl0 req (Ev.neg d00 (Ev.neg a0 (Ev.neg a0' (Ev.pos rfl (Ev.cl0 hasT (Ev.cl0 rq0 (Ev.pos d20 (Ev.ret rfl))))))))
        · rcases h.2.2 with h | h | h
          · exact absurd h (by decide)
          · exact absurd rfl h.1
          · exact c ⟨h.2.1, h.2.2⟩
    by_cases a3 : a2 = 3
    · subst a3
      refine ⟨0, mcyc, _, okX mcyc ?_, yes ⟨by decide, by decide, Or.inl (by decide)⟩ _ ?_, fun _ => pk_uLs⟩
      · unfold fn_HP_plan
        exact Ev.cl0 req (Ev.neg d00 (Ev.neg a0 (Ev.neg a0' (Ev.neg a0'' (Ev.pos rfl (Ev.ret (by rw [e1, e2])))))))
      · refine Ev2.step (fun z fu => sq_MD_plan_1 ..) ?_
        exact Ev2.neg a0 (Ev2.neg a0' (Ev2.neg a0'' (Ev2.pos rfl (Ev2.ret rfl))))
    by_cases a4 : a2 = 4
    · subst a4
      obtain ⟨y, g1, g2⟩ := num_pair h5 (fun k hk => (e4 k hk).trans (e5 k hk).symm) 1 mcyc pt ld 0 a1 4 1 0 t 1 0 (by omega)
      refine ⟨0, y, _, okX y ?_, yes ⟨by decide, by decide, Or.inl (by decide)⟩ _ ?_, fun _ => pk_uLs⟩
      · unfold fn_HP_plan fn_OR_number
        rw [e3]
        exact Ev.cl0 req (Ev.neg d00 (Ev.neg a0 (Ev.neg a0' (Ev.neg a0'' (Ev.neg a3 (Ev.pos rfl (Ev.cl g1 (Ev.ret rfl))))))))
      · refine Ev2.step (fun z fu => sq_MD_plan_1 ..) ?_
        exact Ev2.neg a0 (Ev2.neg a0' (Ev2.neg a0'' (Ev2.neg a3 g2)))
    refine ⟨2, 0, out, noX ?_, no (fun h => ?_), fun h => absurd h (by decide)⟩
    · unfold fn_HP_plan
      exact Ev.cl0 req (Ev.neg d00 (Ev.neg a0 (Ev.neg a0' (Ev.neg a0'' (Ev.neg a3 (Ev.neg a4 (Ev.ret rfl)))))))
    · obtain ⟨x, -, hx, rfl⟩ := rng (lo := 0) (hi := 4) h.1 h.2.1 (by decide) (by decide)
      rcases (show x = 0 ∨ x = 1 ∨ x = 2 ∨ x = 3 ∨ x = 4 by omega) with rfl | rfl | rfl | rfl | rfl
      · exact a0 rfl
      · exact a0' rfl
      · exact a0'' rfl
      · exact a3 rfl
      · exact a4 rfl

/-! stop, tank and state, on both sides. -/
theorem rq_1 : fn_HP_requirePlan 1 = some 0 := by unfold fn_HP_requirePlan; rw [if_pos ne10]
theorem rq_0 : fn_HP_requirePlan 0 = some 1 := by unfold fn_HP_requirePlan; rw [if_neg (fun h => h rfl)]
theorem rf_10 (th : Int32) : fn_MD_refuse 1 0 th = some (1, 1) := by unfold fn_MD_refuse; rw [if_neg ne10]
theorem rf_00 (th : Int32) : fn_MD_refuse 0 0 th = some (0, 0) := by unfold fn_MD_refuse; rw [if_pos rfl, if_pos rfl]
theorem rf_01 (th : Int32) : fn_MD_refuse 0 1 th = some (1, 2) := by unfold fn_MD_refuse; rw [if_pos rfl, if_neg ne10]
theorem rr_1 : fn_HP_require 1 = some 0 := by unfold fn_HP_require; rw [if_pos ne10]
theorem rr_0 : fn_HP_require 0 = some 2 := by unfold fn_HP_require; rw [if_neg (fun h => h rfl)]
theorem stop_pair {a : Int32} (ha : a = 0 ∨ a = 1) (pl wst th st : Int32) (hpl : pl = 0 ∨ pl = 1) : (pl = 0 ∧ fn_LW_stop a pl wst = some (1, wst) ∧ fn_MD_stop a th pl st = some (1, st)) ∨ (pl = 1 ∧ fn_LW_stop a pl wst = some (0, a) ∧ fn_MD_stop a th pl st = some (0, a)) := by
  have bg : ∀ {α : Type} (k : Option α), ox_bg a k = k := fun k => if_pos ha
  rcases hpl with rfl | rfl
  · refine Or.inl ⟨rfl, ?_, ?_⟩
    · simp [fn_LW_stop, fn_HP_stop, rq_0, ox_clE]
    · simp [fn_MD_stop, rf_10, ox_clE]
  · refine Or.inr ⟨rfl, ?_, ?_⟩
    · simp [fn_LW_stop, fn_HP_stop, rq_1, ox_clE, bg]
    · simp [fn_MD_stop, rf_00, ox_clE, bg]
theorem tank_pair {t : Nat} (h5 : t ≤ 5) (a pl th : Int32) (ca mc : Nat → Int32) (out : Nat → Int64) (hpl : pl = 0 ∨ (pl = 1 ∧ ∀ i, 1 ≤ i → i ≤ t → ca i = mc i)) :
    ∃ (k b : Int32) (out' : Nat → Int64), fn_LW_tank a pl (nI t) ca out = some (k, out') ∧ fn_MD_tank a th (nI t) pl mc = some (b, k) ∧ (k = 0 → out' 0 = b.toInt64) := by
  have hasT : fn_LY_hasTank a (nI t) = some (bt (¬ a < 1 ∧ ¬ nI t < a)) := MD_in_eq a 1 (nI t)
  rcases hpl with rfl | ⟨rfl, hc⟩
  · refine ⟨1, 0, out, ?_, ?_, fun h => absurd h ne10⟩
    · simp [fn_LW_tank, fn_HP_tank, rq_0, ox_clE]
    · simp [fn_MD_tank, rf_10, ox_clE]
  · by_cases c : ¬ a < 1 ∧ ¬ nI t < a
    · rw [bt_pos c] at hasT
      obtain ⟨k, k1, k2, rfl⟩ := rng (lo := 1) c.1 c.2 (by decide) (by omega)
      refine ⟨0, mc k, vp_updL out 0 (mc k).toInt64, ?_, ?_, fun _ => pk_uLs⟩
      · simp [fn_LW_tank, fn_HP_tank, rq_1, hasT, rr_1, ox_clE, ox_gdN (show k < 6 by omega) (show 6 < 2 ^ 31 by decide), nI_clamp (show k < 2 ^ 31 by omega), hc k k1 k2]
      · have hin : fn_MD_in (nI k) 1 (nI t) = some 1 := by rw [MD_in_eq, bt_pos c]
        simp [fn_MD_tank, hin, rf_00, ox_clE, ox_gdN (show k < 7 by omega) (show 7 < 2 ^ 31 by decide), nI_clamp (show k < 2 ^ 31 by omega)]
    · rw [bt_neg c] at hasT
      refine ⟨2, 0, out, ?_, ?_, fun h => absurd h (by decide)⟩
      · simp [fn_LW_tank, fn_HP_tank, rq_1, hasT, rr_0, ox_clE]
      · have hin : fn_MD_in a 1 (nI t) = some 0 := by rw [MD_in_eq, bt_neg c]
        simp [fn_MD_tank, hin, rf_01, ox_clE]
theorem WK_drL {t : Nat} (h5 : t ≤ 5) (hc : Int32) (ca : Nat → Int32) : ∀ (m k : Nat), k + m = t + 1 → Ev (fun fu => lp_WK_isDrained hc (nI t) ca fu 0 (nI k)) (bt (hc = 0 ∧ ∀ i, k ≤ i → i ≤ t → ca i = 0)) := by
  intro m
  induction m with
  | zero =>
    intro k hk
    refine Ev.step (fun fu => sq_WK_isDrained_0 ..) ?_
    refine Ev.pos (nI_lt (by omega) (by omega)) ?_
    by_cases c : hc = 0
    · rw [bt_pos ⟨c, fun i a b => by omega⟩]
      exact Ev.neg (fun h => h c) (Ev.ret rfl)
    · rw [bt_neg (fun h => c h.1)]
      exact Ev.pos c (Ev.ret rfl)
  | succ m ih =>
    intro k hk
    refine Ev.step (fun fu => sq_WK_isDrained_0 ..) ?_
    refine Ev.neg (nI_nlt (by omega) (by omega)) (Ev.gdN (by omega) (by decide) ?_)
    rw [nI_clamp (by omega), nI_1]
    by_cases c : ca k = 0
    · rw [show bt (hc = 0 ∧ ∀ i, k ≤ i → i ≤ t → ca i = 0) = bt (hc = 0 ∧ ∀ i, k + 1 ≤ i → i ≤ t → ca i = 0) from bt_iff ⟨fun q => ⟨q.1, fun i a b => q.2 i (by omega) b⟩, fun q => ⟨q.1, fun i a b => by
        by_cases e : i = k
        · subst e; exact c
        · exact q.2 i (by omega) b⟩⟩]
      exact Ev.pos c (ih (k + 1) (by omega))
    · rw [bt_neg (fun q => c (q.2 k (Nat.le_refl _) (by omega)))]
      exact Ev.neg c (Ev.ret rfl)
theorem MD_drL {t : Nat} (h5 : t ≤ 5) {ca mc : Nat → Int32} (hc : ∀ i, 1 ≤ i → i ≤ t → ca i = mc i ∧ 0 ≤ (ca i).toInt) (hp se en dn tk mo oh a1 th : Int32) : ∀ (m k : Nat) (x : Int32), k + m = t + 1 → 1 ≤ k → Ev (fun fu => lp_MD_state (nI t) hp se en dn tk mo oh mc fu 1 a1 x (nI k) th) (bt (x = 0 ∧ ∀ i, k ≤ i → i ≤ t → ca i = 0), th) := by
  intro m
  induction m with
  | zero =>
    intro k x hk h1
    refine Ev.step (fun fu => sq_MD_state_1 ..) ?_
    refine Ev.pos (nI_lt (by omega) (by omega)) ?_
    by_cases c : x = 0
    · rw [bt_pos ⟨c, fun i a b => by omega⟩]
      exact Ev.neg (fun h => h c) (Ev.ret rfl)
    · rw [bt_neg (fun h => c h.1)]
      exact Ev.pos c (Ev.ret rfl)
  | succ m ih =>
    intro k x hk h1
    refine Ev.step (fun fu => sq_MD_state_1 ..) ?_
    refine Ev.neg (nI_nlt (by omega) (by omega)) (Ev.gdN (by omega) (by decide) ?_)
    rw [nI_clamp (by omega), nI_1]
    obtain ⟨e1, e2⟩ := hc k h1 (by omega)
    rw [← e1]
    by_cases c : ca k = 0
    · rw [show bt (x = 0 ∧ ∀ i, k ≤ i → i ≤ t → ca i = 0) = bt (x = 0 ∧ ∀ i, k + 1 ≤ i → i ≤ t → ca i = 0) from bt_iff ⟨fun q => ⟨q.1, fun i a b => q.2 i (by omega) b⟩, fun q => ⟨q.1, fun i a b => by
        by_cases e : i = k
        · subst e; exact c
        · exact q.2 i (by omega) b⟩⟩]
      exact Ev.pos (by rw [c]; decide) (ih (k + 1) x (by omega) (by omega))
    · rw [bt_neg (fun q => c (q.2 k (Nat.le_refl _) (by omega)))]
      have nxt := ih (k + 1) 1 (by omega) (by omega)
      rw [bt_neg (fun q => ne10 q.1)] at nxt
      refine Ev.neg (fun q => c ?_) nxt
      rw [Int32.le_iff_toInt_le, Int32.toInt_zero] at q
      apply Int32.toInt_inj.mp
      rw [Int32.toInt_zero]
      omega
theorem state_pair {t s T : Nat} (h5 : t ≤ 5) {p : Nat → Nat} {d : Nat → Int} (a pl th se cs nr st en dn ls hc hm he hd : Int32) (ca et : Nat → Int32) (mse men mdn mtk mst mmo mends moh mbeg : Int32) (mc mb : Nat → Int32) (out : Nat → Int64) (hpl : pl = 0 ∨ (pl = 1 ∧ wkR t s T p d se cs nr st en dn ls hc hm he hd ca et mse men mdn mtk mst mmo mends moh mbeg mc mb)) :
    ∃ (k b : Int32) (out' : Nat → Int64), Ev (fun z => fn_LW_state z a pl se en dn ls hc hm (nI t) ca out) (k, out') ∧ Ev (fun z => fn_MD_state z a th (nI t) pl mse men mdn mtk mmo moh mc) (b, k) ∧ (k = 0 → out' 0 = b.toInt64) := by
  have okX : ∀ r : Int32, Ev (fun z => fn_HP_state z a pl se en dn ls hc hm (nI t) ca) (0, r) → Ev (fun z => fn_LW_state z a pl se en dn ls hc hm (nI t) ca out) (0, vp_updL out 0 r.toInt64) := by
    intro r h
    unfold fn_LW_state
    exact Ev.cl h (Ev.neg (fun q => q rfl) (Ev.ret rfl))
  have d00 : ¬ ¬ (0 : Nat) = 0 := by decide
  rcases hpl with rfl | ⟨rfl, w1, w2, w3, w4, w5, ⟨e, w6, w7, w8⟩, w9, w10, w11, w12, w13, w14, w15⟩
  · refine ⟨1, 0, out, ?_, ?_, fun h => absurd h ne10⟩
    · unfold fn_LW_state fn_HP_state
      refine Ev.cl (a := (1, 0)) ?_ (Ev.pos (show ¬ (1 : Nat) = 0 by decide) (Ev.pos (show (1 : Nat) = 1 from rfl) (Ev.ret rfl)))
      exact Ev.cl0 rq_0 (Ev.pos (show ¬ (1 : Nat) = 0 by decide) (Ev.ret rfl))
    · unfold fn_MD_state
      exact Ev.neg (fun h => h rfl) (Ev.cl0 (rf_10 th) (Ev.neg ne10 (Ev.ret rfl)))
  · by_cases c : ¬ a < 0 ∧ ¬ 6 < a
    · have yes : ∀ b, Ev (fun fu => lp_MD_state (nI t) 1 mse men mdn mtk mmo moh mc fu 0 a 0 0 0) (b, 0) → Ev (fun z => fn_MD_state z a th (nI t) 1 mse men mdn mtk mmo moh mc) (b, 0) := by
        intro b hb
        unfold fn_MD_state
        refine Ev.pos ne10 (Ev.cl0 (MD_in_eq ..) ?_)
        rw [bt_pos c]
        exact Ev.pos ne10 (Ev.cl0 (rf_00 th) (Ev.pos rfl hb))
      obtain ⟨x, -, hx, rfl⟩ := rng (lo := 0) (hi := 6) c.1 c.2 (by decide) (by decide)
      rcases (show x = 0 ∨ x = 1 ∨ x = 2 ∨ x = 3 ∨ x = 4 ∨ x = 5 ∨ x = 6 by omega) with rfl | rfl | rfl | rfl | rfl | rfl | rfl
      · refine ⟨0, mse, _, okX mse ?_, yes mse (Ev.step (fun fu => sq_MD_state_0 ..) ?_), fun _ => pk_uLs⟩
        · unfold fn_HP_state
          exact Ev.cl0 rq_1 (Ev.neg d00 (Ev.pos (by decide) (Ev.ret (by rw [w1, w2]))))
        · exact Ev.pos (by decide) (Ev.ret rfl)
      · refine ⟨0, men, _, okX men ?_, yes men (Ev.step (fun fu => sq_MD_state_0 ..) ?_), fun _ => pk_uLs⟩
        · unfold fn_HP_state
          exact Ev.cl0 rq_1 (Ev.neg d00 (Ev.neg (by decide) (Ev.pos (by decide) (Ev.ret (by rw [w7, w8])))))
        · exact Ev.neg (by decide) (Ev.pos (by decide) (Ev.ret rfl))
      · refine ⟨0, mdn, _, okX mdn ?_, yes mdn (Ev.step (fun fu => sq_MD_state_0 ..) ?_), fun _ => pk_uLs⟩
        · unfold fn_HP_state
          exact Ev.cl0 rq_1 (Ev.neg d00 (Ev.neg (by decide) (Ev.neg (by decide) (Ev.pos (by decide) (Ev.ret (by rw [w9]))))))
        · exact Ev.neg (by decide) (Ev.neg (by decide) (Ev.pos (by decide) (Ev.ret rfl)))
      · refine ⟨0, moh, _, okX moh ?_, yes moh (Ev.step (fun fu => sq_MD_state_0 ..) ?_), fun _ => pk_uLs⟩
        · unfold fn_HP_state
          exact Ev.cl0 rq_1 (Ev.neg d00 (Ev.neg (by decide) (Ev.neg (by decide) (Ev.neg (by decide) (Ev.pos (by decide) (Ev.ret (by rw [w11])))))))
        · exact Ev.neg (by decide) (Ev.neg (by decide) (Ev.neg (by decide) (Ev.pos (by decide) (Ev.ret rfl))))
      · refine ⟨0, mmo, _, okX mmo ?_, yes mmo (Ev.step (fun fu => sq_MD_state_0 ..) ?_), fun _ => pk_uLs⟩
        · unfold fn_HP_state
          exact Ev.cl0 rq_1 (Ev.neg d00 (Ev.neg (by decide) (Ev.neg (by decide) (Ev.neg (by decide) (Ev.neg (by decide) (Ev.pos (by decide) (Ev.ret (by rw [w13]))))))))
        · exact Ev.neg (by decide) (Ev.neg (by decide) (Ev.neg (by decide) (Ev.neg (by decide) (Ev.pos (by decide) (Ev.ret rfl)))))
      · have x1 := WK_drL h5 hc ca t 1 (by omega)
        have x2 := MD_drL h5 (fun i a b => ⟨(w15 i a b).1, (w15 i a b).2.1⟩) 1 mse men mdn mtk mmo moh (nI 5) 0 t 1 moh (by omega) (Nat.le_refl _)
        rw [← w11] at x2
        refine ⟨0, bt (hc = 0 ∧ ∀ i, 1 ≤ i → i ≤ t → ca i = 0), _, okX (bt (hc = 0 ∧ ∀ i, 1 ≤ i → i ≤ t → ca i = 0)) ?_, yes _ (Ev.step (fun fu => sq_MD_state_0 ..) ?_), fun _ => pk_uLs⟩
        · unfold fn_HP_state
          refine Ev.cl0 rq_1 (Ev.neg d00 (Ev.neg (by decide) (Ev.neg (by decide) (Ev.neg (by decide) (Ev.neg (by decide) (Ev.neg (by decide) (Ev.pos (by decide) ?_)))))))
          refine Ev.cl x1 ?_
          by_cases q : hc = 0 ∧ ∀ i, 1 ≤ i → i ≤ t → ca i = 0
          · rw [bt_pos q]
            exact Ev.neg ne10 (Ev.ret rfl)
          · rw [bt_neg q]
            exact Ev.pos rfl (Ev.ret rfl)
        · refine Ev.neg (by decide) (Ev.neg (by decide) (Ev.neg (by decide) (Ev.neg (by decide) (Ev.neg (by decide) (Ev.pos (by decide) ?_)))))
          rw [← w11]
          exact x2
      · refine ⟨0, mtk, _, okX mtk ?_, yes mtk (Ev.step (fun fu => sq_MD_state_0 ..) ?_), fun _ => pk_uLs⟩
        · unfold fn_HP_state
          exact Ev.cl0 rq_1 (Ev.neg d00 (Ev.neg (by decide) (Ev.neg (by decide) (Ev.neg (by decide) (Ev.neg (by decide) (Ev.neg (by decide) (Ev.neg (by decide) (Ev.pos (by decide) (Ev.ret (by rw [w10]))))))))))
        · exact Ev.neg (by decide) (Ev.neg (by decide) (Ev.neg (by decide) (Ev.neg (by decide) (Ev.neg (by decide) (Ev.neg (by decide) (Ev.ret rfl))))))
    · refine ⟨2, 0, out, ?_, ?_, fun h => absurd h (by decide)⟩
      · unfold fn_LW_state fn_HP_state
        refine Ev.cl (a := (2, 0)) ?_ (Ev.pos (show ¬ (2 : Nat) = 0 by decide) (Ev.neg (show ¬ (2 : Nat) = 1 by decide) (Ev.pos (show (2 : Nat) = 2 from rfl) (Ev.ret rfl))))
        refine Ev.cl0 rq_1 (Ev.neg d00 ?_)
        have ne : ∀ x : Nat, x ≤ 6 → ¬ a = nI x := fun x hx e => c ⟨by rw [e]; exact nI_pos (by omega), by rw [e]; exact nI_nlt (a := 6) hx (by decide)⟩
        exact Ev.neg (ne 0 (by omega)) (Ev.neg (ne 1 (by omega)) (Ev.neg (ne 2 (by omega)) (Ev.neg (ne 3 (by omega)) (Ev.neg (ne 4 (by omega)) (Ev.neg (ne 5 (by omega)) (Ev.neg (ne 6 (by omega)) (Ev.ret rfl)))))))
      · unfold fn_MD_state
        refine Ev.pos ne10 (Ev.cl0 (MD_in_eq ..) ?_)
        rw [bt_neg c]
        exact Ev.neg (fun h => h rfl) (Ev.cl0 (rf_01 th) (Ev.neg ne10 (Ev.ret rfl)))

