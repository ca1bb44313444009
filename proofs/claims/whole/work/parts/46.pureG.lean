/-! A second of the line, on both sides. -/
def wkT (se cs nr st en dn ls hc hm he hd cyc tk : Int32) (fm ft ca et ld : Nat → Int32) : Option (Int32 × Int32 × Int32 × Int32 × Int32 × Int32 × Int32 × Int32 × Int32 × Int32 × Int32 × (Nat → Int32) × (Nat → Int32)) :=
  ox_gd nr 6 (ox_gd (fm nr.toNatClampNeg) 6 (
    if ¬ (ft (fm nr.toNatClampNeg).toNatClampNeg) = cs then
      if ¬ (cs + 1) = cyc then some (0, se + 1, cs + 1, nr, en, dn, ls, hc, hm, he, hd, ca, et)
      else some (0, se + 1, 0, nr, en, dn, ls, hc, hm, he, hd, ca, et)
    else
      ox_cl (fn_WK_beginMove (fm nr.toNatClampNeg) se st en hc hm he hd ca et ld) fun (r4, en', hc', hm', he', hd', ca') =>
      if ¬ nr = tk then
        if ¬ (cs + 1) = cyc then ox_bg r4 (some (r4, se + 1, cs + 1, nr + 1, en', dn, ls, hc', hm', he', hd', ca', et))
        else ox_bg r4 (some (r4, se + 1, 0, nr + 1, en', dn, ls, hc', hm', he', hd', ca', et))
      else
        if ¬ (cs + 1) = cyc then ox_bg r4 (some (r4, se + 1, cs + 1, 0, en', dn, ls, hc', hm', he', hd', ca', et))
        else ox_bg r4 (some (r4, se + 1, 0, 0, en', dn, ls, hc', hm', he', hd', ca', et))))
theorem pass_eq (se cs nr st en dn ls hc hm he hd cyc tk : Int32) (fm ft ca et ld : Nat → Int32) : fn_WK_passSecond se cs nr st en dn ls hc hm he hd cyc tk fm ft ca et ld = if hm = -1 then wkT se cs nr st en dn ls hc hm he hd cyc tk fm ft ca et ld else if ¬ hd = se then wkT se cs nr st en dn ls hc hm he hd cyc tk fm ft ca et ld else ox_cl (fn_WK_endMove se dn ls hc hm he tk ca et) fun (dn', ls', hc', hm', ca', et') => wkT se cs nr st en dn' ls' hc' hm' he hd cyc tk fm ft ca' et' ld := rfl
/-- the hoist and the tanks, on both sides -/
def hR (t : Nat) (dn ls hc hm he hd : Int32) (ca et : Nat → Int32) (mdn mtk mmo mends moh mbeg : Int32) (mc mb : Nat → Int32) : Prop :=
  dn = mdn ∧ ls = mtk ∧ hc = moh ∧ 0 ≤ hc.toInt ∧ hm = mmo ∧ (hm = -1 ∨ ∃ x : Nat, x ≤ t ∧ hm = nI x ∧ he = mbeg ∧ hd = mends) ∧ ∀ i, 1 ≤ i → i ≤ t → ca i = mc i ∧ 0 ≤ (ca i).toInt ∧ (ca i ≠ 0 → et i = mb i)
theorem end_pair {t : Nat} (h5 : t ≤ 5) (se : Int32) {dn ls hc hm he hd mdn mtk mmo mends moh mbeg : Int32} {ca et mc mb : Nat → Int32} (h : hR t dn ls hc hm he hd ca et mdn mtk mmo mends moh mbeg mc mb) (hne : hm ≠ -1) :
    ∃ (dn' ls' hc' hm' : Int32) (ca' et' : Nat → Int32) (mc' mb' : Nat → Int32), fn_WK_endMove se dn ls hc hm he (nI t) ca et = some (dn', ls', hc', hm', ca', et') ∧ fn_MD_endMove (nI t) se mdn mtk mmo moh mbeg mc mb = some (dn', ls', hm', hc', mc', mb') ∧ hm' = -1 ∧ hR t dn' ls' hc' hm' he hd ca' et' dn' ls' hm' mends hc' mbeg mc' mb' := by
  obtain ⟨rfl, rfl, rfl, h4, rfl, h6, h7⟩ := h
  rcases h6 with e | ⟨x, hx, rfl, rfl, rfl⟩
  · exact absurd e hne
  by_cases c : x = t
  · subst c
    refine ⟨dn + 1, se - he, 0, -1, ca, et, mc, mb, ?_, ?_, rfl, rfl, rfl, rfl, by decide, rfl, Or.inl rfl, h7⟩
    · unfold fn_WK_endMove fn_WK_freeHoist
      rw [if_neg (fun q => q rfl)]; rfl
    · unfold fn_MD_endMove
      rw [if_neg (fun q => q rfl)]
  · have c1 : ¬ nI x = nI t := fun q => c ((nI_eq (by omega) (by omega)).mp q)
    refine ⟨dn, ls, 0, -1, upd ca (x + 1) hc, upd et (x + 1) he, upd mc (x + 1) hc, upd mb (x + 1) he, ?_, ?_, rfl, rfl, rfl, rfl, by decide, rfl, Or.inl rfl, fun i a b => ?_⟩
    · unfold fn_WK_endMove fn_WK_freeHoist
      rw [if_pos c1, nI_1, ox_gdN (by omega) (by decide), ox_gdN (by omega) (by decide), nI_clamp (by omega)]; rfl
    · unfold fn_MD_endMove
      rw [if_pos c1, nI_1, ox_gdN (by omega) (by decide), ox_gdN (by omega) (by decide), nI_clamp (by omega)]
    · by_cases e : i = x + 1
      · subst e
        rw [pk_us, pk_us, pk_us, pk_us]
        exact ⟨rfl, h4, fun _ => rfl⟩
      · rw [pk_un e, pk_un e, pk_un e, pk_un e]
        exact h7 i a b
theorem begin_pair {t s e : Nat} (h5 : t ≤ 5) (hs : s < 2 ^ 30) (he9 : e ≤ s) {ld : Nat → Int32} {m : Nat} (hm9 : m ≤ t) {st mst : Int32} (hst : st = mst) {dn ls hc hm he hd mdn mtk mmo mends moh mbeg : Int32} {ca et mc mb : Nat → Int32} (h : hR t dn ls hc hm he hd ca et mdn mtk mmo mends moh mbeg mc mb) :
    ∃ (b en' hc' hm' he' hd' mends' mbeg' : Int32) (ca' mc' : Nat → Int32) (e' : Nat), fn_WK_beginMove (nI m) (nI s) st (nI e) hc hm he hd ca et ld = some (b, en', hc', hm', he', hd', ca') ∧ fn_MD_begin (nI m) (nI s) (nI e) mst mmo mends moh mbeg mc mb ld = some (b, en', hm', mends', hc', mbeg', mc') ∧ (b = 0 ∨ b = 1) ∧ en' = nI e' ∧ e' ≤ s + 1 ∧ hR t dn ls hc' hm' he' hd' ca' et mdn mtk hm' mends' hc' mbeg' mc' mb := by
  subst hst
  obtain ⟨rfl, rfl, rfl, h4, rfl, h6, h7⟩ := h
  have bg1 : ∀ {α : Type} (k : Option α), ox_bg 1 k = k := fun k => if_pos (Or.inr rfl)
  have bg0 : ∀ {α : Type} (k : Option α), ox_bg 0 k = k := fun k => if_pos (Or.inl rfl)
  by_cases c : m = 0
  · subst c
    have c0 : ¬ ¬ nI 0 = 0 := fun q => q rfl
    by_cases cs : st = 0
    · refine ⟨1, nI e + 1, nI e + 1, nI 0, nI s, nI s + ld 0, nI s + ld 0, nI s, ca, mc, e + 1, ?_, ?_, Or.inr rfl, nI_1 e, by omega, rfl, rfl, rfl, ?_, rfl, Or.inr ⟨0, Nat.zero_le _, rfl, rfl, rfl⟩, h7⟩
      · unfold fn_WK_beginMove fn_WK_takeNext
        rw [if_neg c0, if_pos cs, ox_clE]
        show (if (1 : Int32) = 0 then _ else _) = _
        rw [if_neg ne10, ox_gdN (by omega) (by decide), bg1, nI_clamp (by decide)]
      · unfold fn_MD_begin
        rw [if_neg c0, if_pos cs, ox_gdN (by omega) (by decide), nI_clamp (by decide)]
      · rw [nI_1, nI_toInt (by omega)]; omega
    · refine ⟨0, nI e, hc, hm, he, hd, mends, mbeg, ca, mc, e, ?_, ?_, Or.inl rfl, rfl, by omega, rfl, rfl, rfl, h4, rfl, h6, h7⟩
      · unfold fn_WK_beginMove fn_WK_takeNext
        rw [if_neg c0, if_neg cs, ox_clE]
        show (if (0 : Int32) = 0 then _ else _) = _
        rw [if_pos rfl, bg0]
      · unfold fn_MD_begin
        rw [if_neg c0, if_neg cs]
  · have c0 : ¬ nI m = 0 := nI_ne0 (by omega) (by omega)
    obtain ⟨x1, x2, x3⟩ := h7 m (by omega) hm9
    by_cases cc : ca m = 0
    · have cc' : mc m = 0 := by rw [← x1]; exact cc
      refine ⟨0, nI e, hc, hm, he, hd, mends, mbeg, ca, mc, e, ?_, ?_, Or.inl rfl, rfl, by omega, rfl, rfl, rfl, h4, rfl, h6, h7⟩
      · unfold fn_WK_beginMove fn_WK_takeFromTank
        rw [if_pos c0, ox_gdN (by omega) (by decide), nI_clamp (by omega), if_neg (fun q => q cc), ox_clE]
        show (if (0 : Int32) = 0 then _ else _) = _
        rw [if_pos rfl, bg0]
      · unfold fn_MD_begin
        rw [if_pos c0, ox_gdN (by omega) (by decide), nI_clamp (by omega), if_neg (fun q => q cc')]
    · have cc' : ¬ mc m = 0 := by rw [← x1]; exact cc
      refine ⟨1, nI e, ca m, nI m, et m, nI s + ld m, nI s + ld m, mb m, upd ca m 0, upd mc m 0, e, ?_, ?_, Or.inr rfl, rfl, by omega, rfl, rfl, rfl, x2, rfl, Or.inr ⟨m, hm9, rfl, x3 cc, rfl⟩, fun i a b => ?_⟩
      · unfold fn_WK_beginMove fn_WK_takeFromTank
        rw [if_pos c0, ox_gdN (by omega) (by decide), nI_clamp (by omega), if_pos cc, ox_gdN (by omega) (by decide), ox_gdN (by omega) (by decide), ox_gdN (by omega) (by decide), ox_clE]
        show (if (1 : Int32) = 0 then _ else _) = _
        rw [if_neg ne10, ox_gdN (by omega) (by decide), bg1]
      · unfold fn_MD_begin
        rw [if_pos c0, ox_gdN (by omega) (by decide), nI_clamp (by omega), if_pos cc', ox_gdN (by omega) (by decide), ox_gdN (by omega) (by decide), ox_gdN (by omega) (by decide), ox_gdN (by omega) (by decide), x1]
      · by_cases ei : i = m
        · subst ei
          rw [pk_us, pk_us]
          exact ⟨rfl, by decide, fun q => absurd rfl q⟩
        · rw [pk_un ei, pk_un ei]
          exact h7 i a b
theorem sec_mod {s T : Nat} (hT : 2 ≤ T) : (s + 1) % T = if s % T + 1 = T then 0 else s % T + 1 := by
  have h1 : s % T < T := Nat.mod_lt _ (by omega)
  have h2 : (s + 1) % T = (s % T + 1) % T := by rw [Nat.add_mod, Nat.mod_eq_of_lt (show 1 < T by omega)]
  rw [h2]
  split
  · rename_i e; rw [e, Nat.mod_self]
  · exact Nat.mod_eq_of_lt (by omega)
theorem d_up {t : Nat} {p : Nat → Nat} {d : Nat → Int} (hu : ∀ k, k < t → d (p k) < d (p (k + 1))) : ∀ (j k : Nat), k + j + 1 ≤ t → d (p k) < d (p (k + j + 1))
  | 0, k, h => hu k (by omega)
  | j + 1, k, h => by
    have h1 := d_up hu j k (by omega)
    have h2 := hu (k + j + 1) (by omega)
    have e : k + (j + 1) + 1 = k + j + 1 + 1 := by omega
    rw [e]
    omega
theorem d_lt {t : Nat} {p : Nat → Nat} {d : Nat → Int} (hu : ∀ k, k < t → d (p k) < d (p (k + 1))) {a b : Nat} (hab : a < b) (hb : b ≤ t) : d (p a) < d (p b) := by
  have := d_up hu (b - a - 1) a (by omega)
  rw [show a + (b - a - 1) + 1 = b by omega] at this
  exact this
/-- where no move begins -/
theorem nr_stay {t s T r : Nat} (hT : 2 ≤ T) {p : Nat → Nat} {d : Nat → Int} (hu : ∀ k, k < t → d (p k) < d (p (k + 1))) (hb : ∀ j, j ≤ t → 0 ≤ d (p j) ∧ d (p j) < T) (h : nrR t p d (s % T : Nat) r) (hne : d (p r) ≠ (s % T : Nat)) : nrR t p d ((s + 1) % T : Nat) r := by
  obtain ⟨hr, h⟩ := h
  have hm : s % T < T := Nat.mod_lt _ (by omega)
  rw [sec_mod hT]
  refine ⟨hr, ?_⟩
  rcases h with ⟨h1, h2⟩ | ⟨h1, h2⟩
  · have x1 := h2 r (Nat.le_refl _) hr
    have x2 := hb r hr
    have ne : ¬ s % T + 1 = T := by omega
    rw [if_neg ne]
    refine Or.inl ⟨fun j hj => by have := h1 j hj; omega, fun j a b => ?_⟩
    by_cases e : j = r
    · subst e; omega
    · have := d_lt hu (show r < j by omega) b
      omega
  · subst h1
    split
    · exact Or.inl ⟨fun j hj => absurd hj (Nat.not_lt_zero j), fun j _ b => by have := hb j b; omega⟩
    · exact Or.inr ⟨rfl, fun j hj => by have := h2 j hj; omega⟩
/-- where the move at rank r is due -/
theorem nr_next {t s T r : Nat} (hT : 2 ≤ T) {p : Nat → Nat} {d : Nat → Int} (hu : ∀ k, k < t → d (p k) < d (p (k + 1))) (hb : ∀ j, j ≤ t → 0 ≤ d (p j) ∧ d (p j) < T) (hr : r ≤ t) (he : d (p r) = (s % T : Nat)) : nrR t p d ((s + 1) % T : Nat) (if r = t then 0 else r + 1) := by
  have hm : s % T < T := Nat.mod_lt _ (by omega)
  rw [sec_mod hT]
  by_cases c : r = t
  · rw [if_pos c]
    subst c
    refine ⟨Nat.zero_le _, ?_⟩
    split
    · exact Or.inl ⟨fun j hj => absurd hj (Nat.not_lt_zero j), fun j _ b => by have := hb j b; omega⟩
    · refine Or.inr ⟨rfl, fun j hj => ?_⟩
      by_cases e : j = r
      · subst e; omega
      · have := d_lt hu (show j < r by omega) (Nat.le_refl _)
        omega
  · rw [if_neg c]
    have x1 := d_lt hu (show r < r + 1 by omega) (by omega)
    have x2 := hb (r + 1) (by omega)
    have ne : ¬ s % T + 1 = T := by omega
    rw [if_neg ne]
    refine ⟨by omega, Or.inl ⟨fun j hj => ?_, fun j a b => ?_⟩⟩
    · by_cases e : j = r
      · subst e; omega
      · have := d_lt hu (show j < r by omega) (by omega)
        omega
    · by_cases e : j = r + 1
      · subst e; omega
      · have := d_lt hu (show r + 1 < j by omega) b
        omega
/-- only the move at the next rank can be due -/
theorem nr_only {t s T r : Nat} {p : Nat → Nat} {d : Nat → Int} (hu : ∀ k, k < t → d (p k) < d (p (k + 1))) (h : nrR t p d (s % T : Nat) r) {j : Nat} (hj : j ≤ t) (he : d (p j) = (s % T : Nat)) : j = r := by
  obtain ⟨hr, h⟩ := h
  rcases h with ⟨h1, h2⟩ | ⟨h1, h2⟩
  · rcases Nat.lt_trichotomy j r with q | q | q
    · have := h1 j q; omega
    · exact q
    · have a := d_lt hu q hj
      have b := h2 r (Nat.le_refl _) hr
      omega
  · have := h2 j hj; omega

/-! run, on both sides. -/
theorem Ev.nz {α : Type} {y : Int32} {f : Nat → Option α} {v : α} (hc : ¬ y = 0) (h : Ev f v) : Ev (fun z => ox_nz y (f z)) v := Ev.congr (fun z => if_neg hc) h
theorem MD_runSkip {t s T : Nat} (h5 : t ≤ 5) (hT : 2 ≤ T) (hT2 : T ≤ 2000) (hs : s < 2 ^ 30) {pt ld : Nat → Int32} (hp st i1 i2 i3 th en dn tk mo ends oh beg : Int32) (mc mb : Nat → Int32) {v} {k2 : Nat} : ∀ (m k : Nat), k + m = k2 → (∀ i, k ≤ i → i < k2 → i ≤ t ∧ pt i ≠ nI (s % T)) → Ev (fun fu => lp_MD_run (nI t) hp (nI T) st pt ld fu 1 i1 i2 i3 (nI k2) th (nI s) en dn tk mo ends oh beg mc mb) v → Ev (fun fu => lp_MD_run (nI t) hp (nI T) st pt ld fu 1 i1 i2 i3 (nI k) th (nI s) en dn tk mo ends oh beg mc mb) v := by
  intro m
  induction m with
  | zero =>
    intro k hk _ h
    rw [show k = k2 by omega]
    exact h
  | succ m ih =>
    intro k hk hn h
    obtain ⟨a1, a2⟩ := hn k (Nat.le_refl _) (by omega)
    refine Ev.step (fun fu => sq_MD_run_1 ..) ?_
    rw [nI_mod (by omega) (by omega) (by omega), nI_clamp (by omega)]
    simp only [nI_1]
    exact Ev.neg (nI_nlt a1 (by omega)) (Ev.gdN (by omega) (by decide) (Ev.nz (nI_ne0 (by omega) (by omega)) (Ev.pos a2 (ih (k + 1) (by omega) (fun i a b => hn i (by omega) b) h))))
theorem tail_pair {t s T r e : Nat} (h5 : t ≤ 5) (hT : 2 ≤ T) (hT2 : T ≤ 2000) (hs : s < 2 ^ 29) (he9 : e ≤ s) {p q : Nat → Nat} {d : Nat → Int} (ho : ord t p q) (hu : ∀ k, k < t → d (p k) < d (p (k + 1))) (hb : ∀ v, v ≤ t → 0 ≤ d v ∧ d v < T) {fm ft pt ld : Nat → Int32} (hfm : rep t fm p) (hft : ∀ v, v ≤ t → ft v = pt v ∧ (ft v).toInt = d v) (hnr : nrR t p d (s % T : Nat) r) (st hp : Int32) {dn ls hc hm he hd mdn mtk mmo mends moh mbeg : Int32} {ca et mc mb : Nat → Int32} (h : hR t dn ls hc hm he hd ca et mdn mtk mmo mends moh mbeg mc mb) :
    ∃ (b hc' hm' he' hd' mends' mbeg' : Int32) (ca' mc' : Nat → Int32) (e' r' : Nat), wkT (nI s) (nI (s % T)) (nI r) st (nI e) dn ls hc hm he hd (nI T) (nI t) fm ft ca et ld = some (b, nI (s + 1), nI ((s + 1) % T), nI r', nI e', dn, ls, hc', hm', he', hd', ca', et) ∧ (b = 0 ∨ b = 1) ∧
      (∀ (i1 i2 i3 th : Int32) v, Ev (fun fu => lp_MD_run (nI t) hp (nI T) st pt ld fu 0 i1 (if b = 0 then i2 else i2 + 1) (i3 + 1) 0 th (nI (s + 1)) (nI e') mdn mtk hm' mends' hc' mbeg' mc' mb) v → Ev (fun fu => lp_MD_run (nI t) hp (nI T) st pt ld fu 1 i1 i2 i3 0 th (nI s) (nI e) mdn mtk mmo mends moh mbeg mc mb) v) ∧
      hR t dn ls hc' hm' he' hd' ca' et mdn mtk hm' mends' hc' mbeg' mc' mb ∧ e' ≤ s + 1 ∧ nrR t p d ((s + 1) % T : Nat) r' := by
  have hr := hnr.1
  have pr := ho.2.1 r hr
  have hmT : s % T < T := Nat.mod_lt _ (by omega)
  have hbp : ∀ j, j ≤ t → 0 ≤ d (p j) ∧ d (p j) < T := fun j hj => hb _ (ho.2.1 j hj).1
  have hcs : (if s % T + 1 = T then (0 : Int32) else nI (s % T + 1)) = nI ((s + 1) % T) := by
    rw [sec_mod hT]
    split
    · rfl
    · rfl
  have eqv : ∀ v, v ≤ t → (ft v = nI (s % T) ↔ d v = (s % T : Nat)) := fun v hv => by
    rw [← Int32.toInt_inj, (hft v hv).2, nI_toInt (by omega)]
  -- the reference goes through all moves but the one that is due
  have fin : ∀ (i1 i2 i3 th : Int32) (en dn tk mo ends oh beg : Int32) (mc mb : Nat → Int32) v, Ev (fun fu => lp_MD_run (nI t) hp (nI T) st pt ld fu 0 i1 i2 (i3 + 1) 0 th (nI (s + 1)) en dn tk mo ends oh beg mc mb) v → Ev (fun fu => lp_MD_run (nI t) hp (nI T) st pt ld fu 1 i1 i2 i3 (nI (t + 1)) th (nI s) en dn tk mo ends oh beg mc mb) v := by
    intro i1 i2 i3 th en dn tk mo ends oh beg mc mb v hv
    refine Ev.step (fun fu => sq_MD_run_1 ..) ?_
    simp only [nI_1]
    exact Ev.pos (nI_lt (by omega) (by omega)) hv
  by_cases c : d (p r) = (s % T : Nat)
  · obtain ⟨b, en', hc', hm', he', hd', mends', mbeg', ca', mc', e', g1, g2, g3, g4, g5, g6⟩ := begin_pair (s := s) (e := e) (ld := ld) h5 (by omega) he9 pr.1 (st := st) rfl h
    refine ⟨b, hc', hm', he', hd', mends', mbeg', ca', mc', e', (if r = t then 0 else r + 1), ?_, g3, fun i1 i2 i3 th v hv => ?_, g6, g5, nr_next hT hu hbp hr c⟩
    · unfold wkT
      rw [ox_gdN (by omega) (by decide), nI_clamp (by omega), hfm r hr, ox_gdN (by omega) (by decide), nI_clamp (by omega), if_neg (fun q => q ((eqv _ pr.1).mpr c)), g1, ox_clE]
      dsimp only
      have bg : ∀ {α : Type} (k : Option α), ox_bg b k = k := fun k => if_pos g3
      rw [bg, bg, bg, bg, nI_1, nI_1, nI_1, g4]
      by_cases c1 : r = t
      · subst c1
        rw [if_neg (fun q => q rfl), if_pos rfl]
        by_cases c2 : s % T + 1 = T
        · rw [if_pos c2] at hcs
          rw [if_neg (fun q => q (by rw [c2])), ← hcs]; rfl
        · rw [if_neg c2] at hcs
          rw [if_pos (fun q => c2 ((nI_eq (by omega) (by omega)).mp q)), ← hcs]; rfl
      · rw [if_pos (fun q => c1 ((nI_eq (by omega) (by omega)).mp q)), if_neg c1]
        by_cases c2 : s % T + 1 = T
        · rw [if_pos c2] at hcs
          rw [if_neg (fun q => q (by rw [c2])), ← hcs]
        · rw [if_neg c2] at hcs
          rw [if_pos (fun q => c2 ((nI_eq (by omega) (by omega)).mp q)), ← hcs]
    · have other : ∀ i, i ≤ t → i ≠ p r → pt i ≠ nI (s % T) := fun i hi hne q9 => by
        rw [← (hft i hi).1] at q9
        have q8 := (eqv i hi).mp q9
        have qi := ho.2.2 i hi
        have := nr_only hu hnr qi.1 (by rw [qi.2]; exact q8)
        exact hne (by rw [← this]; exact qi.2.symm)
      refine MD_runSkip (k2 := p r) h5 hT hT2 (by omega) hp st i1 i2 i3 th (nI e) mdn mtk mmo mends moh mbeg mc mb (p r) 0 (by omega) (fun i a b => ⟨by omega, other i (by omega) (by omega)⟩) ?_
      refine Ev.step (fun fu => sq_MD_run_1 ..) ?_
      rw [nI_mod (by omega) (by omega) (by omega), nI_clamp (by omega)]
      simp only [nI_1]
      refine Ev.neg (nI_nlt pr.1 (by omega)) (Ev.gdN (by omega) (by decide) (Ev.nz (nI_ne0 (by omega) (by omega)) (Ev.neg (fun q9 => q9 (by rw [← (hft _ pr.1).1]; exact (eqv _ pr.1).mpr c)) (Ev.cl0 g2 ?_))))
      have rest : ∀ i2', Ev (fun fu => lp_MD_run (nI t) hp (nI T) st pt ld fu 0 i1 i2' (i3 + 1) 0 th (nI (s + 1)) en' mdn mtk hm' mends' hc' mbeg' mc' mb) v → Ev (fun fu => lp_MD_run (nI t) hp (nI T) st pt ld fu 1 i1 i2' i3 (nI (p r + 1)) th (nI s) en' mdn mtk hm' mends' hc' mbeg' mc' mb) v := fun i2' h9 =>
        MD_runSkip (k2 := t + 1) h5 hT hT2 (by omega) hp st i1 i2' i3 th en' mdn mtk hm' mends' hc' mbeg' mc' mb (t + 1 - (p r + 1)) (p r + 1) (by omega) (fun i a b => ⟨by omega, other i (by omega) (by omega)⟩) (fin i1 i2' i3 th en' mdn mtk hm' mends' hc' mbeg' mc' mb v h9)
      rw [← g4] at hv
      rcases g3 with e0 | e0
      · subst e0
        exact Ev.pos rfl (rest i2 hv)
      · subst e0
        exact Ev.neg ne10 (rest (i2 + 1) hv)
  · have ne : ¬ ft (p r) = nI (s % T) := fun q9 => c ((eqv _ pr.1).mp q9)
    obtain ⟨rfl, rfl, rfl, h4, rfl, h6, h7⟩ := h
    refine ⟨0, hc, hm, he, hd, mends, mbeg, ca, mc, e, r, ?_, Or.inl rfl, fun i1 i2 i3 th v hv => ?_, ⟨rfl, rfl, rfl, h4, rfl, h6, h7⟩, by omega, nr_stay hT hu hbp hnr c⟩
    · unfold wkT
      rw [ox_gdN (by omega) (by decide), nI_clamp (by omega), hfm r hr, ox_gdN (by omega) (by decide), nI_clamp (by omega), if_pos ne, nI_1, nI_1]
      by_cases c2 : s % T + 1 = T
      · rw [if_pos c2] at hcs
        rw [if_neg (fun q => q (by rw [c2])), ← hcs]
      · rw [if_neg c2] at hcs
        rw [if_pos (fun q => c2 ((nI_eq (by omega) (by omega)).mp q)), ← hcs]
    · refine MD_runSkip (k2 := t + 1) h5 hT hT2 (by omega) hp st i1 i2 i3 th (nI e) dn ls hm mends hc mbeg mc mb (t + 1) 0 (by omega) (fun i a b => ⟨by omega, fun q9 => ?_⟩) (fin i1 i2 i3 th (nI e) dn ls hm mends hc mbeg mc mb v hv)
      rw [← (hft i (by omega)).1] at q9
      have q8 := (eqv i (by omega)).mp q9
      have qi := ho.2.2 i (by omega)
      have e9 := nr_only hu hnr qi.1 (by rw [qi.2]; exact q8)
      rw [← e9, qi.2] at c
      exact c q8

section RN
variable {t T : Nat} {p q : Nat → Nat} {d : Nat → Int} {fm ft pt ld : Nat → Int32}
theorem sec_pair {s : Nat} (h5 : t ≤ 5) (hT : 2 ≤ T) (hT2 : T ≤ 2000) (hs : s < 2 ^ 29) (ho : ord t p q) (hu : ∀ k, k < t → d (p k) < d (p (k + 1))) (hb : ∀ v, v ≤ t → 0 ≤ d v ∧ d v < T) (hfm : rep t fm p) (hft : ∀ v, v ≤ t → ft v = pt v ∧ (ft v).toInt = d v) (hp : Int32) {se cs nr st en dn ls hc hm he hd mse men mdn mtk mst mmo mends moh mbeg : Int32} {ca et mc mb : Nat → Int32} (hw : wkR t s T p d se cs nr st en dn ls hc hm he hd ca et mse men mdn mtk mst mmo mends moh mbeg mc mb) :
    ∃ (b cs' nr' en' dn' ls' hc' hm' he' hd' mends' mbeg' : Int32) (ca' et' mc' mb' : Nat → Int32), fn_WK_passSecond se cs nr st en dn ls hc hm he hd (nI T) (nI t) fm ft ca et ld = some (b, nI (s + 1), cs', nr', en', dn', ls', hc', hm', he', hd', ca', et') ∧ (b = 0 ∨ b = 1) ∧
      (∀ (i1 i2 i3 th : Int32) v, ¬ i1 ≤ i3 → Ev (fun fu => lp_MD_run (nI t) hp (nI T) mst pt ld fu 0 i1 (if b = 0 then i2 else i2 + 1) (i3 + 1) 0 th (nI (s + 1)) en' dn' ls' hm' mends' hc' mbeg' mc' mb') v → Ev (fun fu => lp_MD_run (nI t) hp (nI T) mst pt ld fu 0 i1 i2 i3 0 th mse men mdn mtk mmo mends moh mbeg mc mb) v) ∧
      wkR t (s + 1) T p d (nI (s + 1)) cs' nr' st en' dn' ls' hc' hm' he' hd' ca' et' (nI (s + 1)) en' dn' ls' mst hm' mends' hc' mbeg' mc' mb' := by
  obtain ⟨rfl, rfl, rfl, ⟨r, rfl, hnr⟩, ⟨rfl, hst⟩, ⟨e, he9, rfl, rfl⟩, w9, w10, w11, w12, w13, w14, w15⟩ := hw
  have h0 : hR t dn ls hc hm he hd ca et mdn mtk mmo mends moh mbeg mc mb := ⟨w9, w10, w11, w12, w13, w14, w15⟩
  by_cases c : hm = -1
  · obtain ⟨b, hc', hm', he', hd', mends', mbeg', ca', mc', e', r', g1, g2, g3, g4, g5, g6⟩ := tail_pair (ld := ld) h5 hT hT2 hs he9 ho hu hb hfm hft hnr st hp h0
    obtain ⟨x1, x2, x3, x4, x5, x6, x7⟩ := g4
    refine ⟨b, _, _, _, dn, ls, hc', hm', he', hd', mends', mbeg', ca', et, mc', mb, by rw [pass_eq, if_pos c]; exact g1, g2, fun i1 i2 i3 th v hi hv => ?_, rfl, rfl, rfl, ⟨r', rfl, g6⟩, ⟨rfl, hst⟩, ⟨e', g5, rfl, rfl⟩, rfl, rfl, rfl, x4, rfl, x6, x7⟩
    refine Ev.step (fun fu => sq_MD_run_0 ..) ?_
    refine Ev.neg hi (Ev.pos (by rw [← w13, c]; decide) (g3 i1 i2 i3 th v ?_))
    rw [← x1, ← x2]
    exact hv
  · have w14' := w14.resolve_left c
    obtain ⟨x, hx, hxm, hhe, hhd⟩ := w14'
    have mpos : ¬ mmo < 0 := by rw [← w13, hxm]; exact nI_pos (by omega)
    by_cases c2 : hd = nI s
    · obtain ⟨dnA, lsA, hcA, hmA, caA, etA, mcA, mbA, k1, k2, k3, k4⟩ := end_pair h5 (nI s) h0 c
      obtain ⟨b, hc', hm', he', hd', mends', mbeg', ca', mc', e', r', g1, g2, g3, g4, g5, g6⟩ := tail_pair (ld := ld) h5 hT hT2 hs he9 ho hu hb hfm hft hnr st hp k4
      obtain ⟨x1, x2, x3, x4, x5, x6, x7⟩ := g4
      refine ⟨b, _, _, _, dnA, lsA, hc', hm', he', hd', mends', mbeg', ca', etA, mc', mbA, by rw [pass_eq, if_neg c, if_neg (fun q9 => q9 c2), k1]; exact g1, g2, fun i1 i2 i3 th v hi hv => ?_, rfl, rfl, rfl, ⟨r', rfl, g6⟩, ⟨rfl, hst⟩, ⟨e', g5, rfl, rfl⟩, rfl, rfl, rfl, x4, rfl, x6, x7⟩
      refine Ev.step (fun fu => sq_MD_run_0 ..) ?_
      refine Ev.neg hi (Ev.neg mpos (Ev.neg (fun q9 => q9 (by rw [← hhd]; exact c2.symm)) (Ev.cl0 k2 (g3 i1 i2 i3 th v hv))))
    · obtain ⟨b, hc', hm', he', hd', mends', mbeg', ca', mc', e', r', g1, g2, g3, g4, g5, g6⟩ := tail_pair (ld := ld) h5 hT hT2 hs he9 ho hu hb hfm hft hnr st hp h0
      obtain ⟨x1, x2, x3, x4, x5, x6, x7⟩ := g4
      refine ⟨b, _, _, _, dn, ls, hc', hm', he', hd', mends', mbeg', ca', et, mc', mb, by rw [pass_eq, if_neg c, if_pos c2]; exact g1, g2, fun i1 i2 i3 th v hi hv => ?_, rfl, rfl, rfl, ⟨r', rfl, g6⟩, ⟨rfl, hst⟩, ⟨e', g5, rfl, rfl⟩, rfl, rfl, rfl, x4, rfl, x6, x7⟩
      refine Ev.step (fun fu => sq_MD_run_0 ..) ?_
      refine Ev.neg hi (Ev.neg mpos (Ev.pos (fun q9 => c2 (by rw [hhd]; exact q9.symm)) (g3 i1 i2 i3 th v ?_)))
      rw [← x1, ← x2]
      exact hv
theorem runL {n : Nat} (h5 : t ≤ 5) (hT : 2 ≤ T) (hT2 : T ≤ 2000) (hn : n ≤ 5000) (ho : ord t p q) (hu : ∀ k, k < t → d (p k) < d (p (k + 1))) (hb : ∀ v, v ≤ t → 0 ≤ d v ∧ d v < T) (hfm : rep t fm p) (hft : ∀ v, v ≤ t → ft v = pt v ∧ (ft v).toInt = d v) (pl hp th st mst : Int32) : ∀ (m k s : Nat) (x se cs nr en dn ls hc hm he hd mse men mdn mtk mmo mends moh mbeg : Int32) (ca et mc mb : Nat → Int32), k + m = n → s + m < 2 ^ 29 → wkR t s T p d se cs nr st en dn ls hc hm he hd ca et mse men mdn mtk mst mmo mends moh mbeg mc mb →
    ∃ (y se' cs' nr' en' dn' ls' hc' hm' he' hd' mse' men' mdn' mtk' mmo' mends' moh' mbeg' : Int32) (ca' et' mc' mb' : Nat → Int32),
      Ev (fun fu => lp_HP_run pl st (nI T) (nI t) fm ft ld fu 0 (nI n) x (nI k) se cs nr en dn ls hc hm he hd ca et) (0, y, se', cs', nr', en', dn', ls', hc', hm', he', hd', ca', et') ∧
      Ev (fun fu => lp_MD_run (nI t) hp (nI T) mst pt ld fu 0 (nI n) x (nI k) 0 th mse men mdn mtk mmo mends moh mbeg mc mb) (y, th, mse', men', mdn', mtk', mmo', mends', moh', mbeg', mc', mb') ∧
      wkR t (s + m) T p d se' cs' nr' st en' dn' ls' hc' hm' he' hd' ca' et' mse' men' mdn' mtk' mst mmo' mends' moh' mbeg' mc' mb' := by
  intro m
  induction m with
  | zero =>
    intro k s x se cs nr en dn ls hc hm he hd mse men mdn mtk mmo mends moh mbeg ca et mc mb hk hs hw
    refine ⟨x, se, cs, nr, en, dn, ls, hc, hm, he, hd, mse, men, mdn, mtk, mmo, mends, moh, mbeg, ca, et, mc, mb, ?_, ?_, hw⟩
    · refine Ev.step (fun fu => sq_HP_run_0 ..) ?_
      exact Ev.pos (nI_le (by omega) (by omega)) (Ev.ret rfl)
    · refine Ev.step (fun fu => sq_MD_run_0 ..) ?_
      exact Ev.pos (nI_le (by omega) (by omega)) (Ev.ret rfl)
  | succ m ih =>
    intro k s x se cs nr en dn ls hc hm he hd mse men mdn mtk mmo mends moh mbeg ca et mc mb hk hs hw
    obtain ⟨b, cs1, nr1, en1, dn1, ls1, hc1, hm1, he1, hd1, mends1, mbeg1, ca1, et1, mc1, mb1, g1, g2, g3, g4⟩ := sec_pair (ld := ld) h5 hT hT2 (by omega) ho hu hb hfm hft hp hw
    obtain ⟨y, se2, cs2, nr2, en2, dn2, ls2, hc2, hm2, he2, hd2, mse2, men2, mdn2, mtk2, mmo2, mends2, moh2, mbeg2, ca2, et2, mc2, mb2, q1, q2, q3⟩ := ih (k + 1) (s + 1) (if b = 0 then x else x + 1) (nI (s + 1)) cs1 nr1 en1 dn1 ls1 hc1 hm1 he1 hd1 (nI (s + 1)) en1 dn1 ls1 hm1 mends1 hc1 mbeg1 ca1 et1 mc1 mb1 (by omega) (by omega) g4
    refine ⟨y, se2, cs2, nr2, en2, dn2, ls2, hc2, hm2, he2, hd2, mse2, men2, mdn2, mtk2, mmo2, mends2, moh2, mbeg2, ca2, et2, mc2, mb2, ?_, ?_, by rw [show s + (m + 1) = s + 1 + m by omega]; exact q3⟩
    · refine Ev.step (fun fu => sq_HP_run_0 ..) ?_
      refine Ev.neg (nI_ge (by omega) (by omega)) (Ev.cl0 g1 ?_)
      rcases g2 with e0 | e0
      · subst e0
        rw [if_pos rfl] at q1
        rw [nI_1]
        exact Ev.pos rfl q1
      · subst e0
        rw [if_neg ne10] at q1
        rw [nI_1]
        exact Ev.neg ne10 q1
    · refine g3 (nI n) x (nI k) th _ (nI_ge (by omega) (by omega)) ?_
      rw [nI_1]
      exact q2
theorem run_pair {s : Nat} (h5 : t ≤ 5) (hs : s + 5000 < 2 ^ 29) (a pl th : Int32) (cyc mcyc se cs nr st en dn ls hc hm he hd mse men mdn mtk mst mmo mends moh mbeg : Int32) (ca et mc mb : Nat → Int32) (out : Nat → Int64)
    (hpl : pl = 0 ∨ (pl = 1 ∧ 2 ≤ T ∧ T ≤ 2000 ∧ cyc = nI T ∧ mcyc = nI T ∧ ord t p q ∧ (∀ k, k < t → d (p k) < d (p (k + 1))) ∧ (∀ v, v ≤ t → 0 ≤ d v ∧ d v < T) ∧ rep t fm p ∧ (∀ v, v ≤ t → ft v = pt v ∧ (ft v).toInt = d v) ∧ wkR t s T p d se cs nr st en dn ls hc hm he hd ca et mse men mdn mtk mst mmo mends moh mbeg mc mb)) :
    ∃ (k b se' cs' nr' en' dn' ls' hc' hm' he' hd' mse' men' mdn' mtk' mmo' mends' moh' mbeg' : Int32) (ca' et' mc' mb' : Nat → Int32) (out' : Nat → Int64) (s' : Nat),
      Ev (fun z => fn_LW_run z a pl se cs nr st en dn ls hc hm he hd cyc (nI t) fm ft ca et ld out) (k, se', cs', nr', en', dn', ls', hc', hm', he', hd', ca', et', out') ∧
      Ev (fun z => fn_MD_run z a th (nI t) pl mcyc mse men mdn mtk mst mmo mends moh mbeg mc mb pt ld) (b, k, mse', men', mdn', mtk', mmo', mends', moh', mbeg', mc', mb') ∧ (k = 0 → out' 0 = b.toInt64) ∧ s' ≤ s + 5000 ∧
      (pl = 1 → wkR t s' T p d se' cs' nr' st en' dn' ls' hc' hm' he' hd' ca' et' mse' men' mdn' mtk' mst mmo' mends' moh' mbeg' mc' mb') := by
  have d00 : ¬ ¬ (0 : Nat) = 0 := by decide
  rcases hpl with rfl | ⟨rfl, hT, hT2, rfl, rfl, ho, hu, hb, hfm, hft, hw⟩
  · refine ⟨1, 0, se, cs, nr, en, dn, ls, hc, hm, he, hd, mse, men, mdn, mtk, mmo, mends, moh, mbeg, ca, et, mc, mb, out, s, ?_, ?_, fun h => absurd h ne10, by omega, fun h => absurd h (by decide)⟩
    · unfold fn_LW_run fn_HP_run
      refine Ev.cl (a := (1, 0, se, cs, nr, en, dn, ls, hc, hm, he, hd, ca, et)) ?_ (Ev.pos (show ¬ (1 : Nat) = 0 by decide) (Ev.pos (show (1 : Nat) = 1 from rfl) (Ev.ret rfl)))
      exact Ev.cl0 rq_0 (Ev.pos (show ¬ (1 : Nat) = 0 by decide) (Ev.ret rfl))
    · unfold fn_MD_run
      exact Ev.neg (fun h => h rfl) (Ev.cl0 (rf_10 th) (Ev.neg ne10 (Ev.ret rfl)))
  · have wi : fn_HP_isWithin a 0 5000 = some (bt (¬ a < 0 ∧ ¬ 5000 < a)) := MD_in_eq a 0 5000
    by_cases c : ¬ a < 0 ∧ ¬ 5000 < a
    · rw [bt_pos c] at wi
      obtain ⟨n, -, hn, rfl⟩ := rng (lo := 0) (hi := 5000) c.1 c.2 (by decide) (by decide)
      obtain ⟨y, se2, cs2, nr2, en2, dn2, ls2, hc2, hm2, he2, hd2, mse2, men2, mdn2, mtk2, mmo2, mends2, moh2, mbeg2, ca2, et2, mc2, mb2, q1, q2, q3⟩ := runL (ld := ld) h5 hT hT2 hn ho hu hb hfm hft 1 1 0 st mst n 0 s 0 se cs nr en dn ls hc hm he hd mse men mdn mtk mmo mends moh mbeg ca et mc mb (by omega) (by omega) hw
      refine ⟨0, y, se2, cs2, nr2, en2, dn2, ls2, hc2, hm2, he2, hd2, mse2, men2, mdn2, mtk2, mmo2, mends2, moh2, mbeg2, ca2, et2, mc2, mb2, vp_updL out 0 y.toInt64, s + n, ?_, ?_, fun _ => pk_uLs, by omega, fun _ => q3⟩
      · unfold fn_LW_run fn_HP_run
        refine Ev.cl (a := (0, y, se2, cs2, nr2, en2, dn2, ls2, hc2, hm2, he2, hd2, ca2, et2)) ?_ (Ev.neg (fun h => h rfl) (Ev.ret rfl))
        exact Ev.cl0 rq_1 (Ev.neg d00 (Ev.cl0 wi (Ev.cl0 rr_1 (Ev.neg d00 q1))))
      · unfold fn_MD_run
        refine Ev.pos ne10 (Ev.cl0 (MD_in_eq ..) ?_)
        rw [bt_pos c]
        exact Ev.pos ne10 (Ev.cl0 (rf_00 th) (Ev.pos rfl q2))
    · rw [bt_neg c] at wi
      refine ⟨2, 0, se, cs, nr, en, dn, ls, hc, hm, he, hd, mse, men, mdn, mtk, mmo, mends, moh, mbeg, ca, et, mc, mb, out, s, ?_, ?_, fun h => absurd h (by decide), by omega, fun _ => hw⟩
      · unfold fn_LW_run fn_HP_run
        refine Ev.cl (a := (2, 0, se, cs, nr, en, dn, ls, hc, hm, he, hd, ca, et)) ?_ (Ev.pos (show ¬ (2 : Nat) = 0 by decide) (Ev.neg (show ¬ (2 : Nat) = 1 by decide) (Ev.pos (show (2 : Nat) = 2 from rfl) (Ev.ret rfl))))
        exact Ev.cl0 rq_1 (Ev.neg d00 (Ev.cl0 wi (Ev.cl0 rr_0 (Ev.pos (show ¬ (2 : Nat) = 0 by decide) (Ev.ret rfl)))))
      · unfold fn_MD_run
        refine Ev.pos ne10 (Ev.cl0 (MD_in_eq ..) ?_)
        rw [bt_neg c]
        exact Ev.neg (fun h => h rfl) (Ev.cl0 (rf_01 th) (Ev.neg ne10 (Ev.ret rfl)))
end RN

