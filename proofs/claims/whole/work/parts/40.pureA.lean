/-! Pure rows: what the functions read off the bytecode answer. -/
theorem ox_gdI {α : Type} {i : Int32} {n : Nat} {k : Option α} (h : vp_in i n) : ox_gd i n k = k := if_neg h
theorem ox_gdN {α : Type} {i n : Nat} {k : Option α} (h : i < n) (hn : n < 2 ^ 31) : ox_gd (nI i) n k = k := if_neg (nI_in h hn)
theorem ox_clI {α β : Type} {o : Option α} {k : α → Option β} {a : α} (h : o = some a) : ox_cl o k = k a := by rw [h]; rfl
theorem pz_lit (k : Nat) (h : k < 2 ^ 31) : (OfNat.ofNat k : Int32) = nI k := rfl
theorem pz_fillL {n : Nat} (hn : n < 2 ^ 31) (v : Int32) : ∀ (m fu i : Nat) (f : Nat → Int32), i + m = n → m < fu → lp_AR_fill n fu 0 v (nI i) (nI n) f = some (fun j => if i ≤ j ∧ j < n then v else f j) := by
  intro m
  induction m with
  | zero =>
    intro fu i f hi hf
    cases fu with
    | zero => omega
    | succ fu =>
      show st_AR_fill n (lp_AR_fill n fu) 0 v (nI i) (nI n) f = _
      unfold st_AR_fill
      dsimp only
      rw [if_pos (nI_le (by omega) (by omega))]
      congr 1
      funext j
      rw [if_neg (by omega)]
  | succ m ih =>
    intro fu i f hi hf
    cases fu with
    | zero => omega
    | succ fu =>
      show st_AR_fill n (lp_AR_fill n fu) 0 v (nI i) (nI n) f = _
      unfold st_AR_fill
      dsimp only
      rw [if_neg (nI_ge (by omega) hn), ox_gdN (by omega) hn, nI_1, nI_clamp (by omega), ih fu (i + 1) _ (by omega) (by omega)]
      congr 1
      funext j
      by_cases h : j = i
      · subst h
        rw [if_neg (by omega), if_pos (by omega)]
        exact pk_us
      · rw [pk_un h]
        by_cases h2 : i + 1 ≤ j ∧ j < n
        · rw [if_pos h2, if_pos (by omega)]
        · rw [if_neg h2, if_neg (by omega)]
theorem pz_fill {z n : Nat} (hn : n < 2 ^ 31) (hz : n < z) (v : Int32) (f : Nat → Int32) : fn_AR_fill z n v f = some (fun j => if j < n then v else f j) := by
  show lp_AR_fill n z 0 v (nI 0) (nI n) f = _
  rw [pz_fillL hn v n z 0 f (by omega) hz]
  congr 1
  funext j
  by_cases h : j < n
  · rw [if_pos h, if_pos ⟨Nat.zero_le _, h⟩]
  · rw [if_neg h, if_neg (fun q => h q.2)]

/-! Rules 'after is at least before and w', raised round by round from 0: what a raise in the last round says. Own work: no machine in it. -/
def rg_up {α : Type} (f : Nat → α) (k : Nat) (v : α) : Nat → α := fun j => if j = k then v else f j
theorem rg_upS {α : Type} (f : Nat → α) (k : Nat) (v : α) : rg_up f k v k = v := by simp [rg_up]
theorem rg_upN {α : Type} (f : Nat → α) {k j : Nat} (v : α) (h : j ≠ k) : rg_up f k v j = f j := by simp [rg_up, h]
abbrev rg_S : Type := (Nat → Int) × (Nat → Nat) × (Nat → Nat)
/-- a rule at round k: times, causes, and the round in which a time last rose -/
def rg_step (bf af : Nat → Nat) (w : Nat → Int) (k r : Nat) (x : rg_S) : rg_S :=
  if x.1 (af r) < x.1 (bf r) + w r then (rg_up x.1 (af r) (x.1 (bf r) + w r), rg_up x.2.1 (af r) r, rg_up x.2.2 (af r) k) else x
def rg_run (bf af : Nat → Nat) (w : Nat → Int) (k : Nat) : Nat → rg_S → rg_S
  | 0, x => x
  | r + 1, x => rg_step bf af w k r (rg_run bf af w k r x)
def rg_all (bf af : Nat → Nat) (w : Nat → Int) (R : Nat) : Nat → rg_S → rg_S
  | 0, x => x
  | k + 1, x => rg_run bf af w (k + 1) R (rg_all bf af w R k x)
def rg_it (bf : Nat → Nat) (c : Nat → Nat) : Nat → Nat → Nat
  | 0, y => y
  | j + 1, y => bf (c (rg_it bf c j y))
def rg_sm (bf : Nat → Nat) (w : Nat → Int) (c : Nat → Nat) : Nat → Nat → Int
  | 0, _ => 0
  | j + 1, y => rg_sm bf w c j y + w (c (rg_it bf c j y))
/-- what holds in round k once the rules below i are through -/
def rg_inv (bf af : Nat → Nat) (w : Nat → Int) (R k i : Nat) (x : rg_S) : Prop :=
  (∀ v, 1 ≤ x.2.2 v → x.2.1 v < R ∧ af (x.2.1 v) = v ∧ x.1 v ≤ x.1 (bf (x.2.1 v)) + w (x.2.1 v) ∧ x.2.2 v ≤ x.2.2 (bf (x.2.1 v)) + 1) ∧
  (∀ r, r < R → x.2.2 (bf r) + 2 ≤ k → x.1 (bf r) + w r ≤ x.1 (af r)) ∧
  (∀ r, r < i → x.2.2 (bf r) + 1 ≤ k → x.1 (bf r) + w r ≤ x.1 (af r)) ∧
  (∀ v, x.2.2 v ≤ k) ∧
  (∀ y j, 1 ≤ j → (∀ i, i < j → 1 ≤ x.2.2 (rg_it bf x.2.1 i y)) → rg_it bf x.2.1 j y = y → 0 < rg_sm bf w x.2.1 j y)
theorem rg_strict {bf : Nat → Nat} {w : Nat → Int} {c g : Nat → Nat} {d : Nat → Int} (x : Nat)
    (h : ∀ v, 1 ≤ g v → d v ≤ d (bf (c v)) + w (c v) ∧ (bf (c v) = x → d v < d (bf (c v)) + w (c v))) :
    ∀ j y, (∀ i, i < j → 1 ≤ g (rg_it bf c i y)) → d y ≤ d (rg_it bf c j y) + rg_sm bf w c j y ∧ ((∃ i, i < j ∧ rg_it bf c (i + 1) y = x) → d y < d (rg_it bf c j y) + rg_sm bf w c j y) := by
  intro j
  induction j with
  | zero => intro y _; exact ⟨by simp [rg_it, rg_sm], fun ⟨i, hi, _⟩ => absurd hi (Nat.not_lt_zero _)⟩
  | succ j ih =>
    intro y hv
    obtain ⟨h1, h2⟩ := ih y (fun i hi => hv i (Nat.lt_succ_of_lt hi))
    obtain ⟨h3, h4⟩ := h _ (hv j (Nat.lt_succ_self j))
    refine ⟨?_, ?_⟩
    · show d y ≤ d (bf (c (rg_it bf c j y))) + (rg_sm bf w c j y + w (c (rg_it bf c j y)))
      omega
    · intro ⟨i, hi, he⟩
      show d y < d (bf (c (rg_it bf c j y))) + (rg_sm bf w c j y + w (c (rg_it bf c j y)))
      by_cases hij : i = j
      · subst hij
        have := h4 he
        omega
      · have := h2 ⟨i, by omega, he⟩
        omega
theorem rg_same {bf : Nat → Nat} {w : Nat → Int} {c : Nat → Nat} {x r : Nat} : ∀ j y, (∀ i, i < j → rg_it bf (rg_up c x r) i y ≠ x) → (∀ i, i ≤ j → rg_it bf (rg_up c x r) i y = rg_it bf c i y) ∧ rg_sm bf w (rg_up c x r) j y = rg_sm bf w c j y := by
  intro j
  induction j with
  | zero => intro y _; exact ⟨fun i hi => by rw [Nat.le_zero.mp hi]; rfl, rfl⟩
  | succ j ih =>
    intro y hv
    obtain ⟨h1, h2⟩ := ih y (fun i hi => hv i (Nat.lt_succ_of_lt hi))
    have hj := hv j (Nat.lt_succ_self j)
    have e : rg_up c x r (rg_it bf (rg_up c x r) j y) = c (rg_it bf c j y) := by rw [rg_upN _ _ hj, h1 j (Nat.le_refl j)]
    refine ⟨fun i hi => ?_, ?_⟩
    · by_cases hij : i = j + 1
      · subst hij
        show bf (rg_up c x r (rg_it bf (rg_up c x r) j y)) = bf (c (rg_it bf c j y))
        rw [e]
      · exact h1 i (by omega)
    · show rg_sm bf w (rg_up c x r) j y + w (rg_up c x r (rg_it bf (rg_up c x r) j y)) = rg_sm bf w c j y + w (c (rg_it bf c j y))
      rw [h2, e]
theorem rg_stepI {bf af : Nat → Nat} {w : Nat → Int} {R k i : Nat} {x : rg_S} (hne : ∀ r, r < R → bf r ≠ af r) (hk : 1 ≤ k) (hi : i < R) (h : rg_inv bf af w R k i x) : rg_inv bf af w R k (i + 1) (rg_step bf af w k i x) := by
  obtain ⟨d, c, g⟩ := x
  obtain ⟨hA, hB, hC, hE, hF⟩ := h
  dsimp only at hA hB hC hE hF
  by_cases hr : d (af i) < d (bf i) + w i
  · have es : rg_step bf af w k i (d, c, g) = (rg_up d (af i) (d (bf i) + w i), rg_up c (af i) i, rg_up g (af i) k) := by simp [rg_step, hr]
    rw [es]
    have hu : bf i ≠ af i := hne i hi
    have hgu : k ≤ g (bf i) + 1 := by
      by_cases q : k ≤ g (bf i) + 1
      · exact q
      · have := hB i hi (by omega)
        omega
    have dge : ∀ v, d v ≤ rg_up d (af i) (d (bf i) + w i) v := by
      intro v
      by_cases hv : v = af i
      · subst hv; rw [rg_upS]; omega
      · rw [rg_upN _ _ hv]; omega
    have gge : ∀ v, g v ≤ rg_up g (af i) k v := by
      intro v
      by_cases hv : v = af i
      · subst hv; rw [rg_upS]; exact hE _
      · rw [rg_upN _ _ hv]; omega
    have A2 : ∀ v, 1 ≤ rg_up g (af i) k v → rg_up c (af i) i v < R ∧ af (rg_up c (af i) i v) = v ∧ (rg_up d (af i) (d (bf i) + w i) v ≤ rg_up d (af i) (d (bf i) + w i) (bf (rg_up c (af i) i v)) + w (rg_up c (af i) i v) ∧ (bf (rg_up c (af i) i v) = af i → rg_up d (af i) (d (bf i) + w i) v < rg_up d (af i) (d (bf i) + w i) (bf (rg_up c (af i) i v)) + w (rg_up c (af i) i v))) ∧ rg_up g (af i) k v ≤ rg_up g (af i) k (bf (rg_up c (af i) i v)) + 1 := by
      intro v hv
      by_cases e : v = af i
      · subst e
        rw [rg_upS, rg_upS, rg_upS, rg_upN _ _ hu, rg_upN _ _ hu]
        exact ⟨hi, rfl, ⟨Int.le_refl _, fun q => absurd q hu⟩, hgu⟩
      · rw [rg_upN _ _ e] at hv
        obtain ⟨a1, a2, a3, a4⟩ := hA v hv
        rw [rg_upN _ _ e, rg_upN _ _ e, rg_upN _ _ e]
        refine ⟨a1, a2, ⟨?_, ?_⟩, ?_⟩
        · have := dge (bf (c v)); omega
        · intro q
          rw [q, rg_upS]
          rw [q] at a3
          omega
        · have := gge (bf (c v)); omega
    refine ⟨fun v hv => ?_, fun r hrR hg => ?_, fun r hri hg => ?_, fun v => ?_, fun y j hj hv hc => ?_⟩
    · obtain ⟨a1, a2, a3, a4⟩ := A2 v hv
      exact ⟨a1, a2, a3.1, a4⟩
    · dsimp only at hg ⊢
      by_cases e : bf r = af i
      · rw [e, rg_upS] at hg; omega
      · rw [rg_upN _ _ e] at hg ⊢
        have := hB r hrR hg
        have := dge (af r)
        omega
    · dsimp only at hg ⊢
      by_cases e : bf r = af i
      · rw [e, rg_upS] at hg; omega
      · rw [rg_upN _ _ e] at hg ⊢
        by_cases e2 : r = i
        · subst e2; rw [rg_upS]; exact Int.le_refl _
        · have := hC r (by omega) hg
          have := dge (af r)
          omega
    · dsimp only
      by_cases hv : v = af i
      · subst hv; rw [rg_upS]; exact Nat.le_refl _
      · rw [rg_upN _ _ hv]; exact hE v
    · dsimp only at hv hc ⊢
      by_cases q : ∃ i', i' < j ∧ rg_it bf (rg_up c (af i) i) (i' + 1) y = af i
      · have := (rg_strict (d := rg_up d (af i) (d (bf i) + w i)) (g := rg_up g (af i) k) (c := rg_up c (af i) i) (bf := bf) (w := w) (af i) (fun v hv => (A2 v hv).2.2.1) j y hv).2 q
        rw [hc] at this
        omega
      · have hy : y ≠ af i := by
          intro e
          exact q ⟨j - 1, by omega, by rw [show j - 1 + 1 = j by omega, hc]; exact e⟩
        have hn : ∀ i', i' < j → rg_it bf (rg_up c (af i) i) i' y ≠ af i := by
          intro i' hi' e
          cases i' with
          | zero => exact hy e
          | succ t => exact q ⟨t, by omega, e⟩
        obtain ⟨e1, e2⟩ := rg_same (bf := bf) (w := w) (c := c) (x := af i) (r := i) j y hn
        rw [e2]
        refine hF y j hj (fun i' hi' => ?_) (by rw [← e1 j (Nat.le_refl j)]; exact hc)
        have h1 := hv i' hi'
        rw [rg_upN _ _ (hn i' hi'), e1 i' (Nat.le_of_lt hi')] at h1
        exact h1
  · have es : rg_step bf af w k i (d, c, g) = (d, c, g) := by simp [rg_step, hr]
    rw [es]
    refine ⟨hA, hB, fun r hri hg => ?_, hE, hF⟩
    by_cases e : r = i
    · subst e; dsimp only; omega
    · exact hC r (by omega) hg
theorem rg_runI {bf af : Nat → Nat} {w : Nat → Int} {R k : Nat} {x : rg_S} (hne : ∀ r, r < R → bf r ≠ af r) (hk : 1 ≤ k) (h : rg_inv bf af w R k 0 x) : ∀ i, i ≤ R → rg_inv bf af w R k i (rg_run bf af w k i x)
  | 0, _ => h
  | i + 1, hi => rg_stepI hne hk hi (rg_runI hne hk h i (by omega))
theorem rg_next {bf af : Nat → Nat} {w : Nat → Int} {R k : Nat} {x : rg_S} (h : rg_inv bf af w R k R x) : rg_inv bf af w R (k + 1) 0 x := by
  obtain ⟨hA, hB, hC, hE, hF⟩ := h
  exact ⟨hA, fun r hr hg => hC r hr (by omega), fun r hr _ => absurd hr (Nat.not_lt_zero r), fun v => Nat.le_succ_of_le (hE v), hF⟩
theorem rg_start {bf af : Nat → Nat} {w : Nat → Int} {R : Nat} (d : Nat → Int) (c : Nat → Nat) : rg_inv bf af w R 1 0 (d, c, fun _ => 0) :=
  ⟨fun v hv => absurd hv (by dsimp only; omega), fun r _ hg => absurd hg (by dsimp only; omega), fun r hr _ => absurd hr (Nat.not_lt_zero r), fun _ => Nat.zero_le _, fun y j hj hv _ => absurd (hv 0 (by omega)) (by dsimp only; omega)⟩
theorem rg_allI {bf af : Nat → Nat} {w : Nat → Int} {R : Nat} (hne : ∀ r, r < R → bf r ≠ af r) (d : Nat → Int) (c : Nat → Nat) : ∀ k, rg_inv bf af w R (k + 1) 0 (rg_all bf af w R k (d, c, fun _ => 0))
  | 0 => rg_start d c
  | k + 1 => rg_next (rg_runI hne (by omega) (rg_allI hne d c k) R (Nat.le_refl R))
/-- one of n + 1 places of n comes twice -/
theorem rg_pigeon : ∀ (n : Nat) (h : Nat → Nat), (∀ i, i ≤ n → h i < n) → ∃ a b, a < b ∧ b ≤ n ∧ h a = h b := by
  intro n
  induction n with
  | zero => intro h hb; exact absurd (hb 0 (Nat.le_refl 0)) (Nat.not_lt_zero _)
  | succ n ih =>
    intro h hb
    by_cases q : ∃ a, a ≤ n ∧ h a = h (n + 1)
    · obtain ⟨a, ha, he⟩ := q
      exact ⟨a, n + 1, by omega, Nat.le_refl _, he⟩
    · -- move the value n out of the way
      obtain ⟨a, b, h1, h2, h3⟩ := ih (fun i => if h i = n then h (n + 1) else h i) (by
        intro i hi
        have h0 := hb i (by omega)
        have hl := hb (n + 1) (Nat.le_refl _)
        by_cases e : h i = n
        · simp only [e, if_true]
          have : h (n + 1) ≠ n := fun q2 => q ⟨i, hi, by rw [e, q2]⟩
          omega
        · simp only [e, if_false]; omega)
      refine ⟨a, b, h1, by omega, ?_⟩
      by_cases ea : h a = n
      · by_cases eb : h b = n
        · rw [ea, eb]
        · rw [if_pos ea, if_neg eb] at h3
          exact absurd ⟨b, h2, h3.symm⟩ q
      · by_cases eb : h b = n
        · rw [if_neg ea, if_pos eb] at h3
          exact absurd ⟨a, by omega, h3⟩ q
        · rw [if_neg ea, if_neg eb] at h3
          exact h3
theorem rg_itA (bf c : Nat → Nat) (a : Nat) : ∀ j y, rg_it bf c (a + j) y = rg_it bf c j (rg_it bf c a y)
  | 0, _ => rfl
  | j + 1, y => by
    show bf (c (rg_it bf c (a + j) y)) = bf (c (rg_it bf c j (rg_it bf c a y)))
    rw [rg_itA bf c a j y]
/-- a time that rose in round n of n places: so many steps back end on a ring, and it adds up to more than 0 -/
theorem rg_ring {bf af : Nat → Nat} {w : Nat → Int} {R n : Nat} {x : rg_S} (h : rg_inv bf af w R n R x) (hb : ∀ r, r < R → bf r < n) {u : Nat} (hun : u < n) (hu : x.2.2 u = n) :
    ∃ j, 1 ≤ j ∧ j ≤ n ∧ rg_it bf x.2.1 j (rg_it bf x.2.1 n u) = rg_it bf x.2.1 n u ∧ (∀ i, x.2.2 (rg_it bf x.2.1 i (rg_it bf x.2.1 n u)) ≥ 1) ∧ 0 < rg_sm bf w x.2.1 j (rg_it bf x.2.1 n u) ∧ (∀ i, i < n → 1 ≤ x.2.2 (rg_it bf x.2.1 i u)) := by
  obtain ⟨d, c, g⟩ := x
  obtain ⟨hA, hB, hC, hE, hF⟩ := h
  dsimp only at hA hB hC hE hF hu ⊢
  have back : ∀ i, i ≤ n → n ≤ g (rg_it bf c i u) + i := by
    intro i
    induction i with
    | zero => intro _; show n ≤ g u + 0; omega
    | succ i ih =>
      intro hi
      have h1 := ih (by omega)
      have h2 := (hA (rg_it bf c i u) (by omega)).2.2.2
      show n ≤ g (bf (c (rg_it bf c i u))) + (i + 1)
      omega
  have pos : ∀ i, i < n → 1 ≤ g (rg_it bf c i u) := fun i hi => by have := back i (by omega); omega
  have bound : ∀ i, i ≤ n → rg_it bf c i u < n := by
    intro i hi
    cases i with
    | zero => exact hun
    | succ i => exact hb _ (hA _ (pos i (by omega))).1
  obtain ⟨a, b, hab, hbn, he⟩ := rg_pigeon n (fun i => rg_it bf c i u) bound
  -- from place a on it repeats with period b - a
  have per : ∀ i, rg_it bf c (a + i) u = rg_it bf c (a + i + (b - a)) u := by
    intro i
    induction i with
    | zero => rw [Nat.add_zero, show a + (b - a) = b by omega]; exact he
    | succ i ih =>
      show bf (c (rg_it bf c (a + i) u)) = rg_it bf c (a + (i + 1) + (b - a)) u
      rw [show a + (i + 1) + (b - a) = (a + i + (b - a)) + 1 by omega]
      show bf (c (rg_it bf c (a + i) u)) = bf (c (rg_it bf c (a + i + (b - a)) u))
      rw [← ih]
  have low : ∀ i, ∃ i', i' < n ∧ rg_it bf c i u = rg_it bf c i' u := by
    intro i
    induction i using Nat.strongRecOn with
    | ind i ih =>
      by_cases hi : i < n
      · exact ⟨i, hi, rfl⟩
      · obtain ⟨i', h1, h2⟩ := ih (i - (b - a)) (by omega)
        refine ⟨i', h1, ?_⟩
        rw [← h2]
        have := per (i - (b - a) - a)
        rw [show a + (i - (b - a) - a) = i - (b - a) by omega, show i - (b - a) + (b - a) = i by omega] at this
        exact this.symm
  have all : ∀ i, 1 ≤ g (rg_it bf c i u) := fun i => by
    obtain ⟨i', h1, h2⟩ := low i
    rw [h2]; exact pos i' h1
  have ret : rg_it bf c (b - a) (rg_it bf c n u) = rg_it bf c n u := by
    rw [← rg_itA]
    have := per (n - a)
    rw [show a + (n - a) = n by omega] at this
    exact this.symm
  have all2 : ∀ i, 1 ≤ g (rg_it bf c i (rg_it bf c n u)) := fun i => by rw [← rg_itA]; exact all _
  exact ⟨b - a, by omega, by omega, ret, all2, hF _ _ (by omega) (fun i _ => all2 i) ret, pos⟩
/-- where times keep all rules, no ring adds up to more than 0 -/
theorem rg_sol {bf af : Nat → Nat} {w : Nat → Int} {R : Nat} {c : Nat → Nat} {L : Nat → Int} (hL : ∀ r, r < R → L (bf r) + w r ≤ L (af r)) : ∀ j y, (∀ i, i < j → c (rg_it bf c i y) < R ∧ af (c (rg_it bf c i y)) = rg_it bf c i y) → rg_sm bf w c j y + L (rg_it bf c j y) ≤ L y
  | 0, _, _ => by show (0 : Int) + L _ ≤ L _; simp [rg_it]
  | j + 1, y, hv => by
    have h1 := rg_sol hL j y (fun i hi => hv i (by omega))
    obtain ⟨h2, h3⟩ := hv j (by omega)
    have h4 := hL _ h2
    rw [h3] at h4
    show rg_sm bf w c j y + w (c (rg_it bf c j y)) + L (bf (c (rg_it bf c j y))) ≤ L y
    omega

/-! The step of each loop. -/
theorem sq_AR_fill_0 (n : Nat) (fu : Nat) (i1 : Int32) (i2 : Int32) (i3 : Int32) (f_p0 : Nat → Int32) : lp_AR_fill n (fu + 1) 0 i1 i2 i3 f_p0 = (
    if i3 ≤ i2 then
      some f_p0
    else
      ox_gd i2 n (
      lp_AR_fill n fu 0 i1 (i2 + 1) i3 (upd f_p0 i2.toNatClampNeg i1))) := rfl
theorem sq_LY_slowEmptyWay_0 (v_tanks : Int32) (f_loadedSeconds : Nat → Int32) (f_emptySeconds : Nat → Nat → Int32) (fu : Nat) (i1 : Int32) : lp_LY_slowEmptyWay v_tanks f_loadedSeconds f_emptySeconds (fu + 1) 0 i1 = (
    if v_tanks < i1 then
      some 0
    else
      ox_gd i1 7 (
      ox_gd (i1 + 1) 7 (
      ox_gd i1 6 (
      if (f_emptySeconds i1.toNatClampNeg (i1 + 1).toNatClampNeg) ≤ (f_loadedSeconds i1.toNatClampNeg) then
        lp_LY_slowEmptyWay v_tanks f_loadedSeconds f_emptySeconds fu 0 (i1 + 1)
      else
        some (1 + i1))))) := rfl
theorem sq_LY_roundaboutWay_0 (v_tanks : Int32) (f_emptySeconds : Nat → Nat → Int32) (fu : Nat) (i1 : Int32) (i2 : Int32) (i3 : Int32) : lp_LY_roundaboutWay v_tanks f_emptySeconds (fu + 1) 0 i1 i2 i3 = (
    if (v_tanks + 1) < i1 then
      some 0
    else
      lp_LY_roundaboutWay v_tanks f_emptySeconds fu 1 i1 0 0) := rfl
theorem sq_LY_roundaboutWay_1 (v_tanks : Int32) (f_emptySeconds : Nat → Nat → Int32) (fu : Nat) (i1 : Int32) (i2 : Int32) (i3 : Int32) : lp_LY_roundaboutWay v_tanks f_emptySeconds (fu + 1) 1 i1 i2 i3 = (
    if (v_tanks + 1) < i2 then
      lp_LY_roundaboutWay v_tanks f_emptySeconds fu 0 (i1 + 1) 0 0
    else
      lp_LY_roundaboutWay v_tanks f_emptySeconds fu 2 i1 i2 0) := rfl
theorem sq_LY_roundaboutWay_2 (v_tanks : Int32) (f_emptySeconds : Nat → Nat → Int32) (fu : Nat) (i1 : Int32) (i2 : Int32) (i3 : Int32) : lp_LY_roundaboutWay v_tanks f_emptySeconds (fu + 1) 2 i1 i2 i3 = (
    if (v_tanks + 1) < i3 then
      lp_LY_roundaboutWay v_tanks f_emptySeconds fu 1 i1 (i2 + 1) 0
    else
      ox_gd i1 7 (
      ox_gd i3 7 (
      ox_gd i1 7 (
      ox_gd i2 7 (
      ox_gd i2 7 (
      ox_gd i3 7 (
      if (f_emptySeconds i1.toNatClampNeg i3.toNatClampNeg) ≤ ((f_emptySeconds i1.toNatClampNeg i2.toNatClampNeg) + (f_emptySeconds i2.toNatClampNeg i3.toNatClampNeg)) then
        lp_LY_roundaboutWay v_tanks f_emptySeconds fu 2 i1 i2 (i3 + 1)
      else
        some (((100 + (49 * i1)) + (7 * i2)) + i3)))))))) := rfl
theorem sq_OR_rankMoves_0 (v_count : Int32) (f_moves : Nat → Int32) (fu : Nat) (i1 : Int32) (f_rank : Nat → Int32) : lp_OR_rankMoves v_count f_moves (fu + 1) 0 i1 f_rank = (
    if v_count ≤ i1 then
      some f_rank
    else
      ox_gd i1 6 (
      ox_gd (f_moves i1.toNatClampNeg) 6 (
      lp_OR_rankMoves v_count f_moves fu 0 (i1 + 1) (upd f_rank (f_moves i1.toNatClampNeg).toNatClampNeg i1)))) := rfl
theorem sq_OR_reverseFrom_0 (v_count : Int32) (fu : Nat) (i1 : Int32) (i2 : Int32) (i3 : Int32) (f_moves : Nat → Int32) : lp_OR_reverseFrom v_count (fu + 1) 0 i1 i2 i3 f_moves = (
    if i2 ≤ i3 then
      some f_moves
    else
      ox_cl (fn_OR_swap i3 i2 f_moves) fun s2_f_moves =>
      lp_OR_reverseFrom v_count fu 0 i1 (i2 + (-1)) (i3 + 1) s2_f_moves) := rfl
theorem sq_OR_toFirst_0 (z : Nat) (fu : Nat) (i1 : Int32) (i2 : Int32) (v_count : Int32) (f_moves : Nat → Int32) (f_rank : Nat → Int32) : lp_OR_toFirst z (fu + 1) 0 i1 i2 v_count f_moves f_rank = (
    if v_count ≤ i2 then
      ox_cl (fn_OR_rankMoves z v_count f_moves f_rank) fun s2_f_rank =>
      some (v_count, f_moves, s2_f_rank)
    else
      ox_gd i2 6 (
      lp_OR_toFirst z fu 0 i1 (i2 + 1) v_count (upd f_moves i2.toNatClampNeg i2) f_rank)) := rfl
theorem sq_OR_toNext_0 (z : Nat) (v_count : Int32) (fu : Nat) (i1 : Int32) (i2 : Int32) (f_moves : Nat → Int32) (f_rank : Nat → Int32) : lp_OR_toNext z v_count (fu + 1) 0 i1 i2 f_moves f_rank = (
    if i1 < 1 then
      if 1 ≤ i1 then
        lp_OR_toNext z v_count fu 1 i1 (v_count - 1) f_moves f_rank
      else
        some (0, f_moves, f_rank)
    else
      ox_gd i1 6 (
      ox_gd (i1 + 1) 6 (
      if (f_moves i1.toNatClampNeg) ≤ (f_moves (i1 + 1).toNatClampNeg) then
        if 1 ≤ i1 then
          lp_OR_toNext z v_count fu 1 i1 (v_count - 1) f_moves f_rank
        else
          some (0, f_moves, f_rank)
      else
        lp_OR_toNext z v_count fu 0 (i1 + (-1)) 0 f_moves f_rank))) := rfl
theorem sq_OR_toNext_1 (z : Nat) (v_count : Int32) (fu : Nat) (i1 : Int32) (i2 : Int32) (f_moves : Nat → Int32) (f_rank : Nat → Int32) : lp_OR_toNext z v_count (fu + 1) 1 i1 i2 f_moves f_rank = (
    if i2 ≤ (i1 + 1) then
      ox_cl (fn_OR_swap i1 i2 f_moves) fun s6_f_moves =>
      ox_cl (fn_OR_reverseFrom z (i1 + 1) v_count s6_f_moves) fun s7_f_moves =>
      ox_cl (fn_OR_rankMoves z v_count s7_f_moves f_rank) fun s8_f_rank =>
      some (1, s7_f_moves, s8_f_rank)
    else
      ox_gd i2 6 (
      ox_gd i1 6 (
      if (f_moves i1.toNatClampNeg) ≤ (f_moves i2.toNatClampNeg) then
        ox_cl (fn_OR_swap i1 i2 f_moves) fun s10_f_moves =>
        ox_cl (fn_OR_reverseFrom z (i1 + 1) v_count s10_f_moves) fun s11_f_moves =>
        ox_cl (fn_OR_rankMoves z v_count s11_f_moves f_rank) fun s12_f_rank =>
        some (1, s11_f_moves, s12_f_rank)
      else
        lp_OR_toNext z v_count fu 1 i1 (i2 + (-1)) f_moves f_rank))) := rfl
theorem sq_OR_read_0 (z : Nat) (fu : Nat) (i1 : Int32) (i2 : Int32) (i3 : Int32) (i4 : Int32) (v_count : Int32) (f_rank : Nat → Int32) (f_moves : Nat → Int32) : lp_OR_read z (fu + 1) 0 i1 i2 i3 i4 v_count f_rank f_moves = (
    if i4 < 1 then
      if ¬ i3 = 0 then
        some (0, v_count, f_rank, (upd f_moves 0 0))
      else
        some (1, v_count, f_rank, (upd f_moves 0 0))
    else
      if (i3 - i3 / 10 * 10) < 1 then
        some (0, v_count, f_rank, f_moves)
      else
        if i2 < (i3 - i3 / 10 * 10) then
          some (0, v_count, f_rank, f_moves)
        else
          ox_gd (i3 - i3 / 10 * 10) 6 (
          if (f_rank (i3 - i3 / 10 * 10).toNatClampNeg) = 0 then
            ox_gd i4 6 (
            ox_gd (i3 - i3 / 10 * 10) 6 (
            lp_OR_read z fu 0 i1 i2 (i3 / 10) (i4 + (-1)) v_count (upd f_rank (i3 - i3 / 10 * 10).toNatClampNeg i4) (upd f_moves i4.toNatClampNeg (i3 - i3 / 10 * 10))))
          else
            some (0, v_count, f_rank, f_moves))) := rfl
theorem sq_OR_number_0 (v_count : Int32) (f_moves : Nat → Int32) (fu : Nat) (i1 : Int32) (i2 : Int32) : lp_OR_number v_count f_moves (fu + 1) 0 i1 i2 = (
    if v_count ≤ i2 then
      some i1
    else
      ox_gd i2 6 (
      lp_OR_number v_count f_moves fu 0 ((10 * i1) + (f_moves i2.toNatClampNeg)) (i2 + 1))) := rfl
theorem sq_TM_addWays_0 (v_p1_count : Int32) (f_p1_moves : Nat → Int32) (f_layout_loadedSeconds : Nat → Int32) (f_layout_emptySeconds : Nat → Nat → Int32) (fu : Nat) (i2 : Int32) (i3 : Int32) (v_rules : Int32) (f_before : Nat → Int32) (f_after : Nat → Int32) (f_seconds : Nat → Int32) (f_turns : Nat → Int32) : lp_TM_addWays v_p1_count f_p1_moves f_layout_loadedSeconds f_layout_emptySeconds (fu + 1) 0 i2 i3 v_rules f_before f_after f_seconds f_turns = (
    if v_p1_count ≤ i3 then
      some (i2, v_rules, f_before, f_after, f_seconds, f_turns)
    else
      if ¬ i3 = (v_p1_count - 1) then
        ox_gd i3 6 (
        ox_gd (i3 + 1) 6 (
        ox_gd (f_p1_moves i3.toNatClampNeg) 6 (
        ox_gd ((f_p1_moves i3.toNatClampNeg) + 1) 7 (
        ox_gd (f_p1_moves (i3 + 1).toNatClampNeg) 7 (
        ox_cl (fn_TM_addRule (f_p1_moves i3.toNatClampNeg) (f_p1_moves (i3 + 1).toNatClampNeg) ((f_layout_loadedSeconds (f_p1_moves i3.toNatClampNeg).toNatClampNeg) + (f_layout_emptySeconds ((f_p1_moves i3.toNatClampNeg) + 1).toNatClampNeg (f_p1_moves (i3 + 1).toNatClampNeg).toNatClampNeg)) 0 v_rules f_before f_after f_seconds f_turns) fun (s3_v_rules, s3_f_before, s3_f_after, s3_f_seconds, s3_f_turns) =>
        lp_TM_addWays v_p1_count f_p1_moves f_layout_loadedSeconds f_layout_emptySeconds fu 0 (i2 + ((f_layout_loadedSeconds (f_p1_moves i3.toNatClampNeg).toNatClampNeg) + (f_layout_emptySeconds ((f_p1_moves i3.toNatClampNeg) + 1).toNatClampNeg (f_p1_moves (i3 + 1).toNatClampNeg).toNatClampNeg))) (i3 + 1) s3_v_rules s3_f_before s3_f_after s3_f_seconds s3_f_turns)))))
      else
        ox_gd i3 6 (
        ox_gd (f_p1_moves i3.toNatClampNeg) 6 (
        ox_gd ((f_p1_moves i3.toNatClampNeg) + 1) 7 (
        ox_cl (fn_TM_addRule (f_p1_moves i3.toNatClampNeg) 0 ((f_layout_loadedSeconds (f_p1_moves i3.toNatClampNeg).toNatClampNeg) + (f_layout_emptySeconds ((f_p1_moves i3.toNatClampNeg) + 1).toNatClampNeg 0)) (-1) v_rules f_before f_after f_seconds f_turns) fun (s4_v_rules, s4_f_before, s4_f_after, s4_f_seconds, s4_f_turns) =>
        lp_TM_addWays v_p1_count f_p1_moves f_layout_loadedSeconds f_layout_emptySeconds fu 0 (i2 + ((f_layout_loadedSeconds (f_p1_moves i3.toNatClampNeg).toNatClampNeg) + (f_layout_emptySeconds ((f_p1_moves i3.toNatClampNeg) + 1).toNatClampNeg 0))) (i3 + 1) s4_v_rules s4_f_before s4_f_after s4_f_seconds s4_f_turns)))) := rfl
theorem sq_TM_addSoaks_0 (v_p1_count : Int32) (f_layout_loadedSeconds : Nat → Int32) (f_p1_rank : Nat → Int32) (f_layout_low : Nat → Int32) (f_layout_high : Nat → Int32) (fu : Nat) (i2 : Int32) (v_rules : Int32) (f_before : Nat → Int32) (f_after : Nat → Int32) (f_seconds : Nat → Int32) (f_turns : Nat → Int32) : lp_TM_addSoaks v_p1_count f_layout_loadedSeconds f_p1_rank f_layout_low f_layout_high (fu + 1) 0 i2 v_rules f_before f_after f_seconds f_turns = (
    if v_p1_count ≤ i2 then
      some (v_rules, f_before, f_after, f_seconds, f_turns)
    else
      ox_gd (i2 - 1) 6 (
      ox_cl (fn_OR_soakTurns i2 f_p1_rank) fun r2 =>
      ox_gd i2 6 (
      ox_cl (fn_TM_addRule (i2 - 1) i2 ((f_layout_loadedSeconds (i2 - 1).toNatClampNeg) + (f_layout_low i2.toNatClampNeg)) (-r2) v_rules f_before f_after f_seconds f_turns) fun (s3_v_rules, s3_f_before, s3_f_after, s3_f_seconds, s3_f_turns) =>
      ox_gd i2 6 (
      ox_cl (fn_TM_addRule i2 (i2 - 1) ((-(f_layout_loadedSeconds (i2 - 1).toNatClampNeg)) - (f_layout_high i2.toNatClampNeg)) r2 s3_v_rules s3_f_before s3_f_after s3_f_seconds s3_f_turns) fun (s4_v_rules, s4_f_before, s4_f_after, s4_f_seconds, s4_f_turns) =>
      lp_TM_addSoaks v_p1_count f_layout_loadedSeconds f_p1_rank f_layout_low f_layout_high fu 0 (i2 + 1) s4_v_rules s4_f_before s4_f_after s4_f_seconds s4_f_turns)))) := rfl
theorem sq_TM_raiseTimes_0 (v_rules : Int32) (f_before : Nat → Int32) (f_seconds : Nat → Int32) (f_turns : Nat → Int32) (f_after : Nat → Int32) (fu : Nat) (i1 : Int32) (i2 : Int32) (i3 : Int32) (f_times : Nat → Int32) (f_cause : Nat → Int32) : lp_TM_raiseTimes v_rules f_before f_seconds f_turns f_after (fu + 1) 0 i1 i2 i3 f_times f_cause = (
    if v_rules ≤ i3 then
      some (i2, f_times, f_cause)
    else
      ox_gd i3 16 (
      ox_gd (f_before i3.toNatClampNeg) 6 (
      ox_gd i3 16 (
      ox_gd i3 16 (
      ox_gd i3 16 (
      ox_gd (f_after i3.toNatClampNeg) 6 (
      if (((f_times (f_before i3.toNatClampNeg).toNatClampNeg) + (f_seconds i3.toNatClampNeg)) + ((f_turns i3.toNatClampNeg) * i1)) ≤ (f_times (f_after i3.toNatClampNeg).toNatClampNeg) then
        lp_TM_raiseTimes v_rules f_before f_seconds f_turns f_after fu 0 i1 i2 (i3 + 1) f_times f_cause
      else
        ox_gd (f_after i3.toNatClampNeg) 6 (
        ox_gd (f_after i3.toNatClampNeg) 6 (
        lp_TM_raiseTimes v_rules f_before f_seconds f_turns f_after fu 0 i1 (f_after i3.toNatClampNeg) (i3 + 1) (upd f_times (f_after i3.toNatClampNeg).toNatClampNeg (((f_times (f_before i3.toNatClampNeg).toNatClampNeg) + (f_seconds i3.toNatClampNeg)) + ((f_turns i3.toNatClampNeg) * i1))) (upd f_cause (f_after i3.toNatClampNeg).toNatClampNeg i3)))))))))) := rfl
theorem sq_TM_settleTimes_0 (z : Nat) (v_rules : Int32) (f_before : Nat → Int32) (f_seconds : Nat → Int32) (f_turns : Nat → Int32) (f_after : Nat → Int32) (fu : Nat) (i1 : Int32) (i2 : Int32) (i3 : Int32) (f_times : Nat → Int32) (f_cause : Nat → Int32) : lp_TM_settleTimes z v_rules f_before f_seconds f_turns f_after (fu + 1) 0 i1 i2 i3 f_times f_cause = (
    if i1 ≤ i3 then
      some ((-1), f_times, f_cause)
    else
      ox_cl (fn_TM_raiseTimes z i2 v_rules f_before f_times f_seconds f_turns f_after f_cause) fun (r3, s3_f_times, s3_f_cause) =>
      if ¬ r3 = (-1) then
        if ¬ i3 = (i1 - 1) then
          lp_TM_settleTimes z v_rules f_before f_seconds f_turns f_after fu 0 i1 i2 (i3 + 1) s3_f_times s3_f_cause
        else
          some (r3, s3_f_times, s3_f_cause)
      else
        some ((-1), s3_f_times, s3_f_cause)) := rfl
theorem sq_TM_moveOnRing_0 (f_cause : Nat → Int32) (f_before : Nat → Int32) (fu : Nat) (i1 : Int32) (i2 : Int32) (i3 : Int32) (i4 : Int32) : lp_TM_moveOnRing f_cause f_before (fu + 1) 0 i1 i2 i3 i4 = (
    if i1 ≤ i4 then
      some i3
    else
      ox_gd i3 6 (
      ox_gd (f_cause i3.toNatClampNeg) 16 (
      lp_TM_moveOnRing f_cause f_before fu 0 i1 i2 (f_before (f_cause i3.toNatClampNeg).toNatClampNeg) (i4 + 1)))) := rfl
theorem sq_TM_cycleThatBreaksRing_0 (z : Nat) (f_cause : Nat → Int32) (f_before : Nat → Int32) (f_seconds : Nat → Int32) (f_turns : Nat → Int32) (fu : Nat) (i1 : Int32) (i2 : Int32) (i3 : Int32) (i4 : Int32) (i5 : Int32) (i6 : Int32) (i7 : Int32) : lp_TM_cycleThatBreaksRing z f_cause f_before f_seconds f_turns (fu + 1) 0 i1 i2 i3 i4 i5 i6 i7 = (
    if i1 ≤ i7 then
      if i5 < 0 then
        ox_nz (-i5) (
        some (((i4 + (-i5)) - 1) / (-i5)))
      else
        some 2001
    else
      ox_gd i6 6 (
      ox_gd (f_cause i6.toNatClampNeg) 16 (
      ox_gd (f_cause i6.toNatClampNeg) 16 (
      ox_gd (f_cause i6.toNatClampNeg) 16 (
      if ¬ (f_before (f_cause i6.toNatClampNeg).toNatClampNeg) = i3 then
        lp_TM_cycleThatBreaksRing z f_cause f_before f_seconds f_turns fu 0 i1 i2 i3 (i4 + (f_seconds (f_cause i6.toNatClampNeg).toNatClampNeg)) (i5 + (f_turns (f_cause i6.toNatClampNeg).toNatClampNeg)) (f_before (f_cause i6.toNatClampNeg).toNatClampNeg) (i7 + 1)
      else
        if (i5 + (f_turns (f_cause i6.toNatClampNeg).toNatClampNeg)) < 0 then
          ox_nz (-(i5 + (f_turns (f_cause i6.toNatClampNeg).toNatClampNeg))) (
          some ((((i4 + (f_seconds (f_cause i6.toNatClampNeg).toNatClampNeg)) + (-(i5 + (f_turns (f_cause i6.toNatClampNeg).toNatClampNeg)))) - 1) / (-(i5 + (f_turns (f_cause i6.toNatClampNeg).toNatClampNeg)))))
        else
          some 2001))))) := rfl
theorem sq_TM_leastCycle_0 (z : Nat) (v_p1_count : Int32) (f_p1_moves : Nat → Int32) (f_layout_loadedSeconds : Nat → Int32) (f_p1_rank : Nat → Int32) (f_layout_low : Nat → Int32) (f_layout_high : Nat → Int32) (f_layout_emptySeconds : Nat → Nat → Int32) (fu : Nat) (i2 : Int32) (i3 : Int32) (i4 : Int32) (v_rules : Int32) (f_before : Nat → Int32) (f_after : Nat → Int32) (f_seconds : Nat → Int32) (f_turns : Nat → Int32) (f_times : Nat → Int32) (f_cause : Nat → Int32) : lp_TM_leastCycle z v_p1_count f_p1_moves f_layout_loadedSeconds f_p1_rank f_layout_low f_layout_high f_layout_emptySeconds (fu + 1) 0 i2 i3 i4 v_rules f_before f_after f_seconds f_turns f_times f_cause = (
    if 2000 ≤ i4 then
      some ((-1), v_rules, f_before, f_after, f_seconds, f_turns, f_times, f_cause)
    else
      if i2 < i3 then
        some ((-1), v_rules, f_before, f_after, f_seconds, f_turns, f_times, f_cause)
      else
        ox_cl (fn_TM_settleTimes z v_p1_count i3 v_rules f_times f_before f_seconds f_turns f_after f_cause) fun (r6, s6_f_times, s6_f_cause) =>
        if ¬ r6 = (-1) then
          ox_cl (fn_TM_cycleThatBreaksRing z v_p1_count r6 s6_f_cause f_before f_seconds f_turns) fun r8 =>
          lp_TM_leastCycle z v_p1_count f_p1_moves f_layout_loadedSeconds f_p1_rank f_layout_low f_layout_high f_layout_emptySeconds fu 0 i2 r8 (i4 + 1) v_rules f_before f_after f_seconds f_turns s6_f_times s6_f_cause
        else
          some (i3, v_rules, f_before, f_after, f_seconds, f_turns, s6_f_times, s6_f_cause)) := rfl
theorem sq_WK_isDrained_0 (v_hoistCarrier : Int32) (v_layout_tanks : Int32) (f_carriers : Nat → Int32) (fu : Nat) (i1 : Int32) : lp_WK_isDrained v_hoistCarrier v_layout_tanks f_carriers (fu + 1) 0 i1 = (
    if v_layout_tanks < i1 then
      if ¬ v_hoistCarrier = 0 then
        some 0
      else
        some 1
    else
      ox_gd i1 6 (
      if (f_carriers i1.toNatClampNeg) = 0 then
        lp_WK_isDrained v_hoistCarrier v_layout_tanks f_carriers fu 0 (i1 + 1)
      else
        some 0)) := rfl
theorem sq_HP_findPlan_0 (z : Nat) (v_layout_tanks : Int32) (f_layout_loadedSeconds : Nat → Int32) (f_layout_low : Nat → Int32) (f_layout_high : Nat → Int32) (f_layout_emptySeconds : Nat → Nat → Int32) (fu : Nat) (i1 : Int32) (i2 : Int32) (i3 : Int32) (v_tried_count : Int32) (v_timing_rules : Int32) (v_found_cycle : Int32) (v_found_order_count : Int32) (f_tried_moves : Nat → Int32) (f_tried_rank : Nat → Int32) (f_timing_before : Nat → Int32) (f_timing_after : Nat → Int32) (f_timing_seconds : Nat → Int32) (f_timing_turns : Nat → Int32) (f_timing_times : Nat → Int32) (f_timing_cause : Nat → Int32) (f_found_order_moves : Nat → Int32) (f_found_order_rank : Nat → Int32) (f_found_times : Nat → Int32) : lp_HP_findPlan z v_layout_tanks f_layout_loadedSeconds f_layout_low f_layout_high f_layout_emptySeconds (fu + 1) 0 i1 i2 i3 v_tried_count v_timing_rules v_found_cycle v_found_order_count f_tried_moves f_tried_rank f_timing_before f_timing_after f_timing_seconds f_timing_turns f_timing_times f_timing_cause f_found_order_moves f_found_order_rank f_found_times = (
    if 120 ≤ i3 then
      some (i1, v_tried_count, v_timing_rules, v_found_cycle, v_found_order_count, f_tried_moves, f_tried_rank, f_timing_before, f_timing_after, f_timing_seconds, f_timing_turns, f_timing_times, f_timing_cause, f_found_order_moves, f_found_order_rank, f_found_times)
    else
      ox_cl (fn_TM_leastCycle z i2 v_timing_rules v_tried_count f_tried_moves f_layout_loadedSeconds f_timing_before f_timing_after f_timing_seconds f_timing_turns f_tried_rank f_layout_low f_layout_high f_timing_times f_timing_cause f_layout_emptySeconds) fun (r3, s3_v_rules, s3_f_before, s3_f_after, s3_f_seconds, s3_f_turns, s3_f_times, s3_f_cause) =>
      if r3 = (-1) then
        ox_cl (fn_OR_toNext z v_tried_count f_tried_moves f_tried_rank) fun (r5, s5_f_moves, s5_f_rank) =>
        if ¬ r5 = 0 then
          lp_HP_findPlan z v_layout_tanks f_layout_loadedSeconds f_layout_low f_layout_high f_layout_emptySeconds fu 0 i1 i2 (i3 + 1) v_tried_count s3_v_rules v_found_cycle v_found_order_count s5_f_moves s5_f_rank s3_f_before s3_f_after s3_f_seconds s3_f_turns s3_f_times s3_f_cause f_found_order_moves f_found_order_rank f_found_times
        else
          some (i1, v_tried_count, s3_v_rules, v_found_cycle, v_found_order_count, s5_f_moves, s5_f_rank, s3_f_before, s3_f_after, s3_f_seconds, s3_f_turns, s3_f_times, s3_f_cause, f_found_order_moves, f_found_order_rank, f_found_times)
      else
        ox_cl (fn_PL_keep r3 v_found_cycle v_tried_count v_found_order_count f_tried_moves f_found_order_moves f_tried_rank f_found_order_rank s3_f_times f_found_times) fun (s7_v_cycle, s7_v_order_count, s7_f_order_moves, s7_f_order_rank, s7_f_times) =>
        ox_cl (fn_OR_toNext z v_tried_count f_tried_moves f_tried_rank) fun (r8, s8_f_moves, s8_f_rank) =>
        if ¬ r8 = 0 then
          lp_HP_findPlan z v_layout_tanks f_layout_loadedSeconds f_layout_low f_layout_high f_layout_emptySeconds fu 0 r3 (r3 - 1) (i3 + 1) v_tried_count s3_v_rules s7_v_cycle s7_v_order_count s8_f_moves s8_f_rank s3_f_before s3_f_after s3_f_seconds s3_f_turns s3_f_times s3_f_cause s7_f_order_moves s7_f_order_rank s7_f_times
        else
          some (r3, v_tried_count, s3_v_rules, s7_v_cycle, s7_v_order_count, s8_f_moves, s8_f_rank, s3_f_before, s3_f_after, s3_f_seconds, s3_f_turns, s3_f_times, s3_f_cause, s7_f_order_moves, s7_f_order_rank, s7_f_times)) := rfl
theorem sq_HP_run_0 (v_planned : Int32) (v_works_entryStopped : Int32) (v_found_cycle : Int32) (v_layout_tanks : Int32) (f_found_order_moves : Nat → Int32) (f_found_times : Nat → Int32) (f_layout_loadedSeconds : Nat → Int32) (fu : Nat) (i1 : Int32) (i2 : Int32) (i3 : Int32) (v_works_second : Int32) (v_works_cycleSecond : Int32) (v_works_nextRank : Int32) (v_works_entered : Int32) (v_works_done : Int32) (v_works_lastStay : Int32) (v_works_hoistCarrier : Int32) (v_works_hoistMove : Int32) (v_works_hoistEntry : Int32) (v_works_hoistEnd : Int32) (f_works_carriers : Nat → Int32) (f_works_entries : Nat → Int32) : lp_HP_run v_planned v_works_entryStopped v_found_cycle v_layout_tanks f_found_order_moves f_found_times f_layout_loadedSeconds (fu + 1) 0 i1 i2 i3 v_works_second v_works_cycleSecond v_works_nextRank v_works_entered v_works_done v_works_lastStay v_works_hoistCarrier v_works_hoistMove v_works_hoistEntry v_works_hoistEnd f_works_carriers f_works_entries = (
    if i1 ≤ i3 then
      some (0, i2, v_works_second, v_works_cycleSecond, v_works_nextRank, v_works_entered, v_works_done, v_works_lastStay, v_works_hoistCarrier, v_works_hoistMove, v_works_hoistEntry, v_works_hoistEnd, f_works_carriers, f_works_entries)
    else
      ox_cl (fn_WK_passSecond v_works_second v_works_cycleSecond v_works_nextRank v_works_entryStopped v_works_entered v_works_done v_works_lastStay v_works_hoistCarrier v_works_hoistMove v_works_hoistEntry v_works_hoistEnd v_found_cycle v_layout_tanks f_found_order_moves f_found_times f_works_carriers f_works_entries f_layout_loadedSeconds) fun (r5, s5_v_second, s5_v_cycleSecond, s5_v_nextRank, s5_v_entered, s5_v_done, s5_v_lastStay, s5_v_hoistCarrier, s5_v_hoistMove, s5_v_hoistEntry, s5_v_hoistEnd, s5_f_carriers, s5_f_entries) =>
      if r5 = 0 then
        lp_HP_run v_planned v_works_entryStopped v_found_cycle v_layout_tanks f_found_order_moves f_found_times f_layout_loadedSeconds fu 0 i1 i2 (i3 + 1) s5_v_second s5_v_cycleSecond s5_v_nextRank s5_v_entered s5_v_done s5_v_lastStay s5_v_hoistCarrier s5_v_hoistMove s5_v_hoistEntry s5_v_hoistEnd s5_f_carriers s5_f_entries
      else
        lp_HP_run v_planned v_works_entryStopped v_found_cycle v_layout_tanks f_found_order_moves f_found_times f_layout_loadedSeconds fu 0 i1 (i2 + 1) (i3 + 1) s5_v_second s5_v_cycleSecond s5_v_nextRank s5_v_entered s5_v_done s5_v_lastStay s5_v_hoistCarrier s5_v_hoistMove s5_v_hoistEntry s5_v_hoistEnd s5_f_carriers s5_f_entries) := rfl
theorem sq_MD_clear_0 (fu : Nat) (i1 : Int32) (i2 : Int32) (v_tanks : Int32) (v_hasPlan : Int32) (f_low : Nat → Int32) (f_high : Nat → Int32) (f_loaded : Nat → Int32) (f_empty : Nat → Int32) : lp_MD_clear (fu + 1) 0 i1 i2 v_tanks v_hasPlan f_low f_high f_loaded f_empty = (
    if 6 ≤ i2 then
      lp_MD_clear fu 1 i1 0 v_tanks v_hasPlan f_low f_high f_loaded f_empty
    else
      ox_gd i2 6 (
      ox_gd i2 6 (
      ox_gd i2 6 (
      lp_MD_clear fu 0 i1 (i2 + 1) v_tanks v_hasPlan (upd f_low i2.toNatClampNeg 0) (upd f_high i2.toNatClampNeg 500) (upd f_loaded i2.toNatClampNeg 10) f_empty)))) := rfl
theorem sq_MD_clear_1 (fu : Nat) (i1 : Int32) (i2 : Int32) (v_tanks : Int32) (v_hasPlan : Int32) (f_low : Nat → Int32) (f_high : Nat → Int32) (f_loaded : Nat → Int32) (f_empty : Nat → Int32) : lp_MD_clear (fu + 1) 1 i1 i2 v_tanks v_hasPlan f_low f_high f_loaded f_empty = (
    if 49 ≤ i2 then
      some (v_tanks, v_hasPlan, f_low, f_high, f_loaded, f_empty)
    else
      ox_gd i2 49 (
      lp_MD_clear fu 1 i1 (i2 + 1) v_tanks v_hasPlan f_low f_high f_loaded (upd f_empty i2.toNatClampNeg 0))) := rfl
theorem sq_MD_readiness_0 (v_tanks : Int32) (f_empty : Nat → Int32) (f_loaded : Nat → Int32) (fu : Nat) (i1 : Int32) : lp_MD_readiness v_tanks f_empty f_loaded (fu + 1) 0 i1 = (
    if v_tanks < i1 then
      lp_MD_readiness v_tanks f_empty f_loaded fu 1 0
    else
      ox_gd (((7 * i1) + i1) + 1) 49 (
      ox_gd i1 6 (
      if (f_empty (((7 * i1) + i1) + 1).toNatClampNeg) ≤ (f_loaded i1.toNatClampNeg) then
        lp_MD_readiness v_tanks f_empty f_loaded fu 0 (i1 + 1)
      else
        some (1 + i1)))) := rfl
theorem sq_MD_readiness_1 (v_tanks : Int32) (f_empty : Nat → Int32) (f_loaded : Nat → Int32) (fu : Nat) (i1 : Int32) : lp_MD_readiness v_tanks f_empty f_loaded (fu + 1) 1 i1 = (
    if 343 ≤ i1 then
      some 0
    else
      if (v_tanks + 1) < (i1 / 49) then
        lp_MD_readiness v_tanks f_empty f_loaded fu 1 (i1 + 1)
      else
        if (v_tanks + 1) < ((i1 / 7) - (i1 / 7) / 7 * 7) then
          lp_MD_readiness v_tanks f_empty f_loaded fu 1 (i1 + 1)
        else
          if (v_tanks + 1) < (i1 - i1 / 7 * 7) then
            lp_MD_readiness v_tanks f_empty f_loaded fu 1 (i1 + 1)
          else
            ox_gd ((7 * (i1 / 49)) + (i1 - i1 / 7 * 7)) 49 (
            ox_gd ((7 * (i1 / 49)) + ((i1 / 7) - (i1 / 7) / 7 * 7)) 49 (
            ox_gd ((7 * ((i1 / 7) - (i1 / 7) / 7 * 7)) + (i1 - i1 / 7 * 7)) 49 (
            if (f_empty ((7 * (i1 / 49)) + (i1 - i1 / 7 * 7)).toNatClampNeg) ≤ ((f_empty ((7 * (i1 / 49)) + ((i1 / 7) - (i1 / 7) / 7 * 7)).toNatClampNeg) + (f_empty ((7 * ((i1 / 7) - (i1 / 7) / 7 * 7)) + (i1 - i1 / 7 * 7)).toNatClampNeg)) then
              lp_MD_readiness v_tanks f_empty f_loaded fu 1 (i1 + 1)
            else
              some (100 + i1))))) := rfl
theorem sq_MD_raiseAll_0 (v_tanks : Int32) (f_order : Nat → Int32) (f_loaded : Nat → Int32) (f_empty : Nat → Int32) (f_places : Nat → Int32) (f_low : Nat → Int32) (f_high : Nat → Int32) (fu : Nat) (i1 : Int32) (i2 : Int32) (i3 : Int32) (f_times : Nat → Int32) : lp_MD_raiseAll v_tanks f_order f_loaded f_empty f_places f_low f_high (fu + 1) 0 i1 i2 i3 f_times = (
    if v_tanks ≤ i3 then
      lp_MD_raiseAll v_tanks f_order f_loaded f_empty f_places f_low f_high fu 1 i1 i2 1 f_times
    else
      ox_gd (i3 + 1) 6 (
      ox_gd i3 6 (
      ox_gd (f_order i3.toNatClampNeg) 6 (
      ox_gd i3 6 (
      ox_gd (i3 + 1) 6 (
      ox_cl (fn_MD_behind (f_order i3.toNatClampNeg) (f_order (i3 + 1).toNatClampNeg) f_loaded f_empty) fun r2 =>
      ox_cl (fn_MD_raise (f_order (i3 + 1).toNatClampNeg) ((f_times (f_order i3.toNatClampNeg).toNatClampNeg) + r2) f_times) fun (r3, s3_f_times) =>
      if ¬ r3 = 0 then
        lp_MD_raiseAll v_tanks f_order f_loaded f_empty f_places f_low f_high fu 0 i1 1 (i3 + 1) s3_f_times
      else
        if i2 = 0 then
          lp_MD_raiseAll v_tanks f_order f_loaded f_empty f_places f_low f_high fu 0 i1 0 (i3 + 1) s3_f_times
        else
          lp_MD_raiseAll v_tanks f_order f_loaded f_empty f_places f_low f_high fu 0 i1 1 (i3 + 1) s3_f_times)))))) := rfl
theorem sq_MD_raiseAll_1 (v_tanks : Int32) (f_order : Nat → Int32) (f_loaded : Nat → Int32) (f_empty : Nat → Int32) (f_places : Nat → Int32) (f_low : Nat → Int32) (f_high : Nat → Int32) (fu : Nat) (i1 : Int32) (i2 : Int32) (i3 : Int32) (f_times : Nat → Int32) : lp_MD_raiseAll v_tanks f_order f_loaded f_empty f_places f_low f_high (fu + 1) 1 i1 i2 i3 f_times = (
    if v_tanks < i3 then
      ox_bg i2 (
      some (i2, f_times))
    else
      ox_gd i3 6 (
      ox_gd (i3 - 1) 6 (
      if (f_places (i3 - 1).toNatClampNeg) ≤ (f_places i3.toNatClampNeg) then
        ox_gd (i3 - 1) 6 (
        ox_gd (i3 - 1) 6 (
        ox_gd i3 6 (
        ox_cl (fn_MD_raise i3 ((((f_times (i3 - 1).toNatClampNeg) + (f_loaded (i3 - 1).toNatClampNeg)) + (f_low i3.toNatClampNeg)) - 0) f_times) fun (r8, s8_f_times) =>
        if ¬ r8 = 0 then
          ox_gd i3 6 (
          ox_gd (i3 - 1) 6 (
          ox_gd i3 6 (
          ox_cl (fn_MD_raise (i3 - 1) ((((s8_f_times i3.toNatClampNeg) + 0) - (f_loaded (i3 - 1).toNatClampNeg)) - (f_high i3.toNatClampNeg)) s8_f_times) fun (r10, s10_f_times) =>
          if ¬ r10 = 0 then
            lp_MD_raiseAll v_tanks f_order f_loaded f_empty f_places f_low f_high fu 1 i1 1 (i3 + 1) s10_f_times
          else
            lp_MD_raiseAll v_tanks f_order f_loaded f_empty f_places f_low f_high fu 1 i1 1 (i3 + 1) s10_f_times)))
        else
          if i2 = 0 then
            ox_gd i3 6 (
            ox_gd (i3 - 1) 6 (
            ox_gd i3 6 (
            ox_cl (fn_MD_raise (i3 - 1) ((((s8_f_times i3.toNatClampNeg) + 0) - (f_loaded (i3 - 1).toNatClampNeg)) - (f_high i3.toNatClampNeg)) s8_f_times) fun (r13, s13_f_times) =>
            if ¬ r13 = 0 then
              lp_MD_raiseAll v_tanks f_order f_loaded f_empty f_places f_low f_high fu 1 i1 1 (i3 + 1) s13_f_times
            else
              lp_MD_raiseAll v_tanks f_order f_loaded f_empty f_places f_low f_high fu 1 i1 0 (i3 + 1) s13_f_times)))
          else
            ox_gd i3 6 (
            ox_gd (i3 - 1) 6 (
            ox_gd i3 6 (
            ox_cl (fn_MD_raise (i3 - 1) ((((s8_f_times i3.toNatClampNeg) + 0) - (f_loaded (i3 - 1).toNatClampNeg)) - (f_high i3.toNatClampNeg)) s8_f_times) fun (r15, s15_f_times) =>
            if ¬ r15 = 0 then
              lp_MD_raiseAll v_tanks f_order f_loaded f_empty f_places f_low f_high fu 1 i1 1 (i3 + 1) s15_f_times
            else
              lp_MD_raiseAll v_tanks f_order f_loaded f_empty f_places f_low f_high fu 1 i1 1 (i3 + 1) s15_f_times))))))
      else
        ox_gd (i3 - 1) 6 (
        ox_gd (i3 - 1) 6 (
        ox_gd i3 6 (
        ox_cl (fn_MD_raise i3 ((((f_times (i3 - 1).toNatClampNeg) + (f_loaded (i3 - 1).toNatClampNeg)) + (f_low i3.toNatClampNeg)) - i1) f_times) fun (r17, s17_f_times) =>
        if ¬ r17 = 0 then
          ox_gd i3 6 (
          ox_gd (i3 - 1) 6 (
          ox_gd i3 6 (
          ox_cl (fn_MD_raise (i3 - 1) ((((s17_f_times i3.toNatClampNeg) + i1) - (f_loaded (i3 - 1).toNatClampNeg)) - (f_high i3.toNatClampNeg)) s17_f_times) fun (r19, s19_f_times) =>
          if ¬ r19 = 0 then
            lp_MD_raiseAll v_tanks f_order f_loaded f_empty f_places f_low f_high fu 1 i1 1 (i3 + 1) s19_f_times
          else
            lp_MD_raiseAll v_tanks f_order f_loaded f_empty f_places f_low f_high fu 1 i1 1 (i3 + 1) s19_f_times)))
        else
          if i2 = 0 then
            ox_gd i3 6 (
            ox_gd (i3 - 1) 6 (
            ox_gd i3 6 (
            ox_cl (fn_MD_raise (i3 - 1) ((((s17_f_times i3.toNatClampNeg) + i1) - (f_loaded (i3 - 1).toNatClampNeg)) - (f_high i3.toNatClampNeg)) s17_f_times) fun (r22, s22_f_times) =>
            if ¬ r22 = 0 then
              lp_MD_raiseAll v_tanks f_order f_loaded f_empty f_places f_low f_high fu 1 i1 1 (i3 + 1) s22_f_times
            else
              lp_MD_raiseAll v_tanks f_order f_loaded f_empty f_places f_low f_high fu 1 i1 0 (i3 + 1) s22_f_times)))
          else
            ox_gd i3 6 (
            ox_gd (i3 - 1) 6 (
            ox_gd i3 6 (
            ox_cl (fn_MD_raise (i3 - 1) ((((s17_f_times i3.toNatClampNeg) + i1) - (f_loaded (i3 - 1).toNatClampNeg)) - (f_high i3.toNatClampNeg)) s17_f_times) fun (r24, s24_f_times) =>
            if ¬ r24 = 0 then
              lp_MD_raiseAll v_tanks f_order f_loaded f_empty f_places f_low f_high fu 1 i1 1 (i3 + 1) s24_f_times
            else
              lp_MD_raiseAll v_tanks f_order f_loaded f_empty f_places f_low f_high fu 1 i1 1 (i3 + 1) s24_f_times))))))))) := rfl
theorem sq_MD_fits_0 (z : Nat) (v_tanks : Int32) (f_order : Nat → Int32) (f_loaded : Nat → Int32) (f_empty : Nat → Int32) (f_places : Nat → Int32) (f_low : Nat → Int32) (f_high : Nat → Int32) (fu : Nat) (i1 : Int32) (i2 : Int32) (i3 : Int32) (i4 : Int32) (f_times : Nat → Int32) : lp_MD_fits z v_tanks f_order f_loaded f_empty f_places f_low f_high (fu + 1) 0 i1 i2 i3 i4 f_times = (
    if v_tanks < i2 then
      lp_MD_fits z v_tanks f_order f_loaded f_empty f_places f_low f_high fu 1 i1 0 0 0 f_times
    else
      ox_gd i2 6 (
      lp_MD_fits z v_tanks f_order f_loaded f_empty f_places f_low f_high fu 0 i1 (i2 + 1) 0 0 (upd f_times i2.toNatClampNeg 0))) := rfl
theorem sq_MD_fits_1 (z : Nat) (v_tanks : Int32) (f_order : Nat → Int32) (f_loaded : Nat → Int32) (f_empty : Nat → Int32) (f_places : Nat → Int32) (f_low : Nat → Int32) (f_high : Nat → Int32) (fu : Nat) (i1 : Int32) (i2 : Int32) (i3 : Int32) (i4 : Int32) (f_times : Nat → Int32) : lp_MD_fits z v_tanks f_order f_loaded f_empty f_places f_low f_high (fu + 1) 1 i1 i2 i3 i4 f_times = (
    if 9 ≤ i2 then
      lp_MD_fits z v_tanks f_order f_loaded f_empty f_places f_low f_high fu 2 i1 i2 0 0 f_times
    else
      ox_cl (fn_MD_raiseAll z i1 v_tanks f_order f_times f_loaded f_empty f_places f_low f_high) fun (r3, s3_f_times) =>
      if r3 = 0 then
        if ¬ (s3_f_times 0) = 0 then
          lp_MD_fits z v_tanks f_order f_loaded f_empty f_places f_low f_high fu 2 i1 i2 0 0 s3_f_times
        else
          ox_gd v_tanks 6 (
          ox_gd (f_order v_tanks.toNatClampNeg) 6 (
          ox_gd v_tanks 6 (
          ox_cl (fn_MD_behind (f_order v_tanks.toNatClampNeg) 0 f_loaded f_empty) fun r6 =>
          if i1 < ((s3_f_times (f_order v_tanks.toNatClampNeg).toNatClampNeg) + r6) then
            lp_MD_fits z v_tanks f_order f_loaded f_empty f_places f_low f_high fu 2 i1 i2 0 0 s3_f_times
          else
            lp_MD_fits z v_tanks f_order f_loaded f_empty f_places f_low f_high fu 2 i1 i2 1 0 s3_f_times)))
      else
        lp_MD_fits z v_tanks f_order f_loaded f_empty f_places f_low f_high fu 1 i1 (i2 + 1) 0 0 s3_f_times) := rfl
theorem sq_MD_fits_2 (z : Nat) (v_tanks : Int32) (f_order : Nat → Int32) (f_loaded : Nat → Int32) (f_empty : Nat → Int32) (f_places : Nat → Int32) (f_low : Nat → Int32) (f_high : Nat → Int32) (fu : Nat) (i1 : Int32) (i2 : Int32) (i3 : Int32) (i4 : Int32) (f_times : Nat → Int32) : lp_MD_fits z v_tanks f_order f_loaded f_empty f_places f_low f_high (fu + 1) 2 i1 i2 i3 i4 f_times = (
    if v_tanks < i4 then
      ox_bg i3 (
      some (i3, f_times))
    else
      if i3 = 0 then
        lp_MD_fits z v_tanks f_order f_loaded f_empty f_places f_low f_high fu 2 i1 i2 0 (i4 + 1) f_times
      else
        ox_gd i4 6 (
        if i1 ≤ (f_times i4.toNatClampNeg) then
          lp_MD_fits z v_tanks f_order f_loaded f_empty f_places f_low f_high fu 2 i1 i2 0 (i4 + 1) f_times
        else
          lp_MD_fits z v_tanks f_order f_loaded f_empty f_places f_low f_high fu 2 i1 i2 1 (i4 + 1) f_times)) := rfl
theorem sq_MD_seat_0 (v_tanks : Int32) (f_order : Nat → Int32) (fu : Nat) (i1 : Int32) (f_places : Nat → Int32) : lp_MD_seat v_tanks f_order (fu + 1) 0 i1 f_places = (
    if v_tanks < i1 then
      some f_places
    else
      ox_gd i1 6 (
      ox_gd (f_order i1.toNatClampNeg) 6 (
      lp_MD_seat v_tanks f_order fu 0 (i1 + 1) (upd f_places (f_order i1.toNatClampNeg).toNatClampNeg i1)))) := rfl
theorem sq_MD_leastOf_0 (z : Nat) (v_tanks : Int32) (f_order : Nat → Int32) (f_loaded : Nat → Int32) (f_empty : Nat → Int32) (f_low : Nat → Int32) (f_high : Nat → Int32) (fu : Nat) (i1 : Int32) (i2 : Int32) (i3 : Int32) (f_places : Nat → Int32) (f_times : Nat → Int32) : lp_MD_leastOf z v_tanks f_order f_loaded f_empty f_low f_high (fu + 1) 0 i1 i2 i3 f_places f_times = (
    if v_tanks < i3 then
      if 1 ≤ i2 then
        lp_MD_leastOf z v_tanks f_order f_loaded f_empty f_low f_high fu 1 i1 i2 i2 f_places f_times
      else
        lp_MD_leastOf z v_tanks f_order f_loaded f_empty f_low f_high fu 1 i1 i2 1 f_places f_times
    else
      ox_gd i3 6 (
      if ¬ i3 = v_tanks then
        ox_gd (i3 + 1) 6 (
        ox_cl (fn_MD_behind (f_order i3.toNatClampNeg) (f_order (i3 + 1).toNatClampNeg) f_loaded f_empty) fun r5 =>
        lp_MD_leastOf z v_tanks f_order f_loaded f_empty f_low f_high fu 0 i1 (i2 + r5) (i3 + 1) f_places f_times)
      else
        ox_cl (fn_MD_behind (f_order i3.toNatClampNeg) 0 f_loaded f_empty) fun r6 =>
        lp_MD_leastOf z v_tanks f_order f_loaded f_empty f_low f_high fu 0 i1 (i2 + r6) (i3 + 1) f_places f_times)) := rfl
theorem sq_MD_leastOf_1 (z : Nat) (v_tanks : Int32) (f_order : Nat → Int32) (f_loaded : Nat → Int32) (f_empty : Nat → Int32) (f_low : Nat → Int32) (f_high : Nat → Int32) (fu : Nat) (i1 : Int32) (i2 : Int32) (i3 : Int32) (f_places : Nat → Int32) (f_times : Nat → Int32) : lp_MD_leastOf z v_tanks f_order f_loaded f_empty f_low f_high (fu + 1) 1 i1 i2 i3 f_places f_times = (
    if i1 < i3 then
      some ((-1), f_places, f_times)
    else
      ox_cl (fn_MD_fits z i3 v_tanks f_times f_order f_loaded f_empty f_places f_low f_high) fun (r8, s8_f_times) =>
      if r8 = 0 then
        lp_MD_leastOf z v_tanks f_order f_loaded f_empty f_low f_high fu 1 i1 i2 (i3 + 1) f_places s8_f_times
      else
        some (i3, f_places, s8_f_times)) := rfl
theorem sq_MD_isOrder_0 (v_tanks : Int32) (f_order : Nat → Int32) (fu : Nat) (i1 : Int32) (i2 : Int32) (i3 : Int32) : lp_MD_isOrder v_tanks f_order (fu + 1) 0 i1 i2 i3 = (
    if v_tanks < i2 then
      ox_bg i1 (
      some i1)
    else
      if i1 = 0 then
        lp_MD_isOrder v_tanks f_order fu 1 0 i2 1
      else
        ox_gd i2 6 (
        ox_cl (fn_MD_in (f_order i2.toNatClampNeg) 1 v_tanks) fun r4 =>
        if r4 = 0 then
          lp_MD_isOrder v_tanks f_order fu 1 0 i2 1
        else
          lp_MD_isOrder v_tanks f_order fu 1 1 i2 1)) := rfl
theorem sq_MD_isOrder_1 (v_tanks : Int32) (f_order : Nat → Int32) (fu : Nat) (i1 : Int32) (i2 : Int32) (i3 : Int32) : lp_MD_isOrder v_tanks f_order (fu + 1) 1 i1 i2 i3 = (
    if i2 ≤ i3 then
      lp_MD_isOrder v_tanks f_order fu 0 i1 (i2 + 1) 0
    else
      if i1 = 0 then
        lp_MD_isOrder v_tanks f_order fu 1 0 i2 (i3 + 1)
      else
        ox_gd i3 6 (
        ox_gd i2 6 (
        if (f_order i3.toNatClampNeg) = (f_order i2.toNatClampNeg) then
          lp_MD_isOrder v_tanks f_order fu 1 0 i2 (i3 + 1)
        else
          lp_MD_isOrder v_tanks f_order fu 1 1 i2 (i3 + 1)))) := rfl
theorem sq_MD_takeOrder_0 (z : Nat) (v_tanks : Int32) (fu : Nat) (i1 : Int32) (i2 : Int32) (i3 : Int32) (f_order : Nat → Int32) : lp_MD_takeOrder z v_tanks (fu + 1) 0 i1 i2 i3 f_order = (
    if i3 ≤ 0 then
      if i1 ≤ 0 then
        some (0, f_order)
      else
        if ¬ i2 = 0 then
          some (0, f_order)
        else
          ox_cl (fn_MD_isOrder z v_tanks f_order) fun r4 =>
          if r4 = 0 then
            some (0, f_order)
          else
            some (1, f_order)
    else
      ox_gd i3 6 (
      lp_MD_takeOrder z v_tanks fu 0 i1 (i2 / 10) (i3 + (-1)) (upd f_order i3.toNatClampNeg (i2 - i2 / 10 * 10)))) := rfl
theorem sq_MD_keep_0 (v_tanks : Int32) (f_order : Nat → Int32) (f_times : Nat → Int32) (fu : Nat) (i1 : Int32) (i2 : Int32) (v_hasPlan : Int32) (v_cycle : Int32) (f_planOrder : Nat → Int32) (f_planTimes : Nat → Int32) : lp_MD_keep v_tanks f_order f_times (fu + 1) 0 i1 i2 v_hasPlan v_cycle f_planOrder f_planTimes = (
    if v_tanks < i2 then
      some (v_hasPlan, v_cycle, f_planOrder, f_planTimes)
    else
      ox_gd i2 6 (
      ox_gd i2 6 (
      ox_gd i2 6 (
      ox_gd i2 6 (
      lp_MD_keep v_tanks f_order f_times fu 0 i1 (i2 + 1) v_hasPlan v_cycle (upd f_planOrder i2.toNatClampNeg (f_order i2.toNatClampNeg)) (upd f_planTimes i2.toNatClampNeg (f_times i2.toNatClampNeg))))))) := rfl
theorem sq_MD_emptyLine_0 (fu : Nat) (i1 : Int32) (v_second : Int32) (v_entered : Int32) (v_done : Int32) (v_took : Int32) (v_stopped : Int32) (v_move : Int32) (v_onHoist : Int32) (f_carriers : Nat → Int32) : lp_MD_emptyLine (fu + 1) 0 i1 v_second v_entered v_done v_took v_stopped v_move v_onHoist f_carriers = (
    if 7 ≤ i1 then
      some (v_second, v_entered, v_done, v_took, v_stopped, v_move, v_onHoist, f_carriers)
    else
      ox_gd i1 7 (
      lp_MD_emptyLine fu 0 (i1 + 1) v_second v_entered v_done v_took v_stopped v_move v_onHoist (upd f_carriers i1.toNatClampNeg 0))) := rfl
theorem sq_MD_solve_0 (z : Nat) (v_tanks : Int32) (f_empty : Nat → Int32) (f_loaded : Nat → Int32) (f_low : Nat → Int32) (f_high : Nat → Int32) (fu : Nat) (i1 : Int32) (i2 : Int32) (i3 : Int32) (v_thrown : Int32) (v_hasPlan : Int32) (v_cycle : Int32) (v_second : Int32) (v_entered : Int32) (v_done : Int32) (v_took : Int32) (v_stopped : Int32) (v_move : Int32) (v_onHoist : Int32) (f_carriers : Nat → Int32) (f_order : Nat → Int32) (f_places : Nat → Int32) (f_times : Nat → Int32) (f_planOrder : Nat → Int32) (f_planTimes : Nat → Int32) : lp_MD_solve z v_tanks f_empty f_loaded f_low f_high (fu + 1) 0 i1 i2 i3 v_thrown v_hasPlan v_cycle v_second v_entered v_done v_took v_stopped v_move v_onHoist f_carriers f_order f_places f_times f_planOrder f_planTimes = (
    if v_tanks ≤ i3 then
      lp_MD_solve z v_tanks f_empty f_loaded f_low f_high fu 1 i1 i2 (i2 / 10) v_thrown v_hasPlan v_cycle v_second v_entered v_done v_took v_stopped v_move v_onHoist f_carriers f_order f_places f_times f_planOrder f_planTimes
    else
      lp_MD_solve z v_tanks f_empty f_loaded f_low f_high fu 0 i1 (10 * i2) (i3 + 1) v_thrown v_hasPlan v_cycle v_second v_entered v_done v_took v_stopped v_move v_onHoist f_carriers f_order f_places f_times f_planOrder f_planTimes) := rfl
theorem sq_MD_solve_1 (z : Nat) (v_tanks : Int32) (f_empty : Nat → Int32) (f_loaded : Nat → Int32) (f_low : Nat → Int32) (f_high : Nat → Int32) (fu : Nat) (i1 : Int32) (i2 : Int32) (i3 : Int32) (v_thrown : Int32) (v_hasPlan : Int32) (v_cycle : Int32) (v_second : Int32) (v_entered : Int32) (v_done : Int32) (v_took : Int32) (v_stopped : Int32) (v_move : Int32) (v_onHoist : Int32) (f_carriers : Nat → Int32) (f_order : Nat → Int32) (f_places : Nat → Int32) (f_times : Nat → Int32) (f_planOrder : Nat → Int32) (f_planTimes : Nat → Int32) : lp_MD_solve z v_tanks f_empty f_loaded f_low f_high (fu + 1) 1 i1 i2 i3 v_thrown v_hasPlan v_cycle v_second v_entered v_done v_took v_stopped v_move v_onHoist f_carriers f_order f_places f_times f_planOrder f_planTimes = (
    if i2 ≤ i3 then
      ox_cl (fn_MD_emptyLine z v_second v_entered v_done v_took v_stopped v_move v_onHoist f_carriers) fun (s9_v_second, s9_v_entered, s9_v_done, s9_v_took, s9_v_stopped, s9_v_move, s9_v_onHoist, s9_f_carriers) =>
      if v_hasPlan = 0 then
        some ((-1), v_thrown, v_hasPlan, v_cycle, s9_v_second, s9_v_entered, s9_v_done, s9_v_took, s9_v_stopped, s9_v_move, s9_v_onHoist, s9_f_carriers, f_order, f_places, f_times, f_planOrder, f_planTimes)
      else
        some (i1, v_thrown, v_hasPlan, v_cycle, s9_v_second, s9_v_entered, s9_v_done, s9_v_took, s9_v_stopped, s9_v_move, s9_v_onHoist, s9_f_carriers, f_order, f_places, f_times, f_planOrder, f_planTimes)
    else
      ox_cl (fn_MD_takeOrder z i3 v_tanks f_order) fun (r11, s11_f_order) =>
      if ¬ r11 = 0 then
        ox_cl (fn_MD_leastOf z (i1 - 1) v_tanks s11_f_order f_places f_loaded f_empty f_times f_low f_high) fun (r13, s13_f_places, s13_f_times) =>
        if r13 ≤ 0 then
          lp_MD_solve z v_tanks f_empty f_loaded f_low f_high fu 1 i1 i2 (i3 + 1) v_thrown v_hasPlan v_cycle v_second v_entered v_done v_took v_stopped v_move v_onHoist f_carriers s11_f_order s13_f_places s13_f_times f_planOrder f_planTimes
        else
          ox_cl (fn_MD_keep z r13 v_tanks v_hasPlan v_cycle s11_f_order f_planOrder s13_f_times f_planTimes) fun (s15_v_hasPlan, s15_v_cycle, s15_f_planOrder, s15_f_planTimes) =>
          lp_MD_solve z v_tanks f_empty f_loaded f_low f_high fu 1 r13 i2 (i3 + 1) v_thrown s15_v_hasPlan s15_v_cycle v_second v_entered v_done v_took v_stopped v_move v_onHoist f_carriers s11_f_order s13_f_places s13_f_times s15_f_planOrder s15_f_planTimes
      else
        lp_MD_solve z v_tanks f_empty f_loaded f_low f_high fu 1 i1 i2 (i3 + 1) v_thrown v_hasPlan v_cycle v_second v_entered v_done v_took v_stopped v_move v_onHoist f_carriers s11_f_order f_places f_times f_planOrder f_planTimes) := rfl
theorem sq_MD_soakOf_0 (v_tanks : Int32) (v_cycle : Int32) (f_planTimes : Nat → Int32) (f_loaded : Nat → Int32) (f_planOrder : Nat → Int32) (fu : Nat) (i1 : Int32) (i2 : Int32) (i3 : Int32) : lp_MD_soakOf v_tanks v_cycle f_planTimes f_loaded f_planOrder (fu + 1) 0 i1 i2 i3 = (
    if v_tanks < i3 then
      ox_gd i1 6 (
      ox_gd (i1 - 1) 6 (
      ox_gd (i1 - 1) 6 (
      if i2 = 0 then
        some ((((f_planTimes i1.toNatClampNeg) - (f_planTimes (i1 - 1).toNatClampNeg)) - (f_loaded (i1 - 1).toNatClampNeg)) + 0)
      else
        some ((((f_planTimes i1.toNatClampNeg) - (f_planTimes (i1 - 1).toNatClampNeg)) - (f_loaded (i1 - 1).toNatClampNeg)) + v_cycle))))
    else
      ox_gd i3 6 (
      if ¬ (f_planOrder i3.toNatClampNeg) = (i1 - 1) then
        if ¬ i2 = 0 then
          lp_MD_soakOf v_tanks v_cycle f_planTimes f_loaded f_planOrder fu 0 i1 1 (i3 + 1)
        else
          ox_gd i3 6 (
          if ¬ (f_planOrder i3.toNatClampNeg) = i1 then
            lp_MD_soakOf v_tanks v_cycle f_planTimes f_loaded f_planOrder fu 0 i1 0 (i3 + 1)
          else
            lp_MD_soakOf v_tanks v_cycle f_planTimes f_loaded f_planOrder fu 0 i1 1 (i3 + 1))
      else
        ox_gd i1 6 (
        ox_gd (i1 - 1) 6 (
        ox_gd (i1 - 1) 6 (
        if i2 = 0 then
          some ((((f_planTimes i1.toNatClampNeg) - (f_planTimes (i1 - 1).toNatClampNeg)) - (f_loaded (i1 - 1).toNatClampNeg)) + 0)
        else
          some ((((f_planTimes i1.toNatClampNeg) - (f_planTimes (i1 - 1).toNatClampNeg)) - (f_loaded (i1 - 1).toNatClampNeg)) + v_cycle)))))) := rfl
theorem sq_MD_plan_0 (z : Nat) (v_tanks : Int32) (v_hasPlan : Int32) (v_cycle : Int32) (f_planOrder : Nat → Int32) (f_planTimes : Nat → Int32) (f_loaded : Nat → Int32) (fu : Nat) (i1 : Int32) (i2 : Int32) (i3 : Int32) (i4 : Int32) (i5 : Int32) (v_thrown : Int32) : lp_MD_plan z v_tanks v_hasPlan v_cycle f_planOrder f_planTimes f_loaded (fu + 1) 0 i1 i2 i3 i4 i5 v_thrown = (
    if ¬ v_hasPlan = 0 then
      if ¬ i3 = 0 then
        ox_cl (fn_MD_refuse 0 0 v_thrown) fun (r11, s11_v_thrown) =>
        if r11 = 0 then
          lp_MD_plan z v_tanks v_hasPlan v_cycle f_planOrder f_planTimes f_loaded fu 1 i1 i2 i3 0 0 s11_v_thrown
        else
          some (0, s11_v_thrown)
      else
        ox_cl (fn_MD_refuse 0 1 v_thrown) fun (r13, s13_v_thrown) =>
        if r13 = 0 then
          lp_MD_plan z v_tanks v_hasPlan v_cycle f_planOrder f_planTimes f_loaded fu 1 i1 i2 i3 0 0 s13_v_thrown
        else
          some (0, s13_v_thrown)
    else
      ox_cl (fn_MD_refuse 1 0 v_thrown) fun (r15, s15_v_thrown) =>
      if r15 = 0 then
        lp_MD_plan z v_tanks v_hasPlan v_cycle f_planOrder f_planTimes f_loaded fu 1 i1 i2 i3 0 0 s15_v_thrown
      else
        some (0, s15_v_thrown)) := rfl
theorem sq_MD_plan_1 (z : Nat) (v_tanks : Int32) (v_hasPlan : Int32) (v_cycle : Int32) (f_planOrder : Nat → Int32) (f_planTimes : Nat → Int32) (f_loaded : Nat → Int32) (fu : Nat) (i1 : Int32) (i2 : Int32) (i3 : Int32) (i4 : Int32) (i5 : Int32) (v_thrown : Int32) : lp_MD_plan z v_tanks v_hasPlan v_cycle f_planOrder f_planTimes f_loaded (fu + 1) 1 i1 i2 i3 i4 i5 v_thrown = (
    if i2 = 0 then
      ox_gd i1 6 (
      some ((f_planOrder i1.toNatClampNeg), v_thrown))
    else
    if i2 = 1 then
      ox_gd i1 6 (
      some ((f_planTimes i1.toNatClampNeg), v_thrown))
    else
    if i2 = 2 then
      ox_cl (fn_MD_soakOf z i1 v_tanks v_cycle f_planTimes f_loaded f_planOrder) fun r17 =>
      some (r17, v_thrown)
    else
    if i2 = 3 then
      some (v_cycle, v_thrown)
    else
      lp_MD_plan z v_tanks v_hasPlan v_cycle f_planOrder f_planTimes f_loaded fu 2 i1 i2 i3 0 1 v_thrown) := rfl
theorem sq_MD_plan_2 (z : Nat) (v_tanks : Int32) (v_hasPlan : Int32) (v_cycle : Int32) (f_planOrder : Nat → Int32) (f_planTimes : Nat → Int32) (f_loaded : Nat → Int32) (fu : Nat) (i1 : Int32) (i2 : Int32) (i3 : Int32) (i4 : Int32) (i5 : Int32) (v_thrown : Int32) : lp_MD_plan z v_tanks v_hasPlan v_cycle f_planOrder f_planTimes f_loaded (fu + 1) 2 i1 i2 i3 i4 i5 v_thrown = (
    if v_tanks < i5 then
      some (i4, v_thrown)
    else
      ox_gd i5 6 (
      lp_MD_plan z v_tanks v_hasPlan v_cycle f_planOrder f_planTimes f_loaded fu 2 i1 i2 i3 ((10 * i4) + (f_planOrder i5.toNatClampNeg)) (i5 + 1) v_thrown)) := rfl
theorem sq_MD_run_0 (v_tanks : Int32) (v_hasPlan : Int32) (v_cycle : Int32) (v_stopped : Int32) (f_planTimes : Nat → Int32) (f_loaded : Nat → Int32) (fu : Nat) (i1 : Int32) (i2 : Int32) (i3 : Int32) (i4 : Int32) (v_thrown : Int32) (v_second : Int32) (v_entered : Int32) (v_done : Int32) (v_took : Int32) (v_move : Int32) (v_ends : Int32) (v_onHoist : Int32) (v_began : Int32) (f_carriers : Nat → Int32) (f_begins : Nat → Int32) : lp_MD_run v_tanks v_hasPlan v_cycle v_stopped f_planTimes f_loaded (fu + 1) 0 i1 i2 i3 i4 v_thrown v_second v_entered v_done v_took v_move v_ends v_onHoist v_began f_carriers f_begins = (
    if i1 ≤ i3 then
      some (i2, v_thrown, v_second, v_entered, v_done, v_took, v_move, v_ends, v_onHoist, v_began, f_carriers, f_begins)
    else
      if v_move < 0 then
        lp_MD_run v_tanks v_hasPlan v_cycle v_stopped f_planTimes f_loaded fu 1 i1 i2 i3 0 v_thrown v_second v_entered v_done v_took v_move v_ends v_onHoist v_began f_carriers f_begins
      else
        if ¬ v_second = v_ends then
          lp_MD_run v_tanks v_hasPlan v_cycle v_stopped f_planTimes f_loaded fu 1 i1 i2 i3 0 v_thrown v_second v_entered v_done v_took v_move v_ends v_onHoist v_began f_carriers f_begins
        else
          ox_cl (fn_MD_endMove v_tanks v_second v_done v_took v_move v_onHoist v_began f_carriers f_begins) fun (s13_v_done, s13_v_took, s13_v_move, s13_v_onHoist, s13_f_carriers, s13_f_begins) =>
          lp_MD_run v_tanks v_hasPlan v_cycle v_stopped f_planTimes f_loaded fu 1 i1 i2 i3 0 v_thrown v_second v_entered s13_v_done s13_v_took s13_v_move v_ends s13_v_onHoist v_began s13_f_carriers s13_f_begins) := rfl
theorem sq_MD_run_1 (v_tanks : Int32) (v_hasPlan : Int32) (v_cycle : Int32) (v_stopped : Int32) (f_planTimes : Nat → Int32) (f_loaded : Nat → Int32) (fu : Nat) (i1 : Int32) (i2 : Int32) (i3 : Int32) (i4 : Int32) (v_thrown : Int32) (v_second : Int32) (v_entered : Int32) (v_done : Int32) (v_took : Int32) (v_move : Int32) (v_ends : Int32) (v_onHoist : Int32) (v_began : Int32) (f_carriers : Nat → Int32) (f_begins : Nat → Int32) : lp_MD_run v_tanks v_hasPlan v_cycle v_stopped f_planTimes f_loaded (fu + 1) 1 i1 i2 i3 i4 v_thrown v_second v_entered v_done v_took v_move v_ends v_onHoist v_began f_carriers f_begins = (
    if v_tanks < i4 then
      lp_MD_run v_tanks v_hasPlan v_cycle v_stopped f_planTimes f_loaded fu 0 i1 i2 (i3 + 1) 0 v_thrown (v_second + 1) v_entered v_done v_took v_move v_ends v_onHoist v_began f_carriers f_begins
    else
      ox_gd i4 6 (
      ox_nz v_cycle (
      if ¬ (f_planTimes i4.toNatClampNeg) = (v_second - v_second / v_cycle * v_cycle) then
        lp_MD_run v_tanks v_hasPlan v_cycle v_stopped f_planTimes f_loaded fu 1 i1 i2 i3 (i4 + 1) v_thrown v_second v_entered v_done v_took v_move v_ends v_onHoist v_began f_carriers f_begins
      else
        ox_cl (fn_MD_begin i4 v_second v_entered v_stopped v_move v_ends v_onHoist v_began f_carriers f_begins f_loaded) fun (r16, s16_v_entered, s16_v_move, s16_v_ends, s16_v_onHoist, s16_v_began, s16_f_carriers) =>
        if r16 = 0 then
          lp_MD_run v_tanks v_hasPlan v_cycle v_stopped f_planTimes f_loaded fu 1 i1 i2 i3 (i4 + 1) v_thrown v_second s16_v_entered v_done v_took s16_v_move s16_v_ends s16_v_onHoist s16_v_began s16_f_carriers f_begins
        else
          lp_MD_run v_tanks v_hasPlan v_cycle v_stopped f_planTimes f_loaded fu 1 i1 (i2 + 1) i3 (i4 + 1) v_thrown v_second s16_v_entered v_done v_took s16_v_move s16_v_ends s16_v_onHoist s16_v_began s16_f_carriers f_begins))) := rfl
theorem sq_MD_state_0 (v_tanks : Int32) (v_hasPlan : Int32) (v_second : Int32) (v_entered : Int32) (v_done : Int32) (v_took : Int32) (v_move : Int32) (v_onHoist : Int32) (f_carriers : Nat → Int32) (fu : Nat) (i1 : Int32) (i2 : Int32) (i3 : Int32) (v_thrown : Int32) : lp_MD_state v_tanks v_hasPlan v_second v_entered v_done v_took v_move v_onHoist f_carriers (fu + 1) 0 i1 i2 i3 v_thrown = (
    if i1 = 0 then
      some (v_second, v_thrown)
    else
    if i1 = 1 then
      some (v_entered, v_thrown)
    else
    if i1 = 2 then
      some (v_done, v_thrown)
    else
    if i1 = 3 then
      some (v_onHoist, v_thrown)
    else
    if i1 = 4 then
      some (v_move, v_thrown)
    else
    if i1 = 5 then
      lp_MD_state v_tanks v_hasPlan v_second v_entered v_done v_took v_move v_onHoist f_carriers fu 1 i1 v_onHoist 1 v_thrown
    else
      some (v_took, v_thrown)) := rfl
theorem sq_MD_state_1 (v_tanks : Int32) (v_hasPlan : Int32) (v_second : Int32) (v_entered : Int32) (v_done : Int32) (v_took : Int32) (v_move : Int32) (v_onHoist : Int32) (f_carriers : Nat → Int32) (fu : Nat) (i1 : Int32) (i2 : Int32) (i3 : Int32) (v_thrown : Int32) : lp_MD_state v_tanks v_hasPlan v_second v_entered v_done v_took v_move v_onHoist f_carriers (fu + 1) 1 i1 i2 i3 v_thrown = (
    if v_tanks < i3 then
      if ¬ i2 = 0 then
        some (0, v_thrown)
      else
        some (1, v_thrown)
    else
      ox_gd i3 7 (
      if (f_carriers i3.toNatClampNeg) ≤ 0 then
        lp_MD_state v_tanks v_hasPlan v_second v_entered v_done v_took v_move v_onHoist f_carriers fu 1 i1 i2 (i3 + 1) v_thrown
      else
        lp_MD_state v_tanks v_hasPlan v_second v_entered v_done v_took v_move v_onHoist f_carriers fu 1 i1 1 (i3 + 1) v_thrown)) := rfl

/-! The data of the line: reset on both sides. -/
theorem ox_clE {α β : Type} (a : α) (k : α → Option β) : ox_cl (some a) k = k a := rfl
abbrev fl6 (v : Int32) (f : Nat → Int32) : Nat → Int32 := fun j => if j < 6 then v else f j
theorem LY_reset_eq {z : Nat} (hz : 100 ≤ z) (a t0 : Int32) (low high ld : Nat → Int32) (es : Nat → Nat → Int32) :
    ∃ es', fn_LY_reset z a t0 low high ld es = some (a, fl6 0 low, fl6 500 high, fl6 10 ld, es') ∧ ∀ i j, i < 7 → j < 7 → es' i j = 0 := by
  unfold fn_LY_reset
  simp only [pz_fill (n := 6) (z := z) (by decide) (by omega), pz_fill (n := 7) (z := z) (by decide) (by omega), ox_clE]
  refine ⟨_, rfl, fun i j hi hj => ?_⟩
  rcases (show i = 0 ∨ i = 1 ∨ i = 2 ∨ i = 3 ∨ i = 4 ∨ i = 5 ∨ i = 6 by omega) with rfl | rfl | rfl | rfl | rfl | rfl | rfl <;> simp [va_up, hj]
theorem MD_clear1 (a t0 h0 : Int32) (low high ld : Nat → Int32) : ∀ (m fu i : Nat) (em : Nat → Int32), i + m = 49 → m < fu → lp_MD_clear fu 1 a (nI i) t0 h0 low high ld em = some (t0, h0, low, high, ld, fun j => if i ≤ j ∧ j < 49 then 0 else em j) := by
  intro m
  induction m with
  | zero =>
    intro fu i em hi hf
    cases fu with
    | zero => omega
    | succ fu =>
      rw [sq_MD_clear_1, if_pos (show (49 : Int32) ≤ nI i from nI_le (a := 49) (by omega) (by omega))]
      congr 6
      funext j
      rw [if_neg (by omega)]
  | succ m ih =>
    intro fu i em hi hf
    cases fu with
    | zero => omega
    | succ fu =>
      rw [sq_MD_clear_1, if_neg (show ¬ (49 : Int32) ≤ nI i from nI_ge (b := 49) (by omega) (by decide)), ox_gdN (by omega) (by decide), nI_1, nI_clamp (by omega), ih fu (i + 1) _ (by omega) (by omega)]
      congr 6
      funext j
      by_cases h : j = i
      · subst h
        rw [if_neg (by omega), if_pos (by omega)]
        exact pk_us
      · rw [pk_un h]
        by_cases h2 : i + 1 ≤ j ∧ j < 49
        · rw [if_pos h2, if_pos (by omega)]
        · rw [if_neg h2, if_neg (by omega)]
theorem MD_clear0 (a t0 h0 : Int32) (em : Nat → Int32) : ∀ (m fu i : Nat) (low high ld : Nat → Int32), i + m = 6 → m + 51 < fu → lp_MD_clear fu 0 a (nI i) t0 h0 low high ld em = some (t0, h0, (fun j => if i ≤ j ∧ j < 6 then 0 else low j), (fun j => if i ≤ j ∧ j < 6 then 500 else high j), (fun j => if i ≤ j ∧ j < 6 then 10 else ld j), fun j => if j < 49 then 0 else em j) := by
  have key : ∀ (v : Int32) (f : Nat → Int32) (i : Nat), i < 6 → (fun j => if i + 1 ≤ j ∧ j < 6 then v else upd f i v j) = fun j => if i ≤ j ∧ j < 6 then v else f j := by
    intro v f i hi
    funext j
    by_cases h : j = i
    · subst h
      rw [if_neg (by omega), if_pos (by omega)]
      exact pk_us
    · rw [pk_un h]
      by_cases h2 : i + 1 ≤ j ∧ j < 6
      · rw [if_pos h2, if_pos (by omega)]
      · rw [if_neg h2, if_neg (by omega)]
  intro m
  induction m with
  | zero =>
    intro fu i low high ld hi hf
    cases fu with
    | zero => omega
    | succ fu =>
      rw [sq_MD_clear_0, if_pos (show (6 : Int32) ≤ nI i from nI_le (a := 6) (by omega) (by omega))]
      refine (MD_clear1 a t0 h0 low high ld 49 fu 0 em (by omega) (by omega)).trans ?_
      have e : i = 6 := by omega
      subst e
      have k0 : ∀ (v : Int32) (f : Nat → Int32), (fun j => if 6 ≤ j ∧ j < 6 then v else f j) = f := fun v f => by funext j; rw [if_neg (by omega)]
      have k1 : (fun j => if 0 ≤ j ∧ j < 49 then (0 : Int32) else em j) = fun j => if j < 49 then 0 else em j := by
        funext j
        by_cases h : j < 49
        · rw [if_pos ⟨Nat.zero_le _, h⟩, if_pos h]
        · rw [if_neg (fun q => h q.2), if_neg h]
      rw [k1, k0, k0, k0]
  | succ m ih =>
    intro fu i low high ld hi hf
    cases fu with
    | zero => omega
    | succ fu =>
      rw [sq_MD_clear_0, if_neg (show ¬ (6 : Int32) ≤ nI i from nI_ge (b := 6) (by omega) (by decide)), ox_gdN (by omega) (by decide), ox_gdN (by omega) (by decide), ox_gdN (by omega) (by decide), nI_1, nI_clamp (by omega), ih fu (i + 1) _ _ _ (by omega) (by omega), key _ _ _ (by omega), key _ _ _ (by omega), key _ _ _ (by omega)]
theorem MD_clear_eq {z : Nat} (hz : 100 ≤ z) (a t0 h0 : Int32) (low high ld em : Nat → Int32) : fn_MD_clear z a t0 h0 low high ld em = some (a, 0, fl6 0 low, fl6 500 high, fl6 10 ld, fun j => if j < 49 then 0 else em j) := by
  show lp_MD_clear z 0 a (nI 0) a 0 low high ld em = _
  rw [MD_clear0 a a 0 em 6 z 0 low high ld (by omega) (by omega)]
  have key : ∀ (v : Int32) (f : Nat → Int32), (fun j => if 0 ≤ j ∧ j < 6 then v else f j) = fl6 v f := by
    intro v f
    funext j
    show _ = if j < 6 then v else f j
    by_cases h : j < 6
    · rw [if_pos ⟨Nat.zero_le _, h⟩, if_pos h]
    · rw [if_neg (fun q => h q.2), if_neg h]
  rw [key, key, key]
/-- the data on both sides -/
def dat (t : Nat) (low high ld : Nat → Int32) (es : Nat → Nat → Int32) (em : Nat → Int32) : Prop :=
  (1 ≤ t ∧ t ≤ 5) ∧ (∀ k, k < 6 → 0 ≤ (low k).toInt ∧ (low k).toInt ≤ (high k).toInt ∧ (high k).toInt ≤ 500 ∧ 1 ≤ (ld k).toInt ∧ (ld k).toInt ≤ 100) ∧ ∀ i j, i < 7 → j < 7 → em (7 * i + j) = es i j ∧ 0 ≤ (es i j).toInt ∧ (es i j).toInt ≤ 100
theorem dat_new {t : Nat} (h1 : 1 ≤ t) (h2 : t ≤ 5) (low high ld : Nat → Int32) (es : Nat → Nat → Int32) (em : Nat → Int32) (he : ∀ i j, i < 7 → j < 7 → es i j = 0) : dat t (fl6 0 low) (fl6 500 high) (fl6 10 ld) es (fun j => if j < 49 then 0 else em j) := by
  refine ⟨⟨h1, h2⟩, fun k hk => ?_, fun i j hi hj => ?_⟩
  · simp only [fl6, hk, if_true]
    decide
  · show (if 7 * i + j < 49 then (0 : Int32) else em (7 * i + j)) = es i j ∧ _
    rw [if_pos (by omega), he i j hi hj]
    exact ⟨rfl, by decide, by decide⟩

/-! The calls that set the data. -/
theorem nI_lit1 : (1 : Int32) = nI 1 := rfl
theorem rng {a : Int32} {lo hi : Nat} (hl : ¬ a < nI lo) (hh : ¬ nI hi < a) (hb : lo < 2 ^ 31) (hb2 : hi < 2 ^ 31) : ∃ t : Nat, lo ≤ t ∧ t ≤ hi ∧ a = nI t := by
  have h1 := nI_toInt hb
  have h2 := nI_toInt hb2
  rw [Int32.lt_iff_toInt_lt] at hl hh
  have h0 : ¬ a < 0 := by rw [Int32.lt_iff_toInt_lt, Int32.toInt_zero]; omega
  obtain ⟨j, hj, rfl⟩ := nI_of h0
  have h3 := nI_toInt hj
  exact ⟨j, by omega, by omega, rfl⟩
theorem LW_line_ok {z t : Nat} (hz : 100 ≤ z) (h1 : 1 ≤ t) (h2 : t ≤ 5) (pl tk : Int32) (low high ld : Nat → Int32) (es : Nat → Nat → Int32) :
    ∃ es', fn_LW_line z (nI t) pl tk low high ld es = some (0, 0, nI t, fl6 0 low, fl6 500 high, fl6 10 ld, es') ∧ ∀ i j, i < 7 → j < 7 → es' i j = 0 := by
  obtain ⟨es', he, hq⟩ := LY_reset_eq hz (nI t) tk low high ld es
  refine ⟨es', ?_, hq⟩
  have c1 : ¬ nI t < 1 := nI_nlt (b := 1) h1 (by omega)
  have c2 : ¬ 5 < nI t := nI_nlt (a := 5) h2 (by decide)
  simp [fn_LW_line, fn_HP_line, fn_HP_isWithin, fn_HP_require, ox_clE, c1, c2, he]
theorem LW_line_no {z : Nat} {a : Int32} (h : a < 1 ∨ 5 < a) (pl tk : Int32) (low high ld : Nat → Int32) (es : Nat → Nat → Int32) : fn_LW_line z a pl tk low high ld es = some (1, pl, tk, low, high, ld, es) := by
  by_cases h1 : a < 1
  · simp [fn_LW_line, fn_HP_line, fn_HP_isWithin, fn_HP_require, ox_clE, h1]
  · have h2 : 5 < a := h.resolve_left h1
    simp [fn_LW_line, fn_HP_line, fn_HP_isWithin, fn_HP_require, ox_clE, h1, h2]
theorem MD_line_ok {z t : Nat} (hz : 100 ≤ z) (h1 : 1 ≤ t) (h2 : t ≤ 5) (th tk hp : Int32) (low high ld em : Nat → Int32) : fn_MD_line z (nI t) th tk hp low high ld em = some (0, nI t, 0, fl6 0 low, fl6 500 high, fl6 10 ld, fun j => if j < 49 then 0 else em j) := by
  have c1 : ¬ nI t < 1 := nI_nlt (b := 1) h1 (by omega)
  have c2 : ¬ 5 < nI t := nI_nlt (a := 5) h2 (by decide)
  simp [fn_MD_line, fn_MD_in, fn_MD_refuse, ox_clE, c1, c2, MD_clear_eq hz]
theorem MD_line_no {z : Nat} {a : Int32} (h : a < 1 ∨ 5 < a) (th tk hp : Int32) (low high ld em : Nat → Int32) : fn_MD_line z a th tk hp low high ld em = some (1, tk, hp, low, high, ld, em) := by
  by_cases h1 : a < 1
  · simp [fn_MD_line, fn_MD_in, fn_MD_refuse, ox_clE, h1]
  · have h2 : 5 < a := h.resolve_left h1
    simp [fn_MD_line, fn_MD_in, fn_MD_refuse, ox_clE, h1, h2]
/-- soak -/
theorem LW_soak_ok {k : Nat} {a2 a3 tk : Int32} (hk : 1 ≤ k) (hk5 : k ≤ 5) (c2 : ¬ tk < nI k) (c3 : ¬ a2 < 0) (c4 : ¬ a3 < a2) (c5 : ¬ 500 < a3) (pl : Int32) (low high : Nat → Int32) : fn_LW_soak (nI k) a2 a3 pl tk low high = some (0, 0, upd low k a2, upd high k a3) := by
  have c1 : ¬ nI k < 1 := nI_nlt (b := 1) hk (by omega)
  simp [fn_LW_soak, fn_HP_soak, fn_LY_hasTank, fn_HP_require, ox_clE, c1, c2, c3, c4, c5, ox_gdN (show k < 6 by omega) (by decide), nI_clamp (show k < 2 ^ 31 by omega)]
theorem LW_soak_no {a1 a2 a3 tk : Int32} (h : a1 < 1 ∨ tk < a1 ∨ a2 < 0 ∨ a3 < a2 ∨ 500 < a3) (pl : Int32) (low high : Nat → Int32) : fn_LW_soak a1 a2 a3 pl tk low high = some (1, pl, low, high) := by
  by_cases h1 : a1 < 1
  · simp [fn_LW_soak, fn_HP_soak, fn_LY_hasTank, fn_HP_require, ox_clE, h1]
  by_cases h2 : tk < a1
  · simp [fn_LW_soak, fn_HP_soak, fn_LY_hasTank, fn_HP_require, ox_clE, h1, h2]
  by_cases h3 : a2 < 0
  · simp [fn_LW_soak, fn_HP_soak, fn_LY_hasTank, fn_HP_require, ox_clE, h1, h2, h3]
  by_cases h4 : a3 < a2
  · simp [fn_LW_soak, fn_HP_soak, fn_LY_hasTank, fn_HP_require, ox_clE, h1, h2, h3, h4]
  have h5 : 500 < a3 := by simpa [h1, h2, h3, h4] using h
  simp [fn_LW_soak, fn_HP_soak, fn_LY_hasTank, fn_HP_require, ox_clE, h1, h2, h3, h4, h5]
theorem MD_soak_ok {k : Nat} {a2 a3 tk : Int32} (hk : 1 ≤ k) (hk5 : k ≤ 5) (c2 : ¬ tk < nI k) (c3 : ¬ a2 < 0) (c4 : ¬ a3 < a2) (c5 : ¬ 500 < a3) (th hp : Int32) (low high : Nat → Int32) : fn_MD_soak (nI k) a2 a3 th tk hp low high = some (0, 0, upd low k a2, upd high k a3) := by
  have c1 : ¬ nI k < 1 := nI_nlt (b := 1) hk (by omega)
  have c6 : ¬ 500 < a2 := by (simp only [vp_in_iff, Int32.lt_iff_toInt_lt, Int32.le_iff_toInt_le, ← Int32.toInt_inj, Int32.toInt_add, Int32.toInt_sub, Int32.toInt_neg, Int32.toInt_zero, Int.bmod_def, Int32.reduceToInt, ne_eq] at *; omega)
  have c7 : ¬ a3 < 0 := by (simp only [vp_in_iff, Int32.lt_iff_toInt_lt, Int32.le_iff_toInt_le, ← Int32.toInt_inj, Int32.toInt_add, Int32.toInt_sub, Int32.toInt_neg, Int32.toInt_zero, Int.bmod_def, Int32.reduceToInt, ne_eq] at *; omega)
  have c8 : a2 ≤ a3 := by (simp only [vp_in_iff, Int32.lt_iff_toInt_lt, Int32.le_iff_toInt_le, ← Int32.toInt_inj, Int32.toInt_add, Int32.toInt_sub, Int32.toInt_neg, Int32.toInt_zero, Int.bmod_def, Int32.reduceToInt, ne_eq] at *; omega)
  simp [fn_MD_soak, fn_MD_in, fn_MD_refuse, ox_clE, c1, c2, c3, c4, c5, c6, c7, c8, ox_gdN (show k < 6 by omega) (by decide), nI_clamp (show k < 2 ^ 31 by omega)]
theorem MD_soak_no {a1 a2 a3 tk : Int32} (h : a1 < 1 ∨ tk < a1 ∨ a2 < 0 ∨ a3 < a2 ∨ 500 < a3) (th hp : Int32) (low high : Nat → Int32) : fn_MD_soak a1 a2 a3 th tk hp low high = some (1, hp, low, high) := by
  by_cases h1 : a1 < 1
  · simp [fn_MD_soak, fn_MD_in, fn_MD_refuse, ox_clE, h1]
  by_cases h2 : tk < a1
  · simp [fn_MD_soak, fn_MD_in, fn_MD_refuse, ox_clE, h1, h2]
  by_cases h3 : a2 < 0
  · simp [fn_MD_soak, fn_MD_in, fn_MD_refuse, ox_clE, h1, h2, h3]
  by_cases h4 : 500 < a2
  · simp [fn_MD_soak, fn_MD_in, fn_MD_refuse, ox_clE, h1, h2, h3, h4]
  by_cases h5 : a3 < 0
  · simp [fn_MD_soak, fn_MD_in, fn_MD_refuse, ox_clE, h1, h2, h3, h4, h5]
  by_cases h6 : 500 < a3
  · simp [fn_MD_soak, fn_MD_in, fn_MD_refuse, ox_clE, h1, h2, h3, h4, h5, h6]
  have h7 : a3 < a2 := by simpa [h1, h2, h3, h6] using h
  have h8 : ¬ a2 ≤ a3 := by (simp only [vp_in_iff, Int32.lt_iff_toInt_lt, Int32.le_iff_toInt_le, ← Int32.toInt_inj, Int32.toInt_add, Int32.toInt_sub, Int32.toInt_neg, Int32.toInt_zero, Int.bmod_def, Int32.reduceToInt, ne_eq] at *; omega)
  simp [fn_MD_soak, fn_MD_in, fn_MD_refuse, ox_clE, h1, h2, h3, h4, h5, h6, h8]
/-- loaded -/
theorem LW_loaded_ok {k : Nat} {a2 tk : Int32} (hk5 : k ≤ 5) (c2 : ¬ tk < nI k) (c3 : ¬ a2 < 1) (c4 : ¬ 100 < a2) (pl : Int32) (ld : Nat → Int32) : fn_LW_loaded (nI k) a2 pl tk ld = some (0, 0, upd ld k a2) := by
  have c1 : ¬ nI k < 0 := nI_pos (by omega)
  simp [fn_LW_loaded, fn_HP_loaded, fn_LY_hasMove, fn_HP_isWithin, fn_HP_require, ox_clE, c1, c2, c3, c4, ox_gdN (show k < 6 by omega) (by decide), nI_clamp (show k < 2 ^ 31 by omega)]
theorem LW_loaded_no {a1 a2 tk : Int32} (h : a1 < 0 ∨ tk < a1 ∨ a2 < 1 ∨ 100 < a2) (pl : Int32) (ld : Nat → Int32) : fn_LW_loaded a1 a2 pl tk ld = some (1, pl, ld) := by
  by_cases h1 : a1 < 0
  · simp [fn_LW_loaded, fn_HP_loaded, fn_LY_hasMove, fn_HP_isWithin, fn_HP_require, ox_clE, h1]
  by_cases h2 : tk < a1
  · simp [fn_LW_loaded, fn_HP_loaded, fn_LY_hasMove, fn_HP_isWithin, fn_HP_require, ox_clE, h1, h2]
  by_cases h3 : a2 < 1
  · simp [fn_LW_loaded, fn_HP_loaded, fn_LY_hasMove, fn_HP_isWithin, fn_HP_require, ox_clE, h1, h2, h3]
  have h4 : 100 < a2 := by simpa [h1, h2, h3] using h
  simp [fn_LW_loaded, fn_HP_loaded, fn_LY_hasMove, fn_HP_isWithin, fn_HP_require, ox_clE, h1, h2, h3, h4]
theorem MD_loaded_ok {k : Nat} {a2 tk : Int32} (hk5 : k ≤ 5) (c2 : ¬ tk < nI k) (c3 : ¬ a2 < 1) (c4 : ¬ 100 < a2) (th hp : Int32) (ld : Nat → Int32) : fn_MD_loaded (nI k) a2 th tk hp ld = some (0, 0, upd ld k a2) := by
  have c1 : ¬ nI k < 0 := nI_pos (by omega)
  simp [fn_MD_loaded, fn_MD_in, fn_MD_refuse, ox_clE, c1, c2, c3, c4, ox_gdN (show k < 6 by omega) (by decide), nI_clamp (show k < 2 ^ 31 by omega)]
theorem MD_loaded_no {a1 a2 tk : Int32} (h : a1 < 0 ∨ tk < a1 ∨ a2 < 1 ∨ 100 < a2) (th hp : Int32) (ld : Nat → Int32) : fn_MD_loaded a1 a2 th tk hp ld = some (1, hp, ld) := by
  by_cases h1 : a1 < 0
  · simp [fn_MD_loaded, fn_MD_in, fn_MD_refuse, ox_clE, h1]
  by_cases h2 : tk < a1
  · simp [fn_MD_loaded, fn_MD_in, fn_MD_refuse, ox_clE, h1, h2]
  by_cases h3 : a2 < 1
  · simp [fn_MD_loaded, fn_MD_in, fn_MD_refuse, ox_clE, h1, h2, h3]
  have h4 : 100 < a2 := by simpa [h1, h2, h3] using h
  simp [fn_MD_loaded, fn_MD_in, fn_MD_refuse, ox_clE, h1, h2, h3, h4]
/-- empty -/
theorem LW_empty_ok {i j : Nat} {a3 tk : Int32} (hi : i ≤ 6) (hj : j ≤ 6) (hij : i ≠ j) (c1 : ¬ tk + 1 < nI i) (c2 : ¬ tk + 1 < nI j) (c3 : ¬ a3 < 0) (c4 : ¬ 100 < a3) (pl : Int32) (es : Nat → Nat → Int32) : fn_LW_empty (nI i) (nI j) a3 pl tk es = some (0, 0, va_up es i (upd (es i) j a3)) := by
  have d1 : ¬ nI i < 0 := nI_pos (by omega)
  have d2 : ¬ nI j < 0 := nI_pos (by omega)
  have d3 : ¬ nI i = nI j := fun q => hij ((nI_eq (by omega) (by omega)).mp q)
  simp [fn_LW_empty, fn_HP_empty, fn_LY_hasPlace, fn_HP_isWithin, fn_HP_require, ox_clE, c1, c2, c3, c4, d1, d2, d3, ox_gdN (show i < 7 by omega) (by decide), ox_gdN (show j < 7 by omega) (by decide), nI_clamp (show i < 2 ^ 31 by omega), nI_clamp (show j < 2 ^ 31 by omega)]
theorem LW_empty_no {a1 a2 a3 tk : Int32} (h : a1 < 0 ∨ tk + 1 < a1 ∨ a2 < 0 ∨ tk + 1 < a2 ∨ a1 = a2 ∨ a3 < 0 ∨ 100 < a3) (pl : Int32) (es : Nat → Nat → Int32) : fn_LW_empty a1 a2 a3 pl tk es = some (1, pl, es) := by
  by_cases h1 : a1 < 0
  · simp [fn_LW_empty, fn_HP_empty, fn_LY_hasPlace, fn_HP_isWithin, fn_HP_require, ox_clE, h1]
  by_cases h2 : tk + 1 < a1
  · simp [fn_LW_empty, fn_HP_empty, fn_LY_hasPlace, fn_HP_isWithin, fn_HP_require, ox_clE, h1, h2]
  by_cases h3 : a2 < 0
  · simp [fn_LW_empty, fn_HP_empty, fn_LY_hasPlace, fn_HP_isWithin, fn_HP_require, ox_clE, h1, h2, h3]
  by_cases h4 : tk + 1 < a2
  · simp [fn_LW_empty, fn_HP_empty, fn_LY_hasPlace, fn_HP_isWithin, fn_HP_require, ox_clE, h1, h2, h3, h4]
  by_cases h5 : a1 = a2
  · subst h5
    simp [fn_LW_empty, fn_HP_empty, fn_LY_hasPlace, fn_HP_isWithin, fn_HP_require, ox_clE, h1, h2]
  by_cases h6 : a3 < 0
  · simp [fn_LW_empty, fn_HP_empty, fn_LY_hasPlace, fn_HP_isWithin, fn_HP_require, ox_clE, h1, h2, h3, h4, h5, h6]
  have h7 : 100 < a3 := by simpa [h1, h2, h3, h4, h5, h6] using h
  simp [fn_LW_empty, fn_HP_empty, fn_LY_hasPlace, fn_HP_isWithin, fn_HP_require, ox_clE, h1, h2, h3, h4, h5, h6, h7]
theorem nI_mul (a b : Nat) : nI a * nI b = nI (a * b) := (Int32.ofNat_mul a b).symm
theorem MD_empty_ok {i j : Nat} {a3 tk : Int32} (hi : i ≤ 6) (hj : j ≤ 6) (hij : i ≠ j) (c1 : ¬ tk + 1 < nI i) (c2 : ¬ tk + 1 < nI j) (c3 : ¬ a3 < 0) (c4 : ¬ 100 < a3) (th hp : Int32) (em : Nat → Int32) : fn_MD_empty (nI i) (nI j) a3 th tk hp em = some (0, 0, upd em (7 * i + j) a3) := by
  have d1 : ¬ nI i < 0 := nI_pos (by omega)
  have d2 : ¬ nI j < 0 := nI_pos (by omega)
  have d3 : ¬ nI i = nI j := fun q => hij ((nI_eq (by omega) (by omega)).mp q)
  have e1 : 7 * nI i + nI j = nI (7 * i + j) := by rw [show (7 : Int32) = nI 7 from rfl, nI_mul, nI_add]
  simp [fn_MD_empty, fn_MD_in, fn_MD_refuse, ox_clE, c1, c2, c3, c4, d1, d2, d3, e1, ox_gdN (show 7 * i + j < 49 by omega) (by decide), nI_clamp (show 7 * i + j < 2 ^ 31 by omega)]
theorem MD_empty_no {a1 a2 a3 tk : Int32} (h : a1 < 0 ∨ tk + 1 < a1 ∨ a2 < 0 ∨ tk + 1 < a2 ∨ a1 = a2 ∨ a3 < 0 ∨ 100 < a3) (th hp : Int32) (em : Nat → Int32) : fn_MD_empty a1 a2 a3 th tk hp em = some (1, hp, em) := by
  by_cases h1 : a1 < 0
  · simp [fn_MD_empty, fn_MD_in, fn_MD_refuse, ox_clE, h1]
  by_cases h2 : tk + 1 < a1
  · simp [fn_MD_empty, fn_MD_in, fn_MD_refuse, ox_clE, h1, h2]
  by_cases h3 : a2 < 0
  · simp [fn_MD_empty, fn_MD_in, fn_MD_refuse, ox_clE, h1, h2, h3]
  by_cases h4 : tk + 1 < a2
  · simp [fn_MD_empty, fn_MD_in, fn_MD_refuse, ox_clE, h1, h2, h3, h4]
  by_cases h5 : a1 = a2
  · subst h5
    simp [fn_MD_empty, fn_MD_in, fn_MD_refuse, ox_clE, h1, h2]
  by_cases h6 : a3 < 0
  · simp [fn_MD_empty, fn_MD_in, fn_MD_refuse, ox_clE, h1, h2, h3, h4, h5, h6]
  have h7 : 100 < a3 := by simpa [h1, h2, h3, h4, h5, h6] using h
  simp [fn_MD_empty, fn_MD_in, fn_MD_refuse, ox_clE, h1, h2, h3, h4, h5, h6, h7]

/-! What a function answers once its fuel is enough. -/
def Ev {α : Type} (f : Nat → Option α) (v : α) : Prop := ∃ N, ∀ z, N ≤ z → f z = some v
theorem Ev.now {α : Type} {f : Nat → Option α} {v : α} (h : ∀ z, f z = some v) : Ev f v := ⟨0, fun z _ => h z⟩
theorem Ev.from {α : Type} {f : Nat → Option α} {v : α} (N : Nat) (h : ∀ z, N ≤ z → f z = some v) : Ev f v := ⟨N, h⟩
theorem Ev.step {α : Type} {f g : Nat → Option α} {v : α} (hs : ∀ fu, f (fu + 1) = g fu) (h : Ev g v) : Ev f v := by
  obtain ⟨N, hN⟩ := h
  refine ⟨N + 1, fun z hz => ?_⟩
  obtain ⟨k, rfl⟩ : ∃ k, z = k + 1 := ⟨z - 1, by omega⟩
  rw [hs]
  exact hN k (by omega)
theorem Ev.congr {α : Type} {f g : Nat → Option α} {v : α} (hs : ∀ z, f z = g z) (h : Ev g v) : Ev f v := by
  obtain ⟨N, hN⟩ := h
  exact ⟨N, fun z hz => by rw [hs]; exact hN z hz⟩
theorem Ev.cl {α β : Type} {o : Nat → Option α} {k : Nat → α → Option β} {a : α} {v : β} (h : Ev o a) (hk : Ev (fun z => k z a) v) : Ev (fun z => ox_cl (o z) (k z)) v := by
  obtain ⟨N, hN⟩ := h
  obtain ⟨M, hM⟩ := hk
  refine ⟨N + M, fun z hz => ?_⟩
  show ox_cl (o z) (k z) = some v
  rw [hN z (by omega)]
  exact hM z (by omega)
theorem Ev.cl0 {α β : Type} {o : Option α} {k : Nat → α → Option β} {a : α} {v : β} (h : o = some a) (hk : Ev (fun z => k z a) v) : Ev (fun z => ox_cl o (k z)) v := by
  subst h
  exact hk
theorem Ev.pos {α : Type} {c : Prop} {q : Decidable c} {f g : Nat → Option α} {v : α} (hc : c) (h : Ev f v) : Ev (fun z => @ite _ c q (f z) (g z)) v := Ev.congr (fun z => if_pos hc) h
theorem Ev.neg {α : Type} {c : Prop} {q : Decidable c} {f g : Nat → Option α} {v : α} (hc : ¬ c) (h : Ev g v) : Ev (fun z => @ite _ c q (f z) (g z)) v := Ev.congr (fun z => if_neg hc) h
theorem Ev.gd {α : Type} {i : Int32} {n : Nat} {f : Nat → Option α} {v : α} (hc : vp_in i n) (h : Ev f v) : Ev (fun z => ox_gd i n (f z)) v := Ev.congr (fun z => ox_gdI hc) h
theorem Ev.gdN {α : Type} {i n : Nat} {f : Nat → Option α} {v : α} (hc : i < n) (hn : n < 2 ^ 31) (h : Ev f v) : Ev (fun z => ox_gd (nI i) n (f z)) v := Ev.congr (fun z => ox_gdN hc hn) h
theorem Ev.ret {α : Type} {v w : α} (h : v = w) : Ev (fun _ => some v) w := Ev.now fun _ => by rw [h]
theorem Ev.uniq {α : Type} {f : Nat → Option α} {v w : α} (h1 : Ev f v) (h2 : Ev f w) : v = w := by
  obtain ⟨N, hN⟩ := h1
  obtain ⟨M, hM⟩ := h2
  have e := hN (N + M) (by omega)
  rw [hM (N + M) (by omega)] at e
  exact (Option.some.inj e).symm
/-- two fuels: one for the calls inside, one for the loop -/
def Ev2 {α : Type} (f : Nat → Nat → Option α) (v : α) : Prop := ∃ N, ∀ z fu, N ≤ z → N ≤ fu → f z fu = some v
theorem Ev2.diag {α : Type} {f : Nat → Nat → Option α} {v : α} (h : Ev2 f v) : Ev (fun z => f z z) v := by
  obtain ⟨N, hN⟩ := h
  exact ⟨N, fun z hz => hN z z hz hz⟩
theorem Ev2.step {α : Type} {f g : Nat → Nat → Option α} {v : α} (hs : ∀ z fu, f z (fu + 1) = g z fu) (h : Ev2 g v) : Ev2 f v := by
  obtain ⟨N, hN⟩ := h
  refine ⟨N + 1, fun z fu hz hf => ?_⟩
  obtain ⟨k, rfl⟩ : ∃ k, fu = k + 1 := ⟨fu - 1, by omega⟩
  rw [hs]
  exact hN z k (by omega) (by omega)
theorem Ev2.congr {α : Type} {f g : Nat → Nat → Option α} {v : α} (hs : ∀ z fu, f z fu = g z fu) (h : Ev2 g v) : Ev2 f v := by
  obtain ⟨N, hN⟩ := h
  exact ⟨N, fun z fu hz hf => by rw [hs]; exact hN z fu hz hf⟩
theorem Ev2.cl {α β : Type} {o : Nat → Option α} {k : Nat → Nat → α → Option β} {a : α} {v : β} (h : Ev o a) (hk : Ev2 (fun z fu => k z fu a) v) : Ev2 (fun z fu => ox_cl (o z) (k z fu)) v := by
  obtain ⟨N, hN⟩ := h
  obtain ⟨M, hM⟩ := hk
  refine ⟨N + M, fun z fu hz hf => ?_⟩
  show ox_cl (o z) (k z fu) = some v
  rw [hN z (by omega)]
  exact hM z fu (by omega) (by omega)
theorem Ev2.cl0 {α β : Type} {o : Option α} {k : Nat → Nat → α → Option β} {a : α} {v : β} (h : o = some a) (hk : Ev2 (fun z fu => k z fu a) v) : Ev2 (fun z fu => ox_cl o (k z fu)) v := by
  subst h
  exact hk
theorem Ev2.pos {α : Type} {c : Prop} {q : Decidable c} {f g : Nat → Nat → Option α} {v : α} (hc : c) (h : Ev2 f v) : Ev2 (fun z fu => @ite _ c q (f z fu) (g z fu)) v := Ev2.congr (fun z fu => if_pos hc) h
theorem Ev2.neg {α : Type} {c : Prop} {q : Decidable c} {f g : Nat → Nat → Option α} {v : α} (hc : ¬ c) (h : Ev2 g v) : Ev2 (fun z fu => @ite _ c q (f z fu) (g z fu)) v := Ev2.congr (fun z fu => if_neg hc) h
theorem Ev2.gd {α : Type} {i : Int32} {n : Nat} {f : Nat → Nat → Option α} {v : α} (hc : vp_in i n) (h : Ev2 f v) : Ev2 (fun z fu => ox_gd i n (f z fu)) v := Ev2.congr (fun z fu => ox_gdI hc) h
theorem Ev2.gdN {α : Type} {i n : Nat} {f : Nat → Nat → Option α} {v : α} (hc : i < n) (hn : n < 2 ^ 31) (h : Ev2 f v) : Ev2 (fun z fu => ox_gd (nI i) n (f z fu)) v := Ev2.congr (fun z fu => ox_gdN hc hn) h
theorem Ev2.ret {α : Type} {v w : α} (h : v = w) : Ev2 (fun _ _ => some v) w := ⟨0, fun _ _ _ _ => by rw [h]⟩
/-- numbers -/
theorem nI_sub {a b : Nat} (h : b ≤ a) : nI a - nI b = nI (a - b) := by
  have h1 : nI (a - b) + nI b = nI a := by rw [nI_add, Nat.sub_add_cancel h]
  rw [← h1, Int32.add_sub_cancel]
theorem nI_div {a b : Nat} (ha : a < 2 ^ 31) (hb : b < 2 ^ 31) (h0 : 0 < b) : nI a / nI b = nI (a / b) := by
  apply Int32.toInt_inj.mp
  have h1 := nI_toInt ha
  have h2 := nI_toInt hb
  have h3 : (a / b) < 2 ^ 31 := Nat.lt_of_le_of_lt (Nat.div_le_self a b) ha
  rw [lg_idiv_nonneg (by omega) (by omega), h1, h2, nI_toInt h3]
  exact (Int.natCast_ediv a b).symm
theorem nI_mod {a b : Nat} (ha : a < 2 ^ 31) (hb : b < 2 ^ 31) (h0 : 0 < b) : nI a - nI a / nI b * nI b = nI (a % b) := by
  rw [nI_div ha hb h0, nI_mul, nI_sub (Nat.div_mul_le_self a b)]
  congr 1
  have := Nat.div_add_mod a b
  rw [Nat.mul_comm] at this
  omega

/-! ready, on both sides. -/
def rd2 (t : Nat) (es : Nat → Nat → Int32) : Nat → Int32
  | 0 => 0
  | m + 1 => if ((342 - m) / 49 ≤ t + 1 ∧ (342 - m) / 7 % 7 ≤ t + 1 ∧ (342 - m) % 7 ≤ t + 1) ∧ ¬ es ((342 - m) / 49) ((342 - m) % 7) ≤ es ((342 - m) / 49) ((342 - m) / 7 % 7) + es ((342 - m) / 7 % 7) ((342 - m) % 7) then 100 + nI (342 - m) else rd2 t es m
def rd1 (t : Nat) (es : Nat → Nat → Int32) (ld : Nat → Int32) : Nat → Int32
  | 0 => rd2 t es 343
  | m + 1 => if es (t - m) (t - m + 1) ≤ ld (t - m) then rd1 t es ld m else 1 + nI (t - m)
theorem nI_ltT {t k : Nat} (ht : t ≤ 5) (hk : k < 400) : (nI t + 1 < nI k) = (t + 1 < k) := by
  rw [nI_1]
  exact propext (nI_ltI (by omega) (by omega))
theorem MD_rd2 {t : Nat} {low high ld : Nat → Int32} {es : Nat → Nat → Int32} {em : Nat → Int32} (hd : dat t low high ld es em) : ∀ (m k : Nat), k + m = 343 → Ev (fun fu => lp_MD_readiness (nI t) em ld fu 1 (nI k)) (rd2 t es m) := by
  obtain ⟨⟨h1, h5⟩, -, hE⟩ := hd
  intro m
  induction m with
  | zero =>
    intro k hk
    refine Ev.step (fun fu => sq_MD_readiness_1 ..) ?_
    exact Ev.pos (show (343 : Int32) ≤ nI k from nI_le (a := 343) (by omega) (by omega)) (Ev.ret rfl)
  | succ m ih =>
    intro k hk
    refine Ev.step (fun fu => sq_MD_readiness_1 ..) ?_
    have e0 : 342 - m = k := by omega
    have e1 : nI k / 49 = nI (k / 49) := nI_div (b := 49) (by omega) (by decide) (by decide)
    have e2 : nI k / 7 = nI (k / 7) := nI_div (b := 7) (by omega) (by decide) (by decide)
    have e3 : nI k - nI (k / 7) * 7 = nI (k % 7) := by rw [← e2]; exact nI_mod (b := 7) (by omega) (by decide) (by decide)
    have e4 : nI (k / 7) - nI (k / 7) / 7 * 7 = nI (k / 7 % 7) := nI_mod (b := 7) (by omega) (by decide) (by decide)
    simp only [e1, e2, e3, e4]
    refine Ev.neg (show ¬ (343 : Int32) ≤ nI k from nI_ge (b := 343) (by omega) (by decide)) ?_
    have nxt := ih (k + 1) (by omega)
    rw [← nI_1] at nxt
    unfold rd2
    rw [e0]
    by_cases c1 : t + 1 < k / 49
    · rw [if_neg (by omega)]
      exact Ev.pos (by rw [nI_ltT h5 (by omega)]; exact c1) nxt
    refine Ev.neg (by rw [nI_ltT h5 (by omega)]; exact c1) ?_
    by_cases c2 : t + 1 < k / 7 % 7
    · rw [if_neg (by omega)]
      exact Ev.pos (by rw [nI_ltT h5 (by omega)]; exact c2) nxt
    refine Ev.neg (by rw [nI_ltT h5 (by omega)]; exact c2) ?_
    by_cases c3 : t + 1 < k % 7
    · rw [if_neg (by omega)]
      exact Ev.pos (by rw [nI_ltT h5 (by omega)]; exact c3) nxt
    refine Ev.neg (by rw [nI_ltT h5 (by omega)]; exact c3) ?_
    have f1 : 7 * nI (k / 49) + nI (k % 7) = nI (7 * (k / 49) + k % 7) := by rw [show (7 : Int32) = nI 7 from rfl, nI_mul, nI_add]
    have f2 : 7 * nI (k / 49) + nI (k / 7 % 7) = nI (7 * (k / 49) + k / 7 % 7) := by rw [show (7 : Int32) = nI 7 from rfl, nI_mul, nI_add]
    have f3 : 7 * nI (k / 7 % 7) + nI (k % 7) = nI (7 * (k / 7 % 7) + k % 7) := by rw [show (7 : Int32) = nI 7 from rfl, nI_mul, nI_add]
    simp only [f1, f2, f3]
    refine Ev.gdN (by omega) (by decide) (Ev.gdN (by omega) (by decide) (Ev.gdN (by omega) (by decide) ?_))
    rw [nI_clamp (by omega), nI_clamp (by omega), nI_clamp (by omega), (hE _ _ (by omega) (by omega)).1, (hE _ _ (by omega) (by omega)).1, (hE _ _ (by omega) (by omega)).1]
    by_cases c4 : es (k / 49) (k % 7) ≤ es (k / 49) (k / 7 % 7) + es (k / 7 % 7) (k % 7)
    · rw [if_neg (fun q => q.2 c4)]
      exact Ev.pos c4 nxt
    · rw [if_pos ⟨⟨by omega, by omega, by omega⟩, c4⟩]
      exact Ev.neg c4 (Ev.ret rfl)
theorem MD_rd1 {t : Nat} {low high ld : Nat → Int32} {es : Nat → Nat → Int32} {em : Nat → Int32} (hd : dat t low high ld es em) : ∀ (m i : Nat), i + m = t + 1 → Ev (fun fu => lp_MD_readiness (nI t) em ld fu 0 (nI i)) (rd1 t es ld m) := by
  obtain ⟨⟨h1, h5⟩, -, hE⟩ := id hd
  intro m
  induction m with
  | zero =>
    intro i hi
    refine Ev.step (fun fu => sq_MD_readiness_0 ..) ?_
    exact Ev.pos (nI_lt (by omega) (by omega)) (MD_rd2 hd 343 0 (by omega))
  | succ m ih =>
    intro i hi
    refine Ev.step (fun fu => sq_MD_readiness_0 ..) ?_
    refine Ev.neg (nI_nlt (by omega) (by omega)) ?_
    have e0 : t - m = i := by omega
    have e1 : 7 * nI i + nI i + 1 = nI (7 * i + (i + 1)) := by rw [show (7 : Int32) = nI 7 from rfl, nI_mul, nI_add, nI_1]; rfl
    simp only [e1]
    refine Ev.gdN (by omega) (by decide) (Ev.gdN (by omega) (by decide) ?_)
    rw [nI_clamp (by omega), nI_clamp (by omega), (hE i (i + 1) (by omega) (by omega)).1]
    unfold rd1
    rw [e0]
    by_cases c4 : es i (i + 1) ≤ ld i
    · rw [if_pos c4]
      refine Ev.pos c4 ?_
      rw [nI_1]
      exact ih (i + 1) (by omega)
    · rw [if_neg c4]
      exact Ev.neg c4 (Ev.ret rfl)
theorem MD_ready_eq {t : Nat} {low high ld : Nat → Int32} {es : Nat → Nat → Int32} {em : Nat → Int32} (hd : dat t low high ld es em) : Ev (fun z => fn_MD_readiness z (nI t) em ld) (rd1 t es ld (t + 1)) := MD_rd1 hd (t + 1) 0 (by omega)
/-- the class: slow ways first -/
def sl1 (t : Nat) (es : Nat → Nat → Int32) (ld : Nat → Int32) : Nat → Int32
  | 0 => 0
  | m + 1 => if es (t - m) (t - m + 1) ≤ ld (t - m) then sl1 t es ld m else 1 + nI (t - m)
theorem LY_slow {t : Nat} (h5 : t ≤ 5) (ld : Nat → Int32) (es : Nat → Nat → Int32) : ∀ (m i : Nat), i + m = t + 1 → Ev (fun fu => lp_LY_slowEmptyWay (nI t) ld es fu 0 (nI i)) (sl1 t es ld m) := by
  intro m
  induction m with
  | zero =>
    intro i hi
    refine Ev.step (fun fu => sq_LY_slowEmptyWay_0 ..) ?_
    exact Ev.pos (nI_lt (by omega) (by omega)) (Ev.ret rfl)
  | succ m ih =>
    intro i hi
    refine Ev.step (fun fu => sq_LY_slowEmptyWay_0 ..) ?_
    refine Ev.neg (nI_nlt (by omega) (by omega)) ?_
    have e0 : t - m = i := by omega
    simp only [nI_1]
    refine Ev.gdN (by omega) (by decide) (Ev.gdN (by omega) (by decide) (Ev.gdN (by omega) (by decide) ?_))
    rw [nI_clamp (by omega), nI_clamp (by omega)]
    unfold sl1
    rw [e0]
    by_cases c4 : es i (i + 1) ≤ ld i
    · rw [if_pos c4]
      exact Ev.pos c4 (ih (i + 1) (by omega))
    · rw [if_neg c4]
      exact Ev.neg c4 (Ev.ret rfl)
theorem sl1_rd1 {t : Nat} (h5 : t ≤ 5) (es : Nat → Nat → Int32) (ld : Nat → Int32) : ∀ m, m ≤ t + 1 → (sl1 t es ld m = 0 ∧ rd1 t es ld m = rd2 t es 343) ∨ (sl1 t es ld m ≠ 0 ∧ rd1 t es ld m = sl1 t es ld m) := by
  intro m
  induction m with
  | zero => intro _; exact Or.inl ⟨rfl, rfl⟩
  | succ m ih =>
    intro hm
    unfold sl1 rd1
    by_cases c : es (t - m) (t - m + 1) ≤ ld (t - m)
    · rw [if_pos c, if_pos c]
      exact ih (by omega)
    · rw [if_neg c, if_neg c]
      refine Or.inr ⟨?_, rfl⟩
      rw [show (1 : Int32) = nI 1 from rfl, nI_add]
      exact nI_ne0 (by omega) (by omega)
/-- places that one of the three numbers rules out are passed over -/
theorem rd2_skip {t : Nat} (es : Nat → Nat → Int32) : ∀ (d k : Nat), k + d ≤ 343 → (∀ j, k ≤ j → j < k + d → t + 1 < j / 49 ∨ t + 1 < j / 7 % 7 ∨ t + 1 < j % 7) → rd2 t es (343 - k) = rd2 t es (343 - (k + d)) := by
  intro d
  induction d with
  | zero => intro k _ _; rfl
  | succ d ih =>
    intro k hk hj
    rw [show k + (d + 1) = (k + 1) + d by omega, ← ih (k + 1) (by omega) (fun j h1 h2 => hj j (by omega) (by omega))]
    obtain ⟨m, hm⟩ : ∃ m, 343 - k = m + 1 := ⟨342 - k, by omega⟩
    rw [hm, show 343 - (k + 1) = m by omega]
    show (if _ then _ else _) = _
    have e0 : 342 - m = k := by omega
    rw [e0, if_neg (fun q => by have := hj k (by omega) (by omega); omega)]
theorem LY_rnd2 {t : Nat} (h5 : t ≤ 5) (es : Nat → Nat → Int32) {x y : Nat} (hx : x ≤ t + 1) (hy : y ≤ t + 1) (hn : Ev (fun fu => lp_LY_roundaboutWay (nI t) es fu 1 (nI x) (nI (y + 1)) 0) (rd2 t es (343 - (49 * x + 7 * (y + 1))))) : ∀ (m u : Nat), u + m = t + 2 → Ev (fun fu => lp_LY_roundaboutWay (nI t) es fu 2 (nI x) (nI y) (nI u)) (rd2 t es (343 - (49 * x + 7 * y + u))) := by
  intro m
  induction m with
  | zero =>
    intro u hu
    refine Ev.step (fun fu => sq_LY_roundaboutWay_2 ..) ?_
    refine Ev.pos (by rw [nI_ltT h5 (by omega)]; omega) ?_
    rw [rd2_skip es (7 - u) (49 * x + 7 * y + u) (by omega) (fun j h1 h2 => by omega), show 49 * x + 7 * y + u + (7 - u) = 49 * x + 7 * (y + 1) by omega]
    rw [nI_1]
    exact hn
  | succ m ih =>
    intro u hu
    refine Ev.step (fun fu => sq_LY_roundaboutWay_2 ..) ?_
    refine Ev.neg (by rw [nI_ltT h5 (by omega)]; omega) ?_
    refine Ev.gdN (by omega) (by decide) (Ev.gdN (by omega) (by decide) (Ev.gdN (by omega) (by decide) (Ev.gdN (by omega) (by decide) (Ev.gdN (by omega) (by decide) (Ev.gdN (by omega) (by decide) ?_)))))
    rw [nI_clamp (by omega), nI_clamp (by omega), nI_clamp (by omega)]
    obtain ⟨q, hq⟩ : ∃ q, 343 - (49 * x + 7 * y + u) = q + 1 := ⟨342 - (49 * x + 7 * y + u), by omega⟩
    rw [hq]
    unfold rd2
    rw [show 342 - q = 49 * x + 7 * y + u by omega, show (49 * x + 7 * y + u) / 49 = x by omega, show (49 * x + 7 * y + u) / 7 % 7 = y by omega, show (49 * x + 7 * y + u) % 7 = u by omega]
    by_cases c : es x u ≤ es x y + es y u
    · rw [if_neg (fun w => w.2 c)]
      refine Ev.pos c ?_
      have := ih (u + 1) (by omega)
      rw [show 343 - (49 * x + 7 * y + (u + 1)) = q by omega] at this
      rw [nI_1]
      exact this
    · rw [if_pos ⟨⟨by omega, by omega, by omega⟩, c⟩]
      refine Ev.neg c (Ev.ret ?_)
      rw [show (100 : Int32) = nI 100 from rfl, show (49 : Int32) = nI 49 from rfl, show (7 : Int32) = nI 7 from rfl, nI_mul, nI_mul, nI_add, nI_add, nI_add, nI_add]
      congr 1
      omega
theorem LY_rnd1 {t : Nat} (h5 : t ≤ 5) (es : Nat → Nat → Int32) {x : Nat} (hx : x ≤ t + 1) (hn : Ev (fun fu => lp_LY_roundaboutWay (nI t) es fu 0 (nI (x + 1)) 0 0) (rd2 t es (343 - 49 * (x + 1)))) : ∀ (m y : Nat), y + m = t + 2 → Ev (fun fu => lp_LY_roundaboutWay (nI t) es fu 1 (nI x) (nI y) 0) (rd2 t es (343 - (49 * x + 7 * y))) := by
  intro m
  induction m with
  | zero =>
    intro y hy
    refine Ev.step (fun fu => sq_LY_roundaboutWay_1 ..) ?_
    refine Ev.pos (by rw [nI_ltT h5 (by omega)]; omega) ?_
    rw [rd2_skip es (49 - 7 * y) (49 * x + 7 * y) (by omega) (fun j h1 h2 => by omega), show 49 * x + 7 * y + (49 - 7 * y) = 49 * (x + 1) by omega]
    rw [nI_1]
    exact hn
  | succ m ih =>
    intro y hy
    refine Ev.step (fun fu => sq_LY_roundaboutWay_1 ..) ?_
    refine Ev.neg (by rw [nI_ltT h5 (by omega)]; omega) ?_
    have := LY_rnd2 h5 es hx (show y ≤ t + 1 by omega) (ih (y + 1) (by omega)) (t + 2) 0 (by omega)
    exact this
theorem LY_rnd0 {t : Nat} (h5 : t ≤ 5) (es : Nat → Nat → Int32) : ∀ (m x : Nat), x + m = t + 2 → Ev (fun fu => lp_LY_roundaboutWay (nI t) es fu 0 (nI x) 0 0) (rd2 t es (343 - 49 * x)) := by
  intro m
  induction m with
  | zero =>
    intro x hx
    refine Ev.step (fun fu => sq_LY_roundaboutWay_0 ..) ?_
    refine Ev.pos (by rw [nI_ltT h5 (by omega)]; omega) ?_
    rw [rd2_skip es (343 - 49 * x) (49 * x) (by omega) (fun j h1 h2 => by omega), show 343 - (49 * x + (343 - 49 * x)) = 0 by omega]
    exact Ev.ret rfl
  | succ m ih =>
    intro x hx
    refine Ev.step (fun fu => sq_LY_roundaboutWay_0 ..) ?_
    refine Ev.neg (by rw [nI_ltT h5 (by omega)]; omega) ?_
    exact LY_rnd1 h5 es (show x ≤ t + 1 by omega) (ih (x + 1) (by omega)) (t + 2) 0 (by omega)
theorem LY_fault_eq {t : Nat} (h5 : t ≤ 5) (ld : Nat → Int32) (es : Nat → Nat → Int32) : Ev (fun z => fn_LY_fault z (nI t) ld es) (rd1 t es ld (t + 1)) := by
  unfold fn_LY_fault
  refine Ev.cl (LY_slow h5 ld es (t + 1) 0 (by omega)) ?_
  rcases sl1_rd1 h5 es ld (t + 1) (by omega) with ⟨e1, e2⟩ | ⟨e1, e2⟩
  · rw [e2]
    refine Ev.pos e1 ?_
    exact Ev.cl (LY_rnd0 h5 es (t + 2) 0 (by omega)) (Ev.ret rfl)
  · rw [e2]
    exact Ev.neg e1 (Ev.ret rfl)

