/-! An order, its rules, and what it is that a T keeps them. -/
def ord (t : Nat) (p q : Nat → Nat) : Prop := p 0 = 0 ∧ (∀ k, k ≤ t → p k ≤ t ∧ q (p k) = k) ∧ ∀ i, i ≤ t → q i ≤ t ∧ p (q i) = i
theorem ord_inj {t : Nat} {p q : Nat → Nat} (h : ord t p q) {a b : Nat} (ha : a ≤ t) (hb : b ≤ t) (e : p a = p b) : a = b := by
  have h1 := (h.2.1 a ha).2
  have h2 := (h.2.1 b hb).2
  rw [e] at h1
  omega
def rB (t : Nat) (p : Nat → Nat) (r : Nat) : Nat := if r ≤ t then p r else if (r - (t + 1)) % 2 = 0 then (r - (t + 1)) / 2 else (r - (t + 1)) / 2 + 1
def rA (t : Nat) (p : Nat → Nat) (r : Nat) : Nat := if r < t then p (r + 1) else if r = t then 0 else if (r - (t + 1)) % 2 = 0 then (r - (t + 1)) / 2 + 1 else (r - (t + 1)) / 2
def rO (q : Nat → Nat) (i : Nat) : Int := if q (i + 1) < q i then 1 else 0
def rS (t : Nat) (p : Nat → Nat) (low high ld : Nat → Int32) (es : Nat → Nat → Int32) (r : Nat) : Int :=
  if r < t then (ld (p r)).toInt + (es (p r + 1) (p (r + 1))).toInt
  else if r = t then (ld (p r)).toInt + (es (p r + 1) 0).toInt
  else if (r - (t + 1)) % 2 = 0 then (ld ((r - (t + 1)) / 2)).toInt + (low ((r - (t + 1)) / 2 + 1)).toInt
  else - (ld ((r - (t + 1)) / 2)).toInt - (high ((r - (t + 1)) / 2 + 1)).toInt
def rU (t : Nat) (q : Nat → Nat) (r : Nat) : Int := if r < t then 0 else if r = t then -1 else if (r - (t + 1)) % 2 = 0 then - rO q ((r - (t + 1)) / 2) else rO q ((r - (t + 1)) / 2)
def rW (t : Nat) (p q : Nat → Nat) (low high ld : Nat → Int32) (es : Nat → Nat → Int32) (T : Int) (r : Nat) : Int := rS t p low high ld es r + rU t q r * T
def Feas (t : Nat) (p q : Nat → Nat) (low high ld : Nat → Int32) (es : Nat → Nat → Int32) (T : Int) : Prop := ∃ L : Nat → Int, ∀ r, r < 3 * t + 1 → L (rB t p r) + rW t p q low high ld es T r ≤ L (rA t p r)
theorem rB_le {t : Nat} {p q : Nat → Nat} (ho : ord t p q) {r : Nat} (hr : r < 3 * t + 1) : rB t p r ≤ t := by
  unfold rB
  split
  · exact (ho.2.1 r (by assumption)).1
  · split <;> omega
theorem rA_le {t : Nat} {p q : Nat → Nat} (ho : ord t p q) {r : Nat} (hr : r < 3 * t + 1) : rA t p r ≤ t := by
  unfold rA
  split
  · exact (ho.2.1 (r + 1) (by omega)).1
  · split
    · omega
    · split <;> omega
theorem rBA_ne {t : Nat} {p q : Nat → Nat} (h1 : 1 ≤ t) (ho : ord t p q) {r : Nat} (hr : r < 3 * t + 1) : rB t p r ≠ rA t p r := by
  unfold rB rA
  by_cases c1 : r < t
  · rw [if_pos (by omega), if_pos c1]
    intro e
    have := ord_inj ho (by omega) (by omega) e
    omega
  · rw [if_neg c1]
    by_cases c2 : r = t
    · subst c2
      rw [if_pos (Nat.le_refl _), if_pos rfl]
      intro e
      have := ord_inj ho (Nat.le_refl _) (Nat.zero_le _) (e.trans ho.1.symm)
      omega
    · rw [if_neg (by omega), if_neg c2]
      split <;> omega
theorem rO_01 (q : Nat → Nat) (i : Nat) : rO q i = 0 ∨ rO q i = 1 := by
  unfold rO
  split
  · exact Or.inr rfl
  · exact Or.inl rfl
theorem rU_b (t : Nat) (q : Nat → Nat) (r : Nat) : rU t q r = -1 ∨ rU t q r = 0 ∨ rU t q r = 1 := by
  unfold rU
  split
  · omega
  · split
    · omega
    · rcases rO_01 q ((r - (t + 1)) / 2) with h | h <;> rw [h] <;> split <;> omega
theorem rS_b {t : Nat} {p q : Nat → Nat} {low high ld : Nat → Int32} {es : Nat → Nat → Int32} {em : Nat → Int32} (hd : dat t low high ld es em) (ho : ord t p q) {r : Nat} (hr : r < 3 * t + 1) : -600 ≤ rS t p low high ld es r ∧ rS t p low high ld es r ≤ 600 ∧ (r ≤ t → 1 ≤ rS t p low high ld es r) := by
  obtain ⟨⟨h1, h5⟩, hk, hE⟩ := hd
  unfold rS
  by_cases c1 : r < t
  · rw [if_pos c1]
    have a1 := (ho.2.1 r (by omega)).1
    have a2 := (ho.2.1 (r + 1) (by omega)).1
    have := hk (p r) (by omega)
    have := hE (p r + 1) (p (r + 1)) (by omega) (by omega)
    omega
  rw [if_neg c1]
  by_cases c2 : r = t
  · rw [if_pos c2]
    have a1 := (ho.2.1 r (by omega)).1
    have := hk (p r) (by omega)
    have := hE (p r + 1) 0 (by omega) (by omega)
    omega
  rw [if_neg c2]
  have := hk ((r - (t + 1)) / 2) (by omega)
  have := hk ((r - (t + 1)) / 2 + 1) (by omega)
  split <;> omega
theorem rW_b {t : Nat} {p q : Nat → Nat} {low high ld : Nat → Int32} {es : Nat → Nat → Int32} {em : Nat → Int32} (hd : dat t low high ld es em) (ho : ord t p q) {T : Int} (hT0 : 0 ≤ T) (hT : T ≤ 2000) {r : Nat} (hr : r < 3 * t + 1) : -2600 ≤ rW t p q low high ld es T r ∧ rW t p q low high ld es T r ≤ 2600 := by
  have h1 := rS_b hd ho hr
  unfold rW
  rcases rU_b t q r with h | h | h <;> rw [h] <;> omega
/-- along the order the times rise -/
theorem sol_up {t : Nat} {p q : Nat → Nat} {low high ld : Nat → Int32} {es : Nat → Nat → Int32} {em : Nat → Int32} (hd : dat t low high ld es em) (ho : ord t p q) {T : Int} {L : Nat → Int} (hL : ∀ r, r < t → L (rB t p r) + rW t p q low high ld es T r ≤ L (rA t p r)) : ∀ k j, k + j ≤ t → L (p k) + j ≤ L (p (k + j)) := by
  intro k j
  induction j with
  | zero => intro _; simp
  | succ j ih =>
    intro hj
    have h1 := ih (by omega)
    have h2 := hL (k + j) (by omega)
    have h3 := (rS_b hd ho (r := k + j) (by omega)).2.2 (by omega)
    have e1 : rB t p (k + j) = p (k + j) := by unfold rB; rw [if_pos (by omega)]
    have e2 : rA t p (k + j) = p (k + j + 1) := by unfold rA; rw [if_pos (by omega)]
    have e3 : rW t p q low high ld es T (k + j) = rS t p low high ld es (k + j) := by unfold rW rU; rw [if_pos (by omega)]; omega
    rw [e1, e2, e3] at h2
    rw [show k + (j + 1) = k + j + 1 by omega]
    omega
theorem rA_t {t : Nat} {p : Nat → Nat} : rA t p t = 0 := by unfold rA; rw [if_neg (by omega), if_pos rfl]
theorem rB_t {t : Nat} {p : Nat → Nat} : rB t p t = p t := by unfold rB; rw [if_pos (Nat.le_refl _)]
theorem rW_t {t : Nat} {p q : Nat → Nat} {low high ld : Nat → Int32} {es : Nat → Nat → Int32} {T : Int} : rW t p q low high ld es T t = rS t p low high ld es t - T := by
  have : rU t q t = -1 := by unfold rU; rw [if_neg (by omega), if_pos rfl]
  unfold rW
  rw [this]
  omega
/-- a T that keeps the rules has times from 0 on, below T -/
theorem feas_norm {t : Nat} {p q : Nat → Nat} {low high ld : Nat → Int32} {es : Nat → Nat → Int32} {em : Nat → Int32} (hd : dat t low high ld es em) (ho : ord t p q) {T : Int} (hF : Feas t p q low high ld es T) : ∃ L : Nat → Int, (∀ r, r < 3 * t + 1 → L (rB t p r) + rW t p q low high ld es T r ≤ L (rA t p r)) ∧ (∀ v, 0 ≤ L v) ∧ L 0 = 0 := by
  obtain ⟨L, hL⟩ := hF
  refine ⟨fun v => if v ≤ t then L v - L 0 else 0, fun r hr => ?_, fun v => ?_, ?_⟩
  · have h1 := rB_le ho hr
    have h2 := rA_le ho hr
    have h3 := hL r hr
    dsimp only
    rw [if_pos h1, if_pos h2]
    omega
  · dsimp only
    by_cases hv : v ≤ t
    · rw [if_pos hv]
      obtain ⟨a1, a2⟩ := ho.2.2 v hv
      have := sol_up hd ho (T := T) (fun r hr => hL r (by omega)) 0 (q v) (by omega)
      rw [Nat.zero_add, a2, ho.1] at this
      omega
    · rw [if_neg hv]; omega
  · dsimp only
    rw [if_pos (Nat.zero_le _)]; omega
theorem sol_lt {t : Nat} {p q : Nat → Nat} {low high ld : Nat → Int32} {es : Nat → Nat → Int32} {em : Nat → Int32} (hd : dat t low high ld es em) (ho : ord t p q) {T : Int} {L : Nat → Int} (hL : ∀ r, r < 3 * t + 1 → L (rB t p r) + rW t p q low high ld es T r ≤ L (rA t p r)) (h0 : L 0 = 0) : (∀ v, v ≤ t → L v < T) ∧ L (p t) + rS t p low high ld es t ≤ T := by
  have hw := hL t (by omega)
  rw [rA_t, rB_t, rW_t, h0] at hw
  have h3 := (rS_b hd ho (r := t) (by omega)).2.2 (Nat.le_refl _)
  refine ⟨fun v hv => ?_, by omega⟩
  obtain ⟨a1, a2⟩ := ho.2.2 v hv
  have := sol_up hd ho (T := T) (fun r hr => hL r (by omega)) (q v) (t - q v) (by omega)
  rw [a2, show q v + (t - q v) = t by omega] at this
  omega
/-- sums along a ring -/
theorem rg_lin (bf : Nat → Nat) (s u : Nat → Int) (T : Int) (c : Nat → Nat) : ∀ j y, rg_sm bf (fun r => s r + u r * T) c j y = rg_sm bf s c j y + rg_sm bf u c j y * T
  | 0, _ => by show (0 : Int) = 0 + 0 * T; omega
  | j + 1, y => by
    show rg_sm bf (fun r => s r + u r * T) c j y + (s (c (rg_it bf c j y)) + u (c (rg_it bf c j y)) * T) = rg_sm bf s c j y + s (c (rg_it bf c j y)) + (rg_sm bf u c j y + u (c (rg_it bf c j y))) * T
    rw [rg_lin bf s u T c j y, Int.add_mul]
    omega
theorem rg_bd (bf : Nat → Nat) (s : Nat → Int) (c : Nat → Nat) (B : Int) : ∀ j y, (∀ i, i < j → - B ≤ s (c (rg_it bf c i y)) ∧ s (c (rg_it bf c i y)) ≤ B) → - (j * B) ≤ rg_sm bf s c j y ∧ rg_sm bf s c j y ≤ j * B
  | 0, y, _ => by
    have e : rg_sm bf s c 0 y = 0 := rfl
    rw [e]
    simp
  | j + 1, y, h => by
    have h1 := rg_bd bf s c B j y (fun i hi => h i (by omega))
    have h2 := h j (by omega)
    have e : rg_sm bf s c (j + 1) y = rg_sm bf s c j y + s (c (rg_it bf c j y)) := rfl
    rw [e]
    have e2 : ((j + 1 : Nat) : Int) * B = j * B + B := by rw [Int.natCast_add, Int.add_mul]; simp
    rw [e2]
    omega
/-- raising keeps below every answer, and lets nothing fall -/
theorem rg_stepLe {bf af : Nat → Nat} {w : Nat → Int} {k r : Nat} {x : rg_S} {L : Nat → Int} (hL : L (bf r) + w r ≤ L (af r)) (h : ∀ v, x.1 v ≤ L v) : ∀ v, (rg_step bf af w k r x).1 v ≤ L v := by
  intro v
  unfold rg_step
  split
  · dsimp only
    by_cases hv : v = af r
    · subst hv
      rw [rg_upS]
      have := h (bf r)
      omega
    · rw [rg_upN _ _ hv]; exact h v
  · exact h v
theorem rg_stepGe {bf af : Nat → Nat} {w : Nat → Int} {k r : Nat} {x : rg_S} : ∀ v, x.1 v ≤ (rg_step bf af w k r x).1 v := by
  intro v
  unfold rg_step
  split
  · dsimp only
    by_cases hv : v = af r
    · subst hv
      rw [rg_upS]
      omega
    · rw [rg_upN _ _ hv]; omega
  · omega
theorem rg_runLe {bf af : Nat → Nat} {w : Nat → Int} {k : Nat} {x : rg_S} {L : Nat → Int} (h : ∀ v, x.1 v ≤ L v) : ∀ R, (∀ r, r < R → L (bf r) + w r ≤ L (af r)) → ∀ v, (rg_run bf af w k R x).1 v ≤ L v
  | 0, _ => h
  | R + 1, hL => rg_stepLe (hL R (by omega)) (rg_runLe h R (fun r hr => hL r (by omega)))
theorem rg_runGe {bf af : Nat → Nat} {w : Nat → Int} {k : Nat} {x : rg_S} : ∀ R v, x.1 v ≤ (rg_run bf af w k R x).1 v
  | 0, _ => Int.le_refl _
  | R + 1, v => Int.le_trans (rg_runGe R v) (rg_stepGe v)
theorem rg_allLe {bf af : Nat → Nat} {w : Nat → Int} {R : Nat} {x : rg_S} {L : Nat → Int} (h : ∀ v, x.1 v ≤ L v) (hL : ∀ r, r < R → L (bf r) + w r ≤ L (af r)) : ∀ k v, (rg_all bf af w R k x).1 v ≤ L v
  | 0 => h
  | k + 1 => rg_runLe (rg_allLe h hL k) R hL
theorem rg_allGe {bf af : Nat → Nat} {w : Nat → Int} {R : Nat} {x : rg_S} : ∀ k v, x.1 v ≤ (rg_all bf af w R k x).1 v
  | 0, _ => Int.le_refl _
  | k + 1, v => Int.le_trans (rg_allGe k v) (rg_runGe R v)
theorem rg_runUp {bf af : Nat → Nat} {w : Nat → Int} {k : Nat} {x : rg_S} {M B : Int} (hB : 0 ≤ B) (h : ∀ v, x.1 v ≤ M) : ∀ R : Nat, (∀ r, r < R → w r ≤ B) → ∀ v, (rg_run bf af w k R x).1 v ≤ M + R * B
  | 0, _, v => by have := h v; show x.1 v ≤ M + ((0 : Nat) : Int) * B; simp; exact this
  | R + 1, hw, v => by
    have ih := rg_runUp (bf := bf) (af := af) (k := k) hB h R (fun r hr => hw r (by omega))
    have e2 : ((R + 1 : Nat) : Int) * B = R * B + B := by rw [Int.natCast_add, Int.add_mul]; simp
    rw [e2]
    show (rg_step bf af w k R (rg_run bf af w k R x)).1 v ≤ _
    unfold rg_step
    split
    · dsimp only
      by_cases hv : v = af R
      · subst hv
        rw [rg_upS]
        have := ih (bf R)
        have := hw R (by omega)
        omega
      · rw [rg_upN _ _ hv]; have := ih v; omega
    · have := ih v; omega

/-! The settling of the times: what the loops do, as rg_run and rg_all do it. -/
/-- the arrays of rules hold the rules -/
def rls (R : Nat) (bf af : Nat → Nat) (s u : Nat → Int) (B A S U : Nat → Int32) : Prop :=
  ∀ r, r < R → B r = nI (bf r) ∧ bf r < 6 ∧ A r = nI (af r) ∧ af r < 6 ∧ (S r).toInt = s r ∧ (U r).toInt = u r ∧ -600 ≤ s r ∧ s r ≤ 600 ∧ (u r = -1 ∨ u r = 0 ∨ u r = 1)
/-- times and causes as the rounds have them -/
def tms (M : Int) (f c : Nat → Int32) (x : rg_S) : Prop := (∀ v, v < 6 → (f v).toInt = x.1 v) ∧ (∀ v, 0 ≤ x.1 v ∧ x.1 v ≤ M) ∧ ∀ v, v < 6 → 1 ≤ x.2.2 v → c v = nI (x.2.1 v)
def rsd (k : Nat) (rs : Int32) (x : rg_S) : Prop := (rs = -1 ∧ ∀ v, v < 6 → x.2.2 v ≠ k) ∨ ∃ v, v < 6 ∧ rs = nI v ∧ x.2.2 v = k
theorem mul_u {U T : Int32} {u : Int} (hU : U.toInt = u) (hu : u = -1 ∨ u = 0 ∨ u = 1) (hT0 : 0 ≤ T.toInt) (hT : T.toInt ≤ 2000) : (U * T).toInt = u * T.toInt := by
  rw [← hU]
  rw [← hU] at hu
  exact Jvm.Kit.i32_mul (by rcases hu with h | h | h <;> rw [h] <;> omega) (by rcases hu with h | h | h <;> rw [h] <;> omega)
theorem TM_raiseL {R : Nat} (hR : R ≤ 16) {bf af : Nat → Nat} {s u : Nat → Int} {B A S U : Nat → Int32} (hr : rls R bf af s u B A S U) {T : Int32} (hT0 : 0 ≤ T.toInt) (hT : T.toInt ≤ 2000) {k : Nat} (hk : 1 ≤ k) {x : rg_S} : ∀ (m r : Nat) (M : Int) (f c : Nat → Int32) (rs : Int32), r + m = R → 0 ≤ M → M + m * 2600 ≤ 1000000 → tms M f c (rg_run bf af (fun r => s r + u r * T.toInt) k r x) → rsd k rs (rg_run bf af (fun r => s r + u r * T.toInt) k r x) →
    ∃ rs' f' c', Ev (fun fu => lp_TM_raiseTimes (nI R) B S U A fu 0 T rs (nI r) f c) (rs', f', c') ∧ tms (M + m * 2600) f' c' (rg_run bf af (fun r => s r + u r * T.toInt) k R x) ∧ rsd k rs' (rg_run bf af (fun r => s r + u r * T.toInt) k R x) := by
  intro m
  induction m with
  | zero =>
    intro r M f c rs hrm hM0 hM ht hs
    refine ⟨rs, f, c, ?_, ?_, ?_⟩
    · refine Ev.step (fun fu => sq_TM_raiseTimes_0 ..) ?_
      exact Ev.pos (nI_le (by omega) (by omega)) (Ev.ret rfl)
    · rw [← show r = R by omega]
      have e : M + ((0 : Nat) : Int) * 2600 = M := by simp
      rw [e]
      exact ht
    · rw [← show r = R by omega]
      exact hs
  | succ m ih =>
    intro r M f c rs hrm hM0 hM ht hs
    obtain ⟨b1, b2, b3, b4, b5, b6, b7, b8, b9⟩ := hr r (by omega)
    obtain ⟨t1, t2, t3⟩ := ht
    have hmm : ((m + 1 : Nat) : Int) * 2600 = m * 2600 + 2600 := by omega
    have tb := t2 (bf r)
    have ta := t2 (af r)
    have mu := mul_u b6 b9 hT0 hT
    have mb : -2000 ≤ u r * T.toInt ∧ u r * T.toInt ≤ 2000 := by rcases b9 with h | h | h <;> rw [h] <;> omega
    have due : (f (bf r) + S r + U r * T).toInt = (rg_run bf af (fun r => s r + u r * T.toInt) k r x).1 (bf r) + (s r + u r * T.toInt) := by
      have e1 : (f (bf r) + S r).toInt = (f (bf r)).toInt + (S r).toInt := Jvm.Kit.i32_add (by rw [t1 _ b2, b5]; omega) (by rw [t1 _ b2, b5]; omega)
      rw [Jvm.Kit.i32_add (by rw [e1, mu, t1 _ b2, b5]; omega) (by rw [e1, mu, t1 _ b2, b5]; omega), e1, mu, t1 _ b2, b5]
      omega
    have hrun : rg_run bf af (fun r => s r + u r * T.toInt) k (r + 1) x = rg_step bf af (fun r => s r + u r * T.toInt) k r (rg_run bf af (fun r => s r + u r * T.toInt) k r x) := rfl
    generalize hy : rg_run bf af (fun r => s r + u r * T.toInt) k r x = y at *
    by_cases c1 : y.1 (af r) < y.1 (bf r) + (s r + u r * T.toInt)
    · have es : rg_step bf af (fun r => s r + u r * T.toInt) k r y = (rg_up y.1 (af r) (y.1 (bf r) + (s r + u r * T.toInt)), rg_up y.2.1 (af r) r, rg_up y.2.2 (af r) k) := by simp [rg_step, c1]
      have nM : M + 2600 + (m : Int) * 2600 = M + ((m + 1 : Nat) : Int) * 2600 := by omega
      obtain ⟨rs', f', c', h1, h2, h3⟩ := ih (r + 1) (M + 2600) (upd f (af r) (f (bf r) + S r + U r * T)) (upd c (af r) (nI r)) (A r) (by omega) (by omega) (by omega) (by
        rw [hrun, es]
        refine ⟨fun v hv => ?_, fun v => ?_, fun v hv hg => ?_⟩
        · dsimp only
          by_cases e : v = af r
          · subst e; rw [pk_us, rg_upS]; exact due
          · rw [pk_un e, rg_upN _ _ e]; exact t1 v hv
        · dsimp only
          by_cases e : v = af r
          · subst e; rw [rg_upS]; omega
          · rw [rg_upN _ _ e]; have := t2 v; omega
        · dsimp only at hg ⊢
          by_cases e : v = af r
          · subst e; rw [pk_us, rg_upS]
          · rw [rg_upN _ _ e] at hg
            rw [pk_un e, rg_upN _ _ e]; exact t3 v hv hg) (by
        rw [hrun, es]
        exact Or.inr ⟨af r, b4, b3, by dsimp only; rw [rg_upS]⟩)
      refine ⟨rs', f', c', ?_, by rw [← nM]; exact h2, h3⟩
      refine Ev.step (fun fu => sq_TM_raiseTimes_0 ..) ?_
      refine Ev.neg (nI_ge (by omega) (by omega)) ?_
      simp only [nI_clamp (show r < 2 ^ 31 by omega), b1, nI_clamp (show bf r < 2 ^ 31 by omega), nI_clamp (show af r < 2 ^ 31 by omega)]
      simp only [b3, nI_clamp (show af r < 2 ^ 31 by omega)]
      refine Ev.gdN (by omega) (by decide) (Ev.gdN (by omega) (by decide) (Ev.gdN (by omega) (by decide) (Ev.gdN (by omega) (by decide) (Ev.gdN (by omega) (by decide) (Ev.gdN (by omega) (by decide) ?_)))))
      refine Ev.neg (by rw [Int32.le_iff_toInt_le, due, t1 _ b4]; omega) ?_
      refine Ev.gdN (by omega) (by decide) (Ev.gdN (by omega) (by decide) ?_)
      rw [nI_1, ← b3]
      exact h1
    · have es : rg_step bf af (fun r => s r + u r * T.toInt) k r y = y := by simp [rg_step, c1]
      have nM : M + 2600 + (m : Int) * 2600 = M + ((m + 1 : Nat) : Int) * 2600 := by omega
      obtain ⟨rs', f', c', h1, h2, h3⟩ := ih (r + 1) (M + 2600) f c rs (by omega) (by omega) (by omega) (by
        rw [hrun, es]
        exact ⟨t1, fun v => by have := t2 v; omega, t3⟩) (by rw [hrun, es]; exact hs)
      refine ⟨rs', f', c', ?_, by rw [← nM]; exact h2, h3⟩
      refine Ev.step (fun fu => sq_TM_raiseTimes_0 ..) ?_
      refine Ev.neg (nI_ge (by omega) (by omega)) ?_
      simp only [nI_clamp (show r < 2 ^ 31 by omega), b1, nI_clamp (show bf r < 2 ^ 31 by omega), nI_clamp (show af r < 2 ^ 31 by omega)]
      simp only [b3, nI_clamp (show af r < 2 ^ 31 by omega)]
      refine Ev.gdN (by omega) (by decide) (Ev.gdN (by omega) (by decide) (Ev.gdN (by omega) (by decide) (Ev.gdN (by omega) (by decide) (Ev.gdN (by omega) (by decide) (Ev.gdN (by omega) (by decide) ?_)))))
      refine Ev.pos (by rw [Int32.le_iff_toInt_le, due, t1 _ b4]; omega) ?_
      rw [nI_1]
      exact h1

theorem rg_stepG {bf af : Nat → Nat} {w : Nat → Int} {k r : Nat} {x : rg_S} (h : ∀ v, x.2.2 v ≤ k) : ∀ v, (rg_step bf af w k r x).2.2 v ≤ k := by
  intro v
  unfold rg_step
  split
  · dsimp only
    by_cases e : v = af r
    · subst e; rw [rg_upS]; exact Nat.le_refl _
    · rw [rg_upN _ _ e]; exact h v
  · exact h v
theorem rg_runG {bf af : Nat → Nat} {w : Nat → Int} {k : Nat} {x : rg_S} (h : ∀ v, x.2.2 v ≤ k) : ∀ R v, (rg_run bf af w k R x).2.2 v ≤ k
  | 0 => h
  | R + 1 => rg_stepG (rg_runG h R)
theorem rg_allG {bf af : Nat → Nat} {w : Nat → Int} {R : Nat} {x : rg_S} (h : ∀ v, x.2.2 v = 0) : ∀ k v, (rg_all bf af w R k x).2.2 v ≤ k
  | 0, v => by have := h v; show x.2.2 v ≤ 0; omega
  | k + 1, v => rg_runG (fun v => Nat.le_succ_of_le (rg_allG h k v)) R v
/-- the rounds from 0 -/
abbrev x00 : rg_S := (fun _ => 0, fun _ => 0, fun _ => 0)
/-- settled: the least times that keep the rules -/
def lst (R : Nat) (bf af : Nat → Nat) (w : Nat → Int) (d : Nat → Int) : Prop := (∀ r, r < R → d (bf r) + w r ≤ d (af r)) ∧ (∀ v, 0 ≤ d v) ∧ ∀ L : Nat → Int, (∀ r, r < R → L (bf r) + w r ≤ L (af r)) → (∀ v, 0 ≤ L v) → ∀ v, d v ≤ L v
/-- a round in which nothing rose -/
theorem rg_quiet {bf af : Nat → Nat} {w : Nat → Int} {R k : Nat} (hne : ∀ r, r < R → bf r ≠ af r) (hb : ∀ r, r < R → bf r < 6) (h : ∀ v, v < 6 → (rg_all bf af w R (k + 1) x00).2.2 v ≠ k + 1) : lst R bf af w (rg_all bf af w R (k + 1) x00).1 := by
  have hi : rg_inv bf af w R (k + 1) R (rg_all bf af w R (k + 1) x00) := rg_runI hne (by omega) (rg_allI hne (fun _ => 0) (fun _ => 0) k) R (Nat.le_refl R)
  refine ⟨fun r hr => ?_, fun v => ?_, fun L hL hL0 v => ?_⟩
  · have h1 := h (bf r) (hb r hr)
    have h2 := rg_allG (bf := bf) (af := af) (w := w) (R := R) (x := x00) (fun _ => rfl) (k + 1) (bf r)
    exact hi.2.2.1 r hr (by omega)
  · exact rg_allGe (bf := bf) (af := af) (w := w) (R := R) (x := x00) (k + 1) v
  · exact rg_allLe (x := x00) (fun v => hL0 v) hL (k + 1) v
theorem TM_settleL {R n : Nat} (hR : R ≤ 16) (hn : n ≤ 6) {bf af : Nat → Nat} {s u : Nat → Int} {B A S U : Nat → Int32} (hr : rls R bf af s u B A S U) (hne : ∀ r, r < R → bf r ≠ af r) {T : Int32} (hT0 : 0 ≤ T.toInt) (hT : T.toInt ≤ 2000) : ∀ (m j : Nat) (f c : Nat → Int32), j + m + 1 = n → tms (j * 41600) f c (rg_all bf af (fun r => s r + u r * T.toInt) R j x00) →
    ∃ rs f' c', Ev2 (fun z fu => lp_TM_settleTimes z (nI R) B S U A fu 0 (nI n) T (nI j) f c) (rs, f', c') ∧
      ((rs = -1 ∧ ∃ d, (∀ v, v < 6 → (f' v).toInt = d v) ∧ lst R bf af (fun r => s r + u r * T.toInt) d) ∨
       ∃ v y, v < 6 ∧ rs = nI v ∧ tms 1000000 f' c' y ∧ rg_inv bf af (fun r => s r + u r * T.toInt) R n R y ∧ y.2.2 v = n) := by
  intro m
  induction m with
  | zero =>
    intro j f c hj ht
    obtain ⟨rs', f', c', h1, h2, h3⟩ := TM_raiseL hR hr hT0 hT (k := j + 1) (by omega) (x := rg_all bf af (fun r => s r + u r * T.toInt) R j x00) R 0 (j * 41600) f c (-1) (by omega) (by omega) (by omega) ht (Or.inl ⟨rfl, fun v _ => by
      have := rg_allG (bf := bf) (af := af) (w := fun r => s r + u r * T.toInt) (R := R) (x := x00) (fun _ => rfl) j v
      show (rg_all bf af (fun r => s r + u r * T.toInt) R j x00).2.2 v ≠ j + 1
      omega⟩)
    rcases h3 with ⟨e, hq⟩ | ⟨v, hv, e, hq⟩
    · refine ⟨-1, f', c', ?_, Or.inl ⟨rfl, _, h2.1, rg_quiet hne (fun r hr' => (hr r hr').2.1) hq⟩⟩
      refine Ev2.step (fun z fu => sq_TM_settleTimes_0 ..) ?_
      refine Ev2.neg (nI_ge (by omega) (by omega)) ?_
      refine Ev2.cl (a := (rs', f', c')) h1 ?_
      dsimp only
      subst e
      exact Ev2.neg (fun q => q rfl) (Ev2.ret rfl)
    · refine ⟨nI v, f', c', ?_, Or.inr ⟨v, rg_run bf af (fun r => s r + u r * T.toInt) (j + 1) R (rg_all bf af (fun r => s r + u r * T.toInt) R j x00), hv, rfl, ?_, ?_, ?_⟩⟩
      · refine Ev2.step (fun z fu => sq_TM_settleTimes_0 ..) ?_
        refine Ev2.neg (nI_ge (by omega) (by omega)) ?_
        refine Ev2.cl (a := (rs', f', c')) h1 ?_
        dsimp only
        subst e
        refine Ev2.pos (fun q => ?_) ?_
        · have h9 := nI_toInt (n := v) (by omega)
          rw [q] at h9
          have h8 : (-1 : Int32).toInt = -1 := by decide
          omega
        · refine Ev2.neg (fun q => q ?_) (Ev2.ret rfl)
          rw [show (1 : Int32) = nI 1 from rfl, nI_sub (by omega)]
          congr 1
          omega
      · exact ⟨h2.1, fun v => by have := h2.2.1 v; omega, h2.2.2⟩
      · have := rg_runI (bf := bf) (af := af) (w := fun r => s r + u r * T.toInt) (R := R) (k := j + 1) hne (by omega) (rg_allI hne (fun _ => 0) (fun _ => 0) j) R (Nat.le_refl R)
        rw [show n = j + 1 by omega]
        exact this
      · rw [show n = j + 1 by omega]; exact hq
  | succ m ih =>
    intro j f c hj ht
    obtain ⟨rs', f', c', h1, h2, h3⟩ := TM_raiseL hR hr hT0 hT (k := j + 1) (by omega) (x := rg_all bf af (fun r => s r + u r * T.toInt) R j x00) R 0 (j * 41600) f c (-1) (by omega) (by omega) (by omega) ht (Or.inl ⟨rfl, fun v _ => by
      have := rg_allG (bf := bf) (af := af) (w := fun r => s r + u r * T.toInt) (R := R) (x := x00) (fun _ => rfl) j v
      show (rg_all bf af (fun r => s r + u r * T.toInt) R j x00).2.2 v ≠ j + 1
      omega⟩)
    rcases h3 with ⟨e, hq⟩ | ⟨v, hv, e, hq⟩
    · refine ⟨-1, f', c', ?_, Or.inl ⟨rfl, _, h2.1, rg_quiet hne (fun r hr' => (hr r hr').2.1) hq⟩⟩
      refine Ev2.step (fun z fu => sq_TM_settleTimes_0 ..) ?_
      refine Ev2.neg (nI_ge (by omega) (by omega)) ?_
      refine Ev2.cl (a := (rs', f', c')) h1 ?_
      dsimp only
      subst e
      exact Ev2.neg (fun q => q rfl) (Ev2.ret rfl)
    · obtain ⟨rs2, f2, c2, g1, g2⟩ := ih (j + 1) f' c' (by omega) ⟨h2.1, fun v => by have := h2.2.1 v; refine ⟨this.1, ?_⟩; have h7 : (rg_all bf af (fun r => s r + u r * T.toInt) R (j + 1) x00).1 v ≤ (j : Int) * 41600 + (R : Int) * 2600 := this.2; omega, h2.2.2⟩
      refine ⟨rs2, f2, c2, ?_, g2⟩
      refine Ev2.step (fun z fu => sq_TM_settleTimes_0 ..) ?_
      refine Ev2.neg (nI_ge (by omega) (by omega)) ?_
      refine Ev2.cl (a := (rs', f', c')) h1 ?_
      dsimp only
      subst e
      refine Ev2.pos (fun q => ?_) ?_
      · have h9 := nI_toInt (n := v) (by omega)
        rw [q] at h9
        have h8 : (-1 : Int32).toInt = -1 := by decide
        omega
      · refine Ev2.pos (fun q => ?_) ?_
        · rw [show (1 : Int32) = nI 1 from rfl, nI_sub (by omega)] at q
          have := (nI_eq (by omega) (by omega)).mp q
          omega
        · rw [nI_1]
          exact g1
theorem TM_settle {R n : Nat} (hR : R ≤ 16) (hn1 : 1 ≤ n) (hn : n ≤ 6) {bf af : Nat → Nat} {s u : Nat → Int} {B A S U : Nat → Int32} (hr : rls R bf af s u B A S U) (hne : ∀ r, r < R → bf r ≠ af r) {T : Int32} (hT0 : 0 ≤ T.toInt) (hT : T.toInt ≤ 2000) (f c : Nat → Int32) :
    ∃ rs f' c', Ev (fun z => fn_TM_settleTimes z (nI n) T (nI R) f B S U A c) (rs, f', c') ∧
      ((rs = -1 ∧ ∃ d, (∀ v, v < 6 → (f' v).toInt = d v) ∧ lst R bf af (fun r => s r + u r * T.toInt) d) ∨
       ∃ v y, v < 6 ∧ rs = nI v ∧ tms 1000000 f' c' y ∧ rg_inv bf af (fun r => s r + u r * T.toInt) R n R y ∧ y.2.2 v = n) := by
  obtain ⟨rs, f', c', h1, h2⟩ := TM_settleL hR hn hr hne hT0 hT (n - 1) 0 (fun j => if j < 6 then 0 else f j) c (by omega) ⟨fun v hv => by dsimp only; rw [if_pos hv]; rfl, fun v => by show (0 : Int) ≤ 0 ∧ (0 : Int) ≤ _; omega, fun v _ hg => absurd hg (by show ¬ 1 ≤ 0; omega)⟩
  refine ⟨rs, f', c', ?_, h2⟩
  unfold fn_TM_settleTimes
  exact Ev.cl (Ev.from 7 fun z hz => pz_fill (by decide) (by omega) 0 f) h1.diag

/-! The ring, and the T that breaks it. -/
theorem TM_back {R n : Nat} (hR : R ≤ 16) (hn : n ≤ 6) {bf : Nat → Nat} {c B : Nat → Int32} {cs : Nat → Nat} {v : Nat} (a2 : Int32) (h : ∀ i, i < n → rg_it bf cs i v < 6 ∧ c (rg_it bf cs i v) = nI (cs (rg_it bf cs i v)) ∧ cs (rg_it bf cs i v) < R ∧ B (cs (rg_it bf cs i v)) = nI (bf (cs (rg_it bf cs i v)))) : ∀ (m j : Nat), j + m = n → Ev (fun fu => lp_TM_moveOnRing c B fu 0 (nI n) a2 (nI (rg_it bf cs j v)) (nI j)) (nI (rg_it bf cs n v)) := by
  intro m
  induction m with
  | zero =>
    intro j hj
    refine Ev.step (fun fu => sq_TM_moveOnRing_0 ..) ?_
    refine Ev.pos (nI_le (by omega) (by omega)) (Ev.ret ?_)
    rw [show j = n by omega]
  | succ m ih =>
    intro j hj
    obtain ⟨h1, h2, h3, h4⟩ := h j (by omega)
    refine Ev.step (fun fu => sq_TM_moveOnRing_0 ..) ?_
    refine Ev.neg (nI_ge (by omega) (by omega)) ?_
    rw [nI_clamp (by omega), h2, nI_clamp (by omega), h4, nI_1]
    exact Ev.gdN h1 (by decide) (Ev.gdN (by omega) (by decide) (ih (j + 1) (by omega)))
/-- what the sums of a ring give -/
def brk (Sec Trn : Int) : Int := if Trn < 0 then (Sec + (- Trn) - 1) / (- Trn) else 2001
theorem brk_eq {a b : Int32} {Sec Trn : Int} (ha : a.toInt = Sec) (hb : b.toInt = Trn) (h1 : 0 ≤ Sec ∨ 0 ≤ Trn) (h2 : Sec ≤ 3600) (h3 : -6 ≤ Trn) (h4 : Trn ≤ 6) (h5 : -3600 ≤ Sec) : ∃ T : Int32, (if b < 0 then ox_nz (-b) (some (((a + -b) - 1) / (-b))) else some 2001) = some T ∧ T.toInt = brk Sec Trn := by
  by_cases c : Trn < 0
  · have hb0 : b < 0 := by rw [Int32.lt_iff_toInt_lt, Int32.toInt_zero]; omega
    have hnb : (-b).toInt = - Trn := by rw [Jvm.Kit.i32_neg (by omega), hb]
    have e1 : (a + -b).toInt = Sec + - Trn := by rw [Jvm.Kit.i32_add (by omega) (by omega), ha, hnb]
    have e2 : (a + -b - 1).toInt = Sec + - Trn - 1 := by
      have : (1 : Int32).toInt = 1 := by decide
      rw [Jvm.Kit.i32_sub (by omega) (by omega), e1, this]
    refine ⟨(a + -b - 1) / (-b), ?_, ?_⟩
    · rw [if_pos hb0]
      unfold ox_nz
      rw [if_neg]
      intro e
      rw [e] at hnb
      have : (0 : Int32).toInt = 0 := by decide
      omega
    · rw [lg_idiv_nonneg (by omega) (by omega), e2, hnb]
      unfold brk
      rw [if_pos c]
  · have hb0 : ¬ b < 0 := by rw [Int32.lt_iff_toInt_lt, Int32.toInt_zero]; omega
    refine ⟨2001, by rw [if_neg hb0], ?_⟩
    unfold brk
    rw [if_neg c]
    decide
theorem TM_ringL {R n : Nat} (hR : R ≤ 16) (hn : n ≤ 6) {bf af : Nat → Nat} {s u : Nat → Int} {B A S U c : Nat → Int32} (hr : rls R bf af s u B A S U) {cs : Nat → Nat} {y : Nat} (hy : y < 6) (a2 : Int32) (z : Nat) (h : ∀ i, rg_it bf cs i y < 6 ∧ c (rg_it bf cs i y) = nI (cs (rg_it bf cs i y)) ∧ cs (rg_it bf cs i y) < R) {J : Nat} (hJ : J ≤ n) (hc : rg_it bf cs J y = y)
    (hpos : ∀ j, 1 ≤ j → rg_it bf cs j y = y → 0 ≤ rg_sm bf s cs j y ∨ 0 ≤ rg_sm bf u cs j y) : ∀ (m j : Nat) (i4 i5 : Int32), j + m + 1 = J → i4.toInt = rg_sm bf s cs j y → i5.toInt = rg_sm bf u cs j y →
    ∃ (j' : Nat) (T : Int32), 1 ≤ j' ∧ j' ≤ n ∧ rg_it bf cs j' y = y ∧ T.toInt = brk (rg_sm bf s cs j' y) (rg_sm bf u cs j' y) ∧ Ev (fun fu => lp_TM_cycleThatBreaksRing z c B S U fu 0 (nI n) a2 (nI y) i4 i5 (nI (rg_it bf cs j y)) (nI j)) T := by
  have bs : ∀ j : Nat, - ((j : Int) * 600) ≤ rg_sm bf s cs j y ∧ rg_sm bf s cs j y ≤ j * 600 := fun j => rg_bd bf s cs 600 j y (fun i _ => by have := hr _ (h i).2.2; omega)
  have bu : ∀ j : Nat, - ((j : Int) * 1) ≤ rg_sm bf u cs j y ∧ rg_sm bf u cs j y ≤ j * 1 := fun j => rg_bd bf u cs 1 j y (fun i _ => by have := hr _ (h i).2.2; omega)
  intro m
  induction m with
  | zero =>
    intro j i4 i5 hj h4 h5
    obtain ⟨g1, g2, g3⟩ := h j
    obtain ⟨b1, b2, b3, b4, b5, b6, b7, b8, b9⟩ := hr _ g3
    have q4 : (i4 + S (cs (rg_it bf cs j y))).toInt = rg_sm bf s cs (j + 1) y := by
      have := bs j
      rw [Jvm.Kit.i32_add (by omega) (by omega), h4, b5]; rfl
    have q5 : (i5 + U (cs (rg_it bf cs j y))).toInt = rg_sm bf u cs (j + 1) y := by
      have := bu j
      rw [Jvm.Kit.i32_add (by omega) (by omega), h5, b6]; rfl
    have ec : rg_it bf cs (j + 1) y = y := by rw [show j + 1 = J by omega]; exact hc
    have v1 := bs (j + 1)
    have v2 := bu (j + 1)
    obtain ⟨T, e1, e2⟩ := brk_eq q4 q5 (hpos (j + 1) (by omega) ec) (by omega) (by omega) (by omega) (by omega)
    refine ⟨j + 1, T, by omega, by omega, ec, e2, ?_⟩
    refine Ev.step (fun fu => sq_TM_cycleThatBreaksRing_0 ..) ?_
    refine Ev.neg (nI_ge (by omega) (by omega)) ?_
    rw [nI_clamp (by omega), g2, nI_clamp (by omega), b1]
    refine Ev.gdN (by omega) (by decide) (Ev.gdN (by omega) (by decide) (Ev.gdN (by omega) (by decide) (Ev.gdN (by omega) (by decide) ?_)))
    refine Ev.neg (fun q => q (by show nI (rg_it bf cs (j + 1) y) = nI y; rw [ec])) ?_
    exact Ev.now fun _ => e1
  | succ m ih =>
    intro j i4 i5 hj h4 h5
    obtain ⟨g1, g2, g3⟩ := h j
    obtain ⟨b1, b2, b3, b4, b5, b6, b7, b8, b9⟩ := hr _ g3
    have q4 : (i4 + S (cs (rg_it bf cs j y))).toInt = rg_sm bf s cs (j + 1) y := by
      have := bs j
      rw [Jvm.Kit.i32_add (by omega) (by omega), h4, b5]; rfl
    have q5 : (i5 + U (cs (rg_it bf cs j y))).toInt = rg_sm bf u cs (j + 1) y := by
      have := bu j
      rw [Jvm.Kit.i32_add (by omega) (by omega), h5, b6]; rfl
    by_cases ec : rg_it bf cs (j + 1) y = y
    · have v1 := bs (j + 1)
      have v2 := bu (j + 1)
      obtain ⟨T, e1, e2⟩ := brk_eq q4 q5 (hpos (j + 1) (by omega) ec) (by omega) (by omega) (by omega) (by omega)
      refine ⟨j + 1, T, by omega, by omega, ec, e2, ?_⟩
      refine Ev.step (fun fu => sq_TM_cycleThatBreaksRing_0 ..) ?_
      refine Ev.neg (nI_ge (by omega) (by omega)) ?_
      rw [nI_clamp (by omega), g2, nI_clamp (by omega), b1]
      refine Ev.gdN (by omega) (by decide) (Ev.gdN (by omega) (by decide) (Ev.gdN (by omega) (by decide) (Ev.gdN (by omega) (by decide) ?_)))
      refine Ev.neg (fun q => q (by show nI (rg_it bf cs (j + 1) y) = nI y; rw [ec])) ?_
      exact Ev.now fun _ => e1
    · obtain ⟨j', T, k1, k2, k3, k4, k5⟩ := ih (j + 1) _ _ (by omega) q4 q5
      refine ⟨j', T, k1, k2, k3, k4, ?_⟩
      refine Ev.step (fun fu => sq_TM_cycleThatBreaksRing_0 ..) ?_
      refine Ev.neg (nI_ge (by omega) (by omega)) ?_
      rw [nI_clamp (by omega), g2, nI_clamp (by omega), b1]
      refine Ev.gdN (by omega) (by decide) (Ev.gdN (by omega) (by decide) (Ev.gdN (by omega) (by decide) (Ev.gdN (by omega) (by decide) ?_)))
      refine Ev.pos (fun q => ec ((nI_eq (by have := (h (j + 1)).1; omega) (by omega)).mp q)) ?_
      rw [nI_1]
      exact k5
/-- times that don't settle at T: the next T, and no T between keeps the rules -/
theorem TM_break {R n : Nat} (hR : R ≤ 16) (hn1 : 1 ≤ n) (hn : n ≤ 6) {bf af : Nat → Nat} {s u : Nat → Int} {B A S U f c : Nat → Int32} (hr : rls R bf af s u B A S U) (hbn : ∀ r, r < R → bf r < n) (han : ∀ r, r < R → af r < n) {T : Int} (hT0 : 0 ≤ T) (hT : T ≤ 2000) {y : rg_S} {v : Nat} (ht : tms 1000000 f c y) (hi : rg_inv bf af (fun r => s r + u r * T) R n R y) (hv : y.2.2 v = n) :
    ∃ T' : Int32, Ev (fun z => fn_TM_cycleThatBreaksRing z (nI n) (nI v) c B S U) T' ∧ T < T'.toInt ∧ ∀ X : Int, T ≤ X → X < T'.toInt → ¬ ∃ L : Nat → Int, ∀ r, r < R → L (bf r) + (s r + u r * X) ≤ L (af r) := by
  obtain ⟨d, cs, g⟩ := y
  have hA := hi.1
  have hF := hi.2.2.2.2
  obtain ⟨t1, t2, t3⟩ := ht
  dsimp only at hA hF hv t1 t2 t3
  have hvn : v < n := by
    have h1 := hA v (by omega)
    have h2 := han _ h1.1
    rw [h1.2.1] at h2
    exact h2
  obtain ⟨J, r1, r2, r3, r4, r5, r6⟩ := rg_ring hi hbn hvn hv
  dsimp only at r3 r4 r5 r6
  have hst : ∀ x, 1 ≤ g x → x < 6 ∧ c x = nI (cs x) ∧ cs x < R ∧ B (cs x) = nI (bf (cs x)) := by
    intro x hx
    have h1 := hA x hx
    have h2 := han _ h1.1
    rw [h1.2.1] at h2
    exact ⟨by omega, t3 x (by omega) hx, h1.1, (hr _ h1.1).1⟩
  have back := TM_back hR hn (c := c) (B := B) (nI v) (fun i hi' => hst _ (r6 i hi')) n 0 (by omega)
  have hpos : ∀ j, 1 ≤ j → rg_it bf cs j (rg_it bf cs n v) = rg_it bf cs n v → 0 < rg_sm bf s cs j (rg_it bf cs n v) + rg_sm bf u cs j (rg_it bf cs n v) * T := by
    intro j hj hc
    have := hF (rg_it bf cs n v) j hj (fun i _ => r4 i) hc
    rw [rg_lin] at this
    exact this
  have hy6 : rg_it bf cs n v < 6 := (hst _ (r4 0)).1
  have key : ∀ z : Nat, ∃ (j' : Nat) (T' : Int32), 1 ≤ j' ∧ j' ≤ n ∧ rg_it bf cs j' (rg_it bf cs n v) = rg_it bf cs n v ∧ T'.toInt = brk (rg_sm bf s cs j' (rg_it bf cs n v)) (rg_sm bf u cs j' (rg_it bf cs n v)) ∧ Ev (fun fu => lp_TM_cycleThatBreaksRing z c B S U fu 0 (nI n) (nI v) (nI (rg_it bf cs n v)) 0 0 (nI (rg_it bf cs 0 (rg_it bf cs n v))) (nI 0)) T' := by
    intro z
    refine TM_ringL hR hn hr hy6 (nI v) z (fun i => ⟨(hst _ (r4 i)).1, (hst _ (r4 i)).2.1, (hst _ (r4 i)).2.2.1⟩) r2 r3 (fun j hj hc => ?_) (J - 1) 0 0 0 (by omega) Int32.toInt_zero Int32.toInt_zero
    have := hpos j hj hc
    by_cases q : 0 ≤ rg_sm bf u cs j (rg_it bf cs n v)
    · exact Or.inr q
    · refine Or.inl ?_
      have h9 : rg_sm bf u cs j (rg_it bf cs n v) * T ≤ 0 := Int.mul_nonpos_of_nonpos_of_nonneg (by omega) hT0
      omega
  obtain ⟨j', T', k1, k2, k3, k4, k5⟩ := key 0
  have hp := hpos j' k1 k3
  have hz : ∀ z fu, lp_TM_cycleThatBreaksRing z c B S U fu 0 (nI n) (nI v) (nI (rg_it bf cs n v)) 0 0 (nI (rg_it bf cs 0 (rg_it bf cs n v))) (nI 0) = lp_TM_cycleThatBreaksRing 0 c B S U fu 0 (nI n) (nI v) (nI (rg_it bf cs n v)) 0 0 (nI (rg_it bf cs 0 (rg_it bf cs n v))) (nI 0) := by
    intro z fu
    have e : ∀ fu, lp_TM_cycleThatBreaksRing z c B S U fu = lp_TM_cycleThatBreaksRing 0 c B S U fu := by
      intro fu
      induction fu with
      | zero => rfl
      | succ fu ih =>
        show st_TM_cycleThatBreaksRing z c B S U (lp_TM_cycleThatBreaksRing z c B S U fu) = st_TM_cycleThatBreaksRing 0 c B S U (lp_TM_cycleThatBreaksRing 0 c B S U fu)
        rw [ih]
        rfl
    rw [e]
  have bu := rg_bd bf u cs 1 j' (rg_it bf cs n v) (fun i _ => by have := hr _ (hst _ (r4 i)).2.2.1; omega)
  have noL : ∀ X : Int, 0 < rg_sm bf s cs j' (rg_it bf cs n v) + rg_sm bf u cs j' (rg_it bf cs n v) * X → ¬ ∃ L : Nat → Int, ∀ r, r < R → L (bf r) + (s r + u r * X) ≤ L (af r) := by
    intro X hX ⟨L, hL⟩
    have := rg_sol (bf := bf) (af := af) (w := fun r => s r + u r * X) (R := R) (c := cs) (L := L) hL j' (rg_it bf cs n v) (fun i _ => ⟨(hA _ (r4 i)).1, (hA _ (r4 i)).2.1⟩)
    rw [k3, rg_lin] at this
    omega
  refine ⟨T', ?_, ?_, ?_⟩
  · unfold fn_TM_cycleThatBreaksRing
    refine Ev.cl back ?_
    exact Ev.congr (fun z => hz z z) k5
  · rw [k4]
    unfold brk
    generalize rg_sm bf s cs j' (rg_it bf cs n v) = Sec at *
    generalize rg_sm bf u cs j' (rg_it bf cs n v) = Trn at *
    split
    · rename_i c
      have h1 : T + 1 ≤ (Sec + -Trn - 1) / -Trn := by
        rw [Int.le_ediv_iff_mul_le (by omega)]
        have e : (T + 1) * -Trn = - (Trn * T) + -Trn := by rw [Int.add_mul, Int.mul_neg, Int.mul_comm T Trn]; omega
        rw [e]
        omega
      omega
    · omega
  · intro X hX1 hX2
    apply noL
    rw [k4] at hX2
    unfold brk at hX2
    generalize rg_sm bf s cs j' (rg_it bf cs n v) = Sec at *
    generalize rg_sm bf u cs j' (rg_it bf cs n v) = Trn at *
    split at hX2
    · rename_i c
      have h1 : (X + 1) * -Trn ≤ Sec + -Trn - 1 := by
        rw [← Int.le_ediv_iff_mul_le (by omega)]
        omega
      have e : (X + 1) * -Trn = - (Trn * X) + -Trn := by rw [Int.add_mul, Int.mul_neg, Int.mul_comm X Trn]; omega
      rw [e] at h1
      omega
    · rename_i c
      have h2 : Trn * T ≤ Trn * X := Int.mul_le_mul_of_nonneg_left hX1 (by omega)
      omega

/-! The class's least T of an order. -/
def sW (f : Nat → Int) : Nat → Int
  | 0 => 0
  | k + 1 => sW f k + f k
theorem sW_b {f : Nat → Int} {B : Int} : ∀ k : Nat, (∀ r, r < k → - B ≤ f r ∧ f r ≤ B) → - (k * B) ≤ sW f k ∧ sW f k ≤ k * B
  | 0, _ => by
    have e : sW f 0 = 0 := rfl
    rw [e]
    simp
  | k + 1, h => by
    have h1 := sW_b k (fun r hr => h r (by omega))
    have h2 := h k (by omega)
    have e : sW f (k + 1) = sW f k + f k := rfl
    have e2 : ((k + 1 : Nat) : Int) * B = k * B + B := by rw [Int.natCast_add, Int.add_mul]; simp
    rw [e, e2]
    omega
theorem sW_ge {f : Nat → Int} : ∀ k : Nat, (∀ r, r < k → 1 ≤ f r) → (k : Int) ≤ sW f k
  | 0, _ => Int.le_refl _
  | k + 1, h => by
    have h1 := sW_ge k (fun r hr => h r (by omega))
    have h2 := h k (by omega)
    have e : sW f (k + 1) = sW f k + f k := rfl
    rw [e]
    omega
theorem TM_addRule_eq {k : Nat} (hk : k < 16) (a1 a2 a3 a4 : Int32) (B A S U : Nat → Int32) : fn_TM_addRule a1 a2 a3 a4 (nI k) B A S U = some (nI (k + 1), upd B k a1, upd A k a2, upd S k a3, upd U k a4) := by
  unfold fn_TM_addRule
  simp only [ox_gdN hk (by decide), nI_1, nI_clamp (show k < 2 ^ 31 by omega)]
theorem rls_push {k : Nat} {bf af : Nat → Nat} {s u : Nat → Int} {B A S U : Nat → Int32} {a1 a2 a3 a4 : Int32} (h : rls k bf af s u B A S U) (h1 : a1 = nI (bf k)) (h2 : bf k < 6) (h3 : a2 = nI (af k)) (h4 : af k < 6) (h5 : a3.toInt = s k) (h6 : a4.toInt = u k) (h7 : -600 ≤ s k) (h8 : s k ≤ 600) (h9 : u k = -1 ∨ u k = 0 ∨ u k = 1) : rls (k + 1) bf af s u (upd B k a1) (upd A k a2) (upd S k a3) (upd U k a4) := by
  intro r hr
  by_cases e : r = k
  · subst e
    rw [pk_us, pk_us, pk_us, pk_us]
    exact ⟨h1, h2, h3, h4, h5, h6, h7, h8, h9⟩
  · rw [pk_un e, pk_un e, pk_un e, pk_un e]
    exact h r (by omega)
theorem TM_waysL {t : Nat} {p q : Nat → Nat} {low high ld : Nat → Int32} {es : Nat → Nat → Int32} {em : Nat → Int32} (hd : dat t low high ld es em) (ho : ord t p q) {mv : Nat → Int32} (hm : ∀ k, k ≤ t → mv k = nI (p k)) : ∀ (m k : Nat) (rd : Int32) (B A S U : Nat → Int32), k + m = t + 1 → rls k (rB t p) (rA t p) (rS t p low high ld es) (rU t q) B A S U → rd.toInt = sW (rS t p low high ld es) k →
    ∃ rd' B' A' S' U', Ev (fun fu => lp_TM_addWays (nI (t + 1)) mv ld es fu 0 rd (nI k) (nI k) B A S U) (rd', nI (t + 1), B', A', S', U') ∧ rls (t + 1) (rB t p) (rA t p) (rS t p low high ld es) (rU t q) B' A' S' U' ∧ rd'.toInt = sW (rS t p low high ld es) (t + 1) := by
  obtain ⟨⟨h1, h5⟩, hk, hE⟩ := id hd
  intro m
  induction m with
  | zero =>
    intro k rd B A S U hkm hr hs
    have e : k = t + 1 := by omega
    subst e
    refine ⟨rd, B, A, S, U, ?_, hr, hs⟩
    refine Ev.step (fun fu => sq_TM_addWays_0 ..) ?_
    exact Ev.pos (nI_le (by omega) (by omega)) (Ev.ret rfl)
  | succ m ih =>
    intro k rd B A S U hkm hr hs
    have hkt : k ≤ t := by omega
    have pk := (ho.2.1 k hkt).1
    have sb := rS_b hd ho (r := k) (by omega)
    have wb := sW_b (f := rS t p low high ld es) (B := 600) k (fun r hr' => by have := rS_b hd ho (r := r) (by omega); omega)
    have d1 := hk (p k) (by omega)
    by_cases c : k = t
    · subst c
      have d2 := hE (p k + 1) 0 (by omega) (by omega)
      have eS : rS k p low high ld es k = (ld (p k)).toInt + (es (p k + 1) 0).toInt := by unfold rS; rw [if_neg (by omega), if_pos rfl]
      have w1 : (ld (p k) + es (p k + 1) 0).toInt = rS k p low high ld es k := by rw [Jvm.Kit.i32_add (by omega) (by omega), eS]
      obtain ⟨rd', B', A', S', U', g1, g2, g3⟩ := ih (k + 1) (rd + (ld (p k) + es (p k + 1) 0)) _ _ _ _ (by omega) (rls_push (a1 := nI (p k)) (a2 := 0) (a3 := ld (p k) + es (p k + 1) 0) (a4 := -1) hr (by rw [rB_t]) (by rw [rB_t]; omega) (by rw [rA_t]; rfl) (by rw [rA_t]; omega) w1 (by unfold rU; rw [if_neg (by omega), if_pos rfl]; decide) sb.1 sb.2.1 (rU_b ..)) (by
        rw [Jvm.Kit.i32_add (by omega) (by omega), hs, w1]; rfl)
      refine ⟨rd', B', A', S', U', ?_, g2, g3⟩
      refine Ev.step (fun fu => sq_TM_addWays_0 ..) ?_
      refine Ev.neg (nI_ge (by omega) (by omega)) ?_
      have e1 : nI (k + 1) - 1 = nI k := nI_pred k
      refine Ev.neg (fun q => q e1.symm) ?_
      simp only [nI_clamp (show k < 2 ^ 31 by omega), hm k (by omega), nI_1, nI_clamp (show p k < 2 ^ 31 by omega), nI_clamp (show p k + 1 < 2 ^ 31 by omega)]
      refine Ev.gdN (by omega) (by decide) (Ev.gdN (by omega) (by decide) (Ev.gdN (by omega) (by decide) ?_))
      refine Ev.cl0 (TM_addRule_eq (by omega) ..) ?_
      exact g1
    · have pk1 := (ho.2.1 (k + 1) (by omega)).1
      have d2 := hE (p k + 1) (p (k + 1)) (by omega) (by omega)
      have eS : rS t p low high ld es k = (ld (p k)).toInt + (es (p k + 1) (p (k + 1))).toInt := by unfold rS; rw [if_pos (by omega)]
      have w1 : (ld (p k) + es (p k + 1) (p (k + 1))).toInt = rS t p low high ld es k := by rw [Jvm.Kit.i32_add (by omega) (by omega), eS]
      have eB : rB t p k = p k := by unfold rB; rw [if_pos hkt]
      have eA : rA t p k = p (k + 1) := by unfold rA; rw [if_pos (by omega)]
      obtain ⟨rd', B', A', S', U', g1, g2, g3⟩ := ih (k + 1) (rd + (ld (p k) + es (p k + 1) (p (k + 1)))) _ _ _ _ (by omega) (rls_push (a1 := nI (p k)) (a2 := nI (p (k + 1))) (a3 := ld (p k) + es (p k + 1) (p (k + 1))) (a4 := 0) hr (by rw [eB]) (by rw [eB]; omega) (by rw [eA]) (by rw [eA]; omega) w1 (by unfold rU; rw [if_pos (by omega)]; decide) sb.1 sb.2.1 (rU_b ..)) (by
        rw [Jvm.Kit.i32_add (by omega) (by omega), hs, w1]; rfl)
      refine ⟨rd', B', A', S', U', ?_, g2, g3⟩
      refine Ev.step (fun fu => sq_TM_addWays_0 ..) ?_
      refine Ev.neg (nI_ge (by omega) (by omega)) ?_
      have e1 : nI (t + 1) - 1 = nI t := nI_pred t
      refine Ev.pos (fun q => by rw [e1] at q; exact c ((nI_eq (by omega) (by omega)).mp q)) ?_
      simp only [nI_1, nI_clamp (show k < 2 ^ 31 by omega), nI_clamp (show k + 1 < 2 ^ 31 by omega), hm k (by omega), hm (k + 1) (by omega), nI_clamp (show p k < 2 ^ 31 by omega), nI_clamp (show p k + 1 < 2 ^ 31 by omega), nI_clamp (show p (k + 1) < 2 ^ 31 by omega)]
      refine Ev.gdN (by omega) (by decide) (Ev.gdN (by omega) (by decide) (Ev.gdN (by omega) (by decide) (Ev.gdN (by omega) (by decide) (Ev.gdN (by omega) (by decide) ?_))))
      refine Ev.cl0 (TM_addRule_eq (by omega) ..) ?_
      exact g1
theorem OR_turns {t : Nat} (h5 : t ≤ 5) {q : Nat → Nat} {rk : Nat → Int32} (hq : ∀ i, i ≤ t → q i ≤ t ∧ rk i = nI (q i)) {i : Nat} (hi : i + 1 ≤ t) : ∃ o : Int32, fn_OR_soakTurns (nI (i + 1)) rk = some o ∧ o.toInt = rO q i ∧ (o = 0 ∨ o = 1) := by
  have a := hq i (by omega)
  have b := hq (i + 1) hi
  unfold fn_OR_soakTurns
  have e1 : nI (i + 1) - 1 = nI i := nI_pred i
  rw [ox_gdN (by omega) (by decide), e1, ox_gdN (by omega) (by decide), nI_clamp (by omega), nI_clamp (by omega), a.2, b.2]
  unfold rO
  by_cases c : q (i + 1) < q i
  · rw [if_neg (nI_ge c (by omega)), if_pos c]
    exact ⟨1, rfl, by decide, Or.inr rfl⟩
  · rw [if_pos (nI_le (by omega) (by omega)), if_neg c]
    exact ⟨0, rfl, by decide, Or.inl rfl⟩
theorem TM_soaksL {t : Nat} {p q : Nat → Nat} {low high ld : Nat → Int32} {es : Nat → Nat → Int32} {em : Nat → Int32} (hd : dat t low high ld es em) (ho : ord t p q) {rk : Nat → Int32} (hq : ∀ i, i ≤ t → rk i = nI (q i)) : ∀ (m i : Nat) (B A S U : Nat → Int32), i + m = t → rls (t + 1 + 2 * i) (rB t p) (rA t p) (rS t p low high ld es) (rU t q) B A S U →
    ∃ B' A' S' U', Ev (fun fu => lp_TM_addSoaks (nI (t + 1)) ld rk low high fu 0 (nI (i + 1)) (nI (t + 1 + 2 * i)) B A S U) (nI (3 * t + 1), B', A', S', U') ∧ rls (3 * t + 1) (rB t p) (rA t p) (rS t p low high ld es) (rU t q) B' A' S' U' := by
  obtain ⟨⟨h1, h5⟩, hk, hE⟩ := id hd
  intro m
  induction m with
  | zero =>
    intro i B A S U him hr
    have e : t + 1 + 2 * i = 3 * t + 1 := by omega
    rw [e] at hr ⊢
    refine ⟨B, A, S, U, ?_, hr⟩
    refine Ev.step (fun fu => sq_TM_addSoaks_0 ..) ?_
    exact Ev.pos (nI_le (by omega) (by omega)) (Ev.ret rfl)
  | succ m ih =>
    intro i B A S U him hr
    obtain ⟨o, o1, o2, o3⟩ := OR_turns h5 (fun j hj => ⟨(ho.2.2 j hj).1, hq j hj⟩) (show i + 1 ≤ t by omega)
    have d1 := hk i (by omega)
    have d2 := hk (i + 1) (by omega)
    have x1 : ∀ r, r = t + 1 + 2 * i → ¬ r < t ∧ ¬ r = t ∧ ¬ r ≤ t ∧ (r - (t + 1)) % 2 = 0 ∧ (r - (t + 1)) / 2 = i := fun r hr' => by omega
    have x2 : ∀ r, r = t + 1 + 2 * i + 1 → ¬ r < t ∧ ¬ r = t ∧ ¬ r ≤ t ∧ ¬ (r - (t + 1)) % 2 = 0 ∧ (r - (t + 1)) / 2 = i := fun r hr' => by omega
    obtain ⟨y1, y2, y3, y4, y5⟩ := x1 _ rfl
    obtain ⟨z1, z2, z3, z4, z5⟩ := x2 _ rfl
    have s1 := rS_b hd ho (r := t + 1 + 2 * i) (by omega)
    have s2 := rS_b hd ho (r := t + 1 + 2 * i + 1) (by omega)
    have hno : (-o).toInt = - rO q i := by
      rw [Jvm.Kit.i32_neg (by rcases o3 with e | e <;> rw [e] <;> decide), o2]
    have r1 := rls_push (a1 := nI i) (a2 := nI (i + 1)) (a3 := ld i + low (i + 1)) (a4 := -o) hr (by unfold rB; rw [if_neg y3, if_pos y4, y5]) (by unfold rB; rw [if_neg y3, if_pos y4, y5]; omega) (by unfold rA; rw [if_neg y1, if_neg y2, if_pos y4, y5]) (by unfold rA; rw [if_neg y1, if_neg y2, if_pos y4, y5]; omega)
      (by unfold rS; rw [if_neg y1, if_neg y2, if_pos y4, y5, Jvm.Kit.i32_add (by omega) (by omega)]) (by unfold rU; rw [if_neg y1, if_neg y2, if_pos y4, y5, hno]) s1.1 s1.2.1 (rU_b ..)
    have nl : (-ld i).toInt = - (ld i).toInt := by rw [Jvm.Kit.i32_neg (by omega)]
    have r2 := rls_push (a1 := nI (i + 1)) (a2 := nI i) (a3 := -ld i - high (i + 1)) (a4 := o) r1 (by unfold rB; rw [if_neg z3, if_neg z4, z5]) (by unfold rB; rw [if_neg z3, if_neg z4, z5]; omega) (by unfold rA; rw [if_neg z1, if_neg z2, if_neg z4, z5]) (by unfold rA; rw [if_neg z1, if_neg z2, if_neg z4, z5]; omega)
      (by unfold rS; rw [if_neg z1, if_neg z2, if_neg z4, z5, Jvm.Kit.i32_sub (by omega) (by omega), nl]) (by unfold rU; rw [if_neg z1, if_neg z2, if_neg z4, z5, o2]) s2.1 s2.2.1 (rU_b ..)
    obtain ⟨B', A', S', U', g1, g2⟩ := ih (i + 1) _ _ _ _ (by omega) r2
    refine ⟨B', A', S', U', ?_, g2⟩
    refine Ev.step (fun fu => sq_TM_addSoaks_0 ..) ?_
    refine Ev.neg (nI_ge (by omega) (by omega)) ?_
    have e1 : nI (i + 1) - 1 = nI i := nI_pred i
    simp only [e1, nI_clamp (show i < 2 ^ 31 by omega), nI_clamp (show i + 1 < 2 ^ 31 by omega), nI_1]
    refine Ev.gdN (by omega) (by decide) ?_
    refine Ev.cl0 o1 ?_
    refine Ev.gdN (by omega) (by decide) ?_
    refine Ev.cl0 (TM_addRule_eq (by omega) ..) ?_
    refine Ev.gdN (by omega) (by decide) ?_
    refine Ev.cl0 (TM_addRule_eq (by omega) ..) ?_
    exact g1
/-- the answer for an order, up to a limit -/
def lcR (t : Nat) (p q : Nat → Nat) (low high ld : Nat → Int32) (es : Nat → Nat → Int32) (lm : Nat) (res : Int32) (f : Nat → Int32) : Prop :=
  (res = -1 ∧ ∀ X : Int, sW (rS t p low high ld es) (t + 1) ≤ X → X ≤ lm → ¬ Feas t p q low high ld es X) ∨
  ∃ T : Nat, res = nI T ∧ sW (rS t p low high ld es) (t + 1) ≤ T ∧ T ≤ lm ∧ (∀ X : Int, sW (rS t p low high ld es) (t + 1) ≤ X → X < T → ¬ Feas t p q low high ld es X) ∧ ∃ d, (∀ v, v < 6 → (f v).toInt = d v) ∧ lst (3 * t + 1) (rB t p) (rA t p) (rW t p q low high ld es T) d
theorem TM_leastL {t : Nat} {p q : Nat → Nat} {low high ld : Nat → Int32} {es : Nat → Nat → Int32} {em : Nat → Int32} (hd : dat t low high ld es em) (ho : ord t p q) {B A S U : Nat → Int32} (hr : rls (3 * t + 1) (rB t p) (rA t p) (rS t p low high ld es) (rU t q) B A S U) (mv rk : Nat → Int32) {lm : Nat} (hlm : lm ≤ 2000) : ∀ (m : Nat) (Tc : Int32) (j : Nat) (f c : Nat → Int32), (lm : Int) + 1 ≤ Tc.toInt + m → sW (rS t p low high ld es) (t + 1) + j ≤ Tc.toInt → (∀ X : Int, sW (rS t p low high ld es) (t + 1) ≤ X → X < Tc.toInt → ¬ Feas t p q low high ld es X) →
    ∃ res f' c', Ev2 (fun z fu => lp_TM_leastCycle z (nI (t + 1)) mv ld rk low high es fu 0 (nI lm) Tc (nI j) (nI (3 * t + 1)) B A S U f c) (res, nI (3 * t + 1), B, A, S, U, f', c') ∧ lcR t p q low high ld es lm res f' := by
  obtain ⟨⟨h1, h5⟩, hk, hE⟩ := id hd
  have fr := sW_ge (f := rS t p low high ld es) (t + 1) (fun r hr' => (rS_b hd ho (r := r) (by omega)).2.2 (by omega))
  intro m
  induction m with
  | zero =>
    intro Tc j f c hm hj hX
    have hTl := Int32.toInt_lt Tc
    refine ⟨-1, f, c, ?_, Or.inl ⟨rfl, fun X h1 h2 => hX X h1 (by omega)⟩⟩
    refine Ev2.step (fun z fu => sq_TM_leastCycle_0 ..) ?_
    by_cases cj : 2000 ≤ j
    · exact Ev2.pos (show (2000 : Int32) ≤ nI j from nI_le (a := 2000) cj (by omega)) (Ev2.ret rfl)
    · refine Ev2.neg (show ¬ (2000 : Int32) ≤ nI j from nI_ge (b := 2000) (by omega) (by decide)) ?_
      refine Ev2.pos ?_ (Ev2.ret rfl)
      rw [Int32.lt_iff_toInt_lt, nI_toInt (by omega)]
      omega
  | succ m ih =>
    intro Tc j f c hm hj hX
    have hTl := Int32.toInt_lt Tc
    by_cases ct : (lm : Int) < Tc.toInt
    · refine ⟨-1, f, c, ?_, Or.inl ⟨rfl, fun X h1 h2 => hX X h1 (by omega)⟩⟩
      refine Ev2.step (fun z fu => sq_TM_leastCycle_0 ..) ?_
      by_cases cj : 2000 ≤ j
      · exact Ev2.pos (show (2000 : Int32) ≤ nI j from nI_le (a := 2000) cj (by omega)) (Ev2.ret rfl)
      · refine Ev2.neg (show ¬ (2000 : Int32) ≤ nI j from nI_ge (b := 2000) (by omega) (by decide)) ?_
        refine Ev2.pos ?_ (Ev2.ret rfl)
        rw [Int32.lt_iff_toInt_lt, nI_toInt (by omega)]
        omega
    · have n1 : ¬ (2000 : Int32) ≤ nI j := nI_ge (b := 2000) (by omega) (by decide)
      have n2 : ¬ nI lm < Tc := by rw [Int32.lt_iff_toInt_lt, nI_toInt (by omega)]; omega
      obtain ⟨rs, f', c', g1, g2⟩ := TM_settle (n := t + 1) (by omega) (by omega) (by omega) hr (fun r hr' => rBA_ne h1 ho hr') (T := Tc) (by omega) (by omega) f c
      rcases g2 with ⟨e, d, d1, d2⟩ | ⟨v, y, hv, e, y1, y2, y3⟩
      · subst e
        refine ⟨Tc, f', c', ?_, Or.inr ⟨Tc.toInt.toNat, ?_, by omega, by omega, fun X x1 x2 => hX X x1 (by omega), d, d1, ?_⟩⟩
        · refine Ev2.step (fun z fu => sq_TM_leastCycle_0 ..) ?_
          refine Ev2.neg n1 (Ev2.neg n2 ?_)
          refine Ev2.cl g1 ?_
          exact Ev2.neg (fun q => q rfl) (Ev2.ret rfl)
        · apply Int32.toInt_inj.mp
          rw [nI_toInt (by omega)]
          omega
        · rw [show ((Tc.toInt.toNat : Nat) : Int) = Tc.toInt by omega]
          exact d2
      · obtain ⟨T', b1, b2, b3⟩ := TM_break (n := t + 1) (by omega) (by omega) (by omega) hr (fun r hr' => Nat.lt_succ_of_le (rB_le ho hr')) (fun r hr' => Nat.lt_succ_of_le (rA_le ho hr')) (T := Tc.toInt) (by omega) (by omega) y1 y2 y3
        obtain ⟨res, f2, c2, k1, k2⟩ := ih T' (j + 1) f' c' (by omega) (by omega) (fun X x1 x2 => by
          by_cases q : X < Tc.toInt
          · exact hX X x1 q
          · exact b3 X (by omega) x2)
        refine ⟨res, f2, c2, ?_, k2⟩
        refine Ev2.step (fun z fu => sq_TM_leastCycle_0 ..) ?_
        refine Ev2.neg n1 (Ev2.neg n2 ?_)
        refine Ev2.cl g1 ?_
        subst e
        refine Ev2.pos (fun q => ?_) ?_
        · have h9 := nI_toInt (n := v) (by omega)
          rw [q] at h9
          have h8 : (-1 : Int32).toInt = -1 := by decide
          omega
        · refine Ev2.cl b1 ?_
          rw [nI_1]
          exact k1
theorem TM_least {t : Nat} {p q : Nat → Nat} {low high ld : Nat → Int32} {es : Nat → Nat → Int32} {em : Nat → Int32} (hd : dat t low high ld es em) (ho : ord t p q) {mv rk : Nat → Int32} (hm : ∀ k, k ≤ t → mv k = nI (p k)) (hq : ∀ i, i ≤ t → rk i = nI (q i)) {lm : Nat} (hlm : lm ≤ 2000) (v0 : Int32) (B A S U f c : Nat → Int32) :
    ∃ res v' B' A' S' U' f' c', Ev (fun z => fn_TM_leastCycle z (nI lm) v0 (nI (t + 1)) mv ld B A S U rk low high f c es) (res, v', B', A', S', U', f', c') ∧ lcR t p q low high ld es lm res f' := by
  obtain ⟨⟨h1, h5⟩, hk, hE⟩ := id hd
  obtain ⟨rd, B1, A1, S1, U1, g1, g2, g3⟩ := TM_waysL hd ho hm (t + 1) 0 0 B A S U (by omega) (fun r hr => absurd hr (Nat.not_lt_zero r)) Int32.toInt_zero
  have wb := sW_b (f := rS t p low high ld es) (B := 600) (t + 1) (fun r hr' => by have := rS_b hd ho (r := r) (by omega); omega)
  by_cases c1 : rd ≤ nI lm
  · obtain ⟨B2, A2, S2, U2, k1, k2⟩ := TM_soaksL hd ho hq t 0 B1 A1 S1 U1 (by omega) g2
    obtain ⟨res, f', c', l1, l2⟩ := TM_leastL hd ho k2 mv rk hlm (lm + 1) rd 0 f c (by
      have fr := sW_ge (f := rS t p low high ld es) (t + 1) (fun r hr' => (rS_b hd ho (r := r) (by omega)).2.2 (by omega))
      omega) (by omega) (fun X x1 x2 => by omega)
    refine ⟨res, nI (3 * t + 1), B2, A2, S2, U2, f', c', ?_, l2⟩
    unfold fn_TM_leastCycle
    refine Ev.cl g1 ?_
    refine Ev.pos c1 ?_
    refine Ev.cl k1 ?_
    exact l1.diag
  · refine ⟨-1, nI (t + 1), B1, A1, S1, U1, f, c, ?_, Or.inl ⟨rfl, fun X x1 x2 => ?_⟩⟩
    · unfold fn_TM_leastCycle
      refine Ev.cl g1 ?_
      exact Ev.neg c1 (Ev.ret rfl)
    · rw [Int32.le_iff_toInt_le, nI_toInt (by omega)] at c1
      omega

