/-! Orders: the first one, the next one. -/
def rep (t : Nat) (mv : Nat → Int32) (p : Nat → Nat) : Prop := ∀ k, k ≤ t → mv k = nI (p k)
def swp (p : Nat → Nat) (a b : Nat) : Nat → Nat := fun k => if k = b then p a else if k = a then p b else p k
theorem nI_m1 (k : Nat) : nI (k + 1) + (-1) = nI k := by rw [← Int32.sub_eq_add_neg]; exact nI_pred k
theorem OR_swap_eq {t : Nat} (h5 : t ≤ 5) {mv : Nat → Int32} {p : Nat → Nat} (h : rep t mv p) {a b : Nat} (ha : a ≤ t) (hb : b ≤ t) : ∃ mv', fn_OR_swap (nI a) (nI b) mv = some mv' ∧ rep t mv' (swp p a b) := by
  refine ⟨upd (upd mv a (mv b)) b (mv a), ?_, fun k hk => ?_⟩
  · unfold fn_OR_swap
    simp only [ox_gdN (show a < 6 by omega) (by decide), ox_gdN (show b < 6 by omega) (by decide), nI_clamp (show a < 2 ^ 31 by omega), nI_clamp (show b < 2 ^ 31 by omega)]
  · unfold swp
    by_cases e : k = b
    · subst e; rw [pk_us, if_pos rfl]; exact h a ha
    · rw [pk_un e, if_neg e]
      by_cases e2 : k = a
      · subst e2; rw [pk_us, if_pos rfl]; exact h b hb
      · rw [pk_un e2, if_neg e2]; exact h k hk
def rvs : Nat → Nat → Nat → (Nat → Nat) → Nat → Nat
  | 0, _, _, p => p
  | m + 1, e, k, p => if e ≤ k then p else rvs m (e - 1) (k + 1) (swp p k e)
theorem OR_revL {t : Nat} (h5 : t ≤ 5) (cn a1 : Int32) : ∀ (m e k : Nat) (mv : Nat → Int32) (p : Nat → Nat), e ≤ m → e ≤ t → k ≤ 20 → rep t mv p → ∃ mv', Ev (fun fu => lp_OR_reverseFrom cn fu 0 a1 (nI e) (nI k) mv) mv' ∧ rep t mv' (rvs m e k p) := by
  intro m
  induction m with
  | zero =>
    intro e k mv p he het hk h
    refine ⟨mv, ?_, h⟩
    refine Ev.step (fun fu => sq_OR_reverseFrom_0 ..) ?_
    exact Ev.pos (nI_le (by omega) (by omega)) (Ev.ret rfl)
  | succ m ih =>
    intro e k mv p he het hk h
    unfold rvs
    by_cases c : e ≤ k
    · rw [if_pos c]
      refine ⟨mv, ?_, h⟩
      refine Ev.step (fun fu => sq_OR_reverseFrom_0 ..) ?_
      exact Ev.pos (nI_le c (by omega)) (Ev.ret rfl)
    · rw [if_neg c]
      obtain ⟨mv1, g1, g2⟩ := OR_swap_eq h5 h (show k ≤ t by omega) het
      obtain ⟨mv2, k1, k2⟩ := ih (e - 1) (k + 1) mv1 _ (by omega) (by omega) (by omega) g2
      refine ⟨mv2, ?_, k2⟩
      refine Ev.step (fun fu => sq_OR_reverseFrom_0 ..) ?_
      refine Ev.neg (nI_ge (by omega) (by omega)) (Ev.cl0 g1 ?_)
      have e1 : nI e + (-1) = nI (e - 1) := by
        obtain ⟨e', rfl⟩ : ∃ e', e = e' + 1 := ⟨e - 1, by omega⟩
        exact nI_m1 e'
      rw [e1, nI_1]
      exact k1
def inj (t : Nat) (p : Nat → Nat) : Prop := (∀ k, k ≤ t → p k ≤ t) ∧ ∀ a b, a ≤ t → b ≤ t → p a = p b → a = b
theorem OR_rankL {t : Nat} (h5 : t ≤ 5) {mv : Nat → Int32} {p : Nat → Nat} (h : rep t mv p) (hi : inj t p) : ∀ (m k : Nat) (g : Nat → Int32), k + m = t + 1 → (∀ j, j < k → g (p j) = nI j) → ∃ g', Ev (fun fu => lp_OR_rankMoves (nI (t + 1)) mv fu 0 (nI k) g) g' ∧ ∀ j, j ≤ t → g' (p j) = nI j := by
  intro m
  induction m with
  | zero =>
    intro k g hk hg
    refine ⟨g, ?_, fun j hj => hg j (by omega)⟩
    refine Ev.step (fun fu => sq_OR_rankMoves_0 ..) ?_
    exact Ev.pos (nI_le (by omega) (by omega)) (Ev.ret rfl)
  | succ m ih =>
    intro k g hk hg
    have pk := hi.1 k (by omega)
    obtain ⟨g', h1, h2⟩ := ih (k + 1) (upd g (p k) (nI k)) (by omega) (fun j hj => by
      by_cases e : j = k
      · subst e; exact pk_us
      · rw [pk_un (fun h => e (hi.2 j k (by omega) (by omega) h))]
        exact hg j (by omega))
    refine ⟨g', ?_, h2⟩
    refine Ev.step (fun fu => sq_OR_rankMoves_0 ..) ?_
    refine Ev.neg (nI_ge (by omega) (by omega)) ?_
    rw [nI_clamp (by omega), h k (by omega), nI_clamp (by omega), nI_1]
    exact Ev.gdN (by omega) (by decide) (Ev.gdN (by omega) (by decide) h1)
theorem OR_rank {t : Nat} (h5 : t ≤ 5) {mv : Nat → Int32} {p : Nat → Nat} (h : rep t mv p) (hi : inj t p) (g : Nat → Int32) : ∃ g', Ev (fun z => fn_OR_rankMoves z (nI (t + 1)) mv g) g' ∧ ∀ j, j ≤ t → g' (p j) = nI j :=
  OR_rankL h5 h hi (t + 1) 0 g (by omega) (fun j hj => absurd hj (Nat.not_lt_zero j))
theorem OR_firstL {t : Nat} (h5 : t ≤ 5) (a1 : Int32) : ∀ (m k : Nat) (mv rk : Nat → Int32), k + m = t + 1 → (∀ j, j < k → mv j = nI j) → ∃ mv' rk', Ev2 (fun z fu => lp_OR_toFirst z fu 0 a1 (nI k) (nI (t + 1)) mv rk) (nI (t + 1), mv', rk') ∧ rep t mv' id ∧ ∀ j, j ≤ t → rk' j = nI j := by
  intro m
  induction m with
  | zero =>
    intro k mv rk hk hm
    have hr : rep t mv id := fun j hj => hm j (by omega)
    obtain ⟨g', g1, g2⟩ := OR_rank h5 hr ⟨fun k hk => hk, fun a b _ _ e => e⟩ rk
    refine ⟨mv, g', ?_, hr, g2⟩
    refine Ev2.step (fun z fu => sq_OR_toFirst_0 ..) ?_
    exact Ev2.pos (nI_le (by omega) (by omega)) (Ev2.cl g1 (Ev2.ret rfl))
  | succ m ih =>
    intro k mv rk hk hm
    obtain ⟨mv', rk', g1, g2, g3⟩ := ih (k + 1) (upd mv k (nI k)) rk (by omega) (fun j hj => by
      by_cases e : j = k
      · subst e; exact pk_us
      · rw [pk_un e]; exact hm j (by omega))
    refine ⟨mv', rk', ?_, g2, g3⟩
    refine Ev2.step (fun z fu => sq_OR_toFirst_0 ..) ?_
    refine Ev2.neg (nI_ge (by omega) (by omega)) (Ev2.gdN (by omega) (by decide) ?_)
    rw [nI_clamp (by omega), nI_1]
    exact g1
theorem OR_first {t : Nat} (h5 : t ≤ 5) (c0 : Int32) (mv rk : Nat → Int32) : ∃ mv' rk', Ev (fun z => fn_OR_toFirst z (nI t) c0 mv rk) (nI (t + 1), mv', rk') ∧ rep t mv' id ∧ ∀ j, j ≤ t → rk' j = nI j := by
  obtain ⟨mv', rk', g1, g2, g3⟩ := OR_firstL h5 (nI t) (t + 1) 0 mv rk (by omega) (fun j hj => absurd hj (Nat.not_lt_zero j))
  refine ⟨mv', rk', ?_, g2, g3⟩
  unfold fn_OR_toFirst
  rw [nI_1]
  exact g1.diag
def pvt (p : Nat → Nat) : Nat → Nat
  | 0 => 0
  | k + 1 => if p (k + 1) ≤ p (k + 2) then k + 1 else pvt p k
def oth (p : Nat → Nat) (v : Nat) : Nat → Nat
  | 0 => 0
  | o + 1 => if o + 1 ≤ v + 1 then o + 1 else if p v ≤ p (o + 1) then o + 1 else oth p v o
def nx (t : Nat) (p : Nat → Nat) : Nat → Nat := rvs 5 t (pvt p (t - 1) + 1) (swp p (pvt p (t - 1)) (oth p (pvt p (t - 1)) t))
theorem pvt_le (p : Nat → Nat) : ∀ k, pvt p k ≤ k
  | 0 => Nat.le_refl _
  | k + 1 => by
    unfold pvt
    split
    · exact Nat.le_refl _
    · exact Nat.le_succ_of_le (pvt_le p k)
theorem OR_next1 {t : Nat} (h5 : t ≤ 5) {mv : Nat → Int32} {p : Nat → Nat} (hp : ∀ k, k ≤ t → p k ≤ t) (h : rep t mv p) {v : Nat} (hv : 1 ≤ v) (hvt : v + 1 ≤ t) (rk : Nat → Int32) (hi : inj t (rvs 5 t (v + 1) (swp p v (oth p v t)))) : ∀ (o : Nat), v < o → o ≤ t → oth p v o = oth p v t →
    ∃ mv' rk', Ev2 (fun z fu => lp_OR_toNext z (nI (t + 1)) fu 1 (nI v) (nI o) mv rk) (1, mv', rk') ∧ rep t mv' (rvs 5 t (v + 1) (swp p v (oth p v t))) ∧ ∀ j, j ≤ t → rk' (rvs 5 t (v + 1) (swp p v (oth p v t)) j) = nI j := by
  have fin : ∀ o, o ≤ t → o = oth p v t → ∃ mv1 mv2 rk2, fn_OR_swap (nI v) (nI o) mv = some mv1 ∧ Ev (fun z => fn_OR_reverseFrom z (nI (v + 1)) (nI (t + 1)) mv1) mv2 ∧ Ev (fun z => fn_OR_rankMoves z (nI (t + 1)) mv2 rk) rk2 ∧ rep t mv2 (rvs 5 t (v + 1) (swp p v (oth p v t))) ∧ ∀ j, j ≤ t → rk2 (rvs 5 t (v + 1) (swp p v (oth p v t)) j) = nI j := by
    intro o ho e
    obtain ⟨mv1, a1, a2⟩ := OR_swap_eq h5 h (show v ≤ t by omega) ho
    obtain ⟨mv2, b1, b2⟩ := OR_revL h5 (nI (t + 1)) (nI (v + 1)) 5 t (v + 1) mv1 _ (by omega) (Nat.le_refl _) (by omega) a2
    rw [e] at b2
    obtain ⟨rk2, c1, c2⟩ := OR_rank h5 b2 hi rk
    refine ⟨mv1, mv2, rk2, a1, ?_, c1, b2, c2⟩
    unfold fn_OR_reverseFrom
    have e1 : nI (t + 1) - 1 = nI t := nI_pred t
    rw [e1]
    exact b1
  intro o
  induction o with
  | zero => intro hov _ _; omega
  | succ o ih =>
    intro hov hot he
    by_cases c1 : o + 1 ≤ v + 1
    · have eo : o + 1 = oth p v t := by rw [← he]; unfold oth; rw [if_pos c1]
      obtain ⟨mv1, mv2, rk2, a1, a2, a3, a4, a5⟩ := fin (o + 1) hot eo
      refine ⟨mv2, rk2, ?_, a4, a5⟩
      refine Ev2.step (fun z fu => sq_OR_toNext_1 ..) ?_
      rw [nI_1]
      exact Ev2.pos (nI_le c1 (by omega)) (Ev2.cl0 a1 (Ev2.cl a2 (Ev2.cl a3 (Ev2.ret rfl))))
    · by_cases c2 : p v ≤ p (o + 1)
      · have eo : o + 1 = oth p v t := by rw [← he]; unfold oth; rw [if_neg c1, if_pos c2]
        obtain ⟨mv1, mv2, rk2, a1, a2, a3, a4, a5⟩ := fin (o + 1) hot eo
        refine ⟨mv2, rk2, ?_, a4, a5⟩
        refine Ev2.step (fun z fu => sq_OR_toNext_1 ..) ?_
        rw [nI_1]
        refine Ev2.neg (nI_ge (by omega) (by omega)) (Ev2.gdN (by omega) (by decide) (Ev2.gdN (by omega) (by decide) ?_))
        rw [nI_clamp (by omega), nI_clamp (by omega), h v (by omega), h (o + 1) hot]
        have := hp v (by omega)
        have := hp (o + 1) hot
        exact Ev2.pos (nI_le c2 (by omega)) (Ev2.cl0 a1 (Ev2.cl a2 (Ev2.cl a3 (Ev2.ret rfl))))
      · have eo : oth p v o = oth p v t := by rw [← he]; show _ = oth p v (o + 1); rw [show oth p v (o + 1) = if o + 1 ≤ v + 1 then o + 1 else if p v ≤ p (o + 1) then o + 1 else oth p v o from rfl, if_neg c1, if_neg c2]
        obtain ⟨mv', rk', g1, g2, g3⟩ := ih (by omega) (by omega) eo
        refine ⟨mv', rk', ?_, g2, g3⟩
        refine Ev2.step (fun z fu => sq_OR_toNext_1 ..) ?_
        rw [nI_1]
        refine Ev2.neg (nI_ge (by omega) (by omega)) (Ev2.gdN (by omega) (by decide) (Ev2.gdN (by omega) (by decide) ?_))
        rw [nI_clamp (by omega), nI_clamp (by omega), h v (by omega), h (o + 1) hot]
        have := hp v (by omega)
        have := hp (o + 1) hot
        refine Ev2.neg (nI_ge (by omega) (by omega)) ?_
        rw [nI_m1]
        exact g1
theorem OR_nextL {t : Nat} (h1 : 1 ≤ t) (h5 : t ≤ 5) {mv : Nat → Int32} {p : Nat → Nat} (hp : ∀ k, k ≤ t → p k ≤ t) (h : rep t mv p) (rk : Nat → Int32) : ∀ (k : Nat) (i2 : Int32), k + 1 ≤ t → pvt p k = pvt p (t - 1) →
    (pvt p (t - 1) = 0 ∧ Ev2 (fun z fu => lp_OR_toNext z (nI (t + 1)) fu 0 (nI k) i2 mv rk) (0, mv, rk)) ∨
    (1 ≤ pvt p (t - 1) ∧ (inj t (nx t p) → ∃ mv' rk', Ev2 (fun z fu => lp_OR_toNext z (nI (t + 1)) fu 0 (nI k) i2 mv rk) (1, mv', rk') ∧ rep t mv' (nx t p) ∧ ∀ j, j ≤ t → rk' (nx t p j) = nI j)) := by
  intro k
  induction k with
  | zero =>
    intro i2 hk he
    refine Or.inl ⟨by rw [← he]; rfl, ?_⟩
    refine Ev2.step (fun z fu => sq_OR_toNext_0 ..) ?_
    exact Ev2.pos (by decide) (Ev2.neg (by decide) (Ev2.ret rfl))
  | succ k ih =>
    intro i2 hk he
    have q1 := hp (k + 1) (by omega)
    have q2 := hp (k + 2) (by omega)
    have n1 : ¬ nI (k + 1) < 1 := nI_nlt (b := 1) (by omega) (by omega)
    by_cases c : p (k + 1) ≤ p (k + 2)
    · have ev : pvt p (t - 1) = k + 1 := by rw [← he]; unfold pvt; rw [if_pos c]
      refine Or.inr ⟨by omega, fun hi => ?_⟩
      unfold nx at hi ⊢
      rw [ev] at hi ⊢
      obtain ⟨mv', rk', g1, g2, g3⟩ := OR_next1 h5 hp h (v := k + 1) (by omega) (by omega) rk hi t (by omega) (Nat.le_refl _) rfl
      refine ⟨mv', rk', ?_, g2, g3⟩
      refine Ev2.step (fun z fu => sq_OR_toNext_0 ..) ?_
      have e1 : nI (t + 1) - 1 = nI t := nI_pred t
      refine Ev2.neg n1 ?_
      rw [nI_1, nI_clamp (by omega), nI_clamp (by omega), h (k + 1) (by omega), h (k + 2) (by omega), e1]
      exact Ev2.gdN (by omega) (by decide) (Ev2.gdN (by omega) (by decide) (Ev2.pos (nI_le c (by omega)) (Ev2.pos (show (1 : Int32) ≤ nI (k + 1) from nI_le (a := 1) (by omega) (by omega)) g1)))
    · have ev : pvt p k = pvt p (t - 1) := by rw [← he, show pvt p (k + 1) = if p (k + 1) ≤ p (k + 2) then k + 1 else pvt p k from rfl, if_neg c]
      have pre : ∀ v, Ev2 (fun z fu => lp_OR_toNext z (nI (t + 1)) fu 0 (nI k) 0 mv rk) v → Ev2 (fun z fu => lp_OR_toNext z (nI (t + 1)) fu 0 (nI (k + 1)) i2 mv rk) v := by
        intro v hv
        refine Ev2.step (fun z fu => sq_OR_toNext_0 ..) ?_
        refine Ev2.neg n1 ?_
        rw [nI_1, nI_clamp (by omega), nI_clamp (by omega), h (k + 1) (by omega), h (k + 2) (by omega), nI_m1]
        exact Ev2.gdN (by omega) (by decide) (Ev2.gdN (by omega) (by decide) (Ev2.neg (nI_ge (by omega) (by omega)) hv))
      rcases ih 0 (by omega) ev with ⟨a, b⟩ | ⟨a, b⟩
      · exact Or.inl ⟨a, pre _ b⟩
      · refine Or.inr ⟨a, fun hi => ?_⟩
        obtain ⟨mv', rk', g1, g2, g3⟩ := b hi
        exact ⟨mv', rk', pre _ g1, g2, g3⟩
theorem OR_next {t : Nat} (h1 : 1 ≤ t) (h5 : t ≤ 5) {mv : Nat → Int32} {p : Nat → Nat} (hp : ∀ k, k ≤ t → p k ≤ t) (h : rep t mv p) (rk : Nat → Int32) :
    (pvt p (t - 1) = 0 ∧ Ev (fun z => fn_OR_toNext z (nI (t + 1)) mv rk) (0, mv, rk)) ∨
    (1 ≤ pvt p (t - 1) ∧ (inj t (nx t p) → ∃ mv' rk', Ev (fun z => fn_OR_toNext z (nI (t + 1)) mv rk) (1, mv', rk') ∧ rep t mv' (nx t p) ∧ ∀ j, j ≤ t → rk' (nx t p j) = nI j)) := by
  have e : nI (t + 1) - 2 = nI (t - 1) := by rw [show (2 : Int32) = nI 2 from rfl, nI_sub (by omega)]; congr 1
  unfold fn_OR_toNext
  rw [e]
  rcases OR_nextL h1 h5 hp h rk (t - 1) 0 (by omega) rfl with ⟨a, b⟩ | ⟨a, b⟩
  · exact Or.inl ⟨a, b.diag⟩
  · refine Or.inr ⟨a, fun hi => ?_⟩
    obtain ⟨mv', rk', g1, g2, g3⟩ := b hi
    exact ⟨mv', rk', g1.diag, g2, g3⟩

/-! Numbers and orders. -/
noncomputable def bt (X : Prop) : Int32 := @ite Int32 X (Classical.propDecidable X) 1 0
theorem bt_pos {X : Prop} (h : X) : bt X = 1 := if_pos h
theorem bt_neg {X : Prop} (h : ¬ X) : bt X = 0 := if_neg h
theorem bt_iff {X Y : Prop} (h : X ↔ Y) : bt X = bt Y := by rw [propext h]
def Pn (t n k : Nat) : Nat := if k = 0 then 0 else n / 10 ^ (t - k) % 10
def gdp (t : Nat) (p : Nat → Nat) (k : Nat) : Prop := ∀ i, 1 ≤ i → i < k → (1 ≤ p i ∧ p i ≤ t) ∧ ∀ j, 1 ≤ j → j < i → p j ≠ p i
def vld (t n : Nat) : Prop := n / 10 ^ t = 0 ∧ gdp t (Pn t n) (t + 1)
theorem Pn_9 (t n k : Nat) : Pn t n k ≤ 9 := by unfold Pn; split <;> omega
theorem isO1 {t : Nat} (h5 : t ≤ 5) {o : Nat → Int32} {p : Nat → Nat} (ho : rep t o p) (hp : ∀ k, p k ≤ 9) {i : Nat} (hi1 : 1 ≤ i) (hi : i ≤ t) (A : Prop) {v : Int32} (hv : Ev (fun fu => lp_MD_isOrder (nI t) o fu 0 (bt (A ∧ ∀ j', 1 ≤ j' → j' < i → p j' ≠ p i)) (nI (i + 1)) 0) v) : ∀ (m j : Nat), j + m = i → 1 ≤ j → Ev (fun fu => lp_MD_isOrder (nI t) o fu 1 (bt (A ∧ ∀ j', 1 ≤ j' → j' < j → p j' ≠ p i)) (nI i) (nI j)) v := by
  intro m
  induction m with
  | zero =>
    intro j hj h1
    have e : j = i := by omega
    subst e
    refine Ev.step (fun fu => sq_MD_isOrder_1 ..) ?_
    rw [nI_1]
    exact Ev.pos (nI_le (by omega) (by omega)) hv
  | succ m ih =>
    intro j hj h1
    have nxt := ih (j + 1) (by omega) (by omega)
    refine Ev.step (fun fu => sq_MD_isOrder_1 ..) ?_
    refine Ev.neg (nI_ge (by omega) (by omega)) ?_
    rw [nI_1]
    have pj := hp j
    have pi := hp i
    by_cases c : A ∧ ∀ j', 1 ≤ j' → j' < j → p j' ≠ p i
    · rw [bt_pos c]
      refine Ev.neg ne10 (Ev.gdN (by omega) (by decide) (Ev.gdN (by omega) (by decide) ?_))
      rw [nI_clamp (by omega), nI_clamp (by omega), ho j (by omega), ho i hi]
      by_cases e : p j = p i
      · rw [bt_neg (fun q => q.2 j h1 (by omega) e)] at nxt
        exact Ev.pos (by rw [e]) nxt
      · rw [bt_pos ⟨c.1, fun j' a b => by
          by_cases e2 : j' = j
          · rw [e2]; exact e
          · exact c.2 j' a (by omega)⟩] at nxt
        exact Ev.neg (fun q => e ((nI_eq (by omega) (by omega)).mp q)) nxt
    · rw [bt_neg c]
      rw [bt_neg (fun q => c ⟨q.1, fun j' a b => q.2 j' a (by omega)⟩)] at nxt
      exact Ev.pos rfl nxt
theorem isO0 {t : Nat} (h5 : t ≤ 5) {o : Nat → Int32} {p : Nat → Nat} (ho : rep t o p) (hp : ∀ k, p k ≤ 9) (Z : Prop) : ∀ (m i : Nat), i + m = t + 1 → 1 ≤ i → Ev (fun fu => lp_MD_isOrder (nI t) o fu 0 (bt (Z ∧ gdp t p i)) (nI i) 0) (bt (Z ∧ gdp t p (t + 1))) := by
  intro m
  induction m with
  | zero =>
    intro i hi h1
    have e : i = t + 1 := by omega
    subst e
    refine Ev.step (fun fu => sq_MD_isOrder_0 ..) ?_
    refine Ev.pos (nI_lt (by omega) (by omega)) ?_
    by_cases c : Z ∧ gdp t p (t + 1)
    · rw [bt_pos c]; exact Ev.congr (fun _ => if_pos (Or.inr rfl)) (Ev.ret rfl)
    · rw [bt_neg c]; exact Ev.congr (fun _ => if_pos (Or.inl rfl)) (Ev.ret rfl)
  | succ m ih =>
    intro i hi h1
    have nxt := ih (i + 1) (by omega) (by omega)
    have pi := hp i
    -- the flag once the range of this digit is seen
    have one := isO1 h5 ho hp h1 (show i ≤ t by omega) ((Z ∧ gdp t p i) ∧ (1 ≤ p i ∧ p i ≤ t)) (v := bt (Z ∧ gdp t p (t + 1))) (by
      rw [show bt (((Z ∧ gdp t p i) ∧ (1 ≤ p i ∧ p i ≤ t)) ∧ ∀ j', 1 ≤ j' → j' < i → p j' ≠ p i) = bt (Z ∧ gdp t p (i + 1)) from bt_iff ⟨fun q => ⟨q.1.1.1, fun x a b => by
        by_cases e : x = i
        · subst e; exact ⟨q.1.2, q.2⟩
        · exact q.1.1.2 x a (by omega)⟩, fun q => ⟨⟨⟨q.1, fun x a b => q.2 x a (by omega)⟩, (q.2 i h1 (by omega)).1⟩, (q.2 i h1 (by omega)).2⟩⟩]
      exact nxt) (i - 1) 1 (by omega) (Nat.le_refl _)
    rw [show bt (((Z ∧ gdp t p i) ∧ (1 ≤ p i ∧ p i ≤ t)) ∧ ∀ j', 1 ≤ j' → j' < 1 → p j' ≠ p i) = bt ((Z ∧ gdp t p i) ∧ (1 ≤ p i ∧ p i ≤ t)) from bt_iff ⟨fun q => q.1, fun q => ⟨q, fun j' a b => by omega⟩⟩] at one
    refine Ev.step (fun fu => sq_MD_isOrder_0 ..) ?_
    refine Ev.neg (nI_nlt (by omega) (by omega)) ?_
    by_cases c : Z ∧ gdp t p i
    · rw [bt_pos c]
      refine Ev.neg ne10 (Ev.gdN (by omega) (by decide) ?_)
      rw [nI_clamp (by omega), ho i (by omega)]
      by_cases c1 : 1 ≤ p i ∧ p i ≤ t
      · rw [bt_pos ⟨c, c1⟩] at one
        have e : fn_MD_in (nI (p i)) 1 (nI t) = some 1 := by
          unfold fn_MD_in
          rw [if_neg (show ¬ nI (p i) < 1 from nI_nlt (b := 1) c1.1 (by omega)), if_neg (nI_nlt c1.2 (by omega))]
        exact Ev.cl0 e (Ev.neg ne10 one)
      · rw [bt_neg (fun q => c1 q.2)] at one
        have e : fn_MD_in (nI (p i)) 1 (nI t) = some 0 := by
          unfold fn_MD_in
          by_cases c2 : 1 ≤ p i
          · rw [if_neg (show ¬ nI (p i) < 1 from nI_nlt (b := 1) c2 (by omega)), if_pos (nI_lt (by omega) (by omega))]
          · rw [if_pos (show nI (p i) < 1 from nI_lt (b := 1) (by omega) (by decide))]
        exact Ev.cl0 e (Ev.pos rfl one)
    · rw [bt_neg c]
      rw [bt_neg (fun q => c q.1)] at one
      exact Ev.pos rfl one
theorem isO {t : Nat} (h5 : t ≤ 5) {o : Nat → Int32} {p : Nat → Nat} (ho : rep t o p) (hp : ∀ k, p k ≤ 9) (h0 : p 0 = 0) : Ev (fun z => fn_MD_isOrder z (nI t) o) (bt (gdp t p (t + 1))) := by
  unfold fn_MD_isOrder
  refine Ev.neg (fun q => q (by rw [ho 0 (Nat.zero_le _), h0]; rfl)) ?_
  have := isO0 h5 ho hp True t 1 (by omega) (Nat.le_refl _)
  rw [show bt (True ∧ gdp t p 1) = 1 from bt_pos ⟨trivial, fun i a b => by omega⟩, show bt (True ∧ gdp t p (t + 1)) = bt (gdp t p (t + 1)) from bt_iff ⟨fun q => q.2, fun q => ⟨trivial, q⟩⟩] at this
  exact this
theorem p10 (n m : Nat) : n / 10 ^ m / 10 = n / 10 ^ (m + 1) := by rw [Nat.div_div_eq_div_mul, Nat.pow_succ]
theorem MD_takeL {t n : Nat} (h1 : 1 ≤ t) (h5 : t ≤ 5) (hn : n < 2 ^ 31) (hn0 : 1 ≤ n) : ∀ (k m : Nat) (o : Nat → Int32), k + m = t → o 0 = 0 → (∀ j, k < j → j ≤ t → o j = nI (Pn t n j)) → ∃ o', Ev2 (fun z fu => lp_MD_takeOrder z (nI t) fu 0 (nI n) (nI (n / 10 ^ m)) (nI k) o) (bt (vld t n), o') ∧ rep t o' (Pn t n) := by
  intro k
  induction k with
  | zero =>
    intro m o hk h0 ho
    have em : m = t := by omega
    subst em
    have hr : rep m o (Pn m n) := fun j hj => by
      by_cases e : j = 0
      · subst e; rw [h0]; rfl
      · exact ho j (by omega) hj
    refine ⟨o, ?_, hr⟩
    refine Ev2.step (fun z fu => sq_MD_takeOrder_0 ..) ?_
    refine Ev2.pos (show nI 0 ≤ 0 from by decide) (Ev2.neg (nI_nle hn0 hn) ?_)
    have hd : n / 10 ^ m < 2 ^ 31 := Nat.lt_of_le_of_lt (Nat.div_le_self _ _) hn
    by_cases c : n / 10 ^ m = 0
    · rw [c]
      refine Ev2.neg (fun q => q rfl) (Ev2.cl (isO h5 hr (Pn_9 m n) rfl) ?_)
      by_cases g : gdp m (Pn m n) (m + 1)
      · rw [bt_pos g, bt_pos ⟨c, g⟩]
        exact Ev2.neg ne10 (Ev2.ret rfl)
      · rw [bt_neg g, bt_neg (fun q => g q.2)]
        exact Ev2.pos rfl (Ev2.ret rfl)
    · rw [bt_neg (fun q => c q.1)]
      exact Ev2.pos (nI_ne0 (Nat.pos_of_ne_zero c) hd) (Ev2.ret rfl)
  | succ k ih =>
    intro m o hk h0 ho
    have hd : n / 10 ^ m < 2 ^ 31 := Nat.lt_of_le_of_lt (Nat.div_le_self _ _) hn
    have e10 : nI (n / 10 ^ m) / 10 = nI (n / 10 ^ m / 10) := nI_div (b := 10) hd (by decide) (by decide)
    have m10 : nI (n / 10 ^ m) - nI (n / 10 ^ m) / 10 * 10 = nI (n / 10 ^ m % 10) := nI_mod (b := 10) hd (by decide) (by decide)
    obtain ⟨o', g1, g2⟩ := ih (m + 1) (upd o (k + 1) (nI (n / 10 ^ m % 10))) (by omega) (by rw [pk_un (by omega)]; exact h0) (fun j a b => by
      by_cases e : j = k + 1
      · subst e
        rw [pk_us]
        unfold Pn
        rw [if_neg (by omega), show t - (k + 1) = m by omega]
      · rw [pk_un e]; exact ho j (by omega) b)
    refine ⟨o', ?_, g2⟩
    refine Ev2.step (fun z fu => sq_MD_takeOrder_0 ..) ?_
    refine Ev2.neg (nI_nle (by omega) (by omega)) (Ev2.gdN (by omega) (by decide) ?_)
    rw [m10, e10, p10, nI_clamp (by omega), nI_m1]
    exact g1
theorem MD_take {t n : Nat} (h1 : 1 ≤ t) (h5 : t ≤ 5) (hn : n < 2 ^ 31) (hn0 : 1 ≤ n) (o : Nat → Int32) : ∃ o', Ev (fun z => fn_MD_takeOrder z (nI n) (nI t) o) (bt (vld t n), o') ∧ rep t o' (Pn t n) := by
  obtain ⟨o', g1, g2⟩ := MD_takeL h1 h5 hn hn0 t 0 (upd o 0 0) (by omega) pk_us (fun j a b => by omega)
  rw [Nat.pow_zero, Nat.div_one] at g1
  exact ⟨o', g1.diag, g2⟩
/-- a number that isn't above 0 -/
theorem MD_takeNegL {t : Nat} (h5 : t ≤ 5) {a : Int32} (ha : a ≤ 0) : ∀ (k : Nat) (i2 : Int32) (o : Nat → Int32), k ≤ t → ∃ o', Ev2 (fun z fu => lp_MD_takeOrder z (nI t) fu 0 a i2 (nI k) o) (0, o') := by
  intro k
  induction k with
  | zero =>
    intro i2 o hk
    refine ⟨o, ?_⟩
    refine Ev2.step (fun z fu => sq_MD_takeOrder_0 ..) ?_
    exact Ev2.pos (show nI 0 ≤ 0 from by decide) (Ev2.pos ha (Ev2.ret rfl))
  | succ k ih =>
    intro i2 o hk
    obtain ⟨o', g1⟩ := ih (i2 / 10) (upd o (k + 1) (i2 - i2 / 10 * 10)) (by omega)
    refine ⟨o', ?_⟩
    refine Ev2.step (fun z fu => sq_MD_takeOrder_0 ..) ?_
    refine Ev2.neg (nI_nle (by omega) (by omega)) (Ev2.gdN (by omega) (by decide) ?_)
    rw [nI_clamp (by omega), nI_m1]
    exact g1
theorem MD_takeNeg {t : Nat} (h5 : t ≤ 5) {a : Int32} (ha : a ≤ 0) (o : Nat → Int32) : ∃ o', Ev (fun z => fn_MD_takeOrder z a (nI t) o) (0, o') := by
  obtain ⟨o', g⟩ := MD_takeNegL h5 ha t a (upd o 0 0) (Nat.le_refl _)
  exact ⟨o', g.diag⟩
/-- the digits of a valid number are an order -/
theorem ord_of {t : Nat} {p : Nat → Nat} (h0 : p 0 = 0) (hi : inj t p) : ∃ q, ord t p q := by
  have sur : ∀ i, i ≤ t → ∃ k, k ≤ t ∧ p k = i := by
    intro i hit
    apply Classical.byContradiction
    intro hno
    have hne : ∀ k, k ≤ t → p k ≠ i := fun k hk e => hno ⟨k, hk, e⟩
    obtain ⟨a, b, h1, h2, h3⟩ := rg_pigeon t (fun k => if i < p k then p k - 1 else p k) (fun k hk => by
      have a1 := hi.1 k hk
      have a2 := hne k hk
      split <;> omega)
    have a1 := hne a (by omega)
    have a2 := hne b h2
    have : p a = p b := by
      revert h3
      split <;> split <;> intro h3 <;> omega
    have := hi.2 a b (by omega) h2 this
    omega
  refine ⟨fun i => if h : ∃ k, k ≤ t ∧ p k = i then Classical.choose h else 0, h0, fun k hk => ⟨hi.1 k hk, ?_⟩, fun i hit => ?_⟩
  · have hx : ∃ k', k' ≤ t ∧ p k' = p k := ⟨k, hk, rfl⟩
    dsimp only
    rw [dif_pos hx]
    obtain ⟨c1, c2⟩ := Classical.choose_spec hx
    exact hi.2 _ _ c1 hk c2
  · have hx := sur i hit
    dsimp only
    rw [dif_pos hx]
    exact Classical.choose_spec hx
theorem vld_inj {t n : Nat} (hv : vld t n) : inj t (Pn t n) := by
  obtain ⟨-, hg⟩ := hv
  refine ⟨fun k hk => ?_, fun a b ha hb e => ?_⟩
  · by_cases e : k = 0
    · subst e; exact Nat.zero_le _
    · exact (hg k (by omega) (by omega)).1.2
  · by_cases e1 : a = 0
    · by_cases e2 : b = 0
      · omega
      · subst e1
        have := (hg b (by omega) (by omega)).1.1
        have z : Pn t n 0 = 0 := rfl
        omega
    · by_cases e2 : b = 0
      · subst e2
        have := (hg a (by omega) (by omega)).1.1
        have z : Pn t n 0 = 0 := rfl
        omega
      · rcases Nat.lt_trichotomy a b with h | h | h
        · exact absurd e ((hg b (by omega) (by omega)).2 a (by omega) h)
        · exact h
        · exact absurd e.symm ((hg a (by omega) (by omega)).2 b (by omega) h)
theorem vld_ord {t n : Nat} (hv : vld t n) : ∃ q, ord t (Pn t n) q := ord_of rfl (vld_inj hv)

/-! The class reads an order from its digits. -/
theorem OR_readL {t n : Nat} (h1 : 1 ≤ t) (h5 : t ≤ 5) (hn : n < 2 ^ 31) (a1 cnt : Int32) : ∀ (k m : Nat) (rk mv : Nat → Int32), k + m = t → rk 0 = 0 → (∀ j, k < j → j ≤ t → mv j = nI (Pn t n j) ∧ rk (Pn t n j) = nI j ∧ 1 ≤ Pn t n j ∧ Pn t n j ≤ t ∧ ∀ j', k < j' → j' < j → Pn t n j' ≠ Pn t n j) → (∀ i, i ≤ 5 → rk i ≠ 0 → ∃ j, k < j ∧ j ≤ t ∧ Pn t n j = i) →
    (vld t n ∧ ∃ rk' mv', Ev2 (fun z fu => lp_OR_read z fu 0 a1 (nI t) (nI (n / 10 ^ m)) (nI k) cnt rk mv) (1, cnt, rk', mv') ∧ rep t mv' (Pn t n) ∧ ∀ j, j ≤ t → rk' (Pn t n j) = nI j) ∨
    (¬ vld t n ∧ ∃ rk' mv', Ev2 (fun z fu => lp_OR_read z fu 0 a1 (nI t) (nI (n / 10 ^ m)) (nI k) cnt rk mv) (0, cnt, rk', mv')) := by
  intro k
  induction k with
  | zero =>
    intro m rk mv hk h0 hI hz
    have em : m = t := by omega
    subst em
    have hd : n / 10 ^ m < 2 ^ 31 := Nat.lt_of_le_of_lt (Nat.div_le_self _ _) hn
    by_cases c : n / 10 ^ m = 0
    · have hv : vld m n := ⟨c, fun i a b => ⟨⟨(hI i (by omega) (by omega)).2.2.1, (hI i (by omega) (by omega)).2.2.2.1⟩, fun j a1 b1 => (hI i (by omega) (by omega)).2.2.2.2 j (by omega) b1⟩⟩
      refine Or.inl ⟨hv, rk, upd mv 0 0, ?_, fun j hj => ?_, fun j hj => ?_⟩
      · refine Ev2.step (fun z fu => sq_OR_read_0 ..) ?_
        rw [c]
        exact Ev2.pos (show nI 0 < 1 from by decide) (Ev2.neg (fun q => q rfl) (Ev2.ret rfl))
      · by_cases e : j = 0
        · subst e; rw [pk_us]; rfl
        · rw [pk_un e]; exact (hI j (by omega) hj).1
      · by_cases e : j = 0
        · subst e; exact h0
        · exact (hI j (by omega) hj).2.1
    · refine Or.inr ⟨fun hv => c hv.1, rk, upd mv 0 0, ?_⟩
      refine Ev2.step (fun z fu => sq_OR_read_0 ..) ?_
      exact Ev2.pos (show nI 0 < 1 from by decide) (Ev2.pos (nI_ne0 (Nat.pos_of_ne_zero c) hd) (Ev2.ret rfl))
  | succ k ih =>
    intro m rk mv hk h0 hI hz
    have hd : n / 10 ^ m < 2 ^ 31 := Nat.lt_of_le_of_lt (Nat.div_le_self _ _) hn
    have e10 : nI (n / 10 ^ m) / 10 = nI (n / 10 ^ m / 10) := nI_div (b := 10) hd (by decide) (by decide)
    have eP : n / 10 ^ m % 10 = Pn t n (k + 1) := by unfold Pn; rw [if_neg (by omega), show t - (k + 1) = m by omega]
    have m10 : nI (n / 10 ^ m) - nI (n / 10 ^ m) / 10 * 10 = nI (Pn t n (k + 1)) := by rw [← eP]; exact nI_mod (b := 10) hd (by decide) (by decide)
    have p9 := Pn_9 t n (k + 1)
    have nk : ¬ nI (k + 1) < 1 := nI_nlt (b := 1) (by omega) (by omega)
    by_cases c1 : Pn t n (k + 1) < 1
    · refine Or.inr ⟨fun hv => absurd (hv.2 (k + 1) (by omega) (by omega)).1.1 (by omega), rk, mv, ?_⟩
      refine Ev2.step (fun z fu => sq_OR_read_0 ..) ?_
      rw [m10]
      exact Ev2.neg nk (Ev2.pos (show nI (Pn t n (k + 1)) < 1 from nI_lt (b := 1) c1 (by decide)) (Ev2.ret rfl))
    have n1 : ¬ nI (Pn t n (k + 1)) < 1 := nI_nlt (b := 1) (by omega) (by omega)
    by_cases c2 : t < Pn t n (k + 1)
    · refine Or.inr ⟨fun hv => absurd (hv.2 (k + 1) (by omega) (by omega)).1.2 (by omega), rk, mv, ?_⟩
      refine Ev2.step (fun z fu => sq_OR_read_0 ..) ?_
      rw [m10]
      exact Ev2.neg nk (Ev2.neg n1 (Ev2.pos (nI_lt c2 (by omega)) (Ev2.ret rfl)))
    have n2 : ¬ nI t < nI (Pn t n (k + 1)) := nI_nlt (by omega) (by omega)
    by_cases c3 : rk (Pn t n (k + 1)) = 0
    · have step : ∀ v, Ev2 (fun z fu => lp_OR_read z fu 0 a1 (nI t) (nI (n / 10 ^ (m + 1))) (nI k) cnt (upd rk (Pn t n (k + 1)) (nI (k + 1))) (upd mv (k + 1) (nI (Pn t n (k + 1))))) v → Ev2 (fun z fu => lp_OR_read z fu 0 a1 (nI t) (nI (n / 10 ^ m)) (nI (k + 1)) cnt rk mv) v := by
        intro v hv
        refine Ev2.step (fun z fu => sq_OR_read_0 ..) ?_
        rw [m10, e10, p10]
        refine Ev2.neg nk (Ev2.neg n1 (Ev2.neg n2 (Ev2.gdN (by omega) (by decide) ?_)))
        rw [nI_clamp (by omega), nI_clamp (by omega), nI_m1]
        exact Ev2.pos c3 (Ev2.gdN (by omega) (by decide) (Ev2.gdN (by omega) (by decide) hv))
      have dif : ∀ j, k + 1 < j → j ≤ t → Pn t n j ≠ Pn t n (k + 1) := by
        intro j a b e
        have := (hI j a b).2.1
        rw [e, c3] at this
        exact nI_ne0 (n := j) (by omega) (by omega) this.symm
      have := ih (m + 1) (upd rk (Pn t n (k + 1)) (nI (k + 1))) (upd mv (k + 1) (nI (Pn t n (k + 1)))) (by omega) (by rw [pk_un (by omega)]; exact h0) (fun j a b => by
        by_cases e : j = k + 1
        · subst e
          exact ⟨pk_us, pk_us, by omega, by omega, fun j' a' b' => by omega⟩
        · obtain ⟨x1, x2, x3, x4, x5⟩ := hI j (by omega) b
          refine ⟨by rw [pk_un e]; exact x1, by rw [pk_un (dif j (by omega) b)]; exact x2, x3, x4, fun j' a' b' => ?_⟩
          by_cases e2 : j' = k + 1
          · subst e2; exact fun q => dif j (by omega) b q.symm
          · exact x5 j' (by omega) b') (fun i a b => by
        by_cases e : i = Pn t n (k + 1)
        · exact ⟨k + 1, by omega, by omega, e.symm⟩
        · rw [pk_un e] at b
          obtain ⟨j, y1, y2, y3⟩ := hz i a b
          exact ⟨j, by omega, y2, y3⟩)
      rcases this with ⟨v1, rk', mv', g1, g2⟩ | ⟨v1, rk', mv', g1⟩
      · exact Or.inl ⟨v1, rk', mv', step _ g1, g2⟩
      · exact Or.inr ⟨v1, rk', mv', step _ g1⟩
    · obtain ⟨j, y1, y2, y3⟩ := hz _ (by omega) c3
      refine Or.inr ⟨fun hv => (hv.2 j (by omega) (by omega)).2 (k + 1) (by omega) y1 y3.symm, rk, mv, ?_⟩
      refine Ev2.step (fun z fu => sq_OR_read_0 ..) ?_
      rw [m10]
      refine Ev2.neg nk (Ev2.neg n1 (Ev2.neg n2 (Ev2.gdN (by omega) (by decide) ?_)))
      rw [nI_clamp (by omega)]
      exact Ev2.neg c3 (Ev2.ret rfl)
theorem OR_read_eq {t n : Nat} (h1 : 1 ≤ t) (h5 : t ≤ 5) (hn : n < 2 ^ 31) (c0 : Int32) (rk mv : Nat → Int32) :
    (vld t n ∧ ∃ rk' mv', Ev (fun z => fn_OR_read z (nI n) (nI t) c0 rk mv) (1, nI (t + 1), rk', mv') ∧ rep t mv' (Pn t n) ∧ ∀ j, j ≤ t → rk' (Pn t n j) = nI j) ∨
    (¬ vld t n ∧ ∃ rk' mv', Ev (fun z => fn_OR_read z (nI n) (nI t) c0 rk mv) (0, nI (t + 1), rk', mv')) := by
  have := OR_readL h1 h5 hn (nI n) (nI (t + 1)) t 0 (fun j => if j < 6 then 0 else rk j) mv (by omega) rfl (fun j a b => by omega) (fun i a b => absurd (if_pos (show i < 6 by omega)) b)
  rw [Nat.pow_zero, Nat.div_one] at this
  have pre : ∀ v, Ev2 (fun z fu => lp_OR_read z fu 0 (nI n) (nI t) (nI n) (nI t) (nI (t + 1)) (fun j => if j < 6 then 0 else rk j) mv) v → Ev (fun z => fn_OR_read z (nI n) (nI t) c0 rk mv) v := by
    intro v hv
    unfold fn_OR_read
    rw [nI_1]
    exact Ev.cl (Ev.from 7 fun z hz => pz_fill (by decide) (by omega) 0 rk) hv.diag
  rcases this with ⟨v1, rk', mv', g1, g2⟩ | ⟨v1, rk', mv', g1⟩
  · exact Or.inl ⟨v1, rk', mv', pre _ g1, g2⟩
  · exact Or.inr ⟨v1, rk', mv', pre _ g1⟩
theorem rem_neg {a : Int32} (ha : a ≤ 0) : a - a / 10 * 10 < 1 := by
  rw [Int32.le_iff_toInt_le, Int32.toInt_zero] at ha
  have h10 : (10 : Int32).toInt = 10 := by decide
  have h1 : (1 : Int32).toInt = 1 := by decide
  have hlo := Int32.le_toInt a
  have e1 : (a / 10).toInt = a.toInt.tdiv 10 := by rw [Jvm.Kit.i32_div (by rw [h10]; omega), h10]
  have e2 : a.toInt.tdiv 10 = - ((- a.toInt) / 10) := by
    have : a.toInt = - (- a.toInt) := by omega
    rw [this, Int.neg_tdiv, Int.tdiv_eq_ediv_of_nonneg (by omega)]
    omega
  have e3 : (a / 10 * 10).toInt = a.toInt.tdiv 10 * 10 := by rw [Jvm.Kit.i32_mul (by rw [e1, h10, e2]; omega) (by rw [e1, h10, e2]; omega), e1, h10]
  rw [Int32.lt_iff_toInt_lt, Jvm.Kit.i32_sub (by rw [e3, e2]; omega) (by rw [e3, e2]; omega), e3, e2, h1]
  omega
theorem OR_readNeg {t : Nat} (h1 : 1 ≤ t) (h5 : t ≤ 5) {a : Int32} (ha : a ≤ 0) (c0 : Int32) (rk mv : Nat → Int32) : ∃ rk' mv', Ev (fun z => fn_OR_read z a (nI t) c0 rk mv) (0, nI (t + 1), rk', mv') := by
  refine ⟨fun j => if j < 6 then 0 else rk j, mv, ?_⟩
  unfold fn_OR_read
  rw [nI_1]
  refine Ev.cl (Ev.from 7 fun z hz => pz_fill (by decide) (by omega) 0 rk) ?_
  have : Ev2 (fun z fu => lp_OR_read z fu 0 a (nI t) a (nI t) (nI (t + 1)) (fun j => if j < 6 then 0 else rk j) mv) (0, nI (t + 1), (fun j => if j < 6 then 0 else rk j), mv) := by
    refine Ev2.step (fun z fu => sq_OR_read_0 ..) ?_
    exact Ev2.neg (show ¬ nI t < 1 from nI_nlt (b := 1) h1 (by omega)) (Ev2.pos (rem_neg ha) (Ev2.ret rfl))
  exact this.diag

/-! least, on both sides. -/
theorem least_pair {t : Nat} {low high ld : Nat → Int32} {es : Nat → Nat → Int32} {em : Nat → Int32} (hd : dat t low high ld es em) (a cnt rl th : Int32) (rk mv B A S U f c : Nat → Int32) (out : Nat → Int64) (o pc ft : Nat → Int32) :
    ∃ (k b cnt' rl' : Int32) (rk' mv' B' A' S' U' f' c' : Nat → Int32) (out' : Nat → Int64) (o' pc' ft' : Nat → Int32),
      Ev (fun z => fn_LW_least z a (nI t) cnt rl ld rk mv B A S U low high f c out es) (k, cnt', rl', rk', mv', B', A', S', U', f', c', out') ∧
      Ev (fun z => fn_MD_least z a th (nI t) em ld o pc ft low high) (b, k, o', pc', ft') ∧ (k = 0 → out' 0 = b.toInt64) := by
  obtain ⟨⟨h1, h5⟩, -, -⟩ := id hd
  have ex := LY_fault_eq h5 ld es
  have em9 := MD_ready_eq hd
  by_cases c0 : rd1 t es ld (t + 1) = 0
  · rw [c0] at ex em9
    have exr : Ev (fun z => fn_HP_requireReady z (nI t) ld es) 0 := by
      unfold fn_HP_requireReady
      exact Ev.cl ex (Ev.pos rfl (Ev.ret rfl))
    -- the number
    have num : (∃ n, vld t n ∧ (∃ rk' mv', Ev (fun z => fn_OR_read z a (nI t) cnt rk mv) (1, nI (t + 1), rk', mv') ∧ rep t mv' (Pn t n) ∧ ∀ j, j ≤ t → rk' (Pn t n j) = nI j) ∧ ∃ o', Ev (fun z => fn_MD_takeOrder z a (nI t) o) (1, o') ∧ rep t o' (Pn t n)) ∨
        ((∃ rk' mv', Ev (fun z => fn_OR_read z a (nI t) cnt rk mv) (0, nI (t + 1), rk', mv')) ∧ ∃ o', Ev (fun z => fn_MD_takeOrder z a (nI t) o) (0, o')) := by
      by_cases ha : a ≤ 0
      · exact Or.inr ⟨OR_readNeg h1 h5 ha cnt rk mv, MD_takeNeg h5 ha o⟩
      · have ha' : ¬ a < 0 := by
          rw [Int32.le_iff_toInt_le, Int32.toInt_zero] at ha
          rw [Int32.lt_iff_toInt_lt, Int32.toInt_zero]; omega
        obtain ⟨n, hn, rfl⟩ := nI_of ha'
        have hn0 : 1 ≤ n := by
          rw [Int32.le_iff_toInt_le, Int32.toInt_zero, nI_toInt hn] at ha
          omega
        obtain ⟨o', g1, g2⟩ := MD_take h1 h5 hn hn0 o
        rcases OR_read_eq h1 h5 hn cnt rk mv with ⟨v1, r⟩ | ⟨v1, r⟩
        · rw [bt_pos v1] at g1
          exact Or.inl ⟨n, v1, r, o', g1, g2⟩
        · rw [bt_neg v1] at g1
          exact Or.inr ⟨r, o', g1⟩
    rcases num with ⟨n, hv, ⟨rk', mv', g1, g2, g3⟩, o', g4, g5⟩ | ⟨⟨rk', mv', g1⟩, o', g4⟩
    · obtain ⟨q, ho⟩ := vld_ord hv
      obtain ⟨res, v', B', A', S', U', f', c', k1, k2⟩ := TM_least (rk := rk') hd ho g2 (fun i hi => by
        have := g3 (q i) (ho.2.2 i hi).1
        rw [(ho.2.2 i hi).2] at this
        exact this) (lm := 2000) (Nat.le_refl _) rl B A S U f c
      obtain ⟨res2, pc', ft', l1, l2⟩ := MD_leastOf_eq hd ho g5 (lm := 2000) (Nat.le_refl _) pc ft
      have e := (same_least hd ho (Nat.le_refl _) k2 l2).1
      subst e
      refine ⟨0, res, nI (t + 1), v', rk', mv', B', A', S', U', f', c', vp_updL out 0 res.toInt64, o', pc', ft', ?_, ?_, fun _ => pk_uLs⟩
      · unfold fn_LW_least fn_HP_least
        refine Ev.cl (a := (0, res, nI (t + 1), v', rk', mv', B', A', S', U', f', c')) ?_ (Ev.neg (fun h => h rfl) (Ev.ret rfl))
        refine Ev.cl exr (Ev.neg (fun h => h rfl) ?_)
        refine Ev.cl g1 ?_
        refine Ev.cl0 (a := 0) (by unfold fn_HP_require; rw [if_pos ne10]) (Ev.neg (fun h => h rfl) ?_)
        exact Ev.cl k1 (Ev.ret rfl)
      · unfold fn_MD_least
        refine Ev.cl em9 (Ev.neg (fun h => h rfl) ?_)
        refine Ev.cl g4 (Ev.pos ne10 ?_)
        refine Ev.cl0 (a := (0, 0)) (by unfold fn_MD_refuse; rw [if_pos rfl, if_pos rfl]) (Ev.pos rfl ?_)
        exact Ev.cl l1 (Ev.ret rfl)
    · refine ⟨2, 0, nI (t + 1), rl, rk', mv', B, A, S, U, f, c, out, o', pc, ft, ?_, ?_, fun h => absurd h (by decide)⟩
      · unfold fn_LW_least fn_HP_least
        refine Ev.cl (a := (2, 0, nI (t + 1), rl, rk', mv', B, A, S, U, f, c)) ?_ (Ev.pos (show ¬ (2 : Nat) = 0 by decide) (Ev.neg (show ¬ (2 : Nat) = 1 by decide) (Ev.pos (show (2 : Nat) = 2 from rfl) (Ev.ret rfl))))
        refine Ev.cl exr (Ev.neg (fun h => h rfl) ?_)
        refine Ev.cl g1 ?_
        refine Ev.cl0 (a := 2) (by unfold fn_HP_require; rw [if_neg (fun h => h rfl)]) (Ev.pos (show ¬ (2 : Nat) = 0 by decide) (Ev.ret rfl))
      · unfold fn_MD_least
        refine Ev.cl em9 (Ev.neg (fun h => h rfl) ?_)
        refine Ev.cl g4 (Ev.neg (fun h => h rfl) ?_)
        exact Ev.cl0 (a := (1, 2)) (by unfold fn_MD_refuse; rw [if_pos rfl, if_neg ne10]) (Ev.neg ne10 (Ev.ret rfl))
  · refine ⟨1, 0, cnt, rl, rk, mv, B, A, S, U, f, c, out, o, pc, ft, ?_, ?_, fun h => absurd h ne10⟩
    · unfold fn_LW_least fn_HP_least fn_HP_requireReady
      refine Ev.cl (a := (1, 0, cnt, rl, rk, mv, B, A, S, U, f, c)) ?_ (Ev.pos (show ¬ (1 : Nat) = 0 by decide) (Ev.pos (show (1 : Nat) = 1 from rfl) (Ev.ret rfl)))
      refine Ev.cl (a := 1) (Ev.cl ex (Ev.neg c0 (Ev.ret rfl))) (Ev.pos (show ¬ (1 : Nat) = 0 by decide) (Ev.ret rfl))
    · unfold fn_MD_least
      refine Ev.cl em9 (Ev.pos c0 ?_)
      exact Ev.cl0 (a := (1, 1)) (by unfold fn_MD_refuse; rw [if_neg ne10]) (Ev.neg ne10 (Ev.ret rfl))
/-- ready, on both sides -/
theorem ready_pair {t : Nat} {low high ld : Nat → Int32} {es : Nat → Nat → Int32} {em : Nat → Int32} (hd : dat t low high ld es em) (th : Int32) : ∃ r : Int32, Ev (fun z => fn_HP_ready z (nI t) ld es) r ∧ Ev (fun z => fn_MD_ready z th (nI t) em ld) (r, 0) := by
  refine ⟨rd1 t es ld (t + 1), ?_, ?_⟩
  · unfold fn_HP_ready
    exact Ev.cl (LY_fault_eq hd.1.2 ld es) (Ev.ret rfl)
  · unfold fn_MD_ready
    exact Ev.cl (MD_ready_eq hd) (Ev.ret rfl)

