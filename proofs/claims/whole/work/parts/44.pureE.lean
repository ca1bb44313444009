/-! The valid numbers, in their order. -/
def V1 : List Nat := [1]
def V2 : List Nat := [12, 21]
def V3 : List Nat := [123, 132, 213, 231, 312, 321]
def V4 : List Nat := [1234, 1243, 1324, 1342, 1423, 1432, 2134, 2143, 2314, 2341, 2413, 2431, 3124, 3142, 3214, 3241, 3412, 3421, 4123, 4132, 4213, 4231, 4312, 4321]
def V5 : List Nat := [12345, 12354, 12435, 12453, 12534, 12543, 13245, 13254, 13425, 13452, 13524, 13542, 14235, 14253, 14325, 14352, 14523, 14532, 15234, 15243, 15324, 15342, 15423, 15432, 21345, 21354, 21435, 21453, 21534, 21543, 23145, 23154, 23415, 23451, 23514, 23541, 24135, 24153, 24315, 24351, 24513, 24531, 25134, 25143, 25314, 25341, 25413, 25431, 31245, 31254, 31425, 31452, 31524, 31542, 32145, 32154, 32415, 32451, 32514, 32541, 34125, 34152, 34215, 34251, 34512, 34521, 35124, 35142, 35214, 35241, 35412, 35421, 41235, 41253, 41325, 41352, 41523, 41532, 42135, 42153, 42315, 42351, 42513, 42531, 43125, 43152, 43215, 43251, 43512, 43521, 45123, 45132, 45213, 45231, 45312, 45321, 51234, 51243, 51324, 51342, 51423, 51432, 52134, 52143, 52314, 52341, 52413, 52431, 53124, 53142, 53214, 53241, 53412, 53421, 54123, 54132, 54213, 54231, 54312, 54321]
def VV (t : Nat) : List Nat := match t with
  | 1 => V1
  | 2 => V2
  | 3 => V3
  | 4 => V4
  | _ => V5
def vb (t n : Nat) : Bool := decide (n / 10 ^ t = 0) && (List.range t).all (fun i => decide (1 ≤ Pn t n (i + 1)) && (decide (Pn t n (i + 1) ≤ t) && (List.range i).all (fun j => decide (Pn t n (j + 1) ≠ Pn t n (i + 1)))))
theorem vb_vld {t n : Nat} (h : vb t n = true) : vld t n := by
  unfold vb at h
  rw [Bool.and_eq_true, decide_eq_true_eq, List.all_eq_true] at h
  refine ⟨h.1, fun i a b => ?_⟩
  have := h.2 (i - 1) (List.mem_range.mpr (by omega))
  rw [show i - 1 + 1 = i by omega, Bool.and_eq_true, Bool.and_eq_true, decide_eq_true_eq, decide_eq_true_eq, List.all_eq_true] at this
  refine ⟨⟨this.1, this.2.1⟩, fun j c d => ?_⟩
  have h2 := this.2.2 (j - 1) (List.mem_range.mpr (by omega))
  rw [show j - 1 + 1 = j by omega, decide_eq_true_eq] at h2
  exact h2
/-- sorted, and each one's next one is the one behind it -/
def chk (t : Nat) : List Nat → Bool
  | [] => true
  | [v] => vb t v && decide (pvt (Pn t v) (t - 1) = 0)
  | v :: w :: vs => vb t v && (decide (v < w) && (decide (1 ≤ pvt (Pn t v) (t - 1)) && ((List.range (t + 1)).all (fun k => decide (nx t (Pn t v) k = Pn t w k)) && chk t (w :: vs))))
theorem chk_all : chk 1 V1 = true ∧ chk 2 V2 = true ∧ chk 3 V3 = true ∧ chk 4 V4 = true ∧ chk 5 V5 = true := by decide +kernel
def dig1 : Bool := (List.range 2).all fun a => !(decide (1 ≤ a)) || V1.contains a
def dig2 : Bool := (List.range 3).all fun a => (List.range 3).all fun b => !(decide (1 ≤ a) && (decide (1 ≤ b) && decide (a ≠ b))) || V2.contains (10 * a + b)
def dig3 : Bool := (List.range 4).all fun a => (List.range 4).all fun b => (List.range 4).all fun c => !(decide (1 ≤ a) && (decide (1 ≤ b) && (decide (1 ≤ c) && (decide (a ≠ b) && (decide (a ≠ c) && decide (b ≠ c)))))) || V3.contains (100 * a + 10 * b + c)
def dig4 : Bool := (List.range 5).all fun a => (List.range 5).all fun b => (List.range 5).all fun c => (List.range 5).all fun d => !(decide (1 ≤ a) && (decide (1 ≤ b) && (decide (1 ≤ c) && (decide (1 ≤ d) && (decide (a ≠ b) && (decide (a ≠ c) && (decide (a ≠ d) && (decide (b ≠ c) && (decide (b ≠ d) && decide (c ≠ d)))))))))) || V4.contains (1000 * a + 100 * b + 10 * c + d)
def dig5 : Bool := (List.range 6).all fun a => (List.range 6).all fun b => (List.range 6).all fun c => (List.range 6).all fun d => (List.range 6).all fun e => !(decide (1 ≤ a) && (decide (1 ≤ b) && (decide (1 ≤ c) && (decide (1 ≤ d) && (decide (1 ≤ e) && (decide (a ≠ b) && (decide (a ≠ c) && (decide (a ≠ d) && (decide (a ≠ e) && (decide (b ≠ c) && (decide (b ≠ d) && (decide (b ≠ e) && (decide (c ≠ d) && (decide (c ≠ e) && decide (d ≠ e))))))))))))))) || V5.contains (10000 * a + 1000 * b + 100 * c + 10 * d + e)
theorem dig_all : dig1 = true ∧ dig2 = true ∧ dig3 = true ∧ dig4 = true ∧ dig5 = true := by decide +kernel
theorem comp1 {x : Nat} (h : vld 1 x) : x ∈ V1 := by
  obtain ⟨h0, hg⟩ := h
  have a1 := hg 1 (by decide) (by decide)
  have ea : Pn 1 x 1 = x / 1 % 10 := rfl
  have h9 : x / 10 = 0 := h0
  generalize Pn 1 x 1 = a at *
  have ex : x = a := by omega
  have hq := dig_all.1
  unfold dig1 at hq
  have hq := List.all_eq_true.mp hq a (List.mem_range.mpr (by omega))
  have hc : (decide (1 ≤ a)) = true := by
    simp only [Bool.and_eq_true, decide_eq_true_eq]
    exact a1.1.1
  rw [hc, Bool.not_true, Bool.false_or] at hq
  rw [ex]
  exact List.contains_iff_mem.mp hq
theorem comp2 {x : Nat} (h : vld 2 x) : x ∈ V2 := by
  obtain ⟨h0, hg⟩ := h
  have a1 := hg 1 (by decide) (by decide)
  have b1 := hg 2 (by decide) (by decide)
  have ba2 := b1.2 1 (by decide) (by decide)
  have ea : Pn 2 x 1 = x / 10 % 10 := rfl
  have eb : Pn 2 x 2 = x / 1 % 10 := rfl
  have h9 : x / 100 = 0 := h0
  generalize Pn 2 x 1 = a at *
  generalize Pn 2 x 2 = b at *
  have ex : x = 10 * a + b := by omega
  have hq := dig_all.2.1
  unfold dig2 at hq
  have hq := List.all_eq_true.mp hq a (List.mem_range.mpr (by omega))
  have hq := List.all_eq_true.mp hq b (List.mem_range.mpr (by omega))
  have hc : (decide (1 ≤ a) && (decide (1 ≤ b) && (decide (a ≠ b)))) = true := by
    simp only [Bool.and_eq_true, decide_eq_true_eq]
    exact ⟨a1.1.1, b1.1.1, ba2⟩
  rw [hc, Bool.not_true, Bool.false_or] at hq
  rw [ex]
  exact List.contains_iff_mem.mp hq
theorem comp3 {x : Nat} (h : vld 3 x) : x ∈ V3 := by
  obtain ⟨h0, hg⟩ := h
  have a1 := hg 1 (by decide) (by decide)
  have b1 := hg 2 (by decide) (by decide)
  have c1 := hg 3 (by decide) (by decide)
  have ba2 := b1.2 1 (by decide) (by decide)
  have ca2 := c1.2 1 (by decide) (by decide)
  have cb2 := c1.2 2 (by decide) (by decide)
  have ea : Pn 3 x 1 = x / 100 % 10 := rfl
  have eb : Pn 3 x 2 = x / 10 % 10 := rfl
  have ec : Pn 3 x 3 = x / 1 % 10 := rfl
  have h9 : x / 1000 = 0 := h0
  generalize Pn 3 x 1 = a at *
  generalize Pn 3 x 2 = b at *
  generalize Pn 3 x 3 = c at *
  have ex : x = 100 * a + 10 * b + c := by omega
  have hq := dig_all.2.2.1
  unfold dig3 at hq
  have hq := List.all_eq_true.mp hq a (List.mem_range.mpr (by omega))
  have hq := List.all_eq_true.mp hq b (List.mem_range.mpr (by omega))
  have hq := List.all_eq_true.mp hq c (List.mem_range.mpr (by omega))
  have hc : (decide (1 ≤ a) && (decide (1 ≤ b) && (decide (1 ≤ c) && (decide (a ≠ b) && (decide (a ≠ c) && (decide (b ≠ c))))))) = true := by
    simp only [Bool.and_eq_true, decide_eq_true_eq]
    exact ⟨a1.1.1, b1.1.1, c1.1.1, ba2, ca2, cb2⟩
  rw [hc, Bool.not_true, Bool.false_or] at hq
  rw [ex]
  exact List.contains_iff_mem.mp hq
theorem comp4 {x : Nat} (h : vld 4 x) : x ∈ V4 := by
  obtain ⟨h0, hg⟩ := h
  have a1 := hg 1 (by decide) (by decide)
  have b1 := hg 2 (by decide) (by decide)
  have c1 := hg 3 (by decide) (by decide)
  have d1 := hg 4 (by decide) (by decide)
  have ba2 := b1.2 1 (by decide) (by decide)
  have ca2 := c1.2 1 (by decide) (by decide)
  have cb2 := c1.2 2 (by decide) (by decide)
  have da2 := d1.2 1 (by decide) (by decide)
  have db2 := d1.2 2 (by decide) (by decide)
  have dc2 := d1.2 3 (by decide) (by decide)
  have ea : Pn 4 x 1 = x / 1000 % 10 := rfl
  have eb : Pn 4 x 2 = x / 100 % 10 := rfl
  have ec : Pn 4 x 3 = x / 10 % 10 := rfl
  have ed : Pn 4 x 4 = x / 1 % 10 := rfl
  have h9 : x / 10000 = 0 := h0
  generalize Pn 4 x 1 = a at *
  generalize Pn 4 x 2 = b at *
  generalize Pn 4 x 3 = c at *
  generalize Pn 4 x 4 = d at *
  have ex : x = 1000 * a + 100 * b + 10 * c + d := by omega
  have hq := dig_all.2.2.2.1
  unfold dig4 at hq
  have hq := List.all_eq_true.mp hq a (List.mem_range.mpr (by omega))
  have hq := List.all_eq_true.mp hq b (List.mem_range.mpr (by omega))
  have hq := List.all_eq_true.mp hq c (List.mem_range.mpr (by omega))
  have hq := List.all_eq_true.mp hq d (List.mem_range.mpr (by omega))
  have hc : (decide (1 ≤ a) && (decide (1 ≤ b) && (decide (1 ≤ c) && (decide (1 ≤ d) && (decide (a ≠ b) && (decide (a ≠ c) && (decide (a ≠ d) && (decide (b ≠ c) && (decide (b ≠ d) && (decide (c ≠ d))))))))))) = true := by
    simp only [Bool.and_eq_true, decide_eq_true_eq]
    exact ⟨a1.1.1, b1.1.1, c1.1.1, d1.1.1, ba2, ca2, da2, cb2, db2, dc2⟩
  rw [hc, Bool.not_true, Bool.false_or] at hq
  rw [ex]
  exact List.contains_iff_mem.mp hq
theorem comp5 {x : Nat} (h : vld 5 x) : x ∈ V5 := by
  obtain ⟨h0, hg⟩ := h
  have a1 := hg 1 (by decide) (by decide)
  have b1 := hg 2 (by decide) (by decide)
  have c1 := hg 3 (by decide) (by decide)
  have d1 := hg 4 (by decide) (by decide)
  have e1 := hg 5 (by decide) (by decide)
  have ba2 := b1.2 1 (by decide) (by decide)
  have ca2 := c1.2 1 (by decide) (by decide)
  have cb2 := c1.2 2 (by decide) (by decide)
  have da2 := d1.2 1 (by decide) (by decide)
  have db2 := d1.2 2 (by decide) (by decide)
  have dc2 := d1.2 3 (by decide) (by decide)
  have ea2 := e1.2 1 (by decide) (by decide)
  have eb2 := e1.2 2 (by decide) (by decide)
  have ec2 := e1.2 3 (by decide) (by decide)
  have ed2 := e1.2 4 (by decide) (by decide)
  have ea : Pn 5 x 1 = x / 10000 % 10 := rfl
  have eb : Pn 5 x 2 = x / 1000 % 10 := rfl
  have ec : Pn 5 x 3 = x / 100 % 10 := rfl
  have ed : Pn 5 x 4 = x / 10 % 10 := rfl
  have ee : Pn 5 x 5 = x / 1 % 10 := rfl
  have h9 : x / 100000 = 0 := h0
  generalize Pn 5 x 1 = a at *
  generalize Pn 5 x 2 = b at *
  generalize Pn 5 x 3 = c at *
  generalize Pn 5 x 4 = d at *
  generalize Pn 5 x 5 = e at *
  have ex : x = 10000 * a + 1000 * b + 100 * c + 10 * d + e := by omega
  have hq := dig_all.2.2.2.2
  unfold dig5 at hq
  have hq := List.all_eq_true.mp hq a (List.mem_range.mpr (by omega))
  have hq := List.all_eq_true.mp hq b (List.mem_range.mpr (by omega))
  have hq := List.all_eq_true.mp hq c (List.mem_range.mpr (by omega))
  have hq := List.all_eq_true.mp hq d (List.mem_range.mpr (by omega))
  have hq := List.all_eq_true.mp hq e (List.mem_range.mpr (by omega))
  have hc : (decide (1 ≤ a) && (decide (1 ≤ b) && (decide (1 ≤ c) && (decide (1 ≤ d) && (decide (1 ≤ e) && (decide (a ≠ b) && (decide (a ≠ c) && (decide (a ≠ d) && (decide (a ≠ e) && (decide (b ≠ c) && (decide (b ≠ d) && (decide (b ≠ e) && (decide (c ≠ d) && (decide (c ≠ e) && (decide (d ≠ e)))))))))))))))) = true := by
    simp only [Bool.and_eq_true, decide_eq_true_eq]
    exact ⟨a1.1.1, b1.1.1, c1.1.1, d1.1.1, e1.1.1, ba2, ca2, da2, ea2, cb2, db2, eb2, dc2, ec2, ed2⟩
  rw [hc, Bool.not_true, Bool.false_or] at hq
  rw [ex]
  exact List.contains_iff_mem.mp hq

/-! solve: the pieces. -/
theorem chk_h {t v : Nat} {vs : List Nat} (h : chk t (v :: vs) = true) : vld t v ∧ (vs = [] → pvt (Pn t v) (t - 1) = 0) ∧ ∀ w ws, vs = w :: ws → v < w ∧ 1 ≤ pvt (Pn t v) (t - 1) ∧ (∀ k, k ≤ t → nx t (Pn t v) k = Pn t w k) ∧ chk t (w :: ws) = true := by
  cases vs with
  | nil =>
    unfold chk at h
    rw [Bool.and_eq_true, decide_eq_true_eq] at h
    exact ⟨vb_vld h.1, fun _ => h.2, fun w ws e => (by cases e)⟩
  | cons w ws =>
    unfold chk at h
    rw [Bool.and_eq_true, Bool.and_eq_true, Bool.and_eq_true, Bool.and_eq_true, decide_eq_true_eq, decide_eq_true_eq, List.all_eq_true] at h
    obtain ⟨h1, h2, h3, h4, h5⟩ := h
    refine ⟨vb_vld h1, fun e => (by cases e), fun w' ws' e => ?_⟩
    cases e
    exact ⟨h2, h3, fun k hk => by have := h4 k (List.mem_range.mpr (by omega)); rw [decide_eq_true_eq] at this; exact this, h5⟩
theorem chk_lt {t : Nat} : ∀ (vs : List Nat) (v : Nat), chk t (v :: vs) = true → ∀ x, x ∈ vs → v < x := by
  intro vs
  induction vs with
  | nil => intro v _ x hx; cases hx
  | cons w ws ih =>
    intro v h x hx
    obtain ⟨h2, -, -, h5⟩ := (chk_h h).2.2 w ws rfl
    rcases List.mem_cons.mp hx with e | hx
    · omega
    · have := ih w h5 x hx
      omega
theorem VV_chk {t : Nat} (h1 : 1 ≤ t) (h5 : t ≤ 5) : chk t (VV t) = true := by
  obtain ⟨a, b, c, d, e⟩ := chk_all
  rcases (show t = 1 ∨ t = 2 ∨ t = 3 ∨ t = 4 ∨ t = 5 by omega) with rfl | rfl | rfl | rfl | rfl
  · exact a
  · exact b
  · exact c
  · exact d
  · exact e
theorem VV_comp {t x : Nat} (h1 : 1 ≤ t) (h5 : t ≤ 5) (h : vld t x) : x ∈ VV t := by
  rcases (show t = 1 ∨ t = 2 ∨ t = 3 ∨ t = 4 ∨ t = 5 by omega) with rfl | rfl | rfl | rfl | rfl
  · exact comp1 h
  · exact comp2 h
  · exact comp3 h
  · exact comp4 h
  · exact comp5 h
theorem VV_head {t : Nat} (h1 : 1 ≤ t) (h5 : t ≤ 5) : ∃ v vs, VV t = v :: vs ∧ (∀ k, k ≤ t → Pn t v k = k) ∧ vs.length < 120 ∧ 10 ^ (t - 1) ≤ v := by
  have key : ∀ t v, (List.range (t + 1)).all (fun k => decide (Pn t v k = k)) = true → ∀ k, k ≤ t → Pn t v k = k := fun t v h k hk => by
    have := List.all_eq_true.mp h k (List.mem_range.mpr (by omega))
    rw [decide_eq_true_eq] at this
    exact this
  rcases (show t = 1 ∨ t = 2 ∨ t = 3 ∨ t = 4 ∨ t = 5 by omega) with rfl | rfl | rfl | rfl | rfl
  · exact ⟨_, _, rfl, key _ _ (by decide +kernel), by decide +kernel, by decide +kernel⟩
  · exact ⟨_, _, rfl, key _ _ (by decide +kernel), by decide +kernel, by decide +kernel⟩
  · exact ⟨_, _, rfl, key _ _ (by decide +kernel), by decide +kernel, by decide +kernel⟩
  · exact ⟨_, _, rfl, key _ _ (by decide +kernel), by decide +kernel, by decide +kernel⟩
  · exact ⟨_, _, rfl, key _ _ (by decide +kernel), by decide +kernel, by decide +kernel⟩
/-- a plan, on both sides -/
def plR (t : Nat) (cyc cnt : Int32) (fm fr ft : Nat → Int32) (mcyc : Int32) (po pt : Nat → Int32) : Prop :=
  ∃ (n : Nat) (q : Nat → Nat) (T : Nat) (d : Nat → Int), vld t n ∧ ord t (Pn t n) q ∧ 2 ≤ T ∧ T ≤ 2000 ∧ cyc = nI T ∧ mcyc = nI T ∧ cnt = nI (t + 1) ∧ rep t fm (Pn t n) ∧ rep t po (Pn t n) ∧ (∀ i, i ≤ t → fr i = nI (q i)) ∧ (∀ v, v ≤ t → ft v = pt v ∧ (ft v).toInt = d v) ∧ d 0 = 0 ∧ (∀ v, v ≤ t → 0 ≤ d v ∧ d v < T) ∧ ∀ k, k < t → d (Pn t n k) < d (Pn t n (k + 1))
section SV
variable {t : Nat} {low high ld : Nat → Int32} {es : Nat → Nat → Int32} {em : Nat → Int32}
theorem sv_step (hd : dat t low high ld es em) {v : Nat} (hv : vld t v) {lm : Nat} (hlm : lm ≤ 2000) {mv rk : Nat → Int32} (hm : rep t mv (Pn t v)) (hr : ∀ j, j ≤ t → rk (Pn t v j) = nI j) (rl : Int32) (B A S U f c : Nat → Int32) {o : Nat → Int32} (ho : rep t o (Pn t v)) (pc tm : Nat → Int32) :
    ∃ res rl' B' A' S' U' f' c' pc' tm', Ev (fun z => fn_TM_leastCycle z (nI lm) rl (nI (t + 1)) mv ld B A S U rk low high f c es) (res, rl', B', A', S', U', f', c') ∧ Ev (fun z => fn_MD_leastOf z (nI lm) (nI t) o pc ld em tm low high) (res, pc', tm') ∧
      (res = -1 ∨ ∃ (T : Nat) (q : Nat → Nat) (d : Nat → Int), res = nI T ∧ 2 ≤ T ∧ T ≤ lm ∧ ord t (Pn t v) q ∧ (∀ i, i ≤ t → rk i = nI (q i)) ∧ (∀ w, w ≤ t → f' w = tm' w ∧ (f' w).toInt = d w) ∧ d 0 = 0 ∧ (∀ w, w ≤ t → 0 ≤ d w ∧ d w < T) ∧ ∀ k, k < t → d (Pn t v k) < d (Pn t v (k + 1))) := by
  obtain ⟨q, hq⟩ := vld_ord hv
  have hrk : ∀ i, i ≤ t → rk i = nI (q i) := fun i hi => by
    have := hr (q i) (hq.2.2 i hi).1
    rw [(hq.2.2 i hi).2] at this
    exact this
  obtain ⟨res, rl', B', A', S', U', f', c', k1, k2⟩ := TM_least hd hq hm hrk hlm rl B A S U f c
  obtain ⟨res2, pc', tm', l1, l2⟩ := MD_leastOf_eq hd hq ho hlm pc tm
  obtain ⟨e, h⟩ := same_least hd hq hlm k2 l2
  subst e
  refine ⟨res, rl', B', A', S', U', f', c', pc', tm', k1, l1, ?_⟩
  rcases h with h | ⟨T, a1, a2, a3, a4, d, a5, a6, a7⟩
  · exact Or.inl h
  · obtain ⟨L, b1, b2, b3⟩ := feas_norm hd hq ⟨d, a6.1⟩
    have c1 := a6.2.2 L b1 b2 0
    have c2 := a6.2.1 0
    have d0 : d 0 = 0 := by omega
    have c3 := sol_lt hd hq a6.1 d0
    refine Or.inr ⟨T, q, d, a1, a2, a3, hq, hrk, fun w hw => ⟨a4 w hw, a5 w hw⟩, d0, fun w hw => ⟨a6.2.1 w, c3.1 w hw⟩, fun k hk => ?_⟩
    have := sol_up hd hq (T := T) (L := d) (fun r hr' => a6.1 r (by omega)) k 1 (by omega)
    omega
theorem MD_keepL (h5 : t ≤ 5) (o tm : Nat → Int32) (a1 : Int32) : ∀ (m k : Nat) (hp cy : Int32) (po pt : Nat → Int32), k + m = t + 1 → (∀ j, j < k → po j = o j ∧ pt j = tm j) → ∃ po' pt', Ev (fun fu => lp_MD_keep (nI t) o tm fu 0 a1 (nI k) hp cy po pt) (hp, cy, po', pt') ∧ ∀ j, j ≤ t → po' j = o j ∧ pt' j = tm j := by
  intro m
  induction m with
  | zero =>
    intro k hp cy po pt hk h
    refine ⟨po, pt, ?_, fun j hj => h j (by omega)⟩
    refine Ev.step (fun fu => sq_MD_keep_0 ..) ?_
    exact Ev.pos (nI_lt (by omega) (by omega)) (Ev.ret rfl)
  | succ m ih =>
    intro k hp cy po pt hk h
    obtain ⟨po', pt', g1, g2⟩ := ih (k + 1) hp cy (upd po k (o k)) (upd pt k (tm k)) (by omega) (fun j hj => by
      by_cases e : j = k
      · subst e; exact ⟨pk_us, pk_us⟩
      · rw [pk_un e, pk_un e]; exact h j (by omega))
    refine ⟨po', pt', ?_, g2⟩
    refine Ev.step (fun fu => sq_MD_keep_0 ..) ?_
    refine Ev.neg (nI_nlt (by omega) (by omega)) (Ev.gdN (by omega) (by decide) (Ev.gdN (by omega) (by decide) (Ev.gdN (by omega) (by decide) (Ev.gdN (by omega) (by decide) ?_))))
    rw [nI_clamp (by omega), nI_1]
    exact g1
theorem MD_keep_eq (h5 : t ≤ 5) (o tm : Nat → Int32) (a1 hp0 cy0 : Int32) (po pt : Nat → Int32) : ∃ po' pt', Ev (fun z => fn_MD_keep z a1 (nI t) hp0 cy0 o po tm pt) (1, a1, po', pt') ∧ ∀ j, j ≤ t → po' j = o j ∧ pt' j = tm j :=
  MD_keepL h5 o tm a1 (t + 1) 0 1 a1 po pt (by omega) (fun j hj => absurd hj (Nat.not_lt_zero j))
theorem MD_emptyL (a b c d e f g : Int32) : ∀ (m k : Nat) (car : Nat → Int32), k + m = 7 → (∀ j, j < k → car j = 0) → ∃ car', Ev (fun fu => lp_MD_emptyLine fu 0 (nI k) a b c d e f g car) (a, b, c, d, e, f, g, car') ∧ ∀ j, j < 7 → car' j = 0 := by
  intro m
  induction m with
  | zero =>
    intro k car hk h
    refine ⟨car, ?_, fun j hj => h j (by omega)⟩
    refine Ev.step (fun fu => sq_MD_emptyLine_0 ..) ?_
    exact Ev.pos (show (7 : Int32) ≤ nI k from nI_le (a := 7) (by omega) (by omega)) (Ev.ret rfl)
  | succ m ih =>
    intro k car hk h
    obtain ⟨car', g1, g2⟩ := ih (k + 1) (upd car k 0) (by omega) (fun j hj => by
      by_cases e : j = k
      · subst e; exact pk_us
      · rw [pk_un e]; exact h j (by omega))
    refine ⟨car', ?_, g2⟩
    refine Ev.step (fun fu => sq_MD_emptyLine_0 ..) ?_
    refine Ev.neg (show ¬ (7 : Int32) ≤ nI k from nI_ge (b := 7) (by omega) (by decide)) (Ev.gdN (by omega) (by decide) ?_)
    rw [nI_clamp (by omega), nI_1]
    exact g1
theorem MD_empty_eq (a b c d e f g : Int32) (car : Nat → Int32) : ∃ car', Ev (fun z => fn_MD_emptyLine z a b c d e f g car) (0, 0, 0, 0, 0, -1, 0, car') ∧ ∀ j, j < 7 → car' j = 0 :=
  MD_emptyL 0 0 0 0 0 (-1) 0 7 0 car (by omega) (fun j hj => absurd hj (Nat.not_lt_zero j))
/-- numbers that are no order are passed over -/
theorem MD_skip (h1 : 1 ≤ t) (h5 : t ≤ 5) {v : Nat} (hv : v ≤ 10 ^ t) (i1 th hp cy se en dn tk st mo oh : Int32) (car pc tm po pt : Nat → Int32) : ∀ (d m : Nat) (o : Nat → Int32), m + d = v → 1 ≤ m → (∀ x, m ≤ x → x < v → ¬ vld t x) → ∃ o1, ∀ val, Ev2 (fun z fu => lp_MD_solve z (nI t) em ld low high fu 1 i1 (nI (10 ^ t)) (nI v) th hp cy se en dn tk st mo oh car o1 pc tm po pt) val → Ev2 (fun z fu => lp_MD_solve z (nI t) em ld low high fu 1 i1 (nI (10 ^ t)) (nI m) th hp cy se en dn tk st mo oh car o pc tm po pt) val := by
  have ht : 10 ^ t ≤ 100000 := by
    rcases (show t = 1 ∨ t = 2 ∨ t = 3 ∨ t = 4 ∨ t = 5 by omega) with rfl | rfl | rfl | rfl | rfl <;> decide
  intro d
  induction d with
  | zero =>
    intro m o hm _ _
    exact ⟨o, fun val h => by rw [show m = v by omega]; exact h⟩
  | succ d ih =>
    intro m o hm hm1 hn
    obtain ⟨o', g1, g2⟩ := MD_take h1 h5 (n := m) (by omega) hm1 o
    rw [bt_neg (hn m (Nat.le_refl _) (by omega))] at g1
    obtain ⟨o1, k⟩ := ih (m + 1) o' (by omega) (by omega) (fun x a b => hn x (by omega) b)
    refine ⟨o1, fun val h => ?_⟩
    refine Ev2.step (fun z fu => sq_MD_solve_1 ..) ?_
    refine Ev2.neg (nI_ge (by omega) (by omega)) (Ev2.cl g1 (Ev2.neg (fun q => q rfl) ?_))
    rw [nI_1]
    exact k val h
end SV

/-! solve: both loops, number by number. -/
theorem nI_m1' {k : Nat} (h : 1 ≤ k) : nI k - 1 = nI (k - 1) := by
  obtain ⟨j, rfl⟩ : ∃ j, k = j + 1 := ⟨k - 1, by omega⟩
  exact nI_pred j
theorem cpy6 (f g : Nat → Int32) {k : Nat} (hk : k < 6) : va_cpy f g 0 0 6 k = f k := by
  unfold va_cpy
  rw [if_pos ⟨Nat.zero_le _, by omega⟩]
  congr 1
  omega
def svI (t lm : Nat) (best hp cyc cn2 : Int32) (fm fr ft : Nat → Int32) (mcyc : Int32) (po pt : Nat → Int32) : Prop :=
  lm ≤ 2000 ∧ ((best = -1 ∧ hp = 0) ∨ (best = nI (lm + 1) ∧ hp = 1 ∧ plR t cyc cn2 fm fr ft mcyc po pt))
theorem sv_joint {t : Nat} {low high ld : Nat → Int32} {es : Nat → Nat → Int32} {em : Nat → Int32} (hd : dat t low high ld es em) (th se en dn tk st mo oh : Int32) (car : Nat → Int32) : ∀ (vs : List Nat) (v m i lm : Nat) (best cyc cn2 hp mcyc rl : Int32) (mv rk B A S U f c fm fr ft o pc tm po pt : Nat → Int32),
    chk t (v :: vs) = true → (∀ x, vld t x → m ≤ x → x ∈ v :: vs) → m ≤ v → 1 ≤ m → i + vs.length < 120 → rep t mv (Pn t v) → (∀ j, j ≤ t → rk (Pn t v j) = nI j) → svI t lm best hp cyc cn2 fm fr ft mcyc po pt →
    ∃ (best' cnt' rl' cyc' cn2' : Int32) (mv' rk' B' A' S' U' f' c' fm' fr' ft' : Nat → Int32) (ans hp' mcyc' : Int32) (car' o' pc' tm' po' pt' : Nat → Int32),
      Ev2 (fun z fu => lp_HP_findPlan z (nI t) ld low high es fu 0 best (nI lm) (nI i) (nI (t + 1)) rl cyc cn2 mv rk B A S U f c fm fr ft) (best', cnt', rl', cyc', cn2', mv', rk', B', A', S', U', f', c', fm', fr', ft') ∧
      Ev2 (fun z fu => lp_MD_solve z (nI t) em ld low high fu 1 (nI (lm + 1)) (nI (10 ^ t)) (nI m) th hp mcyc se en dn tk st mo oh car o pc tm po pt) (ans, th, hp', mcyc', 0, 0, 0, 0, 0, -1, 0, car', o', pc', tm', po', pt') ∧
      (∀ k, k < 7 → car' k = 0) ∧ ((best' = -1 ∧ ans = -1 ∧ hp' = 0) ∨ (best' = ans ∧ hp' = 1 ∧ best' ≠ -1 ∧ plR t cyc' cn2' fm' fr' ft' mcyc' po' pt')) := by
  obtain ⟨⟨h1, h5⟩, -, -⟩ := id hd
  have ht : 10 ^ t ≤ 100000 := by
    rcases (show t = 1 ∨ t = 2 ∨ t = 3 ∨ t = 4 ∨ t = 5 by omega) with rfl | rfl | rfl | rfl | rfl <;> decide
  have neg1 : ∀ k : Nat, k < 2 ^ 31 → nI k ≠ -1 := fun k hk e => by
    have h9 := nI_toInt hk
    rw [e] at h9
    have h8 : (-1 : Int32).toInt = -1 := by decide
    omega
  -- the reference's end, from any number behind the last order
  have ref_end : ∀ (v lm : Nat) (hp mcyc best cyc cn2 : Int32) (fm fr ft o pc tm po pt : Nat → Int32), 1 ≤ v → v ≤ 10 ^ t → (∀ x, v ≤ x → x < 10 ^ t → ¬ vld t x) → svI t lm best hp cyc cn2 fm fr ft mcyc po pt →
      ∃ ans car' o', Ev2 (fun z fu => lp_MD_solve z (nI t) em ld low high fu 1 (nI (lm + 1)) (nI (10 ^ t)) (nI v) th hp mcyc se en dn tk st mo oh car o pc tm po pt) (ans, th, hp, mcyc, 0, 0, 0, 0, 0, -1, 0, car', o', pc, tm, po, pt) ∧ (∀ k, k < 7 → car' k = 0) ∧ ((best = -1 ∧ ans = -1 ∧ hp = 0) ∨ (best = ans ∧ hp = 1 ∧ best ≠ -1 ∧ plR t cyc cn2 fm fr ft mcyc po pt)) := by
    intro v lm hp mcyc best cyc cn2 fm fr ft o pc tm po pt hv1 hv hn hI
    obtain ⟨o1, hs⟩ := MD_skip (em := em) (ld := ld) (low := low) (high := high) h1 h5 (v := 10 ^ t) (Nat.le_refl _) (nI (lm + 1)) th hp mcyc se en dn tk st mo oh car pc tm po pt (10 ^ t - v) v o (by omega) hv1 hn
    obtain ⟨car', e1, e2⟩ := MD_empty_eq se en dn tk st mo oh car
    obtain ⟨hlm, hI⟩ := hI
    rcases hI with ⟨a, b⟩ | ⟨a, b, c⟩
    · refine ⟨-1, car', o1, hs _ ?_, e2, Or.inl ⟨a, rfl, b⟩⟩
      refine Ev2.step (fun z fu => sq_MD_solve_1 ..) ?_
      refine Ev2.pos (nI_le (Nat.le_refl _) (by omega)) (Ev2.cl e1 (Ev2.pos b (Ev2.ret rfl)))
    · refine ⟨nI (lm + 1), car', o1, hs _ ?_, e2, Or.inr ⟨a, b, by rw [a]; exact neg1 _ (by omega), c⟩⟩
      refine Ev2.step (fun z fu => sq_MD_solve_1 ..) ?_
      refine Ev2.pos (nI_le (Nat.le_refl _) (by omega)) (Ev2.cl e1 (Ev2.neg (by rw [b]; exact ne10) (Ev2.ret rfl)))
  -- one order on both sides: what stands behind it
  have one : ∀ (v m i lm : Nat) (best cyc cn2 hp mcyc rl : Int32) (mv rk B A S U f c fm fr ft o pc tm po pt : Nat → Int32), vld t v → (∀ x, m ≤ x → x < v → ¬ vld t x) → m ≤ v → 1 ≤ m → i < 120 → rep t mv (Pn t v) → (∀ j, j ≤ t → rk (Pn t v j) = nI j) → svI t lm best hp cyc cn2 fm fr ft mcyc po pt →
      ∃ (lm' : Nat) (best' cyc' cn2' hp' mcyc' rl' : Int32) (B' A' S' U' f' c' fm' fr' ft' o' pc' tm' po' pt' : Nat → Int32), svI t lm' best' hp' cyc' cn2' fm' fr' ft' mcyc' po' pt' ∧
        (∀ (r : Int32) (mv' rk' : Nat → Int32) val, Ev (fun z => fn_OR_toNext z (nI (t + 1)) mv rk) (r, mv', rk') → (¬ r = 0 → Ev2 (fun z fu => lp_HP_findPlan z (nI t) ld low high es fu 0 best' (nI lm') (nI (i + 1)) (nI (t + 1)) rl' cyc' cn2' mv' rk' B' A' S' U' f' c' fm' fr' ft') val) → (r = 0 → val = (best', nI (t + 1), rl', cyc', cn2', mv', rk', B', A', S', U', f', c', fm', fr', ft')) → Ev2 (fun z fu => lp_HP_findPlan z (nI t) ld low high es fu 0 best (nI lm) (nI i) (nI (t + 1)) rl cyc cn2 mv rk B A S U f c fm fr ft) val) ∧
        (∀ val, Ev2 (fun z fu => lp_MD_solve z (nI t) em ld low high fu 1 (nI (lm' + 1)) (nI (10 ^ t)) (nI (v + 1)) th hp' mcyc' se en dn tk st mo oh car o' pc' tm' po' pt') val → Ev2 (fun z fu => lp_MD_solve z (nI t) em ld low high fu 1 (nI (lm + 1)) (nI (10 ^ t)) (nI m) th hp mcyc se en dn tk st mo oh car o pc tm po pt) val) := by
    intro v m i lm best cyc cn2 hp mcyc rl mv rk B A S U f c fm fr ft o pc tm po pt hv hn hmv hm1 hi hm hr hI
    have hv10 : v < 10 ^ t := by
      have := hv.1
      exact (Nat.div_eq_zero_iff_lt (Nat.pos_of_ne_zero (by
        intro e
        rw [e] at ht
        have : 0 < 10 ^ t := Nat.pow_pos (by decide)
        omega))).mp this
    obtain ⟨o1, hs⟩ := MD_skip (em := em) (ld := ld) (low := low) (high := high) h1 h5 (v := v) (by omega) (nI (lm + 1)) th hp mcyc se en dn tk st mo oh car pc tm po pt (v - m) m o (by omega) hm1 hn
    obtain ⟨o2, g1, g2⟩ := MD_take h1 h5 (n := v) (by omega) (by omega) o1
    rw [bt_pos hv] at g1
    have hlm := hI.1
    obtain ⟨res, rl', B', A', S', U', f', c', pc', tm', k1, k2, k3⟩ := sv_step hd hv hlm hm hr rl B A S U f c g2 pc tm
    have el : nI (lm + 1) - 1 = nI lm := nI_pred lm
    have n120 : ¬ (120 : Int32) ≤ nI i := nI_ge (b := 120) (by omega) (by decide)
    rcases k3 with e | ⟨T, q, d, e, t2, tl, oq, rq, ft1, d0, db, dup⟩
    · subst e
      refine ⟨lm, best, cyc, cn2, hp, mcyc, rl', B', A', S', U', f', c', fm, fr, ft, o2, pc', tm', po, pt, hI, fun r mv' rk' val hN hy hz => ?_, fun val h => hs val ?_⟩
      · refine Ev2.step (fun z fu => sq_HP_findPlan_0 ..) ?_
        refine Ev2.neg n120 (Ev2.cl k1 (Ev2.pos rfl (Ev2.cl hN ?_)))
        by_cases c0 : r = 0
        · rw [hz c0]
          exact Ev2.neg (fun h => h c0) (Ev2.ret rfl)
        · rw [nI_1]
          exact Ev2.pos c0 (hy c0)
      · refine Ev2.step (fun z fu => sq_MD_solve_1 ..) ?_
        rw [el]
        refine Ev2.neg (nI_ge hv10 (by omega)) (Ev2.cl g1 (Ev2.pos ne10 (Ev2.cl k2 (Ev2.pos (by decide) ?_))))
        rw [nI_1]
        exact h
    · subst e
      obtain ⟨po', pt', u1, u2⟩ := MD_keep_eq h5 o2 tm' (nI T) hp mcyc po pt
      have hI' : svI t (T - 1) (nI T) 1 (nI T) (nI (t + 1)) (va_cpy mv fm 0 0 6) (va_cpy rk fr 0 0 6) (va_cpy f' ft 0 0 6) (nI T) po' pt' := by
        refine ⟨by omega, Or.inr ⟨by rw [show T - 1 + 1 = T by omega], rfl, v, q, T, d, hv, oq, t2, by omega, rfl, rfl, rfl, fun k hk => ?_, fun k hk => ?_, fun k hk => ?_, fun w hw => ⟨?_, ?_⟩, d0, db, dup⟩⟩
        · rw [cpy6 _ _ (by omega)]; exact hm k hk
        · rw [(u2 k hk).1]; exact g2 k hk
        · rw [cpy6 _ _ (by omega)]; exact rq k hk
        · rw [cpy6 _ _ (by omega), (u2 w hw).2]; exact (ft1 w hw).1
        · rw [cpy6 _ _ (by omega)]; exact (ft1 w hw).2
      refine ⟨T - 1, nI T, nI T, nI (t + 1), 1, nI T, rl', B', A', S', U', f', c', _, _, _, o2, pc', tm', po', pt', hI', fun r mv' rk' val hN hy hz => ?_, fun val h => hs val ?_⟩
      · refine Ev2.step (fun z fu => sq_HP_findPlan_0 ..) ?_
        refine Ev2.neg n120 (Ev2.cl k1 (Ev2.neg (neg1 T (by omega)) (Ev2.cl0 rfl (Ev2.cl hN ?_))))
        by_cases c0 : r = 0
        · rw [hz c0]
          exact Ev2.neg (fun h => h c0) (Ev2.ret rfl)
        · have := hy c0
          rw [← nI_m1' (show 1 ≤ T by omega)] at this
          rw [nI_1]
          exact Ev2.pos c0 this
      · refine Ev2.step (fun z fu => sq_MD_solve_1 ..) ?_
        rw [el]
        refine Ev2.neg (nI_ge hv10 (by omega)) (Ev2.cl g1 (Ev2.pos ne10 (Ev2.cl k2 (Ev2.neg (nI_nle (by omega) (by omega)) (Ev2.cl u1 ?_)))))
        rw [show T - 1 + 1 = T by omega] at h
        rw [nI_1]
        exact h
  intro vs
  induction vs with
  | nil =>
    intro v m i lm best cyc cn2 hp mcyc rl mv rk B A S U f c fm fr ft o pc tm po pt hc hall hmv hm1 hi hm hr hI
    obtain ⟨hv, hp0, -⟩ := chk_h hc
    obtain ⟨lm', best', cyc', cn2', hp', mcyc', rl', B', A', S', U', f', c', fm', fr', ft', o', pc', tm', po', pt', I', hX, hM⟩ := one v m i lm best cyc cn2 hp mcyc rl mv rk B A S U f c fm fr ft o pc tm po pt hv (fun x a b hx => by
      have := hall x hx a
      rw [List.mem_singleton] at this
      omega) hmv hm1 (by simpa using hi) hm hr hI
    have hv10 : v < 10 ^ t := by
      exact (Nat.div_eq_zero_iff_lt (Nat.pow_pos (by decide))).mp hv.1
    obtain ⟨ans, car', o2, r1, r2, r3⟩ := ref_end (v + 1) lm' hp' mcyc' best' cyc' cn2' fm' fr' ft' o' pc' tm' po' pt' (by omega) (by omega) (fun x a b hx => by
      have := hall x hx (by omega)
      rw [List.mem_singleton] at this
      omega) I'
    rcases OR_next h1 h5 (fun k hk => (vld_inj hv).1 k hk) hm rk with ⟨-, n1⟩ | ⟨n1, -⟩
    · exact ⟨best', _, rl', cyc', cn2', mv, rk, B', A', S', U', f', c', fm', fr', ft', ans, hp', mcyc', car', o2, pc', tm', po', pt', hX 0 mv rk _ n1 (fun h => absurd rfl h) (fun _ => rfl), hM _ r1, r2, r3⟩
    · exact absurd (hp0 rfl) (by omega)
  | cons w ws ih =>
    intro v m i lm best cyc cn2 hp mcyc rl mv rk B A S U f c fm fr ft o pc tm po pt hc hall hmv hm1 hi hm hr hI
    obtain ⟨hv, -, hnx⟩ := chk_h hc
    obtain ⟨hvw, hp1, hnw, hcw⟩ := hnx w ws rfl
    obtain ⟨hw, -, -⟩ := chk_h hcw
    have hlt := chk_lt _ _ hc
    rw [List.length_cons] at hi
    obtain ⟨lm', best', cyc', cn2', hp', mcyc', rl', B', A', S', U', f', c', fm', fr', ft', o', pc', tm', po', pt', I', hX, hM⟩ := one v m i lm best cyc cn2 hp mcyc rl mv rk B A S U f c fm fr ft o pc tm po pt hv (fun x a b hx => by
      rcases List.mem_cons.mp (hall x hx a) with e | e
      · omega
      · have := hlt x e; omega) hmv hm1 (by omega) hm hr hI
    rcases OR_next h1 h5 (fun k hk => (vld_inj hv).1 k hk) hm rk with ⟨n1, -⟩ | ⟨-, n2⟩
    · omega
    · have hij : inj t (nx t (Pn t v)) := by
        have hw2 := vld_inj hw
        refine ⟨fun k hk => by rw [hnw k hk]; exact hw2.1 k hk, fun a b ha hb e => ?_⟩
        rw [hnw a ha, hnw b hb] at e
        exact hw2.2 a b ha hb e
      obtain ⟨mv2, rk2, n3, n4, n5⟩ := n2 hij
      obtain ⟨best2, cnt2, rl2, cyc2, cn22, mv3, rk3, B2, A2, S2, U2, f2, c2, fm2, fr2, ft2, ans, hp2, mcyc2, car2, o2, pc2, tm2, po2, pt2, q1, q2, q3, q4⟩ := ih w (v + 1) (i + 1) lm' best' cyc' cn2' hp' mcyc' rl' mv2 rk2 B' A' S' U' f' c' fm' fr' ft' o' pc' tm' po' pt' hcw (fun x hx a => by
        rcases List.mem_cons.mp (hall x hx (by omega)) with e | e
        · omega
        · exact e) (by omega) (by omega) (by omega) (fun k hk => by rw [n4 k hk, hnw k hk]) (fun j hj => by rw [← hnw j hj]; exact n5 j hj) I'
      exact ⟨best2, cnt2, rl2, cyc2, cn22, mv3, rk3, B2, A2, S2, U2, f2, c2, fm2, fr2, ft2, ans, hp2, mcyc2, car2, o2, pc2, tm2, po2, pt2, hX 1 mv2 rk2 _ n3 (fun _ => q1) (fun h => absurd h ne10), hM _ q2, q3, q4⟩

/-! solve, on both sides. -/
/-- the rank of the move that begins next -/
def nrR (t : Nat) (p : Nat → Nat) (d : Nat → Int) (cs : Int) (r : Nat) : Prop := r ≤ t ∧ (((∀ j, j < r → d (p j) < cs) ∧ ∀ j, r ≤ j → j ≤ t → cs ≤ d (p j)) ∨ (r = 0 ∧ ∀ j, j ≤ t → d (p j) < cs))
/-- the line, on both sides, at second s -/
def wkR (t s T : Nat) (p : Nat → Nat) (d : Nat → Int) (se cs nr st en dn ls hc hm he hd : Int32) (ca et : Nat → Int32) (mse men mdn mtk mst mmo mends moh mbeg : Int32) (mc mb : Nat → Int32) : Prop :=
  se = nI s ∧ mse = nI s ∧ cs = nI (s % T) ∧ (∃ r, nr = nI r ∧ nrR t p d (s % T : Nat) r) ∧ (st = mst ∧ (st = 0 ∨ st = 1)) ∧ (∃ e : Nat, e ≤ s ∧ en = nI e ∧ men = nI e) ∧ dn = mdn ∧ ls = mtk ∧ hc = moh ∧ 0 ≤ hc.toInt ∧ hm = mmo ∧ (hm = -1 ∨ ∃ x : Nat, x ≤ t ∧ hm = nI x ∧ he = mbeg ∧ hd = mends) ∧ ∀ i, 1 ≤ i → i ≤ t → ca i = mc i ∧ 0 ≤ (ca i).toInt ∧ (ca i ≠ 0 → et i = mb i)
theorem wk_new {t T : Nat} (hT : 2 ≤ T) {p : Nat → Nat} {d : Nat → Int} (h5 : t ≤ 5) (hd0 : ∀ j, j ≤ t → 0 ≤ d (p j)) (ca et mc mb : Nat → Int32) (ends beg : Int32) (hc : ∀ k, k < 6 → ca k = 0) (hm : ∀ k, k < 7 → mc k = 0) : wkR t 0 T p d 0 0 0 0 0 0 0 0 (-1) 0 0 ca et 0 0 0 0 0 (-1) ends 0 beg mc mb := by
  refine ⟨rfl, rfl, by rw [Nat.zero_mod]; rfl, ⟨0, rfl, Nat.zero_le _, Or.inl ⟨fun j hj => absurd hj (Nat.not_lt_zero j), fun j _ hj => ?_⟩⟩, ⟨rfl, Or.inl rfl⟩, ⟨0, Nat.le_refl _, rfl, rfl⟩, rfl, rfl, rfl, by decide, rfl, Or.inl rfl, fun i a b => ?_⟩
  · rw [Nat.zero_mod]; exact hd0 j hj
  · rw [hc i (by omega), hm i (by omega)]
    exact ⟨rfl, by decide, fun h => absurd rfl h⟩
theorem WK_reset_eq (a b c d e f g h i j k : Int32) (ca et : Nat → Int32) : Ev (fun z => fn_WK_reset z a b c d e f g h i j k ca et) (0, 0, 0, 0, 0, 0, 0, 0, -1, 0, 0, (fun j => if j < 6 then 0 else ca j), (fun j => if j < 6 then 0 else et j)) := by
  unfold fn_WK_reset fn_WK_freeHoist
  exact Ev.cl0 rfl (Ev.cl (Ev.from 7 fun z hz => pz_fill (by decide) (by omega) 0 ca) (Ev.cl (Ev.from 7 fun z hz => pz_fill (by decide) (by omega) 0 et) (Ev.ret rfl)))
theorem MD_pow {t : Nat} (h5 : t ≤ 5) {em ld low high : Nat → Int32} (i1 th hp cy se en dn tk st mo oh : Int32) (car o pc tm po pt : Nat → Int32) {val} : ∀ (m k : Nat), k + m = t → Ev2 (fun z fu => lp_MD_solve z (nI t) em ld low high fu 1 i1 (nI (10 ^ t)) (nI (10 ^ t / 10)) th hp cy se en dn tk st mo oh car o pc tm po pt) val → Ev2 (fun z fu => lp_MD_solve z (nI t) em ld low high fu 0 i1 (nI (10 ^ k)) (nI k) th hp cy se en dn tk st mo oh car o pc tm po pt) val := by
  intro m
  induction m with
  | zero =>
    intro k hk h
    have e : k = t := by omega
    subst e
    refine Ev2.step (fun z fu => sq_MD_solve_0 ..) ?_
    have ht : 10 ^ k ≤ 100000 := by
      rcases (show k = 0 ∨ k = 1 ∨ k = 2 ∨ k = 3 ∨ k = 4 ∨ k = 5 by omega) with rfl | rfl | rfl | rfl | rfl | rfl <;> decide
    have e10 : nI (10 ^ k) / 10 = nI (10 ^ k / 10) := nI_div (b := 10) (by omega) (by decide) (by decide)
    rw [e10]
    exact Ev2.pos (nI_le (Nat.le_refl _) (by omega)) h
  | succ m ih =>
    intro k hk h
    refine Ev2.step (fun z fu => sq_MD_solve_0 ..) ?_
    refine Ev2.neg (nI_ge (by omega) (by omega)) ?_
    have e10 : 10 * nI (10 ^ k) = nI (10 ^ (k + 1)) := by rw [show (10 : Int32) = nI 10 from rfl, nI_mul, Nat.pow_succ, Nat.mul_comm]
    rw [e10, nI_1]
    exact ih (k + 1) (by omega) h
theorem solve_pair {t : Nat} {low high ld : Nat → Int32} {es : Nat → Nat → Int32} {em : Nat → Int32} (hd : dat t low high ld es em) (pl cnt rl cyc cn2 wse wcs wnr wst wen wdn wls whc whm whe whd : Int32) (mv rk B A S U f c fm fr ft ca et : Nat → Int32) (out : Nat → Int64) (th hp mcyc se en dn tk st mo oh ends beg : Int32) (car o pc tm po pt mb : Nat → Int32) :
    (Ev (fun z => fn_LW_solve z pl (nI t) cnt rl cyc cn2 wse wcs wnr wst wen wdn wls whc whm whe whd ld mv rk B A S U low high f c fm fr ft ca et out es) (1, pl, cnt, rl, cyc, cn2, wse, wcs, wnr, wst, wen, wdn, wls, whc, whm, whe, whd, mv, rk, B, A, S, U, f, c, fm, fr, ft, ca, et, out) ∧
      Ev (fun z => fn_MD_solve z th (nI t) hp mcyc se en dn tk st mo oh em ld car o pc tm low high po pt) (0, 1, hp, mcyc, se, en, dn, tk, st, mo, oh, car, o, pc, tm, po, pt)) ∨
    ∃ (pl' cnt' rl' cyc' cn2' : Int32) (mv' rk' B' A' S' U' f' c' fm' fr' ft' ca' et' : Nat → Int32) (out' : Nat → Int64) (ans mcyc' : Int32) (car' o' pc' tm' po' pt' : Nat → Int32),
      Ev (fun z => fn_LW_solve z pl (nI t) cnt rl cyc cn2 wse wcs wnr wst wen wdn wls whc whm whe whd ld mv rk B A S U low high f c fm fr ft ca et out es) (0, pl', cnt', rl', cyc', cn2', 0, 0, 0, 0, 0, 0, 0, 0, -1, 0, 0, mv', rk', B', A', S', U', f', c', fm', fr', ft', ca', et', out') ∧
      Ev (fun z => fn_MD_solve z th (nI t) hp mcyc se en dn tk st mo oh em ld car o pc tm low high po pt) (ans, 0, pl', mcyc', 0, 0, 0, 0, 0, -1, 0, car', o', pc', tm', po', pt') ∧ out' 0 = ans.toInt64 ∧
      (pl' = 0 ∨ (pl' = 1 ∧ plR t cyc' cn2' fm' fr' ft' mcyc' po' pt' ∧ (∀ k, k < 6 → ca' k = 0) ∧ ∀ k, k < 7 → car' k = 0)) := by
  obtain ⟨⟨h1, h5⟩, -, -⟩ := id hd
  have ex := LY_fault_eq h5 ld es
  have em9 := MD_ready_eq hd
  by_cases c0 : rd1 t es ld (t + 1) = 0
  · right
    rw [c0] at ex em9
    have exr : Ev (fun z => fn_HP_requireReady z (nI t) ld es) 0 := by
      unfold fn_HP_requireReady
      exact Ev.cl ex (Ev.pos rfl (Ev.ret rfl))
    obtain ⟨v, vs, eV, hid, hlen, hlo⟩ := VV_head h1 h5
    obtain ⟨mv1, rk1, a1, a2, a3⟩ := OR_first h5 cnt mv rk
    have hchk := VV_chk h1 h5
    rw [eV] at hchk
    have h10 : 1 ≤ 10 ^ (t - 1) := Nat.pow_pos (by decide)
    obtain ⟨best, cnt', rl', cyc', cn2', mv', rk', B', A', S', U', f', c', fm', fr', ft', ans, hp', mcyc', car', o', pc', tm', po', pt', q1, q2, q3, q4⟩ := sv_joint hd 0 se en dn tk st mo oh car vs v (10 ^ (t - 1)) 0 2000 (-1) cyc cn2 0 mcyc rl mv1 rk1 B A S U f c fm fr ft o pc tm po pt hchk (fun x hx _ => by rw [← eV]; exact VV_comp h1 h5 hx) hlo h10 (by omega) (fun k hk => by rw [hid k hk]; exact a2 k hk) (fun j hj => by rw [hid j hj]; exact a3 j hj) ⟨Nat.le_refl _, Or.inl ⟨rfl, rfl⟩⟩
    have hdiv : 10 ^ t / 10 = 10 ^ (t - 1) := by
      obtain ⟨s, rfl⟩ : ∃ s, t = s + 1 := ⟨t - 1, by omega⟩
      rw [Nat.pow_succ]
      exact Nat.mul_div_cancel _ (by decide)
    rw [← hdiv] at q2
    have hfp : Ev (fun z => fn_HP_findPlan z (nI t) cnt rl cyc cn2 mv rk ld B A S U low high f c fm fr ft es) (best, cnt', rl', cyc', cn2', mv', rk', B', A', S', U', f', c', fm', fr', ft') := by
      unfold fn_HP_findPlan
      exact Ev.cl a1 q1.diag
    have hms : Ev (fun z => fn_MD_solve z th (nI t) hp mcyc se en dn tk st mo oh em ld car o pc tm low high po pt) (ans, 0, hp', mcyc', 0, 0, 0, 0, 0, -1, 0, car', o', pc', tm', po', pt') := by
      unfold fn_MD_solve
      refine Ev.cl em9 (Ev.pos rfl ?_)
      refine Ev.cl0 (a := (0, 0)) (by unfold fn_MD_refuse; rw [if_pos rfl, if_pos rfl]) (Ev.pos rfl ?_)
      exact (MD_pow h5 2001 0 0 mcyc se en dn tk st mo oh car o pc tm po pt t 0 (by omega) q2).diag
    have hw := WK_reset_eq wse wcs wnr wst wen wdn wls whc whm whe whd ca et
    rcases q4 with ⟨b1, b2, b3⟩ | ⟨b1, b2, b3, b4⟩
    · subst b1; subst b2; subst b3
      refine ⟨0, cnt', rl', cyc', cn2', mv', rk', B', A', S', U', f', c', fm', fr', ft', (fun j => if j < 6 then 0 else ca j), (fun j => if j < 6 then 0 else et j), vp_updL out 0 (-1 : Int32).toInt64, -1, mcyc', car', o', pc', tm', po', pt', ?_, hms, pk_uLs, Or.inl rfl⟩
      unfold fn_LW_solve fn_HP_solve
      refine Ev.cl (a := (0, -1, 0, cnt', rl', cyc', cn2', 0, 0, 0, 0, 0, 0, 0, 0, -1, 0, 0, mv', rk', B', A', S', U', f', c', fm', fr', ft', (fun j => if j < 6 then 0 else ca j), (fun j => if j < 6 then 0 else et j))) ?_ (Ev.neg (fun h => h rfl) (Ev.ret rfl))
      refine Ev.cl exr (Ev.neg (fun h => h rfl) ?_)
      exact Ev.cl hfp (Ev.pos rfl (Ev.cl hw (Ev.ret rfl)))
    · subst b1; subst b2
      refine ⟨1, cnt', rl', cyc', cn2', mv', rk', B', A', S', U', f', c', fm', fr', ft', (fun j => if j < 6 then 0 else ca j), (fun j => if j < 6 then 0 else et j), vp_updL out 0 best.toInt64, best, mcyc', car', o', pc', tm', po', pt', ?_, hms, pk_uLs, Or.inr ⟨rfl, b4, fun k hk => if_pos hk, q3⟩⟩
      unfold fn_LW_solve fn_HP_solve
      refine Ev.cl (a := (0, best, 1, cnt', rl', cyc', cn2', 0, 0, 0, 0, 0, 0, 0, 0, -1, 0, 0, mv', rk', B', A', S', U', f', c', fm', fr', ft', (fun j => if j < 6 then 0 else ca j), (fun j => if j < 6 then 0 else et j))) ?_ (Ev.neg (fun h => h rfl) (Ev.ret rfl))
      refine Ev.cl exr (Ev.neg (fun h => h rfl) ?_)
      exact Ev.cl hfp (Ev.neg b3 (Ev.cl hw (Ev.ret rfl)))
  · left
    refine ⟨?_, ?_⟩
    · unfold fn_LW_solve fn_HP_solve fn_HP_requireReady
      refine Ev.cl (a := (1, 0, pl, cnt, rl, cyc, cn2, wse, wcs, wnr, wst, wen, wdn, wls, whc, whm, whe, whd, mv, rk, B, A, S, U, f, c, fm, fr, ft, ca, et)) ?_ (Ev.pos (show ¬ (1 : Nat) = 0 by decide) (Ev.pos (show (1 : Nat) = 1 from rfl) (Ev.ret rfl)))
      exact Ev.cl (a := 1) (Ev.cl ex (Ev.neg c0 (Ev.ret rfl))) (Ev.pos (show ¬ (1 : Nat) = 0 by decide) (Ev.ret rfl))
    · unfold fn_MD_solve
      refine Ev.cl em9 (Ev.neg c0 ?_)
      exact Ev.cl0 (a := (1, 1)) (by unfold fn_MD_refuse; rw [if_neg ne10]) (Ev.neg ne10 (Ev.ret rfl))

