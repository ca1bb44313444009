/-! Methods that throw: a contract for both ends; statics that Throwable's constructor reads. -/
-- words that stay though they aren't among tb0: by their kind
def tx_k : Cond → Bool
  | .declares _ => true
  | .castable _ _ => true
  | .methodLinkNest _ _ _ _ => true
  | _ => false
def tx0 : List Cond := tables_1.filter tx_k
theorem tx_t {w : Cond} (i : Nat) (h : tables_1[i]? = some w) (hg : tx_k w = true) : w ∈ tx0 := List.mem_filter.mpr ⟨List.mem_of_getElem? h, hg⟩
theorem tx_on {w : Cond} (h : tx_k w = true) : w.onTables = true := by cases w <;> first | rfl | cases h
theorem tx_warm {w : Cond} (h : tx_k w = true) {s U : State} (hW : s.WarmedH U.vm) (hw : va_Nw w s) : va_Nw w U := by
  cases w with
  | declares x => exact va_Nw.warmD hW hw
  | castable a b => exact va_Nw.warmC hW hw
  | methodLinkNest a i x b => exact va_Nw.warmM hW hw
  | _ => cases h
def hq_st (C n d : String) (U : State) (H : Heap) : Prop := ∃ (c : ClassId) (k : Class) (i : Nat) (f : Field) (a : Nat) (cell : Cell) (v : Value), U.vm.findClass C = some c ∧ U.fieldFound? C n d = some (c, k, i, f) ∧ f.isStatic = true ∧ k.statics = some a ∧ H[a]? = some cell ∧ cell.vm.isStatics = true ∧ cell.cls = c ∧ f.slot < cell.slots.size ∧ k.staticTypes[f.slot]? = some f.type ∧ cell.slots[f.slot]? = some v ∧ v.isRef = true
theorem hq_st.moved {C n d : String} {u U : State} {H : Heap} (hvm : u.vm.Alike U.vm) (h : hq_st C n d u H) : hq_st C n d U H := by
  obtain ⟨c, k, i, f, a, cell, v, h1, h2, h3, h4, h5, h6, h7, h8, h9, h10⟩ := h
  obtain ⟨k', hi', he⟩ := State.fieldFound?_setVm hvm h2
  exact ⟨c, k', i, f, a, cell, v, by rw [hvm.findClass]; exact h1, hi', h3, by rw [he]; exact h4, h5, h6, h7, h8, by rw [he]; exact h9, h10⟩
theorem hq_st.kept {C n d : String} {U : State} {H H1 : Heap} (h : hq_st C n d U H) (hq : ∀ (a : Nat) (cell : Cell), H[a]? = some cell → cell.vm.isStatics = true → H1[a]? = some cell) : hq_st C n d U H1 := by
  obtain ⟨c, k, i, f, a, cell, v, h1, h2, h3, h4, h5, h6, h7⟩ := h
  exact ⟨c, k, i, f, a, cell, v, h1, h2, h3, h4, hq a cell h5 h6, h6, h7⟩
theorem hq_st.lays {C n d : String} {s : State} {args : Array Value} (h : hq_st C n d s s.heap) : (Cond.laysStatic C n d).before args s = true := by
  obtain ⟨c, k, i, f, a, cell, v, h1, h2, h3, h4, h5, h6, h7, h8, h9, -⟩ := h
  exact Cond.laysStatic_of h1 h2 h3 h4 h5 h6 h7 h8 h9
theorem hq_st.ref {C n d : String} {s : State} {args : Array Value} (h : hq_st C n d s s.heap) : (Cond.isRef (.static C n d)).before args s = true := by
  obtain ⟨c, k, i, f, a, cell, v, h1, h2, h3, h4, h5, h6, h7, h8, h9, h10, h11⟩ := h
  have he : (Term.static C n d).eval args s none [] s = some v := by
    simp [Term.eval, State.fieldNamed?, h2, h3, h4, h5, h6, h10]
  simp only [Cond.before, Cond.holds, Cond.value, he]
  cases v <;> simp_all [Value.isRef]
theorem hq_st.of {C n d : String} {s : State} {args : Array Value} (hl : (Cond.laysStatic C n d).before args s = true) (h : (Cond.isRef (.static C n d)).before args s = true) : hq_st C n d s s.heap := by
  obtain ⟨c, k, i, f, a, cell, h1, h2, h3, h4, h5, h6, h7, h8, h9⟩ := Cond.laysStatic_spec hl
  cases hv : (Term.static C n d).eval args s none [] s with
  | none => simp [Cond.before, Cond.holds, Cond.value, hv] at h
  | some v =>
    obtain ⟨-, a', cell', ha', hc', -, hs'⟩ := Term.static_spec h2 hv
    cases h4.symm.trans ha'
    cases h5.symm.trans hc'
    refine ⟨c, k, i, f, a, cell, v, h1, h2, h3, h4, h5, h6, h7, h8, h9, hs', ?_⟩
    simp only [Cond.before, Cond.holds, Cond.value, hv] at h
    cases v <;> simp_all [Value.isRef]
/-- what a throw rests on -/
def hq_G (U : State) (H : Heap) : Prop := (∀ w ∈ tx0, va_Nw w U) ∧ hq_st Bundle.tN "UNASSIGNED_STACK" Bundle.steD U H ∧ hq_st Bundle.tN "SUPPRESSED_SENTINEL" Bundle.listD U H
theorem hq_G.warm {s U : State} {H : Heap} (hW : s.WarmedH U.vm) (h : hq_G s H) : hq_G U H := ⟨fun w hw => tx_warm (List.mem_filter.mp hw).2 hW (h.1 w hw), h.2.1.moved hW.alike, h.2.2.moved hW.alike⟩
theorem hq_G.same {u U : State} {H : Heap} (hv : u.vm = U.vm) (h : hq_G u H) : hq_G U H := ⟨fun w hw => va_Nw.same (tx_on (List.mem_filter.mp hw).2) hv (h.1 w hw), h.2.1.moved (by rw [hv]; exact Vm.Alike.refl _), h.2.2.moved (by rw [hv]; exact Vm.Alike.refl _)⟩
theorem hq_G.kept {U : State} {H H1 : Heap} (h : hq_G U H) (hq : ∀ (a : Nat) (cell : Cell), H[a]? = some cell → cell.vm.isStatics = true → H1[a]? = some cell) : hq_G U H1 := ⟨h.1, h.2.1.kept hq, h.2.2.kept hq⟩
/-- a world's cells are no statics -/
theorem hq_ns {D : va_G} {cl : List vw_C} {ws : va_W} {H : Heap} (hP : va_P D cl ws H) : ∀ q, va_A ws H.size q → ∀ cell, H[q]? = some cell → cell.vm.isStatics = false := by
  intro q hq cell hc
  rcases hq with ⟨k, e, hk⟩ | h
  · have h1 := hP k _ hk
    cases e with
    | inl a =>
      have h2 : H[q]? = some (vp_cell a.1 a.2) := h1
      cases hc.symm.trans h2
      obtain ⟨c, n, f | f | f | f | f⟩ := a <;> rfl
    | inr o =>
      obtain ⟨r, -, cell', g1, -, g3, -⟩ := h1
      cases hc.symm.trans g1
      rw [g3]; rfl
  · have := (Array.getElem?_eq_some_iff.mp hc).1
    omega
def hq_E : Nat → String
  | 1 => "java/lang/IllegalStateException"
  | _ => "java/lang/IllegalArgumentException"
def hq_thr (xc : Nat) (st : State) (oc : Outcome) (t : State) : Prop := ∃ (q : Nat) (ce : Cell), oc = .threw q ∧ t.heap[q]? = some ce ∧ ce.vm = .none ∧ st.vm.findClass (hq_E xc) = some ce.cls
def hq_FE (first t : State) (L : List Loc) (k n : Nat) : Prop := first.WarmedH t.vm ∧ first.sameButNew ({ t with vm := first.vm } : State) L k n
/-- a contract: it returns or throws -/
def hq_Met (l : Launch) (y : MethodName) (ws : List Cond) (rm : Room) (Pc : Array Value → State → Prop) (Qc : Array Value → State → Outcome → State → Prop) (mc ms : Nat) (free : Addr → Prop) : Prop :=
  MetFree l y (headSpec ws rm) Pc (fun _ _ _ _ _ => True) (fun a st o t => Qc a st o t ∧ ∃ L, hq_FE st t L mc ms ∧ ∀ q ∈ L, free q.base)
def hq_MQ (below : List Frame) (Qc : Array Value → State → Outcome → State → Prop) (a : Array Value) (s : State) (mc ms : Nat) (free : Addr → Prop) : State → Prop := fun t =>
  ∃ o, t.status = .running ∧ Ended t below o ∧ Qc a s o t ∧ ∃ L, hq_FE s t L mc ms ∧ ∀ q ∈ L, free q.base
abbrev hq_PcX (D : va_G) (cl : List vw_C) (tys : List (ClassId × FieldType)) (ws : va_W) (sz : Nat) (av : List Value) : Array Value → State → Prop := va_Pc av (fun U => U.heap.size = sz ∧ va_P D cl ws U.heap ∧ va_K D cl tys U ∧ va_D (fun _ => True) ws ∧ hq_G U U.heap)
abbrev hq_Qo (r : Int32) : Array Value → State → Outcome → State → Prop := fun _ st oc t => oc = .returned (some (.int r)) ∧ t.heap = st.heap
abbrev hq_Qr (xc : Nat) : Array Value → State → Outcome → State → Prop := fun _ st oc t => (xc = 0 ∧ oc = .returned none ∧ t.heap = st.heap) ∨ (xc ≠ 0 ∧ hq_thr xc st oc t ∧ st.heap.size ≤ t.heap.size ∧ ∀ z : Nat, z < st.heap.size → t.heap[z]? = st.heap[z]?)
abbrev hq_Qx (D : va_G) (cl : List vw_C) (tys : List (ClassId × FieldType)) (ws : va_W) (xc : Nat) (rv : Option Value) (A : Nat → Prop) : Array Value → State → Outcome → State → Prop := fun _ st oc t => ((xc = 0 ∧ oc = .returned rv) ∨ (xc ≠ 0 ∧ hq_thr xc st oc t)) ∧ (va_P D cl ws t.heap ∧ va_K D cl tys t ∧ va_D A ws) ∧ va_F A st t
theorem hq_blindX {D : va_G} {cl : List vw_C} {tys : List (ClassId × FieldType)} {ws : va_W} {sz : Nat} {av : List Value} : FrameBlind (hq_PcX D cl tys ws sz av) := fun a U g mk q => by
  obtain ⟨q0, q1, qP, qK, qD, qG⟩ := q
  exact ⟨q0, q1, qP, va_K.moved (u := U) (U := U.calling g mk a) (Vm.Alike.refl U.vm) qK, qD, qG.same (u := U) (U := U.calling g mk a) rfl⟩
theorem hq_preX {D : va_G} {cl : List vw_C} {tys : List (ClassId × FieldType)} {ws : va_W} {av : List Value} {s : State} {H : Heap} {A : Nat → Prop} (hP : va_P D cl ws H) (hK : va_K D cl tys s) (hD : va_D A ws) (hG : hq_G s H) : ∀ U : State, U.heap = H → s.WarmedH U.vm → hq_PcX D cl tys ws H.size av av.toArray U := fun U hU hW => ⟨rfl, by rw [hU], by rw [hU]; exact hP, va_K.moved hW.alike hK, hD.weaken (fun _ _ _ _ => trivial), by rw [hU]; exact hG.warm hW⟩
set_option maxHeartbeats 1000000 in
theorem hq_metX {l : Launch} (hfl : l.flags = pinnedFlags ++ [noTraceFlag]) {y : MethodName} {wsy ws' : List Cond} {rm : Room} {D : va_G} {cl : List vw_C} {tys : List (ClassId × FieldType)} {ws : va_W} {sz : Nat} {av : List Value} {Qc : (Nat → Prop) → Array Value → State → Outcome → State → Prop} {mc ms : Nat} {fr : (Nat → Prop) → Nat → Prop} {cc : ByteArray} {maxL : Nat} {ret : Option FieldType}
    (hy : plainName y.cls = true) (hw : wsy = Cond.code y cc maxL ret :: ws') (hav : (lg_sl av).length ≤ maxL)
    (body : ∀ (p : Program) (e : Env) (s : State) (m : MethodId) (args : Array Value) (below : List Frame) (meth : Method) (c : Code) (A : Nat → Prop) (ls : Array Slot),
      p.tables.exec = Jvm.exec → c.code = cc → meth.sig.returnType = ret → c.maxLocals = maxL → (∀ w ∈ wsy, w.before args s = true) → s.vm.findClass y.cls = some m.cls → meth.locks = false → meth.name = y.name →
      va_P D cl ws s.heap → va_D A ws → va_K D cl tys s → (∀ q : Nat, s.heap.size ≤ q → A q) → va_S A s.heap s.heap [] → lv_has ls maxL (lv_args 0 av) →
      e.platform.stackTraces = false → c.exceptionTable.toList = [] → hq_G s s.heap → (∀ q, A q → ∀ cell, s.heap[q]? = some cell → cell.vm.isStatics = false) →
      W p l e rm s m args below meth c s.heap [] 0 0 (hq_MQ below (Qc A) args s mc ms (fr A)) (F0 m 0 ls [])) :
    hq_Met l y wsy rm (hq_PcX D cl tys ws sz av) (Qc (va_A ws sz)) mc ms (fr (va_A ws sz)) := by
  refine MetFree.of_bodyS (code := cc) (maxLocals := maxL) (ret := ret) hy ?_ ?_
  · intro args s m h hn
    obtain ⟨meth, c, h1, h2, h3, h4, h5, h6, -, -⟩ := Cond.code_spec hn (atoms_spec (ws := wsy) h _ (by rw [hw]; exact List.mem_cons_self))
    exact ⟨meth, c, h1, h2, h3, h4, h5, h6⟩
  · intro p e s m args below meth c s₁ B hml hP0 _
    obtain ⟨rfl, hsz, hP, hK, hD0, hG⟩ := hP0
    subst hsz
    have hl := lv_entry av (n := maxL) hav
    have hh0 : s₁.heap = s.heap := by rw [B.state]; rfl
    have hts := atoms_spec (ws := wsy) B.pre
    have hex : c.exceptionTable.toList = [] := by
      have h9 := B.noHandlers (hts _ (by rw [hw]; exact List.mem_cons_self))
      simpa using h9
    have hw9 := body p e s m _ below meth c (va_A ws s.heap.size) _ B.exec B.bytes B.returns hml hts (findClass_of_methodNamed B.named) B.notSynchronized (name_of_methodNamed B.named B.method).1 hP hD0.self hK (fun q h => Or.inr h) va_S.rf hl (Launch.traces_off hfl (Stand.of_body B).admits) hex hG (hq_ns hP)
    rw [← lg_entry_eq] at hw9
    obtain ⟨t, a1, o, b1, b2, b3⟩ := hw9 s₁ hh0 (Stand.of_body B)
    exact ⟨t, o, a1, b1, b2, ⟨b3.1, b3.2⟩⟩
/-- the machine with an exception on its way, over the frame g -/
def hq_W (p : Program) (l : Launch) (e : Env) (R : Room) (s : State) (m : MethodId) (args : Array Value) (below : List Frame) (meth : Method) (c : Code) (H : Heap) (locs : List Loc) (cells slots : Nat) (Q : State → Prop) (g : JFrame) (q : Addr) : Prop :=
  ∀ T : State, T.heap = H → Stand p l e R s m args below meth c T locs cells slots → ∃ t, Steps p.tables e below ((T.setTop g).pushFrame (.throwing q)) t ∧ Q t
section HX
variable {p : Program} {l : Launch} {e : Env} {R : Room} {s : State} {m : MethodId} {args : Array Value} {below : List Frame} {meth : Method} {c : Code} {H : Heap} {locs : List Loc} {cells slots : Nat} {Q : State → Prop}
variable {cc : ByteArray} {pc : Nat} {ls : Array Slot} {rest : List Value} {D : va_G} {cl : List vw_C} {A : Nat → Prop} {a : Nat} {tys : List (ClassId × FieldType)} {ws : va_W} {H0 : Heap}
theorem hq_ofMQ {Qc : Array Value → State → Outcome → State → Prop} {free : Addr → Prop} {mc ms : Nat} {g : JFrame} (h : W p l e R s m args below meth c H locs cells slots (MQ below Qc args s mc ms free) g) : W p l e R s m args below meth c H locs cells slots (hq_MQ below Qc args s mc ms free) g := by
  intro T hT X
  obtain ⟨t, a1, o, b1, b2, b3, L, hF, hL⟩ := h T hT X
  exact ⟨t, a1, o, b1, b2, b3, L, ⟨hF.2.1, hF.2.2⟩, hL⟩
theorem hq_Gnow (hG : hq_G s s.heap) (hns : ∀ q, A q → ∀ cell, s.heap[q]? = some cell → cell.vm.isStatics = false) (hS : va_S A s.heap H locs) : hq_G s H := hG.kept fun a cell h1 h2 => by
  have hlt := (Array.getElem?_eq_some_iff.mp h1).1
  rw [hS.2.1 a hlt (fun q => by rw [hns a q cell h1] at h2; cases h2)]
  exact h1
theorem hq_leave {Qc : Array Value → State → Outcome → State → Prop} {free : Addr → Prop} {mc ms : Nat} {q : Addr} (hex : c.exceptionTable.toList = []) (hlocks : meth.locks = false) (hq : ∀ t : State, t.heap = H → s.WarmedH t.vm → Qc args s (.threw q) t) (hf : ∀ z ∈ locs, free z.base) (hc : cells ≤ mc) (hs : slots ≤ ms) :
    hq_W p l e R s m args below meth c H locs cells slots (hq_MQ below Qc args s mc ms free) (F0 m pc ls rest) q := by
  intro T hT X
  obtain ⟨st1, hrun, hend, hW, hsm⟩ := X.leaveThrown q (g := F0 m pc ls rest) rfl rfl rfl (by rw [hex]; intro x hx; cases hx) hlocks
  exact ⟨_, st1, .threw q, hrun, hend, hq _ hT hW, locs, ⟨hW, hsm.mono hc hs⟩, hf⟩
theorem hq_old {t : State} {k n : Nat} (h : s.sameButNew ({ t with vm := s.vm } : State) [] k n) : s.heap.size ≤ t.heap.size ∧ ∀ z : Nat, z < s.heap.size → t.heap[z]? = s.heap[z]? := by
  refine ⟨h.2.1, fun z hz => ?_⟩
  obtain ⟨cell, hc⟩ : ∃ cell, s.heap[z]? = some cell := ⟨s.heap[z], Array.getElem?_eq_getElem hz⟩
  obtain ⟨c', h1, h2, h3, h4⟩ := h.2.2.2.2.2 z cell hc
  have h1 : t.heap[z]? = some c' := h1
  rw [h1, hc]
  congr 1
  rw [h2]
  have : c'.slots = cell.slots := Array.ext_getElem? (fun i => h4 i (by intro q; cases q))
  rw [this]
set_option maxHeartbeats 1000000 in
/-- throw new E() where nothing was written yet -/
theorem hq_throw {Qc : Array Value → State → Outcome → State → Prop} {free : Addr → Prop} {mc ms : Nat} {own cls : String} {ik ic : Nat} (hx : p.tables.exec = Jvm.exec) (hb : c.code = cc) (htr : e.platform.stackTraces = false) (hex : c.exceptionTable.toList = []) (hlocks : meth.locks = false)
    (hown : s.vm.findClass own = some m.cls) (hcls : Bundle.fit cls = true) (hk : (Cond.classLink own ik cls).before args s = true) (hini : (Cond.initialized cls).before args s = true) (hat : ∀ w ∈ Bundle.ownAtoms0 own ic cls ["java/lang/RuntimeException", "java/lang/Exception"], w.before args s = true)
    (hsize : ls.size = c.maxLocals) (d0 : decode cc pc = .ok (.new ik, 3)) (d3 : decode cc (pc + 3) = .ok (.dup, 1)) (d4 : decode cc (pc + 4) = .ok (.invokespecial ic, 3)) (d7 : decode cc (pc + 7) = .ok (.athrow, 1))
    (hRf : 5 < R.frames) (hRl : 82 ≤ R.locals) (hRc : cells + 1 ≤ R.cells) (hRs : slots + 6 ≤ R.slots) (hc : cells + 1 ≤ mc) (hs : slots + 6 ≤ ms)
    (hq : ∀ (t : State) (q : Nat) (ce : Cell), s.WarmedH t.vm → s.heap.size ≤ t.heap.size → (∀ z : Nat, z < s.heap.size → t.heap[z]? = s.heap[z]?) → t.heap[q]? = some ce → ce.vm = .none → s.vm.findClass cls = some ce.cls → Qc args s (.threw q) t) :
    W p l e R s m args below meth c s.heap [] cells slots (hq_MQ below Qc args s mc ms free) (F0 m pc ls []) := by
  refine W.newc (n := 6) hx hb hown hk (hat _ (by simp [Bundle.ownAtoms0])) hini rfl d0 hRc hRs fun cC kC h1 h2 h3 h4 => ?_
  refine lv_dup hx hb d3 rfl ?_
  intro T hT X
  have hcell : T.heap[s.heap.size]? = some (freshCell cC kC) := by rw [hT]; exact Array.getElem?_push_size
  obtain ⟨U, st1, hrun, hend, hW, hsm, ce, hce, hoc⟩ := X.ctorThrow0 hx htr (own := own) (cls := cls) (names := ["java/lang/RuntimeException", "java/lang/Exception"]) (ic := ic) hown hcls (by decide) hat (fun x hx' => by cases hx') h1 h2 hcell (Nat.le_refl _)
    (g := F0 m (pc + 4) ls [.ref s.heap.size, .ref s.heap.size]) rfl hsize rfl rfl (rest := []) rfl (by rw [hb]; exact d4) (by rw [hb]; exact d7) (by rw [hex]; intro x hx'; cases hx') (by simpa using hRf) (by simp [JFrame.monitorRoom, Value.category]; omega) hlocks
  obtain ⟨g1, g2⟩ := hq_old hsm
  have hvm : ce.vm = .none := hoc.vm
  exact ⟨U, st1, .threw s.heap.size, hrun, hend, hq U _ ce hW g1 g2 hce hvm hoc.cls, [], ⟨hW, hsm.mono hc hs⟩, fun z hz => by cases hz⟩
end HX
section HI
variable {p : Program} {l : Launch} {e : Env} {R : Room} {s : State} {m : MethodId} {args : Array Value} {below : List Frame} {meth : Method} {c : Code} {H : Heap} {locs : List Loc} {cells slots : Nat} {Q : State → Prop}
variable {y : MethodName} {bytes cc : ByteArray} {maxL nL mc ms n index : Nat} {ret : Option FieldType} {wsy : List Cond} {rm : Room} {Pc : Array Value → State → Prop} {Qc : Array Value → State → Outcome → State → Prop} {free : Addr → Prop} {Ts : List Cond} {own C : String} {b : Addr} {As rest : List Value} {g : JFrame}
theorem hq_inv (hM : hq_Met l y wsy rm Pc Qc mc ms free) (hbl : FrameBlind Pc) (hrc : rm.cells = mc) (hrs : rm.slots = ms) (hfr : rm.frames + 1 ≤ R.frames) (hlo : 8 + (maxL + 11) + rm.locals ≤ R.locals) (hws : ∀ w ∈ wsy, ∀ (a' : Array Value) (U : State), s.WarmedH U.vm → w.before a' U = true) (hcw : Cond.code y bytes maxL ret ∈ wsy) (hini : ∀ (a' : Array Value) (U : State), s.WarmedH U.vm → (Cond.initialized y.cls).before a' U = true)
    {T : State} (X : Stand p l e R s m args below meth c T locs cells slots) (hg : g.method = m) (hsize : g.locals.size = c.maxLocals) {ig : Instr} (hdg : decode c.code g.pc = .ok (ig, 3)) (hW : 2 * g.monitorRoom + (g.stack.map fun v => v.category).sum ≤ 8) {mk : MethodId} (hn : T.methodNamed? y = some mk) (hcl : cells + mc ≤ R.cells ∧ slots + ms ≤ R.slots) {a : Array Value} (hPc : Pc a T) :
    ∃ (o : Outcome) (t T' : State) (L : List Loc), Stand p l e R s m args below meth c T' (locs ++ L) (cells + mc) (slots + ms) ∧ (∀ q ∈ L, free q.base) ∧ T'.heap = t.heap ∧ T'.vm = t.vm ∧ Qc a (T.calling g mk a) o t ∧
      ((∃ v, o = .returned v ∧ Steps p.tables e below (doInvoke e (T.setTop g) [] mk a).1 (T'.setTop { g with pc := g.pc + 3, stack := v.toList ++ g.stack })) ∨ (∃ x, o = .threw x ∧ Steps p.tables e below (doInvoke e (T.setTop g) [] mk a).1 ((T'.setTop g).pushFrame (.throwing x)))) := by
  subst hrc
  subst hrs
  have h1 : (allAtoms wsy).before a T = true := atoms_intro fun w hw => hws w hw _ _ X.warmed
  have h2 := hws _ hcw a T X.warmed
  obtain ⟨methY, cY, hmY, hcY, -, hlY, -, -, -, -⟩ := Cond.code_spec hn h2
  obtain ⟨kY, hkY, -⟩ := className_of_methodNamed hn
  have hinitY : kY.init = .initialized := Cond.initialized_spec (findClass_of_methodNamed hn) hkY (hini a T X.warmed)
  have h : At T g.method c below := by rw [hg]; exact X.here
  have happ : (headSpec wsy rm).appliesLoose y e.platform (T.calling g mk a) = true :=
    Spec.appliesLoose_calling (g := g) h hdg hn hkY hinitY (X.room_calling (g := g) (R' := rm) hsize hmY hcY hfr (by rw [hlY]; omega) hcl.1 hcl.2) h1
  obtain ⟨mid, hmid⟩ := h.above
  have hfr' : (T.setTop g).frames = (.java g :: mid) ++ below := by rw [State.frames_setTop' g h.top, hmid]; rfl
  obtain ⟨o, s₂, hsteps, -, hend, hq, L, hFE, hL⟩ := Steps.callFree hM p X.admits X.cas X.clock (acts := []) hfr' happ (hbl _ _ _ _ hPc) trivial
  rw [State.frames_setTop' g h.top, X.tail] at hend
  cases o with
  | returned v =>
    obtain ⟨T', X', -, -, ht⟩ := X.outOf hg hdg hend hFE.1 hFE.2
    exact ⟨.returned v, s₂, T', L, X', hL, by rw [ht]; rfl, by rw [ht]; rfl, hq, Or.inl ⟨v, rfl, by rw [← ht]; exact hsteps⟩⟩
  | threw x =>
    obtain ⟨T', X', -, -, ht⟩ := X.outOfThrown hg hend hFE.1 hFE.2
    exact ⟨.threw x, s₂, T', L, X', hL, by rw [ht]; rfl, by rw [ht]; rfl, hq, Or.inr ⟨x, rfl, by rw [← ht]; exact hsteps⟩⟩
def hq_Run (p : Program) (l : Launch) (e : Env) (R : Room) (s : State) (m : MethodId) (args : Array Value) (below : List Frame) (meth : Method) (c : Code) (H : Heap) (locs : List Loc) (cells slots mc ms : Nat) (g : JFrame) (rest : List Value) (Qa : State → Outcome → State → Prop) (free : Addr → Prop) : Prop :=
  ∀ T : State, T.heap = H → Stand p l e R s m args below meth c T locs cells slots → ∃ (o : Outcome) (st₀ t T' : State) (L : List Loc), st₀.heap = H ∧ s.vm.Alike st₀.vm ∧ Stand p l e R s m args below meth c T' (locs ++ L) (cells + mc) (slots + ms) ∧ (∀ q ∈ L, free q.base) ∧ T'.heap = t.heap ∧ T'.vm = t.vm ∧ Qa st₀ o t ∧
    ((∃ v, o = .returned v ∧ ∀ tg, Steps p.tables e below (T'.setTop { g with pc := g.pc + 3, stack := v.toList ++ rest }) tg → Steps p.tables e below (T.setTop g) tg) ∨ (∃ x, o = .threw x ∧ ∀ tg, Steps p.tables e below ((T'.setTop { g with stack := rest }).pushFrame (.throwing x)) tg → Steps p.tables e below (T.setTop g) tg))
theorem hq_iniW (hini : (Cond.initialized y.cls).before args s = true) : ∀ (a' : Array Value) (U : State), s.WarmedH U.vm → (Cond.initialized y.cls).before a' U = true := fun a' U hW => word_at hW (Or.inl (by first | rfl | simp [Cond.onTables, Cond.keeps, Cond.steady])) hini
theorem hq_runV (S : CallFix p m c cc nL s args Ts own) (hM : hq_Met l y wsy rm Pc Qc mc ms free) (cw : CallW R s args own C index y bytes maxL ret wsy rm mc ms n) (hp : PreV s H C b Pc As)
    (hg : g.method = m) (hn : As.length = n) (hsize : g.locals.size = nL) (hstack : g.stack = As.reverse ++ .ref b :: rest) (hW : 2 * g.monitorRoom + (rest.map fun v => v.category).sum ≤ 8) (hdg : decode cc g.pc = .ok (.invokevirtual index, 3)) (hf : cells + mc ≤ R.cells ∧ slots + ms ≤ R.slots) :
    hq_Run p l e R s m args below meth c H locs cells slots mc ms g rest (Qc (Value.ref b :: As).toArray) free := by
  obtain ⟨⟨hrc, hrs, hfr, hlo, hws, hcw, hcode, hini, hy, hlen, hl⟩, hin, hse⟩ := cw
  obtain ⟨hx, hb, hml, ho, -⟩ := S
  obtain ⟨hbl, ⟨cellB, hcB, hoB, hclB⟩, hPc⟩ := hp
  intro T hT X
  obtain ⟨mk, methM, hnamed, hmethM, hstM, habM⟩ := Cond.instanceMethod_spec hin
  obtain ⟨methM', cM, hmethM', -, -, -, -, -, -, hsigM⟩ := Cond.code_spec hnamed hcode
  cases hmethM.symm.trans hmethM'
  obtain ⟨c2, r2, m2, q1, q2, q3, q4, kP, hkP, hkPi⟩ := Cond.selects_spec hse
  cases hclB.symm.trans q1
  cases (State.methodFound?_of_named hnamed hy).symm.trans q2
  cases hnamed.symm.trans q3
  have hselP : selectMethod e.platform s.vm cellB.cls mk = .method mk := by rw [Launch.admits_selectMethod X.admits]; exact q4
  obtain ⟨vm₁, X₁, hstep₁⟩ := X.invokevirtual hx ho hl hnamed hmethM hstM hkP hkPi hy (a := b) (cell := cellB) (by rw [hT]; exact hcB)
    (fun z h => by rw [h] at hoB; cases hoB) hselP hmethM habM hkP hkPi (g := g) hg (argsL := As) (rest := rest) (hn.trans (hlen _ hsigM)) hstack (by rw [hb]; exact hdg)
  obtain ⟨o, t, T', L, X', hL, e1, e2, hq, hcase⟩ := hq_inv hM hbl hrc hrs hfr hlo hws hcw (hq_iniW hini) X₁ (g := { g with stack := rest }) hg (hsize.trans hml.symm) (by rw [hb]; exact hdg) hW (X₁.named hnamed) hf (hPc (T.setVm vm₁) hT X₁.warmed)
  refine ⟨o, (T.setVm vm₁).calling { g with stack := rest } mk (Value.ref b :: As).toArray, t, T', L, hT, X₁.warmed.alike, X', hL, e1, e2, hq, ?_⟩
  rcases hcase with ⟨v, hv, hs⟩ | ⟨x, hv, hs⟩
  · exact Or.inl ⟨v, hv, fun tg h => hstep₁ _ fun acts => by rw [doInvoke_state]; exact hs.trans h⟩
  · exact Or.inr ⟨x, hv, fun tg h => hstep₁ _ fun acts => by rw [doInvoke_state]; exact hs.trans h⟩
theorem hq_runS (S : CallFix p m c cc nL s args Ts own) (hM : hq_Met l y wsy rm Pc Qc mc ms free) (cw : CallB R s args own index y bytes maxL ret wsy rm mc ms n ∧ (Cond.static y).before args s = true) (hp : PreS s H Pc As)
    (hg : g.method = m) (hn : As.length = n) (hsize : g.locals.size = nL) (hstack : g.stack = As.reverse ++ rest) (hW : 2 * g.monitorRoom + (rest.map fun v => v.category).sum ≤ 8) (hdg : decode cc g.pc = .ok (.invokestatic index, 3)) (hf : cells + mc ≤ R.cells ∧ slots + ms ≤ R.slots) :
    hq_Run p l e R s m args below meth c H locs cells slots mc ms g rest (Qc As.toArray) free := by
  obtain ⟨⟨hrc, hrs, hfr, hlo, hws, hcw, hcode, hini, hy, hlen, hl⟩, hstt⟩ := cw
  obtain ⟨hx, hb, hml, ho, -⟩ := S
  intro T hT X
  obtain ⟨mk, hnamed⟩ := Cond.code_named hcode
  obtain ⟨methM, cM, hmethM, -, -, -, -, -, -, hsigM⟩ := Cond.code_spec hnamed hcode
  have hstatic : methM.isStatic = true := Cond.static_spec hnamed hmethM hstt
  obtain ⟨kP, hkP, -⟩ := className_of_methodNamed hnamed
  have hinitP : kP.init = .initialized := Cond.initialized_spec (findClass_of_methodNamed hnamed) hkP hini
  obtain ⟨vm₁, X₁, hstep₁⟩ := X.invokestatic hx ho hl hnamed hmethM hstatic hkP hinitP hy (g := g) hg (argsL := As) (rest := rest) (hn.trans (hlen _ hsigM)) hstack (by rw [hb]; exact hdg)
  obtain ⟨o, t, T', L, X', hL, e1, e2, hq, hcase⟩ := hq_inv hM hp.1 hrc hrs hfr hlo hws hcw (hq_iniW hini) X₁ (g := { g with stack := rest }) hg (hsize.trans hml.symm) (by rw [hb]; exact hdg) hW (X₁.named hnamed) hf (hp.2 (T.setVm vm₁) hT X₁.warmed)
  refine ⟨o, (T.setVm vm₁).calling { g with stack := rest } mk As.toArray, t, T', L, hT, X₁.warmed.alike, X', hL, e1, e2, hq, ?_⟩
  rcases hcase with ⟨v, hv, hs⟩ | ⟨x, hv, hs⟩
  · exact Or.inl ⟨v, hv, fun tg h => hstep₁ _ fun acts => by rw [doInvoke_state]; exact hs.trans h⟩
  · exact Or.inr ⟨x, hv, fun tg h => hstep₁ _ fun acts => by rw [doInvoke_state]; exact hs.trans h⟩
end HI
section HC
variable {p : Program} {l : Launch} {e : Env} {R : Room} {s : State} {m : MethodId} {args : Array Value} {below : List Frame} {meth : Method} {c : Code} {H : Heap} {locs : List Loc} {cells slots : Nat} {Q : State → Prop}
variable {cc : ByteArray} {pc : Nat} {ls : Array Slot} {rest : List Value} {D : va_G} {cl : List vw_C} {A : Nat → Prop} {a : Nat} {tys : List (ClassId × FieldType)} {ws : va_W} {H0 : Heap}
variable {y : MethodName} {bytes : ByteArray} {maxL nL n index mc ms : Nat} {ret : Option FieldType} {wsy : List Cond} {rm : Room} {Ts : List Cond} {own C : String} {b : Addr} {As st0 : List Value} {tyc : List (ClassId × FieldType)} {wc wc' ws' : va_W} {r : Int32} {xc : Nat} {Qc : Array Value → State → Outcome → State → Prop} {free : Addr → Prop}
theorem hq_rVX (S : CallFix p m c cc nL s args Ts own) (hM : hq_Met l y wsy rm (hq_PcX D cl tyc wc H.size (.ref b :: As)) Qc mc ms free) (cw : CallW R s args own C index y bytes maxL ret wsy rm mc ms n)
    (hP : va_P D cl ws H) (hD : va_D A ws) (hK : va_K D cl tys s) (hG : hq_G s H) (isT : List Nat) (hT : isT.filterMap (fun i => tys[i]?) = tyc)
    (q0 : Nat) {ci : Nat} {fs : List Value} {T : u_T} {N : Nat} (he : ws[q0]? = some (b, .inr (ci, fs))) (hc : cl[ci]? = some (C, T, N))
    (isC : List Nat) (hC : isC.map (fun i => ws[i]?) = wc.map some) (hCn : va_nd isC = true)
    (hnn : As.length = n) (hsz : ls.size = nL) (hst : st0 = As.reverse ++ .ref b :: rest) (hroom : (rest.map fun v => v.category).sum ≤ 8) (hdg : decode cc pc = .ok (.invokevirtual index, 3)) (hcs : cells + mc ≤ R.cells ∧ slots + ms ≤ R.slots) :
    hq_Run p l e R s m args below meth c H locs cells slots mc ms (F0 m pc ls st0) rest (Qc (Value.ref b :: As).toArray) free :=
  hq_runV (As := As) (rest := rest) S hM cw ⟨hq_blindX, va_recv hK hP hc he, hq_preX (hP.sub isC (hq_fm _ _ _ hC)) (hK.sub isT hT) (hD.sub isC hCn hC) hG⟩ rfl hnn hsz hst (lv_room hroom) hdg hcs
theorem hq_rSX (S : CallFix p m c cc nL s args Ts own) (hM : hq_Met l y wsy rm (hq_PcX D cl tyc wc H.size As) Qc mc ms free) (cw : CallB R s args own index y bytes maxL ret wsy rm mc ms n ∧ (Cond.static y).before args s = true)
    (hP : va_P D cl ws H) (hD : va_D A ws) (hK : va_K D cl tys s) (hG : hq_G s H) (isT : List Nat) (hT : isT.filterMap (fun i => tys[i]?) = tyc)
    (isC : List Nat) (hC : isC.map (fun i => ws[i]?) = wc.map some) (hCn : va_nd isC = true)
    (hnn : As.length = n) (hsz : ls.size = nL) (hst : st0 = As.reverse ++ rest) (hroom : (rest.map fun v => v.category).sum ≤ 8) (hdg : decode cc pc = .ok (.invokestatic index, 3)) (hcs : cells + mc ≤ R.cells ∧ slots + ms ≤ R.slots) :
    hq_Run p l e R s m args below meth c H locs cells slots mc ms (F0 m pc ls st0) rest (Qc As.toArray) free :=
  hq_runS (As := As) (rest := rest) S hM cw ⟨hq_blindX, hq_preX (hP.sub isC (hq_fm _ _ _ hC)) (hK.sub isT hT) (hD.sub isC hCn hC) hG⟩ rfl hnn hsz hst (lv_room hroom) hdg hcs
/-- a call that writes nothing, and may throw -/
theorem hq_cr {av : Array Value} (hr : hq_Run p l e R s m args below meth c H locs cells slots mc ms (F0 m pc ls st0) rest (hq_Qr xc av) (fun _ => False))
    (k0 : xc = 0 → W p l e R s m args below meth c H locs (cells + mc) (slots + ms) Q (F0 m (pc + 3) ls rest))
    (k1 : xc ≠ 0 → ∀ (q : Nat) (H1 : Heap) (ce : Cell), H1[q]? = some ce → ce.vm = .none → s.vm.findClass (hq_E xc) = some ce.cls → H.size ≤ H1.size → (∀ z : Nat, z < H.size → H1[z]? = H[z]?) → hq_W p l e R s m args below meth c H1 locs (cells + mc) (slots + ms) Q (F0 m pc ls rest) q) :
    W p l e R s m args below meth c H locs cells slots Q (F0 m pc ls st0) := by
  intro T hT X
  obtain ⟨o, st₀, t, T', L, h0, hal, X', hL, e1, e2, hq, hcase⟩ := hr T hT X
  have hL0 : L = [] := List.eq_nil_iff_forall_not_mem.mpr (fun q hq => hL q hq)
  subst hL0
  rw [List.append_nil] at X'
  rcases hq with ⟨hx0, ho, hh⟩ | ⟨hx0, ⟨q, ce, ho, g1, g2, g3⟩, g4, g5⟩
  · subst ho
    rcases hcase with ⟨v, hv, hs⟩ | ⟨x, hv, hs⟩
    · cases hv
      obtain ⟨tg, a1, b1⟩ := k0 hx0 T' (by rw [e1, hh, h0]) X'
      exact ⟨tg, hs tg a1, b1⟩
    · cases hv
  · subst ho
    rcases hcase with ⟨v, hv, hs⟩ | ⟨x, hv, hs⟩
    · cases hv
    · cases hv
      rw [h0] at g4 g5
      obtain ⟨tg, a1, b1⟩ := k1 hx0 q t.heap ce g1 g2 (by rw [← hal.findClass]; exact g3) g4 g5 T' e1 X'
      exact ⟨tg, hs tg a1, b1⟩
theorem hq_keepP {H1 : Heap} (hP : va_P D cl ws H) (h : ∀ z : Nat, z < H.size → H1[z]? = H[z]?) : va_P D cl ws H1 := hP.kept fun k q hk => h q.1 ((hP k q hk).lt)
theorem hq_keepS {H1 : Heap} (hS : va_S A H0 H locs) (hz : H.size ≤ H1.size) (h : ∀ z : Nat, z < H.size → H1[z]? = H[z]?) : va_S A H0 H1 locs := ⟨Nat.le_trans hS.1 hz, fun q h1 h2 => by rw [h q (Nat.lt_of_lt_of_le h1 hS.1)]; exact hS.2.1 q h1 h2, hS.2.2⟩
/-- a call over a world, that returns or throws -/
theorem hq_cx {av : Array Value} {rv : Option Value} (hr : hq_Run p l e R s m args below meth c H locs cells slots mc ms (F0 m pc ls st0) rest (hq_Qx D cl tyc wc' xc rv (va_A wc H.size) av) (va_A wc H.size)) (hP : va_P D cl ws H) (hD : va_D A ws) (hS : va_S A H0 H locs) (hA : ∀ q, H0.size ≤ q → A q)
    (isC isR isP : List Nat) (hC : isC.map (fun i => ws[i]?) = wc.map some) (hR : isR.map (fun i => ws[i]?) = (isR.filterMap (fun i => ws[i]?)).map some) (hn : va_nd isR = true) (hdis : ∀ i ∈ isR, i ∉ isC)
    (hPm : isP.map (fun i => (isR.filterMap (fun i => ws[i]?) ++ wc')[i]?) = ws'.map some) (hPn : va_nd isP = true)
    (k0 : xc = 0 → ∀ (H1 : Heap) (locs1 : List Loc), va_P D cl ws' H1 → va_D A ws' → va_S A H0 H1 locs1 → W p l e R s m args below meth c H1 locs1 (cells + mc) (slots + ms) Q (F0 m (pc + 3) ls (rv.toList ++ rest)))
    (k1 : xc ≠ 0 → ∀ (q : Nat) (H1 : Heap) (locs1 : List Loc) (ce : Cell), H1[q]? = some ce → ce.vm = .none → s.vm.findClass (hq_E xc) = some ce.cls → va_P D cl ws' H1 → va_D A ws' → va_S A H0 H1 locs1 → hq_W p l e R s m args below meth c H1 locs1 (cells + mc) (slots + ms) Q (F0 m pc ls rest) q) :
    W p l e R s m args below meth c H locs cells slots Q (F0 m pc ls st0) := by
  have hFc := va_free hD hS hA isC hC
  intro T hT X
  obtain ⟨o, st₀, t, T', L, h0, hal, X', hL, e1, e2, ⟨hq, hB, hz, hk⟩, hcase⟩ := hr T hT X
  rw [h0] at hz hk
  obtain ⟨hP2, hD2⟩ := hq_after hP hD hFc isC isR isP hC hR hn hdis hPm hPn rfl hk hB
  have hS2 : va_S A H0 t.heap (locs ++ L) := ⟨Nat.le_trans hS.1 hz, fun q h1 h2 => by rw [hk q (Nat.lt_of_lt_of_le h1 hS.1) (fun z => h2 (hFc q z))]; exact hS.2.1 q h1 h2, fun q hq => by
    rcases List.mem_append.mp hq with h | h
    · exact hS.2.2 q h
    · exact hFc _ (hL q h)⟩
  rcases hq with ⟨hx0, ho⟩ | ⟨hx0, q, ce, ho, g1, g2, g3⟩
  · subst ho
    rcases hcase with ⟨v, hv, hs⟩ | ⟨x, hv, hs⟩
    · cases hv
      obtain ⟨tg, a1, b1⟩ := k0 hx0 t.heap (locs ++ L) hP2 hD2 hS2 T' e1 X'
      exact ⟨tg, hs tg a1, b1⟩
    · cases hv
  · subst ho
    rcases hcase with ⟨v, hv, hs⟩ | ⟨x, hv, hs⟩
    · cases hv
    · cases hv
      obtain ⟨tg, a1, b1⟩ := k1 hx0 q t.heap (locs ++ L) ce g1 g2 (by rw [← hal.findClass]; exact g3) hP2 hD2 hS2 T' e1 X'
      exact ⟨tg, hs tg a1, b1⟩
/-- a call that only reads -/
theorem hq_co {av : Array Value} (hr : va_Run p l e R s m args below meth c H locs cells slots 0 0 (F0 m pc ls st0) rest (hq_Qo r av) (fun _ => False)) (kk : W p l e R s m args below meth c H locs cells slots Q (F0 m (pc + 3) ls (.int r :: rest))) : W p l e R s m args below meth c H locs cells slots Q (F0 m pc ls st0) := by
  intro T hT X
  obtain ⟨v, st₀, t, T', L, h0, X', hL, e1, e2, ⟨ho, hh⟩, st⟩ := hr T hT X
  have hL0 : L = [] := List.eq_nil_iff_forall_not_mem.mpr (fun q hq => hL q hq)
  subst hL0
  rw [List.append_nil] at X'
  cases ho
  obtain ⟨tg, a1, b1⟩ := kk T' (by rw [e1, hh, h0]) X'
  exact ⟨tg, st tg a1, b1⟩
theorem hq_oret {v : Int32} (hx : p.tables.exec = Jvm.exec) (hb : c.code = cc) (hr : meth.sig.returnType = some .int) (hlocks : meth.locks = false) (hdg : decode cc pc = .ok (.ireturn, 1)) : W p l e R s m args below meth c s.heap [] cells slots (MQ below (hq_Qo v) args s cells slots (fun _ => False)) (F0 m pc ls [.int v]) :=
  W.iret hx hb hr (fun t ht hW => ⟨rfl, ht⟩) (fun q hq => by cases hq) hdg hlocks
theorem hq_rret (hx : p.tables.exec = Jvm.exec) (hb : c.code = cc) (hr : meth.sig.returnType = none) (hlocks : meth.locks = false) (hc : cells ≤ mc) (hs : slots ≤ ms) (hdg : decode cc pc = .ok (.return_, 1)) : W p l e R s m args below meth c s.heap [] cells slots (hq_MQ below (hq_Qr 0) args s mc ms (fun _ => False)) (F0 m pc ls []) :=
  W.widen hc hs (hq_ofMQ (W.vret hx hb hr (fun t ht hW => Or.inl ⟨rfl, rfl, ht⟩) (fun q hq => by cases hq) hdg hlocks))
theorem hq_xvret (hx : p.tables.exec = Jvm.exec) (hb : c.code = cc) (hr : meth.sig.returnType = none) (hlocks : meth.locks = false) (hP : va_P D cl ws H) (hD : va_D A ws) (hK : va_K D cl tys s) (hS : va_S A s.heap H locs) (hc : cells ≤ mc) (hs : slots ≤ ms) (hdg : decode cc pc = .ok (.return_, 1)) : W p l e R s m args below meth c H locs cells slots (hq_MQ below (hq_Qx D cl tys ws 0 none A) args s mc ms A) (F0 m pc ls []) :=
  W.widen hc hs (hq_ofMQ (W.vret hx hb hr (fun t ht hW => ⟨Or.inl ⟨rfl, rfl⟩, ⟨by rw [ht]; exact hP, va_K.moved hW.alike hK, hD⟩, hS.F ht⟩) hS.2.2 hdg hlocks))
theorem hq_xiret {v : Int32} (hx : p.tables.exec = Jvm.exec) (hb : c.code = cc) (hr : meth.sig.returnType = some .int) (hlocks : meth.locks = false) (hP : va_P D cl ws H) (hD : va_D A ws) (hK : va_K D cl tys s) (hS : va_S A s.heap H locs) (hc : cells ≤ mc) (hs : slots ≤ ms) (hdg : decode cc pc = .ok (.ireturn, 1)) : W p l e R s m args below meth c H locs cells slots (hq_MQ below (hq_Qx D cl tys ws 0 (some (.int v)) A) args s mc ms A) (F0 m pc ls [.int v]) :=
  W.widen hc hs (hq_ofMQ (W.iret hx hb hr (fun t ht hW => ⟨Or.inl ⟨rfl, rfl⟩, ⟨by rw [ht]; exact hP, va_K.moved hW.alike hK, hD⟩, hS.F ht⟩) hS.2.2 hdg hlocks))
/-- an exception goes out of a method over a world -/
theorem hq_xout {rv : Option Value} {q : Nat} {ce : Cell} (hex : c.exceptionTable.toList = []) (hlocks : meth.locks = false) (h0 : xc ≠ 0) (g1 : H[q]? = some ce) (g2 : ce.vm = .none) (g3 : s.vm.findClass (hq_E xc) = some ce.cls) (hP : va_P D cl ws H) (hD : va_D A ws) (hK : va_K D cl tys s) (hS : va_S A s.heap H locs) (hc : cells ≤ mc) (hs : slots ≤ ms) : hq_W p l e R s m args below meth c H locs cells slots (hq_MQ below (hq_Qx D cl tys ws xc rv A) args s mc ms A) (F0 m pc ls rest) q :=
  hq_leave hex hlocks (fun t ht hW => ⟨Or.inr ⟨h0, q, ce, rfl, by rw [ht]; exact g1, g2, g3⟩, ⟨by rw [ht]; exact hP, va_K.moved hW.alike hK, hD⟩, hS.F ht⟩) hS.2.2 hc hs
end HC
set_option maxHeartbeats 1000000 in
theorem hq_metO {l : Launch} {y : MethodName} {wsy ws' : List Cond} {rm : Room} {D : va_G} {cl : List vw_C} {tys : List (ClassId × FieldType)} {ws : va_W} {sz : Nat} {av : List Value} {r : Int32} {cc : ByteArray} {maxL : Nat} {ret : Option FieldType}
    (hy : plainName y.cls = true) (hw : wsy = Cond.code y cc maxL ret :: ws') (hav : (lg_sl av).length ≤ maxL)
    (body : ∀ (p : Program) (e : Env) (s : State) (m : MethodId) (args : Array Value) (below : List Frame) (meth : Method) (c : Code) (ls : Array Slot),
      p.tables.exec = Jvm.exec → c.code = cc → meth.sig.returnType = ret → c.maxLocals = maxL → (∀ w ∈ wsy, w.before args s = true) → s.vm.findClass y.cls = some m.cls → meth.locks = false → meth.name = y.name →
      va_P D cl ws s.heap → va_D (fun _ => True) ws → va_K D cl tys s → lv_has ls maxL (lv_args 0 av) →
      W p l e rm s m args below meth c s.heap [] 0 0 (MQ below (hq_Qo r) args s 0 0 (fun _ => False)) (F0 m 0 ls [])) :
    Met l y wsy rm (hq_Pc D cl tys ws sz av) (hq_Qo r) 0 0 (fun _ => False) := by
  refine Met.ofW (cc := cc) (maxL := maxL) (ret := ret) hy hw ?_
  intro p e s m args below meth c s₁ B hml hv
  obtain ⟨rfl, hsz, hP, hK, hD0⟩ := hv
  subst hsz
  have hl := lv_entry av (n := maxL) hav
  rw [lg_entry_eq]
  exact body p e s m _ below meth c _ B.exec B.bytes B.returns hml (atoms_spec (ws := wsy) B.pre) (findClass_of_methodNamed B.named) B.notSynchronized (name_of_methodNamed B.named B.method).1 hP hD0 hK hl
theorem hq_rowP {D : va_G} {cl : List vw_C} {H : Heap} {X : va_W} {cI : ClassId} {qr : Nat → Nat} {M : Nat → Nat → Int32} {k n : Nat} {f : Nat → Int32} (hP : va_P D cl ((X ++ hq_rows cI qr M).set (n + k) (qr k, .inl (cI, 7, .inl f))) H) (hn : X.length = n) (hk : k < 7) : va_P D cl (X ++ hq_rows cI qr (va_up M k f)) H := by
  rw [hq_rowSet X cI qr M f hn hk] at hP
  exact hP
theorem hq_rowD {A : Nat → Prop} {X : va_W} {cI : ClassId} {qr : Nat → Nat} {M : Nat → Nat → Int32} {k n : Nat} {f : Nat → Int32} (hD : va_D A ((X ++ hq_rows cI qr M).set (n + k) (qr k, .inl (cI, 7, .inl f)))) (hn : X.length = n) (hk : k < 7) : va_D A (X ++ hq_rows cI qr (va_up M k f)) := by
  rw [hq_rowSet X cI qr M f hn hk] at hD
  exact hD
