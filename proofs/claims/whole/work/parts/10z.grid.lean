/-! 10z.grid: an array of arrays is made (multianewarray of two dimensions), out of the machine's own words; nothing of the library's wide part is used -/
/-- the outer array, when i of its N rows stand -/
def gr_o (c : ClassId) (N h i : Nat) : Cell := arrV c N (fun j => va_rf (if j < i then some (h + 1 + j) else none))
/-- a row -/
def gr_i (c : ClassId) (M : Nat) (dv : Value) : Cell := arrV c M (fun _ => dv)
/-- one turn of the loop: a row comes, the outer array points at it -/
def gr_t (c cy : ClassId) (N M : Nat) (dv : Value) (h : Nat) (u : State) (i : Nat) : State := (u.pushCell (gr_i cy M dv)).setCell h (gr_o c N h (i + 1))
def gr_f (s : State) (c cy : ClassId) (N M : Nat) (dv : Value) (i : Nat) : State := (List.range i).foldl (gr_t c cy N M dv s.heap.size) (s.pushCell (gr_o c N s.heap.size 0))
theorem gr_f0 (s : State) (c cy : ClassId) (N M : Nat) (dv : Value) : gr_f s c cy N M dv 0 = s.pushCell (gr_o c N s.heap.size 0) := rfl
theorem gr_fs (s : State) (c cy : ClassId) (N M : Nat) (dv : Value) (i : Nat) : gr_f s c cy N M dv (i + 1) = gr_t c cy N M dv s.heap.size (gr_f s c cy N M dv i) i := by
  unfold gr_f
  rw [List.range_succ, List.foldl_append]
  rfl
theorem gr_o0 (c : ClassId) (N h : Nat) : ({ cls := c, slots := Array.replicate N .null, vm := .none } : Cell) = gr_o c N h 0 := by
  rw [arrV_new]
  refine congrArg (arrV c N) (funext fun j => ?_)
  rw [if_neg (Nat.not_lt_zero j)]
  rfl
theorem gr_os (c : ClassId) (N h i : Nat) : (gr_o c N h i).setSlot i (.ref (h + 1 + i)) = gr_o c N h (i + 1) := by
  unfold gr_o
  rw [arrV_store]
  refine congrArg (arrV c N) (funext fun j => ?_)
  rcases Nat.lt_trichotomy j i with q | q | q
  · simp [updV, Nat.ne_of_lt q, q, Nat.lt_succ_of_lt q]
  · subst q
    simp [updV, va_rf]
  · simp [updV, Nat.ne_of_gt q, Nat.not_lt_of_lt q, show ¬ j < i + 1 by omega]
/-- all that is known of the state when i rows stand -/
def gr_K (s u : State) (c cy : ClassId) (N M : Nat) (dv : Value) (i : Nat) : Prop := u.heap.size = s.heap.size + 1 + i ∧ u.heap[s.heap.size]? = some (gr_o c N s.heap.size i) ∧ (∀ x : Nat, x < s.heap.size → u.heap[x]? = s.heap[x]?) ∧ (∀ j : Nat, j < i → u.heap[s.heap.size + 1 + j]? = some (gr_i cy M dv)) ∧ u.vm = s.vm ∧ u.slotsUsed = s.slotsUsed + N + i * M
theorem gr_K0 (s : State) (c cy : ClassId) (N M : Nat) (dv : Value) : gr_K s (gr_f s c cy N M dv 0) c cy N M dv 0 := by
  rw [gr_f0]
  refine ⟨?_, ?_, fun x hx => ?_, fun j hj => absurd hj (Nat.not_lt_zero j), rfl, ?_⟩
  · rw [State.heap_pushCell, Array.size_push]
  · rw [State.heap_pushCell, Array.getElem?_push, if_pos rfl]
  · rw [State.heap_pushCell, Array.getElem?_push, if_neg (by omega)]
  · rw [State.slotsUsed_pushCell, Nat.zero_mul]
    exact congrArg (s.slotsUsed + ·) (arrV_size _ _ _)
theorem gr_Kt {s u : State} {c cy : ClassId} {N M : Nat} {dv : Value} {i : Nat} (h : gr_K s u c cy N M dv i) : gr_K s (gr_t c cy N M dv s.heap.size u i) c cy N M dv (i + 1) := by
  obtain ⟨a1, a2, a3, a4, a5, a6⟩ := h
  have e : ∀ x : Nat, x ≠ s.heap.size → (gr_t c cy N M dv s.heap.size u i).heap[x]? = if x = s.heap.size + 1 + i then some (gr_i cy M dv) else u.heap[x]? := fun x hx => by
    unfold gr_t
    rw [State.heap_setCell, State.heap_pushCell, Array.getElem?_setIfInBounds, if_neg (fun q => hx q.symm), Array.getElem?_push, a1]
  refine ⟨?_, ?_, fun x hx => ?_, fun j hj => ?_, a5, ?_⟩
  · unfold gr_t
    rw [State.heap_setCell, State.heap_pushCell, Array.size_setIfInBounds, Array.size_push, a1]
    omega
  · unfold gr_t
    rw [State.heap_setCell, State.heap_pushCell, Array.getElem?_setIfInBounds, if_pos rfl, Array.size_push, a1, if_pos (by omega)]
  · rw [e x (by omega), if_neg (by omega)]
    exact a3 x hx
  · rw [e _ (by omega)]
    by_cases q : j = i
    · rw [q, if_pos rfl]
    · rw [if_neg (by omega)]
      exact a4 j (by omega)
  · unfold gr_t
    rw [State.slotsUsed_setCell, State.slotsUsed_pushCell, a6, Nat.succ_mul]
    have : (gr_i cy M dv).slots.size = M := arrV_size _ _ _
    omega
theorem gr_Kf (s : State) (c cy : ClassId) (N M : Nat) (dv : Value) (i : Nat) : gr_K s (gr_f s c cy N M dv i) c cy N M dv i := by
  induction i with
  | zero => exact gr_K0 s c cy N M dv
  | succ i ih => rw [gr_fs]; exact gr_Kt ih
theorem gr_top (s : State) (g : JFrame) (c cy : ClassId) (N M : Nat) (dv : Value) (i : Nat) : gr_f (s.setTop g) c cy N M dv i = (gr_f s c cy N M dv i).setTop g := by
  induction i with
  | zero => rfl
  | succ i ih => rw [gr_fs, gr_fs, ih]; rfl
section GRS
variable {p : Program} {l : Launch} {e : Env} {R : Room} {s : State} {m : MethodId} {args : Array Value} {below : List Frame} {meth : Method} {c : Code} {T : State} {locs : List Loc} {cells slots : Nat}
theorem gr_stand (X : Stand p l e R s m args below meth c T locs cells slots) (cA cy : ClassId) (N M : Nat) (dv : Value) (i : Nat) : Stand p l e R s m args below meth c (gr_f T cA cy N M dv i) locs (cells + 1 + i) (slots + N + i * M) := by
  induction i with
  | zero =>
    have h := X.pushed (gr_o cA N T.heap.size 0)
    rw [show (gr_o cA N T.heap.size 0).slots.size = N from arrV_size _ _ _] at h
    rw [Nat.zero_mul]
    exact h
  | succ i ih =>
    have hK := gr_Kf T cA cy N M dv i
    have h1 := ih.pushed (gr_i cy M dv)
    have hc : ((gr_f T cA cy N M dv i).pushCell (gr_i cy M dv)).heap[T.heap.size]? = some (gr_o cA N T.heap.size i) := by
      rw [State.heap_pushCell, Array.getElem?_push, if_neg (by rw [hK.1]; omega)]
      exact hK.2.1
    have h2 := (h1.stored hc i (.ref (T.heap.size + 1 + i))).dropFresh (fun x hx => by
      rw [List.mem_singleton] at hx
      rw [hx]
      exact X.heapGrown)
    rw [gr_os, show (gr_i cy M dv).slots.size = M from arrV_size _ _ _] at h2
    rw [gr_fs, Nat.succ_mul, ← Nat.add_assoc, ← Nat.add_assoc]
    exact h2
end GRS
section GRW
variable {E : CtlPost} {e : Env} {s : State}
/-- the loop, when each turn is known -/
theorem gr_loop {c cy : ClassId} {N M : Nat} {dv : Value} {f : Nat → PUnit → Sem (ForInStep PUnit)} (hf : ∀ (i : Nat) (d : Bool) (acts : List Action) (Q : ForInStep PUnit → Pre), i < N → (∀ d' acts', Q (ForInStep.yield PUnit.unit) d' acts' (gr_f s c cy N M dv (i + 1))) → wp (f i PUnit.unit) Q E e d acts (gr_f s c cy N M dv i)) {Q : PUnit → Pre} (hq : ∀ d' acts', Q PUnit.unit d' acts' (gr_f s c cy N M dv N)) : ∀ (k i : Nat) (d : Bool) (acts : List Action), i + k = N → wp (forIn (List.range' i k) PUnit.unit f) Q E e d acts (gr_f s c cy N M dv i) := by
  intro k
  induction k with
  | zero =>
    intro i d acts h
    obtain rfl : i = N := by omega
    rw [List.range'_zero, List.forIn_nil, wp_pure']
    exact hq d acts
  | succ k ih =>
    intro i d acts h
    rw [List.range'_succ, List.forIn_cons, wp_bind']
    exact hf i d acts _ (by omega) (fun d' acts' => ih (i + 1) d' acts' (by omega))
/-- one row: the innermost dimension -/
theorem gr_row {cy cc : ClassId} {kc : Class} {ty : FieldType} {m : Int32} {d : Bool} {acts : List Action} {Q : Addr → Pre} (hk : s.vm.classes[cy]? = some kc) (hkind : kc.kind = .array cc ty) (hm : ¬ m < 0) (h1 : ¬ m.toNatClampNeg > e.platform.arrayLengthLimit) (h2 : ¬ m.toNatClampNeg * componentBytes ty > e.platform.maxHeapBytes) (hdf : fits ty (defaultValue ty) = true) (h3 : s.heap.size < e.platform.maxCells) (h4 : s.slotsUsed + m.toNatClampNeg ≤ e.platform.maxSlots) (hq : ∀ acts', Q s.heap.size d acts' (s.pushCell (gr_i cy m.toNatClampNeg (defaultValue ty)))) : wp (multianewarray.make cy [m]) Q E e d acts s := by
  unfold multianewarray.make
  simp only [wp_bind', W.ite, hm, if_false, wp_pure', W.theClass, hk, hkind, Option.some.injEq, exists_eq_left']
  refine W.newArray_of hk hkind h1 h2 h3 h4 hdf (fun acts' => ?_)
  have e9 : ({ cls := cy, slots := Array.replicate m.toNatClampNeg (defaultValue ty) } : Cell) = gr_i cy m.toNatClampNeg (defaultValue ty) := arrV_new _ _ _
  rw [e9]
  exact hq acts'
/-- both dimensions -/
theorem gr_make {c cy cc : ClassId} {ka kc : Class} {ty : FieldType} {n m : Int32} {d : Bool} {acts : List Action} {Q : Addr → Pre} (hka : s.vm.classes[c]? = some ka) (hkinda : ka.kind = .array cy (.array ty)) (hkc : s.vm.classes[cy]? = some kc) (hkindc : kc.kind = .array cc ty) (hn : ¬ n < 0) (hm : ¬ m < 0) (a1 : ¬ n.toNatClampNeg > e.platform.arrayLengthLimit) (a2 : ¬ n.toNatClampNeg * componentBytes (.array ty) > e.platform.maxHeapBytes) (b1 : ¬ m.toNatClampNeg > e.platform.arrayLengthLimit) (b2 : ¬ m.toNatClampNeg * componentBytes ty > e.platform.maxHeapBytes) (hdf : fits ty (defaultValue ty) = true) (r1 : s.heap.size + (1 + n.toNatClampNeg) ≤ e.platform.maxCells) (r2 : s.slotsUsed + (n.toNatClampNeg + n.toNatClampNeg * m.toNatClampNeg) ≤ e.platform.maxSlots)
    (hq : ∀ d' acts', Q s.heap.size d' acts' (gr_f s c cy n.toNatClampNeg m.toNatClampNeg (defaultValue ty) n.toNatClampNeg)) : wp (multianewarray.make c [n, m]) Q E e d acts s := by
  unfold multianewarray.make
  simp only [wp_bind', W.ite, hn, if_false, wp_pure', W.theClass, hka, hkinda, Option.some.injEq, exists_eq_left']
  refine W.newArray_of hka hkinda a1 a2 (by omega) (by omega) rfl (fun acts' => ?_)
  have e9 : ({ cls := c, slots := Array.replicate n.toNatClampNeg .null } : Cell) = gr_o c n.toNatClampNeg s.heap.size 0 := gr_o0 _ _ _
  have e8 : [m].find? (fun x => decide (x < 0)) = none := by simp [hm]
  rw [e9]
  simp only [e8, ite_self]
  rw [wp_bind', Std.Legacy.Range.forIn_eq_forIn_range', show ([:n.toNatClampNeg] : Std.Legacy.Range).size = n.toNatClampNeg by simp [Std.Legacy.Range.size]]
  refine gr_loop (s := s) (c := c) (cy := cy) (N := n.toNatClampNeg) (M := m.toNatClampNeg) (dv := defaultValue ty) (fun i d2 acts2 Q2 hi h2 => ?_) (fun d2 acts2 => ?_) n.toNatClampNeg 0 d acts' (Nat.zero_add _)
  · obtain ⟨k1, k2, k3, k4, k5, k6⟩ := gr_Kf s c cy n.toNatClampNeg m.toNatClampNeg (defaultValue ty) i
    have hmul : i * m.toNatClampNeg + m.toNatClampNeg ≤ n.toNatClampNeg * m.toNatClampNeg := by
      rw [← Nat.succ_mul]
      exact Nat.mul_le_mul_right _ hi
    simp only [wp_bind']
    refine gr_row (by rw [k5]; exact hkc) hkindc hm b1 b2 hdf (by omega) (by omega) (fun acts3 => ?_)
    simp only [wp_bind', W.writeLoc, wp_pure']
    refine ⟨gr_o c n.toNatClampNeg s.heap.size i, ?_, (fun q => by cases q), ?_, ?_, ?_⟩
    · rw [State.heap_pushCell, Array.getElem?_push, if_neg (by omega)]
      exact k2
    · rw [show (gr_o c n.toNatClampNeg s.heap.size i).slots.size = n.toNatClampNeg from arrV_size _ _ _]
      exact hi
    · show State.fitsSlot _ c .none i _ = true
      unfold State.fitsSlot State.slotType?
      simp [State.vm_pushCell, k5, hka, hkinda, fits]
    · rw [k1, gr_os]
      have := h2
      rw [gr_fs] at this
      exact this _ _
  · simp only [wp_pure']
    exact hq _ _
end GRW
section GRM
variable {p : Program} {l : Launch} {e : Env} {R : Room} {s : State} {m : MethodId} {args : Array Value} {below : List Frame} {meth : Method} {c : Code} {T : State} {locs : List Loc} {cells slots : Nat}
/-- the instruction: the walk stands where both dimensions are made -/
theorem gr_step (X : Stand p l e R s m args below meth c T locs cells slots) (hexec : p.tables.exec = Jvm.exec) {own : String} {index : Nat} {ty : FieldType} {cy : ClassId} (hown : s.vm.findClass own = some m.cls) (hclink : (Cond.classLink own index ("[" ++ (FieldType.array ty).toString)).before args s = true) (hover : (Cond.arrayOver (.array ty)).before args s = true) (harr : (Cond.arrayClass ty).before args s = true) (hcy : s.vm.findClass (FieldType.array ty).toString = some cy)
    {g : JFrame} (hg : g.method = m) (hdg : decode c.code g.pc = .ok (.multianewarray index 2, 4)) {n k : Int32} {rest : List Value} (hst : g.stack = .int k :: .int n :: rest) (hn : ¬ n < 0) (hk : ¬ k < 0) (hb1 : n.toNatClampNeg * 4 ≤ 536870912) (hb2 : k.toNatClampNeg * componentBytes ty ≤ 536870912) (hb3 : k.toNatClampNeg ≤ 536870912) (hdf : fits ty (defaultValue ty) = true) (hcells : cells + (1 + n.toNatClampNeg) ≤ R.cells) (hslots : slots + (n.toNatClampNeg + n.toNatClampNeg * k.toNatClampNeg) ≤ R.slots) :
    ∃ (vm1 : Vm) (cA : ClassId), s.vm.findClass ("[" ++ (FieldType.array ty).toString) = some cA ∧ ArrOfT s cA (.array ty) ∧ Stand p l e R s m args below meth c (gr_f (T.setVm vm1) cA cy n.toNatClampNeg k.toNatClampNeg (defaultValue ty) n.toNatClampNeg) locs (cells + 1 + n.toNatClampNeg) (slots + n.toNatClampNeg + n.toNatClampNeg * k.toNatClampNeg) ∧
      ∀ target, Steps p.tables e below ((gr_f (T.setVm vm1) cA cy n.toNatClampNeg k.toNatClampNeg (defaultValue ty) n.toNatClampNeg).setTop { g with pc := g.pc + 4, stack := .ref T.heap.size :: rest }) target → Steps p.tables e below (T.setTop g) target := by
  subst hg
  obtain ⟨c1, cA, ka, f1, -, f2, f3, f4⟩ := arrayOverA_spec hover
  cases hcy.symm.trans f1
  obtain ⟨c2, kc, cc, g1, g2, g3⟩ := Cond.arrayClass_spec harr
  cases hcy.symm.trans g1
  obtain ⟨c3, i1, i2⟩ := Cond.classLink_spec hown hclink e.platform (by rw [X.admits.platform])
  cases f4.symm.trans i1
  obtain ⟨j1, j2, -⟩ := State.classEntry (e := e) X.warmed i2
  generalize T.vm.noted g.method.cls index (.cls cA) = vm1 at j1 j2
  obtain ⟨ka1, ha1, ha2⟩ := j2.alike.2.2 _ _ f2
  obtain ⟨kc1, hc1, hc2⟩ := j2.alike.2.2 _ _ g2
  have XF := gr_stand (X.noted j2) cA cy n.toNatClampNeg k.toNatClampNeg (defaultValue ty) n.toNatClampNeg
  obtain ⟨r1, r2⟩ := X.roomAbove hcells hslots
  refine ⟨vm1, cA, f4, fun N9 z9 => ⟨(fun q hq => by cases hq), ka, f2, cy, f3⟩, XF, fun target hr => ?_⟩
  have l1 := Launch.admits_arrayLengthLimit X.admits
  have l2 := Launch.admits_maxHeapBytes X.admits
  jvm_step X.here [hexec, hdg]
  simp only [multianewarray.sem, wp_bind', W.resolveClassAt_links (State.method?_setTop g X.here.top) j1]
  rw [W.popN, if_neg (by decide)]
  refine ⟨g, State.topJava?_setTop' (s := T.setVm vm1) g X.here.top, [.int n, .int k], rest, rfl, hst, ?_⟩
  simp only [List.mapM_cons, List.mapM_nil, wp_bind', wp_pure']
  refine gr_make (ka := ka1) (kc := kc1) (cc := cc) ha1 (by rw [ha2]; exact f3) hc1 (by rw [hc2]; exact g3) hn hk (by rw [l1]; omega) (by rw [l2]; show ¬ n.toNatClampNeg * 4 > 536870912; omega) (by rw [l1]; omega) (by rw [l2]; omega) hdf r1 r2 (fun d9 acts9 => ?_)
  rw [show ((T.setTop g).setVm vm1).setTop { g with stack := rest } = (T.setVm vm1).setTop { g with stack := rest } from State.setTop_setTop (T.setVm vm1) g _, gr_top]
  simp only [wp_bind', W.mark, W.pushRef, State.topJava?_setTop' _ XF.here.top, Option.some.injEq, exists_eq_left', State.setTop_setTop, State.heap_setTop]
  intro acts8
  simp [jvm, XF.here.top]
  exact hr
end GRM
