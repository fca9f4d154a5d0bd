/-! THE BASE: pure words in continuation form; contracts; rows that walk them -/
def ivi (i : Int32) (n : Nat) : Bool := !(decide (i < 0) || decide (n ≤ i.toNatClampNeg))
theorem ivi_in {i : Int32} {n : Nat} (h : ivi i n = true) : vp_in i n := by
  intro q
  unfold ivi at h
  rcases q with q | q <;> simp [q] at h
def isZ (v : Int32) : Bool := decide (v = 0) || decide (v = 1)
theorem isZ_or {v : Int32} (h : isZ v = true) : v = 0 ∨ v = 1 := by simpa [isZ] using h
theorem isZ_n {v : Int32} (h : isZ v = true) : narrow .boolean (.int v) = .int v := by
  rcases isZ_or h with rfl | rfl <;> decide +kernel
theorem isZ_f {v : Int32} (h : isZ v = true) : fits .boolean (.int v) = true := by
  rcases isZ_or h with rfl | rfl <;> decide +kernel
theorem isZ_p {v : Int32} (h : isZ v = true) : vp_nar .boolean v = v := by
  rcases isZ_or h with rfl | rfl <;> decide +kernel
/-- goes on only where b holds -/
def ck {α : Type} (b : Bool) (k : Option α) : Option α := match b with
  | true => k
  | false => none
theorem ck_l {α : Type} {b : Bool} {k : Option α} {r : α} (h : ck b k = some r) : b = true := by
  cases b
  · cases h
  · rfl
theorem ck_r {α : Type} {b : Bool} {k : Option α} {r : α} (h : ck b k = some r) : k = some r := by
  cases b
  · cases h
  · exact h
theorem it_t {α : Type} {c : Prop} [Decidable c] {a b : Option α} {r : α} (hc : c) (h : (if c then a else b) = some r) : a = some r := by
  rw [if_pos hc] at h; exact h
theorem it_f {α : Type} {c : Prop} [Decidable c] {a b : Option α} {r : α} (hc : ¬ c) (h : (if c then a else b) = some r) : b = some r := by
  rw [if_neg hc] at h; exact h
theorem it_v {α : Type} {c : Prop} [Decidable c] {a b : Option α} {r : α} (hc : ¬ ¬ c) (h : (if c then a else b) = some r) : a = some r := it_t (Classical.not_not.mp hc) h
theorem no_n {α : Type} {r : α} {P : Prop} (h : (none : Option α) = some r) : P := by cases h
theorem dz_n {y : Int32} (h : (!decide (y = 0)) = true) : ¬ y = 0 := by simpa using h
abbrev tysG (cI cZ cQ cW : ClassId) : List (ClassId × FieldType) := [(cI, .int), (cZ, .boolean), (cQ, .object "SmashedHours$Affairs"), (cW, .array .int)]
/-- the links to nest mates -/
def NW (U : State) : Prop := ∀ w ∈ nestG, va_Nw w U
theorem NW.warm {s U : State} (hW : s.WarmedH U.vm) (h : NW s) : NW U := by
  intro w hw
  have h1 := h w hw
  simp only [nestG, List.mem_cons, List.not_mem_nil, or_false] at hw
  rcases hw with rfl | rfl | rfl | rfl | rfl | rfl | rfl | rfl | rfl | rfl | rfl <;> exact va_Nw.warmM hW h1
theorem NW.same {s U : State} (hW : s.vm = U.vm) (h : NW s) : NW U := by
  intro w hw
  have h1 := h w hw
  simp only [nestG, List.mem_cons, List.not_mem_nil, or_false] at hw
  rcases hw with rfl | rfl | rfl | rfl | rfl | rfl | rfl | rfl | rfl | rfl | rfl <;> exact va_Nw.same rfl hW h1
def Kx (D : va_G) (tys : List (ClassId × FieldType)) (U : State) : Prop := va_K D vwCl tys U ∧ NW U
theorem Kx.warm {D : va_G} {tys : List (ClassId × FieldType)} {s U : State} (hW : s.WarmedH U.vm) (h : Kx D tys s) : Kx D tys U := ⟨va_K.moved hW.alike h.1, h.2.warm hW⟩
theorem Kx.same {D : va_G} {tys : List (ClassId × FieldType)} {s U : State} (hW : s.vm = U.vm) (h : Kx D tys s) : Kx D tys U := ⟨va_K.moved (by rw [hW]; exact Vm.Alike.refl _) h.1, h.2.same hW⟩
def PD (D : va_G) (A : Nat → Prop) (ws : va_W) (H : Heap) : Prop := va_P D vwCl ws H ∧ va_D A ws
/-- an int array outside of the world, of 6 places at least -/
abbrev OE (t : Nat) (f : Nat → Int32) : (Nat → Prop) → State → Prop := fun A U => va_T .int t 6 (fun i => .int (f i)) A U U.heap
abbrev E0 : (Nat → Prop) → State → Prop := fun _ _ => True
/-- the static row OWN, and the array that it names -/
abbrev ES (t : Nat) (f : Nat → Int32) : (Nat → Prop) → State → Prop := fun A U => va_Z RX7 "OWN" "[I" (.ref t) A U U.heap ∧ OE t f A U
def Estab (E : (Nat → Prop) → State → Prop) : Prop := ∀ (A : Nat → Prop) (u U : State), u.vm.Alike U.vm → u.heap = U.heap → E A u → E A U
theorem E0_st : Estab E0 := fun _ _ _ _ _ h => h
theorem OE_st (t : Nat) (f : Nat → Int32) : Estab (OE t f) := fun A u U h1 h2 h => by
  show va_T _ _ _ _ _ U U.heap
  rw [← h2]
  exact va_T.moved h1 h
theorem ES_st (t : Nat) (f : Nat → Int32) : Estab (ES t f) := fun A u U h1 h2 h => ⟨by
  rw [← h2]
  exact va_Z.moved h1 h.1, OE_st t f A u U h1 h2 h.2⟩
abbrev WS (y : MethodName) (cc : ByteArray) (n : Nat) (ret : Option FieldType) : List Cond := Cond.code y cc n ret :: gw
abbrev PreC (D : va_G) (tys : List (ClassId × FieldType)) (E : (Nat → Prop) → State → Prop) (av : List Value) (w0 : va_W) (sz : Nat) : Array Value → State → Prop := va_Pc av (fun U => U.heap.size = sz ∧ va_P D vwCl w0 U.heap ∧ Kx D tys U ∧ va_D (fun _ => True) w0 ∧ E (va_A w0 sz) U)
theorem PreC.blind {D : va_G} {tys : List (ClassId × FieldType)} {E : (Nat → Prop) → State → Prop} (hE : Estab E) {av : List Value} {w0 : va_W} {sz : Nat} : FrameBlind (PreC D tys E av w0 sz) := by
  intro a U g mk q
  obtain ⟨q0, q1, qP, qK, qD, qE⟩ := q
  exact ⟨q0, q1, qP, Kx.same (s := U) (U := U.calling g mk a) rfl qK, qD, hE _ U (U.calling g mk a) (Vm.Alike.refl _) rfl qE⟩
/-- a contract of a method that makes no cell: an int, nothing, a long -/
def Ci (l : Launch) (y : MethodName) (ws : List Cond) (rm : Room) (D : va_G) (tys : List (ClassId × FieldType)) (E : (Nat → Prop) → State → Prop) (av : List Value) (w0 : va_W) {V : Type} (w1 : V → va_W) (post : Int32 → V → Prop) : Prop :=
  ∀ sz : Nat, Met l y ws rm (PreC D tys E av w0 sz) (va_Qi post (fun u t => va_P D vwCl (w1 u) t.heap ∧ va_D (va_A w0 sz) (w1 u)) (va_A w0 sz)) 0 0 (va_A w0 sz)
def Cv (l : Launch) (y : MethodName) (ws : List Cond) (rm : Room) (D : va_G) (tys : List (ClassId × FieldType)) (E : (Nat → Prop) → State → Prop) (av : List Value) (w0 : va_W) {V : Type} (w1 : V → va_W) (post : V → Prop) : Prop :=
  ∀ sz : Nat, Met l y ws rm (PreC D tys E av w0 sz) (va_Qv post (fun u t => va_P D vwCl (w1 u) t.heap ∧ va_D (va_A w0 sz) (w1 u)) (va_A w0 sz)) 0 0 (va_A w0 sz)
def Cl (l : Launch) (y : MethodName) (ws : List Cond) (rm : Room) (D : va_G) (tys : List (ClassId × FieldType)) (E : (Nat → Prop) → State → Prop) (av : List Value) (w0 : va_W) {V : Type} (w1 : V → va_W) (post : Int64 → V → Prop) : Prop :=
  ∀ sz : Nat, Met l y ws rm (PreC D tys E av w0 sz) (va_Ql post (fun u t => va_P D vwCl (w1 u) t.heap ∧ va_D (va_A w0 sz) (w1 u)) (va_A w0 sz)) 0 0 (va_A w0 sz)
/-- what stands fixed while a body is walked -/
def Bx (p : Program) (s : State) (m : MethodId) (args : Array Value) (meth : Method) (c : Code) (cc : ByteArray) (n : Nat) (ret : Option FieldType) (own : String) (D : va_G) (tys : List (ClassId × FieldType)) (A : Nat → Prop) : Prop :=
  p.tables.exec = Jvm.exec ∧ c.code = cc ∧ meth.sig.returnType = ret ∧ c.maxLocals = n ∧ s.vm.findClass own = some m.cls ∧ (∀ w ∈ gw, w.before args s = true) ∧ meth.locks = false ∧ (∀ q, s.heap.size ≤ q → A q) ∧ Kx D tys s
theorem Bx_of {p : Program} {l : Launch} {e : Env} {s s₁ : State} {m : MethodId} {below : List Frame} {meth : Method} {c : Code} {y : MethodName} {cc : ByteArray} {n : Nat} {ret : Option FieldType} {rm : Room} {av : List Value} {D : va_G} {tys : List (ClassId × FieldType)} {A : Nat → Prop}
    (B : BodyLoose p l y (headSpec (WS y cc n ret) rm) cc n ret e s m av.toArray below meth c s₁) (hml : c.maxLocals = n) (hA : ∀ q, s.heap.size ≤ q → A q) (hK : Kx D tys s) : Bx p s m av.toArray meth c cc n ret y.cls D tys A :=
  ⟨B.exec, B.bytes, B.returns, hml, findClass_of_methodNamed B.named, fun w hw => atoms_spec (ws := WS y cc n ret) B.pre w (List.mem_cons_of_mem _ hw), B.notSynchronized, hA, hK⟩
/-- the ways out of a body -/
def RI {V : Type} (p : Program) (l : Launch) (e : Env) (R : Room) (s : State) (m : MethodId) (args : Array Value) (below : List Frame) (meth : Method) (c : Code) (cc : ByteArray) (rt : FieldType) (D : va_G) (A : Nat → Prop) (w1 : V → va_W) (post : Int32 → V → Prop) (Q : State → Prop) : Prop :=
  ∀ (v : Int32) (u : V) (H : Heap) (locs : List Loc) (ls : Array Slot) (pc : Nat), narrow rt (.int v) = .int v → post v u → PD D A (w1 u) H → va_S A s.heap H locs → decode cc pc = .ok (.ireturn, 1) → W p l e R s m args below meth c H locs 0 0 Q (F0 m pc ls [.int v])
def RV {V : Type} (p : Program) (l : Launch) (e : Env) (R : Room) (s : State) (m : MethodId) (args : Array Value) (below : List Frame) (meth : Method) (c : Code) (cc : ByteArray) (D : va_G) (A : Nat → Prop) (w1 : V → va_W) (post : V → Prop) (Q : State → Prop) : Prop :=
  ∀ (u : V) (H : Heap) (locs : List Loc) (ls : Array Slot) (pc : Nat), post u → PD D A (w1 u) H → va_S A s.heap H locs → decode cc pc = .ok (.return_, 1) → W p l e R s m args below meth c H locs 0 0 Q (F0 m pc ls [])
def RL_ {V : Type} (p : Program) (l : Launch) (e : Env) (R : Room) (s : State) (m : MethodId) (args : Array Value) (below : List Frame) (meth : Method) (c : Code) (cc : ByteArray) (D : va_G) (A : Nat → Prop) (w1 : V → va_W) (post : Int64 → V → Prop) (Q : State → Prop) : Prop :=
  ∀ (v : Int64) (u : V) (H : Heap) (locs : List Loc) (ls : Array Slot) (pc : Nat), post v u → PD D A (w1 u) H → va_S A s.heap H locs → decode cc pc = .ok (.lreturn, 1) → W p l e R s m args below meth c H locs 0 0 Q (F0 m pc ls [.long v])
theorem Ci.of {l : Launch} {y : MethodName} {rm : Room} {D : va_G} {tys : List (ClassId × FieldType)} {E : (Nat → Prop) → State → Prop} {av : List Value} {w0 : va_W} {V : Type} {w1 : V → va_W} {post : Int32 → V → Prop} {cc : ByteArray} {n : Nat} {rt : FieldType} (hy : plainName y.cls = true) (hL : (lg_sl av).length ≤ n)
    (body : ∀ (p : Program) (e : Env) (s : State) (m : MethodId) (args : Array Value) (below : List Frame) (meth : Method) (c : Code) (A : Nat → Prop) (ls : Array Slot) (Q : State → Prop), Bx p s m args meth c cc n (some rt) y.cls D tys A → PD D A w0 s.heap → E A s → va_S A s.heap s.heap [] → lv_has ls n (lv_args 0 av) → RI p l e rm s m args below meth c cc rt D A w1 post Q →
      W p l e rm s m args below meth c s.heap [] 0 0 Q (F0 m 0 ls [])) : Ci l y (WS y cc n (some rt)) rm D tys E av w0 w1 post := by
  intro sz
  refine Met.ofW (cc := cc) (maxL := n) (ret := (some rt)) hy rfl ?_
  intro p e s m args below meth c s₁ B hml hv
  obtain ⟨rfl, hsz, hP, hK, hD0, hE⟩ := hv
  subst hsz
  have hl := lv_entry av (n := n) hL
  rw [lg_entry_eq]
  generalize (lg_sl av ++ List.replicate (n - (lg_sl av).length) Slot.unset).toArray = ls at hl ⊢
  exact body p e s m av.toArray below meth c _ ls _ (Bx_of B hml (fun q h => Or.inr h) hK) ⟨hP, hD0.self⟩ hE va_S.rf hl
    (fun v u H locs ls pc hn hp hW hS hd => W.zret B.exec B.bytes B.returns hn (fun t ht _ => ⟨⟨v, u, rfl, hp, by rw [ht]; exact hW.1, hW.2⟩, hS.F ht⟩) hS.2.2 hd B.notSynchronized)
theorem Cv.of {l : Launch} {y : MethodName} {rm : Room} {D : va_G} {tys : List (ClassId × FieldType)} {E : (Nat → Prop) → State → Prop} {av : List Value} {w0 : va_W} {V : Type} {w1 : V → va_W} {post : V → Prop} {cc : ByteArray} {n : Nat} (hy : plainName y.cls = true) (hL : (lg_sl av).length ≤ n)
    (body : ∀ (p : Program) (e : Env) (s : State) (m : MethodId) (args : Array Value) (below : List Frame) (meth : Method) (c : Code) (A : Nat → Prop) (ls : Array Slot) (Q : State → Prop), Bx p s m args meth c cc n none y.cls D tys A → PD D A w0 s.heap → E A s → va_S A s.heap s.heap [] → lv_has ls n (lv_args 0 av) → RV p l e rm s m args below meth c cc D A w1 post Q →
      W p l e rm s m args below meth c s.heap [] 0 0 Q (F0 m 0 ls [])) : Cv l y (WS y cc n none) rm D tys E av w0 w1 post := by
  intro sz
  refine Met.ofW (cc := cc) (maxL := n) (ret := none) hy rfl ?_
  intro p e s m args below meth c s₁ B hml hv
  obtain ⟨rfl, hsz, hP, hK, hD0, hE⟩ := hv
  subst hsz
  have hl := lv_entry av (n := n) hL
  rw [lg_entry_eq]
  generalize (lg_sl av ++ List.replicate (n - (lg_sl av).length) Slot.unset).toArray = ls at hl ⊢
  exact body p e s m av.toArray below meth c _ ls _ (Bx_of B hml (fun q h => Or.inr h) hK) ⟨hP, hD0.self⟩ hE va_S.rf hl
    (fun u H locs ls pc hp hW hS hd => W.vret B.exec B.bytes B.returns (fun t ht _ => ⟨⟨u, rfl, hp, by rw [ht]; exact hW.1, hW.2⟩, hS.F ht⟩) hS.2.2 hd B.notSynchronized)
theorem Cl.of {l : Launch} {y : MethodName} {rm : Room} {D : va_G} {tys : List (ClassId × FieldType)} {E : (Nat → Prop) → State → Prop} {av : List Value} {w0 : va_W} {V : Type} {w1 : V → va_W} {post : Int64 → V → Prop} {cc : ByteArray} {n : Nat} (hy : plainName y.cls = true) (hL : (lg_sl av).length ≤ n)
    (body : ∀ (p : Program) (e : Env) (s : State) (m : MethodId) (args : Array Value) (below : List Frame) (meth : Method) (c : Code) (A : Nat → Prop) (ls : Array Slot) (Q : State → Prop), Bx p s m args meth c cc n (some .long) y.cls D tys A → PD D A w0 s.heap → E A s → va_S A s.heap s.heap [] → lv_has ls n (lv_args 0 av) → RL_ p l e rm s m args below meth c cc D A w1 post Q →
      W p l e rm s m args below meth c s.heap [] 0 0 Q (F0 m 0 ls [])) : Cl l y (WS y cc n (some .long)) rm D tys E av w0 w1 post := by
  intro sz
  refine Met.ofW (cc := cc) (maxL := n) (ret := (some .long)) hy rfl ?_
  intro p e s m args below meth c s₁ B hml hv
  obtain ⟨rfl, hsz, hP, hK, hD0, hE⟩ := hv
  subst hsz
  have hl := lv_entry av (n := n) hL
  rw [lg_entry_eq]
  generalize (lg_sl av ++ List.replicate (n - (lg_sl av).length) Slot.unset).toArray = ls at hl ⊢
  exact body p e s m av.toArray below meth c _ ls _ (Bx_of B hml (fun q h => Or.inr h) hK) ⟨hP, hD0.self⟩ hE va_S.rf hl
    (fun v u H locs ls pc hp hW hS hd => W.lret B.exec B.bytes B.returns (fun t ht _ => ⟨⟨v, u, rfl, hp, by rw [ht]; exact hW.1, hW.2⟩, hS.F ht⟩) hS.2.2 hd B.notSynchronized)
theorem nz0 : narrow .boolean (.int 0) = .int 0 := by decide +kernel
theorem nz1 : narrow .boolean (.int 1) = .int 1 := by decide +kernel
theorem fz0 : fits .boolean (.int 0) = true := by decide +kernel
theorem fz1 : fits .boolean (.int 1) = true := by decide +kernel
theorem pz0 : vp_nar .boolean 0 = 0 := by decide +kernel
theorem pz1 : vp_nar .boolean 1 = 1 := by decide +kernel
/-- a world with some cells out of another: a plan says for each place whether it stays, or which cell comes there -/
def bld (w1 : va_W) : va_W → List (Option Nat) → va_W
  | [], _ => []
  | x :: ws, [] => x :: ws
  | x :: ws, o :: pl => (match o with
    | none => x
    | some k => (w1[k]?).getD x) :: bld w1 ws pl
theorem bld_at (w1 : va_W) : ∀ (ws : va_W) (pl : List (Option Nat)) (i : Nat), (bld w1 ws pl)[i]? = (ws[i]?).map (fun x => match pl[i]? with
    | some (some k) => (w1[k]?).getD x
    | _ => x)
  | [], pl, i => by simp [bld]
  | x :: ws, [], i => by simp [bld]
  | x :: ws, o :: pl, 0 => by cases o <;> simp [bld]
  | x :: ws, o :: pl, i + 1 => by
    have h := bld_at w1 ws pl i
    simpa [bld] using h
def plan_ok (isC : List Nat) (pl : List (Option Nat)) : Bool := (isC.all fun i => match pl[i]? with
    | some (some _) => true
    | _ => false) && (List.range pl.length).all fun i => match pl[i]? with
    | some (some k) => isC[k]? == some i
    | _ => true
theorem va_D_same {A : Nat → Prop} {ws ws' : va_W} (h : va_D A ws) (ha : ∀ i : Nat, (ws'[i]?).map Prod.fst = (ws[i]?).map Prod.fst) : va_D A ws' := by
  have key : ∀ (k : Nat) (q : Nat × va_E), ws'[k]? = some q → ∃ q0, ws[k]? = some q0 ∧ q0.1 = q.1 := by
    intro k q hk
    have h1 := ha k
    rw [hk] at h1
    cases hw : ws[k]? with
    | none => rw [hw] at h1; cases h1
    | some q0 =>
      rw [hw] at h1
      exact ⟨q0, rfl, (Option.some.inj h1).symm⟩
  refine ⟨fun i j x y hi hj hxy => ?_, fun k q hk => ?_⟩
  · obtain ⟨x0, h1, h2⟩ := key i x hi
    obtain ⟨y0, h3, h4⟩ := key j y hj
    exact h.1 i j x0 y0 h1 h3 (h2.trans (hxy.trans h4.symm))
  · obtain ⟨q0, h1, h2⟩ := key k q hk
    rw [← h2]
    exact h.2 k q0 h1
theorem bld_PD {D : va_G} {A : Nat → Prop} {ws wc w1 : va_W} {H H1 : Heap} (hW : PD D A ws H) (isC : List Nat) (hC : isC.map (fun i => ws[i]?) = wc.map some) (hadr : w1.map Prod.fst = wc.map Prod.fst) (pl : List (Option Nat)) (hpl : plan_ok isC pl = true) (hk1 : ∀ q : Nat, q < H.size → ¬ va_A wc H.size q → H1[q]? = H[q]?) (hP1 : va_P D vwCl w1 H1) : PD D A (bld w1 ws pl) H1 := by
  simp only [plan_ok, Bool.and_eq_true, List.all_eq_true] at hpl
  obtain ⟨hp1, hp2⟩ := hpl
  have at' : ∀ (k : Nat) (q : Nat × va_E), wc[k]? = some q → ∃ i, isC[k]? = some i ∧ ws[i]? = some q := by
    intro k q hq
    have h1 : (isC.map (fun i => ws[i]?))[k]? = some (some q) := by rw [hC, List.getElem?_map, hq]; rfl
    rw [List.getElem?_map] at h1
    cases hi : isC[k]? with
    | none => rw [hi] at h1; cases h1
    | some i => rw [hi] at h1; exact ⟨i, rfl, Option.some.inj h1⟩
  -- a place that the plan fills: the cell that comes there, and that its address is the old one's
  have fill : ∀ (i k : Nat) (x : Nat × va_E), ws[i]? = some x → pl[i]? = some (some k) → ∃ q, w1[k]? = some q ∧ q.1 = x.1 := by
    intro i k x hx hp
    have hlt : i < pl.length := (List.getElem?_eq_some_iff.mp hp).1
    have h1 := hp2 i (List.mem_range.mpr hlt)
    rw [hp] at h1
    have h2 : isC[k]? = some i := by simpa using h1
    have h3 : (isC.map (fun i => ws[i]?))[k]? = some (some x) := by rw [List.getElem?_map, h2, Option.map_some, hx]
    rw [hC, List.getElem?_map] at h3
    cases hwc : wc[k]? with
    | none => rw [hwc] at h3; cases h3
    | some y =>
      rw [hwc] at h3
      have e1 : y = x := Option.some.inj (Option.some.inj h3)
      have h4 : (w1.map Prod.fst)[k]? = some y.1 := by rw [hadr, List.getElem?_map, hwc]; rfl
      rw [List.getElem?_map] at h4
      cases hw1 : w1[k]? with
      | none => rw [hw1] at h4; cases h4
      | some q => rw [hw1] at h4; exact ⟨q, rfl, (Option.some.inj h4).trans (by rw [e1])⟩
  refine ⟨fun i q hq => ?_, va_D_same hW.2 (fun i => ?_)⟩
  · rw [bld_at] at hq
    cases hx : ws[i]? with
    | none => rw [hx] at hq; cases hq
    | some x =>
      rw [hx] at hq
      have hq' := Option.some.inj hq
      cases hp : pl[i]? with
      | none =>
        rw [hp] at hq'
        dsimp only at hq'
        subst hq'
        have hni : i ∉ isC := fun h => by
          have := hp1 i h
          rw [hp] at this
          cases this
        have hl := (hW.1 i x hx).lt
        refine (hW.1 i x hx).kept (hk1 x.1 hl (fun h => ?_))
        rcases h with ⟨k2, e9, h⟩ | h
        · obtain ⟨j, h3, h4⟩ := at' k2 (x.1, e9) h
          have hij := hW.2.1 i j x (x.1, e9) hx h4 rfl
          exact hni (hij ▸ List.mem_of_getElem? h3)
        · omega
      | some o =>
        cases o with
        | none =>
          rw [hp] at hq'
          dsimp only at hq'
          subst hq'
          have hni : i ∉ isC := fun h => by
            have := hp1 i h
            rw [hp] at this
            cases this
          have hl := (hW.1 i x hx).lt
          refine (hW.1 i x hx).kept (hk1 x.1 hl (fun h => ?_))
          rcases h with ⟨k2, e9, h⟩ | h
          · obtain ⟨j, h3, h4⟩ := at' k2 (x.1, e9) h
            have hij := hW.2.1 i j x (x.1, e9) hx h4 rfl
            exact hni (hij ▸ List.mem_of_getElem? h3)
          · omega
        | some k =>
          obtain ⟨y, h1, h2⟩ := fill i k x hx hp
          rw [hp] at hq'
          dsimp only at hq'
          rw [h1] at hq'
          have e2 : y = q := hq'
          subst e2
          exact hP1 k y h1
  · rw [bld_at]
    cases hx : ws[i]? with
    | none => rfl
    | some x =>
      rw [Option.map_some, Option.map_some, Option.map_some]
      cases hp : pl[i]? with
      | none => rfl
      | some o =>
        cases o with
        | none => rfl
        | some k =>
          obtain ⟨y, h1, h2⟩ := fill i k x hx hp
          dsimp only
          rw [h1]
          exact congrArg some h2
section KR
variable {p : Program} {l : Launch} {e : Env} {R : Room} {s : State} {m : MethodId} {args : Array Value} {below : List Frame} {meth : Method} {c : Code} {H : Heap} {locs : List Loc} {cells slots : Nat} {Q : State → Prop}
variable {cc : ByteArray} {pc : Nat} {ls : Array Slot} {rest : List Value} {D : va_G} {A : Nat → Prop} {a : Nat} {tys : List (ClassId × FieldType)} {ws : va_W} {n : Nat} {ret : Option FieldType} {own : String}
theorem k_get (B : Bx p s m args meth c cc n ret own D tys A) {ref C : String} {T : u_T} {N ci index : Nat} (hin : ∀ w ∈ u_ws C T N, w ∈ gw) (hW : PD D A ws H) (q0 : Nat) {fs : List Value} (he : ws[q0]? = some (a, .inr (ci, fs))) (hc : vwCl[ci]? = some (C, T, N)) (k : Nat) (hk : k < N) (hlink : Cond.fieldLink own index ref (T k).2.1 (T k).2.2.1 ∈ gw) (hsame : (T k).1 = ref) {v : Value} (hv : fs[k]? = some v) (hdg : decode cc pc = .ok (.getfield index, 3))
    (kk : W p l e R s m args below meth c H locs cells slots Q (F0 m (pc + 3) ls (v :: rest))) : W p l e R s m args below meth c H locs cells slots Q (F0 m pc ls (.ref a :: rest)) :=
  va_get B.1 B.2.1 B.2.2.2.2.2.1 hin B.2.2.2.2.1 B.2.2.2.2.2.2.2.2.1 hW.1 q0 he hc k hk (B.2.2.2.2.2.1 _ hlink) (by rw [hsame]; exact fun _ h => h) hv hdg kk
theorem k_put (B : Bx p s m args meth c cc n ret own D tys A) {ref C : String} {T : u_T} {N ci index : Nat} (hin : ∀ w ∈ u_ws C T N, w ∈ gw) (ty0 : Nat → FieldType) (hty : ∀ k, k < N → parseFieldDescriptor (T k).2.2.1 = some (ty0 k)) (hnm : ∀ a, a < N → ∀ b, b < N → a ≠ b → (T a).2.1 ≠ (T b).2.1) (hW : PD D A ws H) (hS : va_S A s.heap H locs) (q0 : Nat) {fs : List Value} (he : ws[q0]? = some (a, .inr (ci, fs))) (hc : vwCl[ci]? = some (C, T, N)) (k : Nat) (hk : k < N) (hlink : Cond.fieldLink own index ref (T k).2.1 (T k).2.2.1 ∈ gw) (hsame : (T k).1 = ref) (hfin : (T k).2.2.2 = false) {v : Value} (hn : narrow (ty0 k) v = v) (hfit : fits (ty0 k) v = true) (hl : k < fs.length) (hdg : decode cc pc = .ok (.putfield index, 3)) (ws' : va_W) (hws : ws.set q0 (a, .inr (ci, fs.set k v)) = ws')
    (kk : ∀ (H1 : Heap) (locs1 : List Loc), PD D A ws' H1 → va_S A s.heap H1 locs1 → W p l e R s m args below meth c H1 locs1 cells slots Q (F0 m (pc + 3) ls rest)) : W p l e R s m args below meth c H locs cells slots Q (F0 m pc ls (v :: .ref a :: rest)) :=
  va_put B.1 B.2.1 B.2.2.2.2.2.1 hin ty0 hty hnm B.2.2.2.2.1 B.2.2.2.2.2.2.2.2.1 hW.1 hW.2 hS q0 he hc k hk (B.2.2.2.2.2.1 _ hlink) (by rw [hsame]; exact fun _ h => h) hfin (hty k hk) hn hfit hl hdg (fun H1 locs1 h1 h2 h3 => kk H1 locs1 (hws ▸ ⟨h1, h2⟩) h3)
theorem k_iald (B : Bx p s m args meth c cc n ret own D tys A) (hW : PD D A ws H) (q0 t0 : Nat) {cA : ClassId} {N : Nat} {f : Nat → Int32} (ha : ws[q0]? = some (a, .inl (cA, N, .inl f))) (ht : tys[t0]? = some (cA, .int)) {i : Int32} (hin : vp_in i N) (hdg : decode cc pc = .ok (.iaload, 1))
    (kk : W p l e R s m args below meth c H locs cells slots Q (F0 m (pc + 1) ls (.int (f i.toNatClampNeg) :: rest))) : W p l e R s m args below meth c H locs cells slots Q (F0 m pc ls (.int i :: .ref a :: rest)) :=
  va_iald B.1 B.2.1 B.2.2.2.2.2.2.2.2.1 hW.1 q0 t0 ha ht hin hdg kk
theorem k_zald (B : Bx p s m args meth c cc n ret own D tys A) (hW : PD D A ws H) (q0 t0 : Nat) {cA : ClassId} {N : Nat} {f : Nat → Int32} (ha : ws[q0]? = some (a, .inl (cA, N, .inl f))) (ht : tys[t0]? = some (cA, .boolean)) {i : Int32} (hin : vp_in i N) (hdg : decode cc pc = .ok (.baload, 1))
    (kk : W p l e R s m args below meth c H locs cells slots Q (F0 m (pc + 1) ls (.int (f i.toNatClampNeg) :: rest))) : W p l e R s m args below meth c H locs cells slots Q (F0 m pc ls (.int i :: .ref a :: rest)) :=
  va_zald B.1 B.2.1 B.2.2.2.2.2.2.2.2.1 hW.1 q0 t0 ha ht hin hdg kk
theorem k_aldq (B : Bx p s m args meth c cc n ret own D tys A) (hW : PD D A ws H) (q0 t0 : Nat) {cA : ClassId} {C : String} {N : Nat} {f : Nat → Option Nat} (ha : ws[q0]? = some (a, .inl (cA, N, .inr (.inr (.inr (.inr f)))))) (ht : tys[t0]? = some (cA, .object C)) {i : Int32} (hin : vp_in i N) {v : Nat} (hv : f i.toNatClampNeg = some v) (hdg : decode cc pc = .ok (.aaload, 1))
    (kk : W p l e R s m args below meth c H locs cells slots Q (F0 m (pc + 1) ls (.ref v :: rest))) : W p l e R s m args below meth c H locs cells slots Q (F0 m pc ls (.int i :: .ref a :: rest)) :=
  va_aldq B.1 B.2.1 B.2.2.2.2.2.2.2.2.1 hW.1 q0 t0 ha ht hin hdg (by rw [hv]; exact kk)
theorem k_iast (B : Bx p s m args meth c cc n ret own D tys A) (hW : PD D A ws H) (hS : va_S A s.heap H locs) (q0 t0 : Nat) {cA : ClassId} {N : Nat} {f : Nat → Int32} (ha : ws[q0]? = some (a, .inl (cA, N, .inl f))) (ht : tys[t0]? = some (cA, .int)) {i : Int32} {x : Int32} (hin : vp_in i N) (hdg : decode cc pc = .ok (.iastore, 1)) (ws' : va_W) (hws : ws.set q0 (a, .inl (cA, N, .inl (upd f i.toNatClampNeg x))) = ws')
    (kk : ∀ (H1 : Heap) (locs1 : List Loc), PD D A ws' H1 → va_S A s.heap H1 locs1 → W p l e R s m args below meth c H1 locs1 cells slots Q (F0 m (pc + 1) ls rest)) : W p l e R s m args below meth c H locs cells slots Q (F0 m pc ls (.int x :: .int i :: .ref a :: rest)) :=
  va_iast B.1 B.2.1 B.2.2.2.2.2.2.2.2.1 hW.1 hW.2 hS q0 t0 ha ht hin hdg (fun H1 locs1 h1 h2 h3 => kk H1 locs1 (hws ▸ ⟨h1, h2⟩) h3)
theorem k_zast (B : Bx p s m args meth c cc n ret own D tys A) (hW : PD D A ws H) (hS : va_S A s.heap H locs) (q0 t0 : Nat) {cA : ClassId} {N : Nat} {f : Nat → Int32} (ha : ws[q0]? = some (a, .inl (cA, N, .inl f))) (ht : tys[t0]? = some (cA, .boolean)) {i : Int32} {x : Int32} (hin : vp_in i N) (hx : vp_nar .boolean x = x) (hdg : decode cc pc = .ok (.bastore, 1)) (ws' : va_W) (hws : ws.set q0 (a, .inl (cA, N, .inl (upd f i.toNatClampNeg x))) = ws')
    (kk : ∀ (H1 : Heap) (locs1 : List Loc), PD D A ws' H1 → va_S A s.heap H1 locs1 → W p l e R s m args below meth c H1 locs1 cells slots Q (F0 m (pc + 1) ls rest)) : W p l e R s m args below meth c H locs cells slots Q (F0 m pc ls (.int x :: .int i :: .ref a :: rest)) :=
  va_zast B.1 B.2.1 B.2.2.2.2.2.2.2.2.1 hW.1 hW.2 hS q0 t0 ha ht hin hdg (fun H1 locs1 h1 h2 h3 => kk H1 locs1 (hws ▸ (by rw [hx] at h1 h2; exact ⟨h1, h2⟩)) h3)
/-- an array outside of the world is read -/
theorem k_told (B : Bx p s m args meth c cc n ret own D tys A) {t : Nat} {f : Nat → Int32} (hT : OE t f A s) (hS : va_S A s.heap H locs) {i : Int32} (hin : vp_in i 6) (hdg : decode cc pc = .ok (.iaload, 1))
    (kk : W p l e R s m args below meth c H locs cells slots Q (F0 m (pc + 1) ls (.int (f i.toNatClampNeg) :: rest))) : W p l e R s m args below meth c H locs cells slots Q (F0 m pc ls (.int i :: .ref t :: rest)) :=
  va_ti B.1 B.2.1 hT hS hin rfl hdg kk
/-- rows of a square of ints: a row, a place in it, a store into it -/
theorem k_aldr (B : Bx p s m args meth c cc n ret own D tys A) (hW : PD D A ws H) (q0 t0 : Nat) {cA : ClassId} {ty : FieldType} {N : Nat} {r : Nat → Nat} (ha : ws[q0]? = some (a, .inl (cA, N, .inr (.inr (.inr (.inr (fun i => if i < N then some (r i) else none))))))) (ht : tys[t0]? = some (cA, .array ty)) {i : Int32} (hin : vp_in i N) (hdg : decode cc pc = .ok (.aaload, 1))
    (kk : W p l e R s m args below meth c H locs cells slots Q (F0 m (pc + 1) ls (.ref (r i.toNatClampNeg) :: rest))) : W p l e R s m args below meth c H locs cells slots Q (F0 m pc ls (.int i :: .ref a :: rest)) := by
  have hlt : i.toNatClampNeg < N := Nat.not_le.mp fun q => hin (Or.inr q)
  exact W.aald (v := .ref (r i.toNatClampNeg)) (ty := .array ty) B.1 B.2.1 (hW.1 q0 _ ha) ((B.2.2.2.2.2.2.2.2.1.2 t0 _ ht).1 N (fun j => va_rf (if j < N then some (r j) else none))) rfl (fun q => by cases q) (by show ¬ (i < 0 ∨ (arrV _ _ _).slots.size ≤ _); rw [arrV_size]; exact hin) (by show (arrV _ _ _).slots[_]? = _; rw [arrV_read _ _ hlt]; show some (va_rf (if i.toNatClampNeg < N then some (r i.toNatClampNeg) else none)) = _; rw [if_pos hlt]; rfl) rfl rfl hdg kk
theorem k_aldo (B : Bx p s m args meth c cc n ret own D tys A) (hW : PD D A ws H) (q0 t0 : Nat) {cA : ClassId} {C : String} {N : Nat} {r : Nat → Nat} (ha : ws[q0]? = some (a, .inl (cA, N, .inr (.inr (.inr (.inr (fun i => if i < N then some (r i) else none))))))) (ht : tys[t0]? = some (cA, .object C)) {i : Int32} (hin : vp_in i N) (hdg : decode cc pc = .ok (.aaload, 1))
    (kk : W p l e R s m args below meth c H locs cells slots Q (F0 m (pc + 1) ls (.ref (r i.toNatClampNeg) :: rest))) : W p l e R s m args below meth c H locs cells slots Q (F0 m pc ls (.int i :: .ref a :: rest)) := by
  have hlt : i.toNatClampNeg < N := Nat.not_le.mp fun q => hin (Or.inr q)
  exact k_aldq B hW q0 t0 ha ht hin (by show (if i.toNatClampNeg < N then some (r i.toNatClampNeg) else none) = _; rw [if_pos hlt]) hdg kk
theorem k_rald (B : Bx p s m args meth c cc n ret own D tys A) (hW : PD D A ws H) (q0 t0 : Nat) {cA : ClassId} {N M : Nat} {r : Nat → Nat} {g : Nat → Nat → Int32} (ha : ∀ j, j < N → ws[q0 + j]? = some (r j, .inl (cA, M, .inl (g j)))) (ht : tys[t0]? = some (cA, .int)) {x i : Int32} (hx : vp_in x N) (hin : vp_in i M) (hdg : decode cc pc = .ok (.iaload, 1))
    (kk : W p l e R s m args below meth c H locs cells slots Q (F0 m (pc + 1) ls (.int (g x.toNatClampNeg i.toNatClampNeg) :: rest))) : W p l e R s m args below meth c H locs cells slots Q (F0 m pc ls (.int i :: .ref (r x.toNatClampNeg) :: rest)) :=
  k_iald B hW (q0 + x.toNatClampNeg) t0 (ha _ (Nat.not_le.mp fun q => hx (Or.inr q))) ht hin hdg kk
/-- g, but the row j is f -/
def upg (g : Nat → Nat → Int32) (j : Nat) (f : Nat → Int32) : Nat → Nat → Int32 := fun i => if i = j then f else g i
theorem k_rast (B : Bx p s m args meth c cc n ret own D tys A) (hW : PD D A ws H) (hS : va_S A s.heap H locs) (q0 t0 : Nat) {cA : ClassId} {N M : Nat} {r : Nat → Nat} {g : Nat → Nat → Int32} (ha : ∀ j, j < N → ws[q0 + j]? = some (r j, .inl (cA, M, .inl (g j)))) (ht : tys[t0]? = some (cA, .int)) {x i v : Int32} (hx : vp_in x N) (hin : vp_in i M) (hdg : decode cc pc = .ok (.iastore, 1)) (ws' : (Nat → Nat → Int32) → va_W) (hws : ∀ j, j < N → ∀ f, ws.set (q0 + j) (r j, .inl (cA, M, .inl f)) = ws' (upg g j f))
    (kk : ∀ (H1 : Heap) (locs1 : List Loc), PD D A (ws' (upg g x.toNatClampNeg (upd (g x.toNatClampNeg) i.toNatClampNeg v))) H1 → va_S A s.heap H1 locs1 → W p l e R s m args below meth c H1 locs1 cells slots Q (F0 m (pc + 1) ls rest)) : W p l e R s m args below meth c H locs cells slots Q (F0 m pc ls (.int v :: .int i :: .ref (r x.toNatClampNeg) :: rest)) :=
  k_iast B hW hS (q0 + x.toNatClampNeg) t0 (ha _ (Nat.not_le.mp fun q => hx (Or.inr q))) ht hin hdg _ (hws _ (Nat.not_le.mp fun q => hx (Or.inr q)) _) kk
theorem row2 {P : Nat → Prop} (h0 : P 0) (h1 : P 1) : ∀ j, j < 2 → P j := by
  intro j hj
  rcases (show j = 0 ∨ j = 1 by omega) with rfl | rfl <;> assumption
theorem row10 {P : Nat → Prop} (h0 : P 0) (h1 : P 1) (h2 : P 2) (h3 : P 3) (h4 : P 4) (h5 : P 5) (h6 : P 6) (h7 : P 7) (h8 : P 8) (h9 : P 9) : ∀ j, j < 10 → P j := by
  intro j hj
  rcases (show j = 0 ∨ j = 1 ∨ j = 2 ∨ j = 3 ∨ j = 4 ∨ j = 5 ∨ j = 6 ∨ j = 7 ∨ j = 8 ∨ j = 9 by omega) with rfl | rfl | rfl | rfl | rfl | rfl | rfl | rfl | rfl | rfl <;> assumption
theorem row6 {P : Nat → Prop} (h0 : P 0) (h1 : P 1) (h2 : P 2) (h3 : P 3) (h4 : P 4) (h5 : P 5) : ∀ j, j < 6 → P j := by
  intro j hj
  rcases (show j = 0 ∨ j = 1 ∨ j = 2 ∨ j = 3 ∨ j = 4 ∨ j = 5 by omega) with rfl | rfl | rfl | rfl | rfl | rfl <;> assumption
theorem row7 {P : Nat → Prop} (h0 : P 0) (h1 : P 1) (h2 : P 2) (h3 : P 3) (h4 : P 4) (h5 : P 5) (h6 : P 6) : ∀ j, j < 7 → P j := by
  intro j hj
  rcases (show j = 0 ∨ j = 1 ∨ j = 2 ∨ j = 3 ∨ j = 4 ∨ j = 5 ∨ j = 6 by omega) with rfl | rfl | rfl | rfl | rfl | rfl | rfl <;> assumption
theorem gin {ws : List Cond} (h : ∀ w ∈ ws, w ∈ gw) : GoodIn gw ws := fun w hw => ⟨h w hw, good_of_word (List.mem_filter.mp (h w hw)).2⟩
theorem gin_ws {y : MethodName} {cy : ByteArray} {ny : Nat} {ry : Option FieldType} (h : Cond.code y cy ny ry ∈ gw) : ∀ w ∈ WS y cy ny ry, w ∈ gw := fun w hw => (List.mem_cons.mp hw).elim (fun e => e ▸ h) id
theorem gin_v {own C : String} {index : Nat} {y : MethodName} {ws : List Cond} (h1 : Cond.methodLink own index y ∈ gw) (h2 : Cond.instanceMethod y ∈ gw) (h3 : Cond.selects C y y ∈ gw) (h4 : Cond.initialized C ∈ gw) (h : ∀ w ∈ ws, w ∈ gw) : GoodIn gw (wsV own index C y ws) := gin (fun w hw => by
  unfold wsV at hw
  rcases List.mem_append.mp hw with q | q
  · simp only [List.mem_cons, List.not_mem_nil, or_false] at q
    rcases q with rfl | rfl | rfl | rfl <;> assumption
  · exact h w q)
theorem k_pre {wc : va_W} {E : (Nat → Prop) → State → Prop} {av : List Value} (hK : Kx D tys s) (hP : va_P D vwCl wc H) (hD : va_D A wc) (hEv : ∀ U : State, U.heap = H → s.vm.Alike U.vm → E (va_A wc H.size) U) : ∀ U : State, U.heap = H → s.WarmedH U.vm → PreC D tys E av wc H.size av.toArray U := fun U hU hW => ⟨rfl, by rw [hU], by rw [hU]; exact hP, hK.warm hW, hD.weaken (fun _ _ _ _ => trivial), hEv U hU hW.alike⟩
/-- behind a call: the callee's cells anew at their places, the rest as it was -/
theorem k_calli {V : Type} {w1 : V → va_W} {post : Int32 → V → Prop} {wc : va_W} {a0 : Array Value} {st0 : List Value} (B : Bx p s m args meth c cc n ret own D tys A) (hr : va_Run p l e R s m args below meth c H locs cells slots 0 0 (F0 m pc ls st0) rest (va_Qi post (fun u t => va_P D vwCl (w1 u) t.heap ∧ va_D (va_A wc H.size) (w1 u)) (va_A wc H.size) a0) (va_A wc H.size))
    (hW : PD D A ws H) (hS : va_S A s.heap H locs) (isC : List Nat) (hC : isC.map (fun i => ws[i]?) = wc.map some) (ad : List Nat) (had0 : wc.map Prod.fst = ad) (hadr : ∀ u, (w1 u).map Prod.fst = ad) (pl : List (Option Nat)) (hpl : plan_ok isC pl = true) (ws' : V → va_W) (hws : ∀ u, bld (w1 u) ws pl = ws' u)
    (kk : ∀ (r : Int32) (u : V) (H1 : Heap) (locs1 : List Loc), post r u → PD D A (ws' u) H1 → va_S A s.heap H1 locs1 → W p l e R s m args below meth c H1 locs1 cells slots Q (F0 m (pc + 3) ls (.int r :: rest))) : W p l e R s m args below meth c H locs cells slots Q (F0 m pc ls st0) := by
  have hF := va_free (wc := wc) hW.2 hS B.2.2.2.2.2.2.2.1 isC hC
  refine va_calli hr hS (fun q _ h => hF q h) hF (fun r u t H1 locs1 ht hvm hw hB hz1 hk1 hS1 => ?_)
  have hP1 := hB.1
  rw [ht] at hP1
  have hJ := bld_PD hW isC hC ((hadr u).trans had0.symm) pl hpl hk1 hP1
  rw [hws u] at hJ
  exact kk r u H1 locs1 hw hJ hS1
theorem k_runVi {V : Type} {w1 : V → va_W} {post : Int32 → V → Prop} {E : (Nat → Prop) → State → Prop} {y : MethodName} {cy : ByteArray} {ny nn index b : Nat} {rt : FieldType} {rmC : Room} {As : List Value} {wc : va_W} {C : String} {st0 : List Value} (B : Bx p s m args meth c cc n ret own D tys A) (hM : Ci l y (WS y cy ny (some rt)) rmC D tys E (.ref b :: As) wc w1 post) (hE : Estab E) (hEv : ∀ U : State, U.heap = H → s.vm.Alike U.vm → E (va_A wc H.size) U)
    (hcode : Cond.code y cy ny (some rt) ∈ gw) (hlink : Cond.methodLink own index y ∈ gw) (hinst : Cond.instanceMethod y ∈ gw) (hsel : Cond.selects C y y ∈ gw) (hini : Cond.initialized C ∈ gw) (hd : y.cls = C ∧ y.cls ≠ "java/lang/invoke/MethodHandle" ∧ y.cls ≠ "java/lang/invoke/VarHandle" ∧ (parseMethodDescriptor y.desc).map (fun d => d.parameters.length) = some nn) (hrc : rmC.cells = 0 ∧ rmC.slots = 0) (hR : rmC.frames + 1 ≤ R.frames ∧ 8 + (ny + 11) + rmC.locals ≤ R.locals)
    (hW : PD D A ws H) (isC : List Nat) (hC : isC.map (fun i => ws[i]?) = wc.map some) (hnC : va_nd isC = true) {ci q0 : Nat} {fs : List Value} {T : u_T} {N : Nat} (hq : wc[q0]? = some (b, .inr (ci, fs))) (hcl : vwCl[ci]? = some (C, T, N)) (hn : As.length = nn) (hsz : ls.size = n) (hst : st0 = As.reverse ++ .ref b :: rest) (hrm : (rest.map fun v => v.category).sum ≤ 8) (hdg : decode cc pc = .ok (.invokevirtual index, 3)) (hf : cells ≤ R.cells ∧ slots ≤ R.slots) :
    va_Run p l e R s m args below meth c H locs cells slots 0 0 (F0 m pc ls st0) rest (va_Qi post (fun u t => va_P D vwCl (w1 u) t.heap ∧ va_D (va_A wc H.size) (w1 u)) (va_A wc H.size) (Value.ref b :: As).toArray) (va_A wc H.size) := by
  have hD := hW.2.sub (ws' := wc) isC hnC hC
  have hP : va_P D vwCl wc H := hW.1.sub isC (by
    have h8 : (isC.map (fun i => ws[i]?)).filterMap id = (wc.map some).filterMap id := by rw [hC]
    rw [List.filterMap_map, List.filterMap_map] at h8
    simpa using h8)
  refine va_runV (As := As) (rest := rest) ⟨B.1, B.2.1, B.2.2.2.1, B.2.2.2.2.1, B.2.2.2.2.2.1⟩ (hM H.size) (cwV nn B.2.2.2.2.2.1 (gin_v hlink hinst hsel hini (gin_ws hcode)) rfl hrc.1 hrc.2 hd hR) ⟨PreC.blind hE, va_recv B.2.2.2.2.2.2.2.2.1 hP hcl hq, k_pre B.2.2.2.2.2.2.2.2 hP hD hEv⟩ rfl hn hsz hst (lv_room hrm) hdg hf
theorem k_runSi {V : Type} {w1 : V → va_W} {post : Int32 → V → Prop} {E : (Nat → Prop) → State → Prop} {y : MethodName} {cy : ByteArray} {ny nn index : Nat} {rt : FieldType} {rmC : Room} {As : List Value} {wc : va_W} {C host : String} {st0 : List Value} (B : Bx p s m args meth c cc n ret own D tys A) (hM : Ci l y (WS y cy ny (some rt)) rmC D tys E As wc w1 post) (hE : Estab E) (hEv : ∀ U : State, U.heap = H → s.vm.Alike U.vm → E (va_A wc H.size) U)
    (hcode : Cond.code y cy ny (some rt) ∈ gw) (hlink : Cond.methodLink own index y ∈ gw) (hstt : Cond.static y ∈ gw) (hini : Cond.initialized y.cls ∈ gw) (hd : y.cls = C ∧ y.cls ≠ "java/lang/invoke/MethodHandle" ∧ y.cls ≠ "java/lang/invoke/VarHandle" ∧ (parseMethodDescriptor y.desc).map (fun d => d.parameters.length) = some nn) (hrc : rmC.cells = 0 ∧ rmC.slots = 0) (hR : rmC.frames + 1 ≤ R.frames ∧ 8 + (ny + 11) + rmC.locals ≤ R.locals)
    (hW : PD D A ws H) (isC : List Nat) (hC : isC.map (fun i => ws[i]?) = wc.map some) (hnC : va_nd isC = true) (hn : As.length = nn) (hsz : ls.size = n) (hst : st0 = As.reverse ++ rest) (hrm : (rest.map fun v => v.category).sum ≤ 8) (hdg : decode cc pc = .ok (.invokestatic index, 3)) (hf : cells ≤ R.cells ∧ slots ≤ R.slots) :
    va_Run p l e R s m args below meth c H locs cells slots 0 0 (F0 m pc ls st0) rest (va_Qi post (fun u t => va_P D vwCl (w1 u) t.heap ∧ va_D (va_A wc H.size) (w1 u)) (va_A wc H.size) As.toArray) (va_A wc H.size) := by
  have hD := hW.2.sub (ws' := wc) isC hnC hC
  have hP : va_P D vwCl wc H := hW.1.sub isC (by
    have h8 : (isC.map (fun i => ws[i]?)).filterMap id = (wc.map some).filterMap id := by rw [hC]
    rw [List.filterMap_map, List.filterMap_map] at h8
    simpa using h8)
  refine va_runS (As := As) (rest := rest) ⟨B.1, B.2.1, B.2.2.2.1, B.2.2.2.2.1, B.2.2.2.2.2.1⟩ (hM H.size) ⟨callB_of nn B.2.2.2.2.2.1 (gin (gin_ws hcode)) rfl hrc.1 hrc.2 (B.2.2.2.2.2.1 _ hini) (B.2.2.2.2.2.1 _ hlink) hd.2 hR, B.2.2.2.2.2.1 _ hstt⟩ ⟨PreC.blind hE, k_pre B.2.2.2.2.2.2.2.2 hP hD hEv⟩ rfl hn hsz hst (lv_room hrm) hdg hf
theorem k_runNi {V : Type} {w1 : V → va_W} {post : Int32 → V → Prop} {E : (Nat → Prop) → State → Prop} {y : MethodName} {cy : ByteArray} {ny nn index : Nat} {rt : FieldType} {rmC : Room} {As : List Value} {wc : va_W} {C host : String} {st0 : List Value} (B : Bx p s m args meth c cc n ret own D tys A) (hM : Ci l y (WS y cy ny (some rt)) rmC D tys E As wc w1 post) (hE : Estab E) (hEv : ∀ U : State, U.heap = H → s.vm.Alike U.vm → E (va_A wc H.size) U)
    (hcode : Cond.code y cy ny (some rt) ∈ gw) (hlink : Cond.methodLinkNest own index y host ∈ nestG) (hstt : Cond.static y ∈ gw) (hini : Cond.initialized y.cls ∈ gw) (hd : y.cls = C ∧ y.cls ≠ "java/lang/invoke/MethodHandle" ∧ y.cls ≠ "java/lang/invoke/VarHandle" ∧ (parseMethodDescriptor y.desc).map (fun d => d.parameters.length) = some nn) (hrc : rmC.cells = 0 ∧ rmC.slots = 0) (hR : rmC.frames + 1 ≤ R.frames ∧ 8 + (ny + 11) + rmC.locals ≤ R.locals)
    (hW : PD D A ws H) (isC : List Nat) (hC : isC.map (fun i => ws[i]?) = wc.map some) (hnC : va_nd isC = true) (hn : As.length = nn) (hsz : ls.size = n) (hst : st0 = As.reverse ++ rest) (hrm : (rest.map fun v => v.category).sum ≤ 8) (hdg : decode cc pc = .ok (.invokestatic index, 3)) (hf : cells ≤ R.cells ∧ slots ≤ R.slots) :
    va_Run p l e R s m args below meth c H locs cells slots 0 0 (F0 m pc ls st0) rest (va_Qi post (fun u t => va_P D vwCl (w1 u) t.heap ∧ va_D (va_A wc H.size) (w1 u)) (va_A wc H.size) As.toArray) (va_A wc H.size) := by
  have hD := hW.2.sub (ws' := wc) isC hnC hC
  have hP : va_P D vwCl wc H := hW.1.sub isC (by
    have h8 : (isC.map (fun i => ws[i]?)).filterMap id = (wc.map some).filterMap id := by rw [hC]
    rw [List.filterMap_map, List.filterMap_map] at h8
    simpa using h8)
  refine va_runSN (As := As) (rest := rest) ⟨B.1, B.2.1, B.2.2.2.1, B.2.2.2.2.1, B.2.2.2.2.2.1⟩ (hM H.size) ⟨va_cnB nn B.2.2.2.2.2.1 (gin (gin_ws hcode)) rfl hrc.1 hrc.2 (B.2.2.2.2.2.2.2.2.2 _ hlink) (B.2.2.2.2.2.1 _ hini) hd.2 hR, B.2.2.2.2.2.1 _ hstt, trivial⟩ ⟨PreC.blind hE, k_pre B.2.2.2.2.2.2.2.2 hP hD hEv⟩ rfl hn hsz hst (lv_room hrm) hdg hf
/-- behind a call: the callee's cells anew at their places, the rest as it was -/
theorem k_callv {V : Type} {w1 : V → va_W} {post : V → Prop} {wc : va_W} {a0 : Array Value} {st0 : List Value} (B : Bx p s m args meth c cc n ret own D tys A) (hr : va_Run p l e R s m args below meth c H locs cells slots 0 0 (F0 m pc ls st0) rest (va_Qv post (fun u t => va_P D vwCl (w1 u) t.heap ∧ va_D (va_A wc H.size) (w1 u)) (va_A wc H.size) a0) (va_A wc H.size))
    (hW : PD D A ws H) (hS : va_S A s.heap H locs) (isC : List Nat) (hC : isC.map (fun i => ws[i]?) = wc.map some) (ad : List Nat) (had0 : wc.map Prod.fst = ad) (hadr : ∀ u, (w1 u).map Prod.fst = ad) (pl : List (Option Nat)) (hpl : plan_ok isC pl = true) (ws' : V → va_W) (hws : ∀ u, bld (w1 u) ws pl = ws' u)
    (kk : ∀ (u : V) (H1 : Heap) (locs1 : List Loc), post u → PD D A (ws' u) H1 → va_S A s.heap H1 locs1 → W p l e R s m args below meth c H1 locs1 cells slots Q (F0 m (pc + 3) ls (rest))) : W p l e R s m args below meth c H locs cells slots Q (F0 m pc ls st0) := by
  have hF := va_free (wc := wc) hW.2 hS B.2.2.2.2.2.2.2.1 isC hC
  refine va_callv hr hS (fun q _ h => hF q h) hF (fun u t H1 locs1 ht hvm hw hB hz1 hk1 hS1 => ?_)
  have hP1 := hB.1
  rw [ht] at hP1
  have hJ := bld_PD hW isC hC ((hadr u).trans had0.symm) pl hpl hk1 hP1
  rw [hws u] at hJ
  exact kk u H1 locs1 hw hJ hS1
theorem k_runVv {V : Type} {w1 : V → va_W} {post : V → Prop} {E : (Nat → Prop) → State → Prop} {y : MethodName} {cy : ByteArray} {ny nn index b : Nat} {rmC : Room} {As : List Value} {wc : va_W} {C : String} {st0 : List Value} (B : Bx p s m args meth c cc n ret own D tys A) (hM : Cv l y (WS y cy ny none) rmC D tys E (.ref b :: As) wc w1 post) (hE : Estab E) (hEv : ∀ U : State, U.heap = H → s.vm.Alike U.vm → E (va_A wc H.size) U)
    (hcode : Cond.code y cy ny none ∈ gw) (hlink : Cond.methodLink own index y ∈ gw) (hinst : Cond.instanceMethod y ∈ gw) (hsel : Cond.selects C y y ∈ gw) (hini : Cond.initialized C ∈ gw) (hd : y.cls = C ∧ y.cls ≠ "java/lang/invoke/MethodHandle" ∧ y.cls ≠ "java/lang/invoke/VarHandle" ∧ (parseMethodDescriptor y.desc).map (fun d => d.parameters.length) = some nn) (hrc : rmC.cells = 0 ∧ rmC.slots = 0) (hR : rmC.frames + 1 ≤ R.frames ∧ 8 + (ny + 11) + rmC.locals ≤ R.locals)
    (hW : PD D A ws H) (isC : List Nat) (hC : isC.map (fun i => ws[i]?) = wc.map some) (hnC : va_nd isC = true) {ci q0 : Nat} {fs : List Value} {T : u_T} {N : Nat} (hq : wc[q0]? = some (b, .inr (ci, fs))) (hcl : vwCl[ci]? = some (C, T, N)) (hn : As.length = nn) (hsz : ls.size = n) (hst : st0 = As.reverse ++ .ref b :: rest) (hrm : (rest.map fun v => v.category).sum ≤ 8) (hdg : decode cc pc = .ok (.invokevirtual index, 3)) (hf : cells ≤ R.cells ∧ slots ≤ R.slots) :
    va_Run p l e R s m args below meth c H locs cells slots 0 0 (F0 m pc ls st0) rest (va_Qv post (fun u t => va_P D vwCl (w1 u) t.heap ∧ va_D (va_A wc H.size) (w1 u)) (va_A wc H.size) (Value.ref b :: As).toArray) (va_A wc H.size) := by
  have hD := hW.2.sub (ws' := wc) isC hnC hC
  have hP : va_P D vwCl wc H := hW.1.sub isC (by
    have h8 : (isC.map (fun i => ws[i]?)).filterMap id = (wc.map some).filterMap id := by rw [hC]
    rw [List.filterMap_map, List.filterMap_map] at h8
    simpa using h8)
  refine va_runV (As := As) (rest := rest) ⟨B.1, B.2.1, B.2.2.2.1, B.2.2.2.2.1, B.2.2.2.2.2.1⟩ (hM H.size) (cwV nn B.2.2.2.2.2.1 (gin_v hlink hinst hsel hini (gin_ws hcode)) rfl hrc.1 hrc.2 hd hR) ⟨PreC.blind hE, va_recv B.2.2.2.2.2.2.2.2.1 hP hcl hq, k_pre B.2.2.2.2.2.2.2.2 hP hD hEv⟩ rfl hn hsz hst (lv_room hrm) hdg hf
theorem k_runSv {V : Type} {w1 : V → va_W} {post : V → Prop} {E : (Nat → Prop) → State → Prop} {y : MethodName} {cy : ByteArray} {ny nn index : Nat} {rmC : Room} {As : List Value} {wc : va_W} {C host : String} {st0 : List Value} (B : Bx p s m args meth c cc n ret own D tys A) (hM : Cv l y (WS y cy ny none) rmC D tys E As wc w1 post) (hE : Estab E) (hEv : ∀ U : State, U.heap = H → s.vm.Alike U.vm → E (va_A wc H.size) U)
    (hcode : Cond.code y cy ny none ∈ gw) (hlink : Cond.methodLink own index y ∈ gw) (hstt : Cond.static y ∈ gw) (hini : Cond.initialized y.cls ∈ gw) (hd : y.cls = C ∧ y.cls ≠ "java/lang/invoke/MethodHandle" ∧ y.cls ≠ "java/lang/invoke/VarHandle" ∧ (parseMethodDescriptor y.desc).map (fun d => d.parameters.length) = some nn) (hrc : rmC.cells = 0 ∧ rmC.slots = 0) (hR : rmC.frames + 1 ≤ R.frames ∧ 8 + (ny + 11) + rmC.locals ≤ R.locals)
    (hW : PD D A ws H) (isC : List Nat) (hC : isC.map (fun i => ws[i]?) = wc.map some) (hnC : va_nd isC = true) (hn : As.length = nn) (hsz : ls.size = n) (hst : st0 = As.reverse ++ rest) (hrm : (rest.map fun v => v.category).sum ≤ 8) (hdg : decode cc pc = .ok (.invokestatic index, 3)) (hf : cells ≤ R.cells ∧ slots ≤ R.slots) :
    va_Run p l e R s m args below meth c H locs cells slots 0 0 (F0 m pc ls st0) rest (va_Qv post (fun u t => va_P D vwCl (w1 u) t.heap ∧ va_D (va_A wc H.size) (w1 u)) (va_A wc H.size) As.toArray) (va_A wc H.size) := by
  have hD := hW.2.sub (ws' := wc) isC hnC hC
  have hP : va_P D vwCl wc H := hW.1.sub isC (by
    have h8 : (isC.map (fun i => ws[i]?)).filterMap id = (wc.map some).filterMap id := by rw [hC]
    rw [List.filterMap_map, List.filterMap_map] at h8
    simpa using h8)
  refine va_runS (As := As) (rest := rest) ⟨B.1, B.2.1, B.2.2.2.1, B.2.2.2.2.1, B.2.2.2.2.2.1⟩ (hM H.size) ⟨callB_of nn B.2.2.2.2.2.1 (gin (gin_ws hcode)) rfl hrc.1 hrc.2 (B.2.2.2.2.2.1 _ hini) (B.2.2.2.2.2.1 _ hlink) hd.2 hR, B.2.2.2.2.2.1 _ hstt⟩ ⟨PreC.blind hE, k_pre B.2.2.2.2.2.2.2.2 hP hD hEv⟩ rfl hn hsz hst (lv_room hrm) hdg hf
theorem k_runNv {V : Type} {w1 : V → va_W} {post : V → Prop} {E : (Nat → Prop) → State → Prop} {y : MethodName} {cy : ByteArray} {ny nn index : Nat} {rmC : Room} {As : List Value} {wc : va_W} {C host : String} {st0 : List Value} (B : Bx p s m args meth c cc n ret own D tys A) (hM : Cv l y (WS y cy ny none) rmC D tys E As wc w1 post) (hE : Estab E) (hEv : ∀ U : State, U.heap = H → s.vm.Alike U.vm → E (va_A wc H.size) U)
    (hcode : Cond.code y cy ny none ∈ gw) (hlink : Cond.methodLinkNest own index y host ∈ nestG) (hstt : Cond.static y ∈ gw) (hini : Cond.initialized y.cls ∈ gw) (hd : y.cls = C ∧ y.cls ≠ "java/lang/invoke/MethodHandle" ∧ y.cls ≠ "java/lang/invoke/VarHandle" ∧ (parseMethodDescriptor y.desc).map (fun d => d.parameters.length) = some nn) (hrc : rmC.cells = 0 ∧ rmC.slots = 0) (hR : rmC.frames + 1 ≤ R.frames ∧ 8 + (ny + 11) + rmC.locals ≤ R.locals)
    (hW : PD D A ws H) (isC : List Nat) (hC : isC.map (fun i => ws[i]?) = wc.map some) (hnC : va_nd isC = true) (hn : As.length = nn) (hsz : ls.size = n) (hst : st0 = As.reverse ++ rest) (hrm : (rest.map fun v => v.category).sum ≤ 8) (hdg : decode cc pc = .ok (.invokestatic index, 3)) (hf : cells ≤ R.cells ∧ slots ≤ R.slots) :
    va_Run p l e R s m args below meth c H locs cells slots 0 0 (F0 m pc ls st0) rest (va_Qv post (fun u t => va_P D vwCl (w1 u) t.heap ∧ va_D (va_A wc H.size) (w1 u)) (va_A wc H.size) As.toArray) (va_A wc H.size) := by
  have hD := hW.2.sub (ws' := wc) isC hnC hC
  have hP : va_P D vwCl wc H := hW.1.sub isC (by
    have h8 : (isC.map (fun i => ws[i]?)).filterMap id = (wc.map some).filterMap id := by rw [hC]
    rw [List.filterMap_map, List.filterMap_map] at h8
    simpa using h8)
  refine va_runSN (As := As) (rest := rest) ⟨B.1, B.2.1, B.2.2.2.1, B.2.2.2.2.1, B.2.2.2.2.2.1⟩ (hM H.size) ⟨va_cnB nn B.2.2.2.2.2.1 (gin (gin_ws hcode)) rfl hrc.1 hrc.2 (B.2.2.2.2.2.2.2.2.2 _ hlink) (B.2.2.2.2.2.1 _ hini) hd.2 hR, B.2.2.2.2.2.1 _ hstt, trivial⟩ ⟨PreC.blind hE, k_pre B.2.2.2.2.2.2.2.2 hP hD hEv⟩ rfl hn hsz hst (lv_room hrm) hdg hf
/-- behind a call: the callee's cells anew at their places, the rest as it was -/
theorem k_calll {V : Type} {w1 : V → va_W} {post : Int64 → V → Prop} {wc : va_W} {a0 : Array Value} {st0 : List Value} (B : Bx p s m args meth c cc n ret own D tys A) (hr : va_Run p l e R s m args below meth c H locs cells slots 0 0 (F0 m pc ls st0) rest (va_Ql post (fun u t => va_P D vwCl (w1 u) t.heap ∧ va_D (va_A wc H.size) (w1 u)) (va_A wc H.size) a0) (va_A wc H.size))
    (hW : PD D A ws H) (hS : va_S A s.heap H locs) (isC : List Nat) (hC : isC.map (fun i => ws[i]?) = wc.map some) (ad : List Nat) (had0 : wc.map Prod.fst = ad) (hadr : ∀ u, (w1 u).map Prod.fst = ad) (pl : List (Option Nat)) (hpl : plan_ok isC pl = true) (ws' : V → va_W) (hws : ∀ u, bld (w1 u) ws pl = ws' u)
    (kk : ∀ (r : Int64) (u : V) (H1 : Heap) (locs1 : List Loc), post r u → PD D A (ws' u) H1 → va_S A s.heap H1 locs1 → W p l e R s m args below meth c H1 locs1 cells slots Q (F0 m (pc + 3) ls (.long r :: rest))) : W p l e R s m args below meth c H locs cells slots Q (F0 m pc ls st0) := by
  have hF := va_free (wc := wc) hW.2 hS B.2.2.2.2.2.2.2.1 isC hC
  refine va_calll hr hS (fun q _ h => hF q h) hF (fun r u t H1 locs1 ht hvm hw hB hz1 hk1 hS1 => ?_)
  have hP1 := hB.1
  rw [ht] at hP1
  have hJ := bld_PD hW isC hC ((hadr u).trans had0.symm) pl hpl hk1 hP1
  rw [hws u] at hJ
  exact kk r u H1 locs1 hw hJ hS1
theorem k_runVl {V : Type} {w1 : V → va_W} {post : Int64 → V → Prop} {E : (Nat → Prop) → State → Prop} {y : MethodName} {cy : ByteArray} {ny nn index b : Nat} {rmC : Room} {As : List Value} {wc : va_W} {C : String} {st0 : List Value} (B : Bx p s m args meth c cc n ret own D tys A) (hM : Cl l y (WS y cy ny (some .long)) rmC D tys E (.ref b :: As) wc w1 post) (hE : Estab E) (hEv : ∀ U : State, U.heap = H → s.vm.Alike U.vm → E (va_A wc H.size) U)
    (hcode : Cond.code y cy ny (some .long) ∈ gw) (hlink : Cond.methodLink own index y ∈ gw) (hinst : Cond.instanceMethod y ∈ gw) (hsel : Cond.selects C y y ∈ gw) (hini : Cond.initialized C ∈ gw) (hd : y.cls = C ∧ y.cls ≠ "java/lang/invoke/MethodHandle" ∧ y.cls ≠ "java/lang/invoke/VarHandle" ∧ (parseMethodDescriptor y.desc).map (fun d => d.parameters.length) = some nn) (hrc : rmC.cells = 0 ∧ rmC.slots = 0) (hR : rmC.frames + 1 ≤ R.frames ∧ 8 + (ny + 11) + rmC.locals ≤ R.locals)
    (hW : PD D A ws H) (isC : List Nat) (hC : isC.map (fun i => ws[i]?) = wc.map some) (hnC : va_nd isC = true) {ci q0 : Nat} {fs : List Value} {T : u_T} {N : Nat} (hq : wc[q0]? = some (b, .inr (ci, fs))) (hcl : vwCl[ci]? = some (C, T, N)) (hn : As.length = nn) (hsz : ls.size = n) (hst : st0 = As.reverse ++ .ref b :: rest) (hrm : (rest.map fun v => v.category).sum ≤ 8) (hdg : decode cc pc = .ok (.invokevirtual index, 3)) (hf : cells ≤ R.cells ∧ slots ≤ R.slots) :
    va_Run p l e R s m args below meth c H locs cells slots 0 0 (F0 m pc ls st0) rest (va_Ql post (fun u t => va_P D vwCl (w1 u) t.heap ∧ va_D (va_A wc H.size) (w1 u)) (va_A wc H.size) (Value.ref b :: As).toArray) (va_A wc H.size) := by
  have hD := hW.2.sub (ws' := wc) isC hnC hC
  have hP : va_P D vwCl wc H := hW.1.sub isC (by
    have h8 : (isC.map (fun i => ws[i]?)).filterMap id = (wc.map some).filterMap id := by rw [hC]
    rw [List.filterMap_map, List.filterMap_map] at h8
    simpa using h8)
  refine va_runV (As := As) (rest := rest) ⟨B.1, B.2.1, B.2.2.2.1, B.2.2.2.2.1, B.2.2.2.2.2.1⟩ (hM H.size) (cwV nn B.2.2.2.2.2.1 (gin_v hlink hinst hsel hini (gin_ws hcode)) rfl hrc.1 hrc.2 hd hR) ⟨PreC.blind hE, va_recv B.2.2.2.2.2.2.2.2.1 hP hcl hq, k_pre B.2.2.2.2.2.2.2.2 hP hD hEv⟩ rfl hn hsz hst (lv_room hrm) hdg hf
theorem k_runSl {V : Type} {w1 : V → va_W} {post : Int64 → V → Prop} {E : (Nat → Prop) → State → Prop} {y : MethodName} {cy : ByteArray} {ny nn index : Nat} {rmC : Room} {As : List Value} {wc : va_W} {C host : String} {st0 : List Value} (B : Bx p s m args meth c cc n ret own D tys A) (hM : Cl l y (WS y cy ny (some .long)) rmC D tys E As wc w1 post) (hE : Estab E) (hEv : ∀ U : State, U.heap = H → s.vm.Alike U.vm → E (va_A wc H.size) U)
    (hcode : Cond.code y cy ny (some .long) ∈ gw) (hlink : Cond.methodLink own index y ∈ gw) (hstt : Cond.static y ∈ gw) (hini : Cond.initialized y.cls ∈ gw) (hd : y.cls = C ∧ y.cls ≠ "java/lang/invoke/MethodHandle" ∧ y.cls ≠ "java/lang/invoke/VarHandle" ∧ (parseMethodDescriptor y.desc).map (fun d => d.parameters.length) = some nn) (hrc : rmC.cells = 0 ∧ rmC.slots = 0) (hR : rmC.frames + 1 ≤ R.frames ∧ 8 + (ny + 11) + rmC.locals ≤ R.locals)
    (hW : PD D A ws H) (isC : List Nat) (hC : isC.map (fun i => ws[i]?) = wc.map some) (hnC : va_nd isC = true) (hn : As.length = nn) (hsz : ls.size = n) (hst : st0 = As.reverse ++ rest) (hrm : (rest.map fun v => v.category).sum ≤ 8) (hdg : decode cc pc = .ok (.invokestatic index, 3)) (hf : cells ≤ R.cells ∧ slots ≤ R.slots) :
    va_Run p l e R s m args below meth c H locs cells slots 0 0 (F0 m pc ls st0) rest (va_Ql post (fun u t => va_P D vwCl (w1 u) t.heap ∧ va_D (va_A wc H.size) (w1 u)) (va_A wc H.size) As.toArray) (va_A wc H.size) := by
  have hD := hW.2.sub (ws' := wc) isC hnC hC
  have hP : va_P D vwCl wc H := hW.1.sub isC (by
    have h8 : (isC.map (fun i => ws[i]?)).filterMap id = (wc.map some).filterMap id := by rw [hC]
    rw [List.filterMap_map, List.filterMap_map] at h8
    simpa using h8)
  refine va_runS (As := As) (rest := rest) ⟨B.1, B.2.1, B.2.2.2.1, B.2.2.2.2.1, B.2.2.2.2.2.1⟩ (hM H.size) ⟨callB_of nn B.2.2.2.2.2.1 (gin (gin_ws hcode)) rfl hrc.1 hrc.2 (B.2.2.2.2.2.1 _ hini) (B.2.2.2.2.2.1 _ hlink) hd.2 hR, B.2.2.2.2.2.1 _ hstt⟩ ⟨PreC.blind hE, k_pre B.2.2.2.2.2.2.2.2 hP hD hEv⟩ rfl hn hsz hst (lv_room hrm) hdg hf
theorem k_runNl {V : Type} {w1 : V → va_W} {post : Int64 → V → Prop} {E : (Nat → Prop) → State → Prop} {y : MethodName} {cy : ByteArray} {ny nn index : Nat} {rmC : Room} {As : List Value} {wc : va_W} {C host : String} {st0 : List Value} (B : Bx p s m args meth c cc n ret own D tys A) (hM : Cl l y (WS y cy ny (some .long)) rmC D tys E As wc w1 post) (hE : Estab E) (hEv : ∀ U : State, U.heap = H → s.vm.Alike U.vm → E (va_A wc H.size) U)
    (hcode : Cond.code y cy ny (some .long) ∈ gw) (hlink : Cond.methodLinkNest own index y host ∈ nestG) (hstt : Cond.static y ∈ gw) (hini : Cond.initialized y.cls ∈ gw) (hd : y.cls = C ∧ y.cls ≠ "java/lang/invoke/MethodHandle" ∧ y.cls ≠ "java/lang/invoke/VarHandle" ∧ (parseMethodDescriptor y.desc).map (fun d => d.parameters.length) = some nn) (hrc : rmC.cells = 0 ∧ rmC.slots = 0) (hR : rmC.frames + 1 ≤ R.frames ∧ 8 + (ny + 11) + rmC.locals ≤ R.locals)
    (hW : PD D A ws H) (isC : List Nat) (hC : isC.map (fun i => ws[i]?) = wc.map some) (hnC : va_nd isC = true) (hn : As.length = nn) (hsz : ls.size = n) (hst : st0 = As.reverse ++ rest) (hrm : (rest.map fun v => v.category).sum ≤ 8) (hdg : decode cc pc = .ok (.invokestatic index, 3)) (hf : cells ≤ R.cells ∧ slots ≤ R.slots) :
    va_Run p l e R s m args below meth c H locs cells slots 0 0 (F0 m pc ls st0) rest (va_Ql post (fun u t => va_P D vwCl (w1 u) t.heap ∧ va_D (va_A wc H.size) (w1 u)) (va_A wc H.size) As.toArray) (va_A wc H.size) := by
  have hD := hW.2.sub (ws' := wc) isC hnC hC
  have hP : va_P D vwCl wc H := hW.1.sub isC (by
    have h8 : (isC.map (fun i => ws[i]?)).filterMap id = (wc.map some).filterMap id := by rw [hC]
    rw [List.filterMap_map, List.filterMap_map] at h8
    simpa using h8)
  refine va_runSN (As := As) (rest := rest) ⟨B.1, B.2.1, B.2.2.2.1, B.2.2.2.2.1, B.2.2.2.2.2.1⟩ (hM H.size) ⟨va_cnB nn B.2.2.2.2.2.1 (gin (gin_ws hcode)) rfl hrc.1 hrc.2 (B.2.2.2.2.2.2.2.2.2 _ hlink) (B.2.2.2.2.2.1 _ hini) hd.2 hR, B.2.2.2.2.2.1 _ hstt, trivial⟩ ⟨PreC.blind hE, k_pre B.2.2.2.2.2.2.2.2 hP hD hEv⟩ rfl hn hsz hst (lv_room hrm) hdg hf
/-- an array outside is handed on to a callee; a cell of the world is an array outside for a callee that doesn't own it -/
theorem OE_pass {wc : va_W} {t : Nat} {f : Nat → Int32} (B : Bx p s m args meth c cc n ret own D tys A) (hE : OE t f A s) (hW : PD D A ws H) (hS : va_S A s.heap H locs) (isC : List Nat) (hC : isC.map (fun i => ws[i]?) = wc.map some) : ∀ U : State, U.heap = H → s.vm.Alike U.vm → OE t f (va_A wc H.size) U := by
  intro U hU hV
  have hF := va_free (wc := wc) hW.2 hS B.2.2.2.2.2.2.2.1 isC hC
  show va_T _ _ _ _ _ U U.heap
  rw [hU]
  exact ((va_T.moved hV hE).kept (fun a h1 h2 => hS.2.1 a h1 h2)).narrow hF
theorem OE_world {wc : va_W} {t : Nat} {f : Nat → Int32} (B : Bx p s m args meth c cc n ret own D tys A) (hW : PD D A ws H) (q0 t0 : Nat) {cA : ClassId} (ha : ws[q0]? = some (t, .inl (cA, 6, .inl f))) (ht : tys[t0]? = some (cA, .int)) (isC : List Nat) (hC : isC.map (fun i => ws[i]?) = wc.map some) (hq : q0 ∉ isC) : ∀ U : State, U.heap = H → s.vm.Alike U.vm → OE t f (va_A wc H.size) U := by
  intro U hU hV
  show va_T _ _ _ _ _ U U.heap
  rw [hU]
  have hc : H[t]? = some (arrV cA 6 (fun j => .int (f j))) := hW.1 q0 _ ha
  refine ⟨_, hc, State.isArrayOf_alike hV ((B.2.2.2.2.2.2.2.2.1.2 t0 _ ht).1 6 (fun j => .int (f j))), (fun q => by cases q), Nat.le_of_eq (arrV_size _ _ _).symm, congrArg Nat.toInt32 (arrV_size _ _ _), fun j hj => arrV_read _ _ hj, fun h => ?_⟩
  rcases h with ⟨k, e9, h⟩ | h
  · have h1 : (isC.map (fun i => ws[i]?))[k]? = some (some (t, e9)) := by rw [hC, List.getElem?_map, h]; rfl
    rw [List.getElem?_map] at h1
    cases hi : isC[k]? with
    | none => rw [hi] at h1; cases h1
    | some i =>
      rw [hi] at h1
      have h2 : ws[i]? = some (t, e9) := Option.some.inj h1
      have h3 := hW.2.1 q0 i _ _ ha h2 rfl
      exact hq (h3 ▸ List.mem_of_getElem? hi)
  · have := (Array.getElem?_eq_some_iff.mp hc).1
    omega
theorem ES_pass {wc : va_W} {t : Nat} {f : Nat → Int32} (B : Bx p s m args meth c cc n ret own D tys A) (hE : ES t f A s) (hW : PD D A ws H) (hS : va_S A s.heap H locs) (isC : List Nat) (hC : isC.map (fun i => ws[i]?) = wc.map some) : ∀ U : State, U.heap = H → s.vm.Alike U.vm → ES t f (va_A wc H.size) U := by
  intro U hU hV
  have hF := va_free (wc := wc) hW.2 hS B.2.2.2.2.2.2.2.1 isC hC
  refine ⟨?_, OE_pass B hE.2 hW hS isC hC U hU hV⟩
  rw [hU]
  exact ((va_Z.moved hV hE.1).kept (fun a h1 h2 => hS.2.1 a h1 h2)).narrow hF
/-- a static method without a world: the caller's cells stay -/
theorem k_call0 {V : Type} {post : Int32 → V → Prop} {a0 : Array Value} {st0 : List Value} {w1 : V → va_W} (B : Bx p s m args meth c cc n ret own D tys A) (hr : va_Run p l e R s m args below meth c H locs cells slots 0 0 (F0 m pc ls st0) rest (va_Qi post (fun u t => va_P D vwCl (w1 u) t.heap ∧ va_D (va_A [] H.size) (w1 u)) (va_A [] H.size) a0) (va_A [] H.size))
    (hW : PD D A ws H) (hS : va_S A s.heap H locs)
    (kk : ∀ (r : Int32) (u : V) (H1 : Heap) (locs1 : List Loc), post r u → PD D A ws H1 → va_S A s.heap H1 locs1 → W p l e R s m args below meth c H1 locs1 cells slots Q (F0 m (pc + 3) ls (.int r :: rest))) : W p l e R s m args below meth c H locs cells slots Q (F0 m pc ls st0) := by
  have hF := va_free (wc := []) hW.2 hS B.2.2.2.2.2.2.2.1 [] rfl
  refine va_calli hr hS (fun q _ h => hF q h) hF (fun r u t H1 locs1 ht hvm hw hB hz1 hk1 hS1 => ?_)
  refine kk r u H1 locs1 hw ⟨hW.1.kept (fun k q hq => ?_), hW.2⟩ hS1
  have hlt := (hW.1 k q hq).lt
  refine hk1 q.1 hlt (fun h => ?_)
  rcases h with ⟨k2, e, h⟩ | h
  · simp at h
  · omega
end KR
