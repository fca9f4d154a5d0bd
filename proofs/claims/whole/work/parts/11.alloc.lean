/-! MAKING CELLS: rows for constructors -/
def va_AOA (ty : FieldType) (U : State) : Prop := (Cond.arrayOver (.array ty)).before #[] U = true
theorem va_AOA.use {ty : FieldType} {A : Array Value} {U : State} (h : va_AOA ty U) : (Cond.arrayOver (.array ty)).before A U = true := h
/-! ===== BEGIN new T[n][m]: the outer array a place, the inner ones among the pooled ===== -/
/-- f, but v at every address of l -/
def vr_up {α : Type} (f : Nat → α) (l : List Nat) (v : α) : Nat → α := fun a => if a ∈ l then v else f a
theorem vr_up_in {α : Type} {f : Nat → α} {l : List Nat} {v : α} {a : Nat} (h : a ∈ l) : vr_up f l v a = v := if_pos h
theorem vr_up_ne {α : Type} {f : Nat → α} {l : List Nat} {v : α} {a : Nat} (h : a ∉ l) : vr_up f l v a = f a := if_neg h
theorem vr_rows {L l : List Nat} {f : Nat → va_E} {e : va_E} (h : ∀ a, a ∈ l → a ∉ L) : va_pl L f ++ l.map (fun a => (a, e)) = va_pl (L ++ l) (vr_up f l e) := by
  unfold va_pl
  rw [List.map_append]
  congr 1
  · apply List.map_congr_left
    intro a ha
    rw [vr_up_ne (fun q => h a q ha)]
  · apply List.map_congr_left
    intro a ha
    rw [vr_up_in ha]
theorem vr_lay {X rows : va_W} {x : Nat × va_E} {pl : va_W} {D : va_G} {cl : List vw_C} {H : Heap} (hP : va_P D cl (((X ++ pl) ++ [x]) ++ rows) H) : va_P D cl ((X ++ [x]) ++ (pl ++ rows)) H := by
  rw [List.append_assoc (X ++ pl)] at hP
  have h := va_P.swap hP
  rw [← List.append_assoc X] at h
  have h2 := va_P.swap h
  rw [List.append_assoc (X ++ [x])] at h2
  exact h2
theorem vr_layD {X rows : va_W} {x : Nat × va_E} {pl : va_W} {A : Nat → Prop} (hD : va_D A (((X ++ pl) ++ [x]) ++ rows)) : va_D A ((X ++ [x]) ++ (pl ++ rows)) := by
  rw [List.append_assoc (X ++ pl)] at hD
  have h := va_D.swap hD
  rw [← List.append_assoc X] at h
  have h2 := va_D.swap h
  rw [List.append_assoc (X ++ [x])] at h2
  exact h2
section VGM
variable {p : Program} {l : Launch} {e : Env} {R : Room} {s : State} {m : MethodId} {args : Array Value} {below : List Frame} {meth : Method} {c : Code} {H : Heap} {locs : List Loc} {cells slots : Nat} {Q : State → Prop}
variable {cc : ByteArray} {pc : Nat} {ls : Array Slot} {rest : List Value} {D : va_G} {cl : List vw_C} {A : Nat → Prop} {a : Nat} {tys : List (ClassId × FieldType)} {ws : va_W} {H0 : Heap}
theorem va_mna {X : va_W} {L : List Nat} {f : Nat → va_E} {cc : ByteArray} (hexec : p.tables.exec = Jvm.exec) (hb : c.code = cc) {own : String} {index : Nat} {ty : FieldType} {cy : ClassId} (hown : s.vm.findClass own = some m.cls) (hclink : (Cond.classLink own index ("[" ++ (FieldType.array ty).toString)).before args s = true) (hover : va_AOA ty s) (harr : (Cond.arrayClass ty).before args s = true) (hcy : s.vm.findClass (FieldType.array ty).toString = some cy)
    (hK : va_K D cl tys s) (hP : va_P D cl (X ++ va_pl L f) H) (hD : va_D A (X ++ va_pl L f)) (hS : va_S A H0 H locs) (hA : ∀ q, H0.size ≤ q → A q) {n k : Int32} {N' K' : Nat} {z : vp_A} (hn : ¬ n < 0) (hk : ¬ k < 0) (hN : n.toNatClampNeg = N') (hM : k.toNatClampNeg = K')
    (hb1 : N' * 4 ≤ 536870912) (hb2 : K' * componentBytes ty ≤ 536870912) (hb3 : K' ≤ 536870912) (hdf : fits ty (defaultValue ty) = true) (hdd : (defaultValue ty).isDefault = true) (hcells : cells + (1 + N') ≤ R.cells) (hslots : slots + (N' + N' * K') ≤ R.slots) (hz : ∀ c : ClassId, gr_i c K' (defaultValue ty) = vp_cell c z) (hdg : decode cc pc = .ok (.multianewarray index 2, 4))
    (kk : ∀ (q : Nat) (r : Nat → Nat) (cA : ClassId) (H1 : Heap), (∀ i j : Nat, i < N' → j < N' → r i = r j → i = j) → (∀ i : Nat, i < N' → r i ∉ L) → va_K D cl (tys ++ [(cA, .array ty)]) s →
      va_P D cl ((X ++ [(q, .inl (cA, N', .inr (.inr (.inr (.inr (fun i => if i < N' then some (r i) else none))))))]) ++ va_pl (L ++ (List.range N').map r) (vr_up f ((List.range N').map r) (.inl (cy, z)))) H1 → va_D A ((X ++ [(q, .inl (cA, N', .inr (.inr (.inr (.inr (fun i => if i < N' then some (r i) else none))))))]) ++ va_pl (L ++ (List.range N').map r) (vr_up f ((List.range N').map r) (.inl (cy, z)))) → va_S A H0 H1 locs →
      W p l e R s m args below meth c H1 locs (cells + 1 + N') (slots + N' + N' * K') Q (F0 m (pc + 4) ls (.ref q :: rest))) : W p l e R s m args below meth c H locs cells slots Q (F0 m pc ls (.int k :: .int n :: rest)) := by
  subst hN
  subst hM
  intro T hT Xs
  obtain ⟨vm₁, cA, fA, hAr, X', step⟩ := gr_step Xs hexec hown hclink (va_AOA.use hover) harr hcy (g := F0 m pc ls (.int k :: .int n :: rest)) rfl (by rw [hb]; exact hdg) rfl hn hk hb1 hb2 hb3 hdf hcells hslots
  generalize hF : gr_f (T.setVm vm₁) cA cy n.toNatClampNeg k.toNatClampNeg (defaultValue ty) n.toNatClampNeg = F at X' step
  have hTh : (T.setVm vm₁).heap = H := hT
  obtain ⟨f1, f2, f3, f4, -, -⟩ := gr_Kf (T.setVm vm₁) cA cy n.toNatClampNeg k.toNatClampNeg (defaultValue ty) n.toNatClampNeg
  rw [hF, hTh] at f1 f2 f3 f4
  have hold : ∀ x : Nat, x < H.size → F.heap[x]? = H[x]? := f3
  have hrow : ∀ j : Nat, j < n.toNatClampNeg → F.heap[H.size + 1 + j]? = some (vp_cell cy z) := fun j hj => (f4 j hj).trans (congrArg some (hz cy))
  have hout : gr_o cA n.toNatClampNeg H.size n.toNatClampNeg = vp_cell cA (n.toNatClampNeg, .inr (.inr (.inr (.inr (fun i => if i < n.toNatClampNeg then some (H.size + 1 + i) else none))))) := by
    rw [vp_cell_q]
    rfl
  rw [hout] at f2
  have hlt : ∀ a, a ∈ L → a < H.size := fun a ha => by
    obtain ⟨k9, hk9⟩ := va_pl_get (X := X) (f := f) ha
    exact (hP k9 _ hk9).lt
  have hnl : ∀ i : Nat, i < n.toNatClampNeg → H.size + 1 + i ∉ L := fun i _ h => by
    have := hlt _ h
    omega
  have hnm : ∀ a, a ∈ (List.range n.toNatClampNeg).map (fun i => H.size + 1 + i) → a ∉ L := fun a ha h => by
    obtain ⟨i, -, rfl⟩ := List.mem_map.mp ha
    have := hlt _ h
    omega
  have hP0 : va_P D cl (X ++ va_pl L f) F.heap := hP.kept (fun k9 x hx => hold x.1 ((hP k9 x hx).lt))
  have hP1 : va_P D cl ((X ++ va_pl L f) ++ [(H.size, .inl (cA, n.toNatClampNeg, .inr (.inr (.inr (.inr (fun i => if i < n.toNatClampNeg then some (H.size + 1 + i) else none))))))]) F.heap := hP0.app (fun k9 x hx => by
    have h0 : k9 < 1 := (List.getElem?_eq_some_iff.mp hx).1
    rw [show k9 = 0 by omega] at hx
    cases hx
    exact f2)
  have hP2 : va_P D cl (((X ++ va_pl L f) ++ [(H.size, .inl (cA, n.toNatClampNeg, .inr (.inr (.inr (.inr (fun i => if i < n.toNatClampNeg then some (H.size + 1 + i) else none))))))]) ++ ((List.range n.toNatClampNeg).map (fun i => H.size + 1 + i)).map (fun a => (a, .inl (cy, z)))) F.heap := hP1.app (fun k9 x hx => by
    obtain ⟨a, ha, rfl⟩ := List.mem_map.mp (List.mem_of_getElem? hx)
    obtain ⟨i, hi, rfl⟩ := List.mem_map.mp ha
    exact hrow i (List.mem_range.mp hi))
  have hD2 : va_D A (((X ++ va_pl L f) ++ [(H.size, .inl (cA, n.toNatClampNeg, .inr (.inr (.inr (.inr (fun i => if i < n.toNatClampNeg then some (H.size + 1 + i) else none))))))]) ++ ((List.range n.toNatClampNeg).map (fun i => H.size + 1 + i)).map (fun a => (a, .inl (cy, z)))) := by
    have hD1 := hD.push (e := .inl (cA, n.toNatClampNeg, .inr (.inr (.inr (.inr (fun i => if i < n.toNatClampNeg then some (H.size + 1 + i) else none)))))) hP rfl (hA _ hS.1)
    generalize hW1 : (X ++ va_pl L f) ++ [(H.size, .inl (cA, n.toNatClampNeg, .inr (.inr (.inr (.inr (fun i => if i < n.toNatClampNeg then some (H.size + 1 + i) else none))))))] = W1 at hD1 hP1 ⊢
    have hle : ∀ (k9 : Nat) (x : Nat × va_E), W1[k9]? = some x → x.1 ≤ H.size := fun k9 x hx => by
      rw [← hW1] at hx
      by_cases hl : k9 < (X ++ va_pl L f).length
      · rw [List.getElem?_append_left hl] at hx
        exact Nat.le_of_lt ((hP k9 x hx).lt)
      · rw [List.getElem?_append_right (by omega)] at hx
        have h0 : k9 - (X ++ va_pl L f).length < 1 := (List.getElem?_eq_some_iff.mp hx).1
        rw [show k9 - (X ++ va_pl L f).length = 0 by omega] at hx
        cases hx
        exact Nat.le_refl _
    have hr : ∀ (k9 : Nat) (x : Nat × va_E), (((List.range n.toNatClampNeg).map (fun i => H.size + 1 + i)).map (fun a => ((a, .inl (cy, z)) : Nat × va_E)))[k9]? = some x → x.1 = H.size + 1 + k9 := fun k9 x hx => by
      rw [List.getElem?_map, List.getElem?_map] at hx
      by_cases h9 : k9 < n.toNatClampNeg
      · rw [List.getElem?_range h9] at hx
        cases hx
        rfl
      · have hn0 : (List.range n.toNatClampNeg)[k9]? = none := List.getElem?_eq_none (by rw [List.length_range]; omega)
        rw [hn0] at hx
        cases hx
    refine ⟨fun i j x y hi hj hxy => ?_, fun k9 x hx => ?_⟩
    · by_cases h1 : i < W1.length <;> by_cases h2 : j < W1.length
      · rw [List.getElem?_append_left h1] at hi
        rw [List.getElem?_append_left h2] at hj
        exact hD1.1 i j x y hi hj hxy
      · rw [List.getElem?_append_left h1] at hi
        rw [List.getElem?_append_right (by omega)] at hj
        have := hle _ _ hi
        have := hr _ _ hj
        omega
      · rw [List.getElem?_append_right (by omega)] at hi
        rw [List.getElem?_append_left h2] at hj
        have := hle _ _ hj
        have := hr _ _ hi
        omega
      · rw [List.getElem?_append_right (by omega)] at hi hj
        have := hr _ _ hi
        have := hr _ _ hj
        omega
    · by_cases h1 : k9 < W1.length
      · rw [List.getElem?_append_left h1] at hx
        exact hD1.2 k9 x hx
      · rw [List.getElem?_append_right (by omega)] at hx
        have := hr _ _ hx
        exact hA _ (by have := hS.1; omega)
  have hK2 : va_K D cl (tys ++ [(cA, .array ty)]) s := ⟨hK.1, fun k9 x hx => by
    by_cases hl : k9 < tys.length
    · rw [List.getElem?_append_left hl] at hx
      exact hK.2 k9 x hx
    · rw [List.getElem?_append_right (by omega)] at hx
      have h0 : k9 - tys.length < 1 := (List.getElem?_eq_some_iff.mp hx).1
      rw [show k9 - tys.length = 0 by omega] at hx
      cases hx
      exact ⟨hAr, fA⟩⟩
  obtain ⟨t, a1, b1⟩ := kk H.size (fun i => H.size + 1 + i) cA F.heap (fun i j _ _ h => by have h9 : H.size + 1 + i = H.size + 1 + j := h; omega) hnl hK2 (by rw [← vr_rows hnm]; exact vr_lay hP2) (by rw [← vr_rows hnm]; exact vr_layD hD2) ⟨by rw [f1]; have := hS.1; omega, fun x h1 h2 => (hold x (Nat.lt_of_lt_of_le h1 hS.1)).trans (hS.2.1 x h1 h2), hS.2.2⟩ F rfl X'
  refine ⟨t, step t ?_, b1⟩
  have e : T.heap.size = H.size := by rw [hT]
  rw [e]
  exact a1
end VGM
/-! ===== END ===== -/
theorem va_AOA.moved {ty : FieldType} {u U : State} (hvm : u.vm.Alike U.vm) (h : va_AOA ty u) : va_AOA ty U := by
  obtain ⟨comp, c, k, h1, h2, h3, h4, h5⟩ := arrayOverA_spec (show (Cond.arrayOver (.array ty)).holds #[] u none u [] = true from h)
  have hi : (U.vm.classes.findIdx? fun (x : Class) => match x.kind with | .array component _ => component == comp | _ => false) = some c := by
    have e1 := va_idx_bare U.vm comp
    have e2 := va_idx_bare u.vm comp
    have e3 : u.vm.bare = U.vm.bare := by first | exact hvm.bare_eq | exact hvm.bare_eq.symm
    rw [← e3] at e1
    exact (e1.symm.trans e2).trans h2
  obtain ⟨k', hk', he⟩ := hvm.2.2 _ _ h3
  have hkind : k'.kind = .array comp (.array ty) := by rw [he]; exact h4
  have f1 : U.vm.findClass (FieldType.array ty).toString = some comp := by rw [hvm.findClass]; exact h1
  have f2 : U.vm.findClass ("[" ++ (FieldType.array ty).toString) = some c := by rw [hvm.findClass]; exact h5
  unfold va_AOA Cond.before Cond.holds
  simp only [Cond.value]
  rw [f1, Option.bind_some]
  refine (congrArg (fun o : Option Nat => (o.bind (fun c => (U.vm.classes[c]?).map fun (k : Class) => match k.kind with | .array _ t9 => decide (t9 = FieldType.array ty) && decide (U.vm.findClass ("[" ++ (FieldType.array ty).toString) = some c) | _ => false) == some true)) hi).trans ?_
  simp [hk', hkind, f2]
/-- what the tables say of the arrays of references that are made -/
abbrev EA : (Nat → Prop) → State → Prop := fun _ U => va_AO "SmashedHours$Affairs" U ∧ va_AOA .int U
theorem EA_st : Estab EA := fun _ _ _ h1 _ h => ⟨va_AO.moved h1 h.1, va_AOA.moved h1 h.2⟩
/-- a constructor's contract: mc cells of ms slots come; their addresses are its answer -/
def CN (l : Launch) (y : MethodName) (ws : List Cond) (rm : Room) (D : va_G) (tys : List (ClassId × FieldType)) (av : List Value) (w0 : va_W) {V : Type} (w1 : V → va_W) (mc ms : Nat) : Prop :=
  ∀ sz : Nat, Met l y ws rm (PreC D tys EA av w0 sz) (va_Qv (fun _ : V => True) (fun u t => va_P D vwCl (w1 u) t.heap ∧ va_D (va_A w0 sz) (w1 u)) (va_A w0 sz)) mc ms (va_A w0 sz)
def RN {V : Type} (p : Program) (l : Launch) (e : Env) (R : Room) (s : State) (m : MethodId) (args : Array Value) (below : List Frame) (meth : Method) (c : Code) (cc : ByteArray) (D : va_G) (A : Nat → Prop) (w1 : V → va_W) (mc ms : Nat) (Q : State → Prop) : Prop :=
  ∀ (u : V) (H : Heap) (locs : List Loc) (ls : Array Slot) (pc : Nat), PD D A (w1 u) H → va_S A s.heap H locs → decode cc pc = .ok (.return_, 1) → W p l e R s m args below meth c H locs mc ms Q (F0 m pc ls [])
theorem CN.of {l : Launch} {y : MethodName} {rm : Room} {D : va_G} {tys : List (ClassId × FieldType)} {av : List Value} {w0 : va_W} {V : Type} {w1 : V → va_W} {mc ms : Nat} {cc : ByteArray} {n : Nat} (hy : plainName y.cls = true) (hyn : y.name = "<init>") (hL : (lg_sl av).length ≤ n)
    (body : ∀ (p : Program) (e : Env) (s : State) (m : MethodId) (args : Array Value) (below : List Frame) (meth : Method) (c : Code) (A : Nat → Prop) (ls : Array Slot) (Q : State → Prop), Bx p s m args meth c cc n none y.cls D tys A → meth.name = "<init>" → PD D A w0 s.heap → EA A s → va_S A s.heap s.heap [] → lv_has ls n (lv_args 0 av) → RN p l e rm s m args below meth c cc D A w1 mc ms Q →
      W p l e rm s m args below meth c s.heap [] 0 0 Q (F0 m 0 ls [])) : CN l y (WS y cc n none) rm D tys av w0 w1 mc ms := by
  intro sz
  refine Met.ofW (cc := cc) (maxL := n) (ret := none) hy rfl ?_
  intro p e s m args below meth c s₁ B hml hv
  obtain ⟨rfl, hsz, hP, hK, hD0, hE⟩ := hv
  subst hsz
  have hl := lv_entry av (n := n) hL
  rw [lg_entry_eq]
  generalize (lg_sl av ++ List.replicate (n - (lg_sl av).length) Slot.unset).toArray = ls at hl ⊢
  have hin : meth.name = "<init>" := by rw [(name_of_methodNamed B.named B.method).1]; exact hyn
  exact body p e s m av.toArray below meth c _ ls _ (Bx_of B hml (fun q h => Or.inr h) hK) hin ⟨hP, hD0.self⟩ hE va_S.rf hl
    (fun u H locs ls pc hW hS hd => W.vret B.exec B.bytes B.returns (fun t ht _ => ⟨⟨u, rfl, trivial, by rw [ht]; exact hW.1, hW.2⟩, hS.F ht⟩) hS.2.2 hd B.notSynchronized)
section KA
variable {p : Program} {l : Launch} {e : Env} {R : Room} {s : State} {m : MethodId} {args : Array Value} {below : List Frame} {meth : Method} {c : Code} {H : Heap} {locs : List Loc} {cells slots : Nat} {Q : State → Prop}
variable {cc : ByteArray} {pc : Nat} {ls : Array Slot} {rest : List Value} {D : va_G} {A : Nat → Prop} {a : Nat} {tys : List (ClassId × FieldType)} {ws : va_W} {n : Nat} {ret : Option FieldType} {own : String}
theorem k_obji (B : Bx p s m args meth c cc n ret own D tys A) (hl : ls.size = n) {idx : Nat} (hlink : Cond.methodLink own idx objectInit ∈ gw) (hinst : Cond.instanceMethod objectInit ∈ gw) (hcode : Cond.code objectInit ⟨#[0xb1]⟩ 1 none ∈ gw) (hframes : 1 ≤ R.frames) (hlocals : (rest.map fun v => v.category).sum + 12 ≤ R.locals) (hdg : decode cc pc = .ok (.invokespecial idx, 3))
    (kk : W p l e R s m args below meth c H locs cells slots Q (F0 m (pc + 3) ls rest)) : W p l e R s m args below meth c H locs cells slots Q (F0 m pc ls (.ref a :: rest)) := by
  refine W.objInit B.1 B.2.1 B.2.2.2.2.1 (B.2.2.2.2.2.1 _ hlink) (B.2.2.2.2.2.1 _ hinst) (B.2.2.2.2.2.1 _ hcode) rfl (by rw [B.2.2.2.1]; exact hl) rfl hdg hframes (by show 2 * 0 + _ + 12 ≤ _; omega) ?_
  exact W.eq rfl kk
theorem k_newi (B : Bx p s m args meth c cc n ret own D tys A) (hW : PD D A ws H) (hS : va_S A s.heap H locs) (harr : Cond.arrayClass .int ∈ gw) {cI : ClassId} (t0 : Nat) (ht : tys[t0]? = some (cI, .int)) {x : Int32} {N : Nat} (hn : ¬ x < 0) (hN : x.toNatClampNeg = N) (hbytes : N * 4 ≤ 536870912) (hcells : cells + 1 ≤ R.cells) (hslots : slots + N ≤ R.slots) (hdg : decode cc pc = .ok (.newarray .int, 2))
    (kk : ∀ (q : Nat) (H1 : Heap), PD D A (ws ++ [(q, .inl (cI, N, .inl (fun _ => 0)))]) H1 → va_S A s.heap H1 locs → W p l e R s m args below meth c H1 locs (cells + 1) (slots + N) Q (F0 m (pc + 2) ls (.ref q :: rest))) : W p l e R s m args below meth c H locs cells slots Q (F0 m pc ls (.int x :: rest)) := by
  refine va_newa (atype := .int) (ty := .int) (a0 := (N, .inl (fun _ => 0))) B.1 B.2.1 (B.2.2.2.2.2.1 _ harr) rfl B.2.2.2.2.2.2.2.2.1 hW.1 hW.2 hS B.2.2.2.2.2.2.2.1 (fun _ => rfl) hn hN hbytes hcells hslots hdg (fun q cA H1 hK1 hP1 hD1 hS1 => ?_)
  have e1 : s.vm.findClass ("[" ++ FieldType.int.toString) = some cI := (B.2.2.2.2.2.2.2.2.1.2 t0 _ ht).2
  have e2 : s.vm.findClass ("[" ++ FieldType.int.toString) = some cA := (hK1.2 tys.length (cA, .int) (by rw [List.getElem?_append_right (Nat.le_refl _), Nat.sub_self]; rfl)).2
  cases e1.symm.trans e2
  exact kk q H1 ⟨hP1, hD1⟩ hS1
theorem k_newz (B : Bx p s m args meth c cc n ret own D tys A) (hW : PD D A ws H) (hS : va_S A s.heap H locs) (harr : Cond.arrayClass .boolean ∈ gw) {cZ : ClassId} (t0 : Nat) (ht : tys[t0]? = some (cZ, .boolean)) {x : Int32} {N : Nat} (hn : ¬ x < 0) (hN : x.toNatClampNeg = N) (hbytes : N * 1 ≤ 536870912) (hcells : cells + 1 ≤ R.cells) (hslots : slots + N ≤ R.slots) (hdg : decode cc pc = .ok (.newarray .boolean, 2))
    (kk : ∀ (q : Nat) (H1 : Heap), PD D A (ws ++ [(q, .inl (cZ, N, .inl (fun _ => 0)))]) H1 → va_S A s.heap H1 locs → W p l e R s m args below meth c H1 locs (cells + 1) (slots + N) Q (F0 m (pc + 2) ls (.ref q :: rest))) : W p l e R s m args below meth c H locs cells slots Q (F0 m pc ls (.int x :: rest)) := by
  refine va_newa (atype := .boolean) (ty := .boolean) (a0 := (N, .inl (fun _ => 0))) B.1 B.2.1 (B.2.2.2.2.2.1 _ harr) rfl B.2.2.2.2.2.2.2.2.1 hW.1 hW.2 hS B.2.2.2.2.2.2.2.1 (fun _ => rfl) hn hN hbytes hcells hslots hdg (fun q cA H1 hK1 hP1 hD1 hS1 => ?_)
  have e1 : s.vm.findClass ("[" ++ FieldType.boolean.toString) = some cZ := (B.2.2.2.2.2.2.2.2.1.2 t0 _ ht).2
  have e2 : s.vm.findClass ("[" ++ FieldType.boolean.toString) = some cA := (hK1.2 tys.length (cA, .boolean) (by rw [List.getElem?_append_right (Nat.le_refl _), Nat.sub_self]; rfl)).2
  cases e1.symm.trans e2
  exact kk q H1 ⟨hP1, hD1⟩ hS1
theorem k_newq (B : Bx p s m args meth c cc n ret own D tys A) (hE : EA A s) (hW : PD D A ws H) (hS : va_S A s.heap H locs) {index : Nat} (hcl : Cond.classLink own index "SmashedHours$Affairs" ∈ gw) {cQ : ClassId} (t0 : Nat) (ht : tys[t0]? = some (cQ, .object "SmashedHours$Affairs")) {x : Int32} {N : Nat} (hn : ¬ x < 0) (hN : x.toNatClampNeg = N) (hbytes : N * 4 ≤ 536870912) (hcells : cells + 1 ≤ R.cells) (hslots : slots + N ≤ R.slots) (hdg : decode cc pc = .ok (.anewarray index, 3))
    (kk : ∀ (q : Nat) (H1 : Heap), PD D A (ws ++ [(q, .inl (cQ, N, .inr (.inr (.inr (.inr (fun _ => none))))))]) H1 → va_S A s.heap H1 locs → W p l e R s m args below meth c H1 locs (cells + 1) (slots + N) Q (F0 m (pc + 3) ls (.ref q :: rest))) : W p l e R s m args below meth c H locs cells slots Q (F0 m pc ls (.int x :: rest)) := by
  refine va_newq (C := "SmashedHours$Affairs") B.1 B.2.1 B.2.2.2.2.1 (B.2.2.2.2.2.1 _ hcl) hE.1 B.2.2.2.2.2.2.2.2.1 hW.1 hW.2 hS B.2.2.2.2.2.2.2.1 hn hN hbytes hcells hslots hdg (fun q cA H1 hK1 hP1 hD1 hS1 => ?_)
  obtain ⟨k1, c1, -, -, -, e1⟩ := (B.2.2.2.2.2.2.2.2.1.2 t0 _ ht).2
  obtain ⟨k2, c2, -, -, -, e2⟩ := (hK1.2 tys.length (cA, .object "SmashedHours$Affairs") (by rw [List.getElem?_append_right (Nat.le_refl _), Nat.sub_self]; rfl)).2
  cases e1.symm.trans e2
  exact kk q H1 ⟨hP1, hD1⟩ hS1
theorem k_mna (B : Bx p s m args meth c cc n ret own D tys A) (hE : EA A s) (hW : PD D A ws H) (hS : va_S A s.heap H locs) {index : Nat} (hcl : Cond.classLink own index "[[I" ∈ gw) (harr : Cond.arrayClass .int ∈ gw) {cI cW : ClassId} (t0 t1 : Nat) (ht : tys[t0]? = some (cI, .int)) (ht1 : tys[t1]? = some (cW, .array .int)) {x y : Int32} {N K : Nat} (hn : ¬ x < 0) (hk : ¬ y < 0) (hN : x.toNatClampNeg = N) (hM : y.toNatClampNeg = K) (hb1 : N * 4 ≤ 536870912) (hb2 : K * 4 ≤ 536870912) (hcells : cells + (1 + N) ≤ R.cells) (hslots : slots + (N + N * K) ≤ R.slots) (hdg : decode cc pc = .ok (.multianewarray index 2, 4))
    (kk : ∀ (q : Nat) (r : Nat → Nat) (H1 : Heap), PD D A ((ws ++ [(q, .inl (cW, N, .inr (.inr (.inr (.inr (fun i => if i < N then some (r i) else none))))))]) ++ (List.range N).map (fun i => (r i, .inl (cI, K, .inl (fun _ => 0))))) H1 → va_S A s.heap H1 locs → W p l e R s m args below meth c H1 locs (cells + 1 + N) (slots + N + N * K) Q (F0 m (pc + 4) ls (.ref q :: rest))) : W p l e R s m args below meth c H locs cells slots Q (F0 m pc ls (.int y :: .int x :: rest)) := by
  have hcy : s.vm.findClass (FieldType.array .int).toString = some cI := (B.2.2.2.2.2.2.2.2.1.2 t0 _ ht).2
  refine va_mna (X := ws) (L := []) (f := fun _ => .inl (cI, K, .inl (fun _ => 0))) (ty := .int) (cy := cI) (z := (K, .inl (fun _ => 0))) B.1 B.2.1 B.2.2.2.2.1 (B.2.2.2.2.2.1 _ hcl) hE.2 (B.2.2.2.2.2.1 _ harr) hcy B.2.2.2.2.2.2.2.2.1 (by show va_P D vwCl (ws ++ []) H; rw [List.append_nil]; exact hW.1) (by show va_D A (ws ++ []); rw [List.append_nil]; exact hW.2) hS B.2.2.2.2.2.2.2.1 hn hk hN hM hb1 hb2 (by omega) rfl rfl hcells hslots (fun c9 => by rw [vp_cell_i]; rfl) hdg (fun q r cA H1 hr hr2 hK1 hP1 hD1 hS1 => ?_)
  have e1 : s.vm.findClass ("[" ++ (FieldType.array .int).toString) = some cW := (B.2.2.2.2.2.2.2.2.1.2 t1 _ ht1).2
  have e2 : s.vm.findClass ("[" ++ (FieldType.array .int).toString) = some cA := (hK1.2 tys.length (cA, .array .int) (by rw [List.getElem?_append_right (Nat.le_refl _), Nat.sub_self]; rfl)).2
  cases e1.symm.trans e2
  rw [← vr_rows (fun _ _ h => by cases h)] at hP1 hD1
  rw [show va_pl [] (fun _ => (.inl (cI, K, .inl (fun _ => 0)) : va_E)) = [] from rfl, List.nil_append, List.map_map] at hP1 hD1
  exact kk q r H1 ⟨hP1, hD1⟩ hS1
theorem k_newc (B : Bx p s m args meth c cc n ret own D tys A) {C : String} {T : u_T} {N ci index : Nat} (hin : ∀ w ∈ u_ws C T N, w ∈ gw) (ty : Nat → FieldType) (hty : ∀ k, k < N → parseFieldDescriptor (T k).2.2.1 = some (ty k)) (hcl : Cond.classLink own index C ∈ gw) (hinst : Cond.instantiable C N ∈ gw) (hini : Cond.initialized C ∈ gw) (hW : PD D A ws H) (hS : va_S A s.heap H locs) (hc : vwCl[ci]? = some (C, T, N)) {fs : List Value} (hfs : ∀ j, j < N → defaultValue (ty j) = vp_V fs j) (hcells : cells + 1 ≤ R.cells) (hslots : slots + N ≤ R.slots) (hdg : decode cc pc = .ok (.new index, 3))
    (kk : ∀ (q : Nat) (H1 : Heap), PD D A (ws ++ [(q, .inr (ci, fs))]) H1 → va_S A s.heap H1 locs → W p l e R s m args below meth c H1 locs (cells + 1) (slots + N) Q (F0 m (pc + 3) ls (.ref q :: rest))) : W p l e R s m args below meth c H locs cells slots Q (F0 m pc ls rest) :=
  va_new B.1 B.2.1 B.2.2.2.2.2.1 hin ty hty B.2.2.2.2.1 (B.2.2.2.2.2.1 _ hcl) (B.2.2.2.2.2.1 _ hinst) (B.2.2.2.2.2.1 _ hini) B.2.2.2.2.2.2.2.2.1 hW.1 hW.2 hS B.2.2.2.2.2.2.2.1 hc hfs hcells hslots hdg (fun q H1 h1 h2 h3 => kk q H1 ⟨h1, h2⟩ h3)
theorem k_putF (B : Bx p s m args meth c cc n ret own D tys A) (hin2 : meth.name = "<init>") {ref C : String} {T : u_T} {N ci index : Nat} (hin : ∀ w ∈ u_ws C T N, w ∈ gw) (ty0 : Nat → FieldType) (hty : ∀ k, k < N → parseFieldDescriptor (T k).2.2.1 = some (ty0 k)) (hnm : ∀ a, a < N → ∀ b, b < N → a ≠ b → (T a).2.1 ≠ (T b).2.1) (hW : PD D A ws H) (hS : va_S A s.heap H locs) (q0 : Nat) {fs : List Value} (he : ws[q0]? = some (a, .inr (ci, fs))) (hc : vwCl[ci]? = some (C, T, N)) (k : Nat) (hk : k < N) (hlink : Cond.fieldLink own index ref (T k).2.1 (T k).2.2.1 ∈ gw) (hsame : (T k).1 = ref) (hfin : (T k).2.2.2 = true) (hdecl : (T k).1 = own) {v : Value} (hn : narrow (ty0 k) v = v) (hfit : fits (ty0 k) v = true) (hl : k < fs.length) (hdg : decode cc pc = .ok (.putfield index, 3)) (ws' : va_W) (hws : ws.set q0 (a, .inr (ci, fs.set k v)) = ws')
    (kk : ∀ (H1 : Heap) (locs1 : List Loc), PD D A ws' H1 → va_S A s.heap H1 locs1 → W p l e R s m args below meth c H1 locs1 cells slots Q (F0 m (pc + 3) ls rest)) : W p l e R s m args below meth c H locs cells slots Q (F0 m pc ls (v :: .ref a :: rest)) :=
  va_putF B.1 B.2.1 B.2.2.2.2.2.1 hin ty0 hty hnm B.2.2.2.2.1 B.2.2.2.2.2.2.2.2.1 hW.1 hW.2 hS q0 he hc k hk (B.2.2.2.2.2.1 _ hlink) (by rw [hsame]; exact fun _ h => h) hfin hin2 hdecl (hty k hk) hn hfit hl hdg (fun H1 locs1 h1 h2 h3 => kk H1 locs1 (hws ▸ ⟨h1, h2⟩) h3)
/-- a constructor is called: its object's cell is anew, its new cells come behind all -/
theorem k_callN {V : Type} {w1 : V → va_W} {wc wr : va_W} {mc ms b : Nat} {As : List Value} {y : MethodName} {cy : ByteArray} {ny nn index : Nat} {rmC : Room} {st0 : List Value} (B : Bx p s m args meth c cc n ret own D tys A) (hE : EA A s) (hM : CN l y (WS y cy ny none) rmC D tys (.ref b :: As) wc w1 mc ms) (hcode : Cond.code y cy ny none ∈ gw) (hlink : Cond.methodLink own index y ∈ gw ∨ ∃ host, Cond.methodLinkNest own index y host ∈ nestG) (hinst : Cond.instanceMethod y ∈ gw) (hini : Cond.initialized y.cls ∈ gw) (hyn : y.name = "<init>") (hd : y.cls ≠ "java/lang/invoke/MethodHandle" ∧ y.cls ≠ "java/lang/invoke/VarHandle" ∧ (parseMethodDescriptor y.desc).map (fun d => d.parameters.length) = some nn) (hrc : rmC.cells = mc ∧ rmC.slots = ms) (hR : rmC.frames + 1 ≤ R.frames ∧ 8 + (ny + 11) + rmC.locals ≤ R.locals)
    (hW : PD D A ws H) (hS : va_S A s.heap H locs) (isC isR : List Nat) (hC : isC.map (fun i => ws[i]?) = wc.map some) (hnC : va_nd isC = true) (hRr : isR.map (fun i => ws[i]?) = wr.map some) (hnR : va_nd isR = true) (hdis : ∀ i ∈ isR, i ∉ isC) (hn : As.length = nn) (hsz : ls.size = n) (hst : st0 = As.reverse ++ .ref b :: rest) (hrm : (rest.map fun v => v.category).sum ≤ 8) (hdg : decode cc pc = .ok (.invokespecial index, 3)) (hf : cells + mc ≤ R.cells ∧ slots + ms ≤ R.slots)
    (kk : ∀ (u : V) (H1 : Heap) (locs1 : List Loc), PD D A (wr ++ w1 u) H1 → va_S A s.heap H1 locs1 → W p l e R s m args below meth c H1 locs1 (cells + mc) (slots + ms) Q (F0 m (pc + 3) ls rest)) : W p l e R s m args below meth c H locs cells slots Q (F0 m pc ls st0) := by
  have hD := hW.2.sub (ws' := wc) isC hnC hC
  have hP : va_P D vwCl wc H := hW.1.sub isC (by
    have h8 : (isC.map (fun i => ws[i]?)).filterMap id = (wc.map some).filterMap id := by rw [hC]
    rw [List.filterMap_map, List.filterMap_map] at h8
    simpa using h8)
  have hF := va_free (wc := wc) hW.2 hS B.2.2.2.2.2.2.2.1 isC hC
  have hpre : ∀ U : State, U.heap = H → s.WarmedH U.vm → PreC D tys EA (.ref b :: As) wc H.size (Value.ref b :: As).toArray U := k_pre B.2.2.2.2.2.2.2.2 hP hD (fun U _ hV => EA_st (va_A wc H.size) s U hV |> fun f => ⟨va_AO.moved hV hE.1, va_AOA.moved hV hE.2⟩)
  have run : va_Run p l e R s m args below meth c H locs cells slots mc ms (F0 m pc ls st0) rest (va_Qv (fun _ : V => True) (fun u t => va_P D vwCl (w1 u) t.heap ∧ va_D (va_A wc H.size) (w1 u)) (va_A wc H.size) (Value.ref b :: As).toArray) (va_A wc H.size) := by
    rcases hlink with hlink | ⟨host, hlink⟩
    · exact va_runI (As := As) (rest := rest) ⟨B.1, B.2.1, B.2.2.2.1, B.2.2.2.2.1, B.2.2.2.2.2.1⟩ (hM H.size) ⟨callB_of nn B.2.2.2.2.2.1 (gin (gin_ws hcode)) rfl hrc.1 hrc.2 (B.2.2.2.2.2.1 _ hini) (B.2.2.2.2.2.1 _ hlink) hd hR, hyn, B.2.2.2.2.2.1 _ hinst⟩ ⟨PreC.blind EA_st, hpre⟩ rfl hn hsz hst (lv_room hrm) hdg hf
    · exact va_runIN (As := As) (rest := rest) ⟨B.1, B.2.1, B.2.2.2.1, B.2.2.2.2.1, B.2.2.2.2.2.1⟩ (hM H.size) ⟨va_cnB nn B.2.2.2.2.2.1 (gin (gin_ws hcode)) rfl hrc.1 hrc.2 (B.2.2.2.2.2.2.2.2.2 _ hlink) (B.2.2.2.2.2.1 _ hini) hd hR, hyn, B.2.2.2.2.2.1 _ hinst⟩ ⟨PreC.blind EA_st, hpre⟩ rfl hn hsz hst (lv_room hrm) hdg hf
  refine va_callv run hS (fun q _ h => hF q h) hF (fun u t H1 locs1 ht hvm hw hB hz1 hk1 hS1 => ?_)
  have hP1 := hB.1
  rw [ht] at hP1
  have hJ := va_join (wr := wr) (w1 := w1 u) hW.1 hW.2 isC isR hC hRr hnR hdis hk1 hF hP1 hB.2
  exact kk u H1 locs1 hJ hS1
end KA
def lst (l : List Nat) : Nat → Nat := fun i => l.getD i 0
section KB
variable {p : Program} {l : Launch} {e : Env} {R : Room} {s : State} {m : MethodId} {args : Array Value} {below : List Frame} {meth : Method} {c : Code} {H : Heap} {locs : List Loc} {cells slots : Nat} {Q : State → Prop}
variable {cc : ByteArray} {pc : Nat} {ls : Array Slot} {rest : List Value} {D : va_G} {A : Nat → Prop} {a : Nat} {tys : List (ClassId × FieldType)} {ws : va_W} {n : Nat} {ret : Option FieldType} {own : String}
theorem k_astq (B : Bx p s m args meth c cc n ret own D tys A) (hW : PD D A ws H) (hS : va_S A s.heap H locs) (q0 t0 qk ci : Nat) {cA : ClassId} {r : vw_C} {N v : Nat} {vs : List Value} {f : Nat → Option Nat} (ha : ws[q0]? = some (a, .inl (cA, N, .inr (.inr (.inr (.inr f)))))) (ht : tys[t0]? = some (cA, .object r.1)) (hv : ws[qk]? = some (v, .inr (ci, vs))) (hc : vwCl[ci]? = some r) {i : Int32} {j : Nat} (hin : vp_in i N) (hj : i.toNatClampNeg = j) (hdg : decode cc pc = .ok (.aastore, 1)) (ws' : va_W) (hws : ws.set q0 (a, .inl (cA, N, .inr (.inr (.inr (.inr (va_up f j (some v))))))) = ws')
    (kk : ∀ (H1 : Heap) (locs1 : List Loc), PD D A ws' H1 → va_S A s.heap H1 locs1 → W p l e R s m args below meth c H1 locs1 cells slots Q (F0 m (pc + 1) ls rest)) : W p l e R s m args below meth c H locs cells slots Q (F0 m pc ls (.ref v :: .int i :: .ref a :: rest)) := by
  subst hj
  exact va_astq B.1 B.2.1 B.2.2.2.2.2.2.2.2.1 hW.1 hW.2 hS q0 t0 qk ci ha ht hv hc hin hdg (fun H1 locs1 h1 h2 h3 => kk H1 locs1 (hws ▸ ⟨h1, h2⟩) h3)
end KB
theorem up_2 (a0 a1 : Nat) : va_up (va_up (fun _ => (none : Option Nat)) 0 (some a0)) 1 (some a1) = fun i => if i < 2 then some (lst [a0, a1] i) else none := by
  funext i
  by_cases h : i < 2
  · rcases (show i = 0 ∨ i = 1 by omega) with rfl | rfl <;> rfl
  · simp [va_up, h, show i ≠ 0 by omega, show i ≠ 1 by omega]
theorem up_10 (a0 a1 a2 a3 a4 a5 a6 a7 a8 a9 : Nat) : va_up (va_up (va_up (va_up (va_up (va_up (va_up (va_up (va_up (va_up (fun _ => (none : Option Nat)) 0 (some a0)) 1 (some a1)) 2 (some a2)) 3 (some a3)) 4 (some a4)) 5 (some a5)) 6 (some a6)) 7 (some a7)) 8 (some a8)) 9 (some a9) = fun i => if i < 10 then some (lst [a0, a1, a2, a3, a4, a5, a6, a7, a8, a9] i) else none := by
  funext i
  by_cases h : i < 10
  · rcases (show i = 0 ∨ i = 1 ∨ i = 2 ∨ i = 3 ∨ i = 4 ∨ i = 5 ∨ i = 6 ∨ i = 7 ∨ i = 8 ∨ i = 9 by omega) with rfl | rfl | rfl | rfl | rfl | rfl | rfl | rfl | rfl | rfl <;> rfl
  · simp [va_up, h, show i ≠ 0 by omega, show i ≠ 1 by omega, show i ≠ 2 by omega, show i ≠ 3 by omega, show i ≠ 4 by omega, show i ≠ 5 by omega, show i ≠ 6 by omega, show i ≠ 7 by omega, show i ≠ 8 by omega, show i ≠ 9 by omega]
/-- nobody has an hour -/
def hasN : Nat → Int32 := upd (upd (upd (upd (upd (upd (fun _ => 0) (0 : Int32).toNatClampNeg (-9)) (1 : Int32).toNatClampNeg (-9)) (2 : Int32).toNatClampNeg (-9)) (3 : Int32).toNatClampNeg (-9)) (4 : Int32).toNatClampNeg (-9)) (5 : Int32).toNatClampNeg (-9)
theorem hasN_at : ∀ p, p < 6 → hasN p = -9 := by decide +kernel

