/-! 04.leaf: printed by wip/whole/gen.py: pure functions, and that the bytecode meets them -/
theorem ts_out0_2 {x : Int32} (h0 : ¬ x = 0) (h1 : ¬ x = 1) (h2 : ¬ x = 2) : x.toInt < 0 ∨ 2 < x.toInt := by
  have e0 : ¬ x.toInt = 0 := lv_neT h0 (by decide)
  have e1 : ¬ x.toInt = 1 := lv_neT h1 (by decide)
  have e2 : ¬ x.toInt = 2 := lv_neT h2 (by decide)
  omega
theorem ts_out0_4 {x : Int32} (h0 : ¬ x = 0) (h1 : ¬ x = 1) (h2 : ¬ x = 2) (h3 : ¬ x = 3) (h4 : ¬ x = 4) : x.toInt < 0 ∨ 4 < x.toInt := by
  have e0 : ¬ x.toInt = 0 := lv_neT h0 (by decide)
  have e1 : ¬ x.toInt = 1 := lv_neT h1 (by decide)
  have e2 : ¬ x.toInt = 2 := lv_neT h2 (by decide)
  have e3 : ¬ x.toInt = 3 := lv_neT h3 (by decide)
  have e4 : ¬ x.toInt = 4 := lv_neT h4 (by decide)
  omega
theorem ts_out0_5 {x : Int32} (h0 : ¬ x = 0) (h1 : ¬ x = 1) (h2 : ¬ x = 2) (h3 : ¬ x = 3) (h4 : ¬ x = 4) (h5 : ¬ x = 5) : x.toInt < 0 ∨ 5 < x.toInt := by
  have e0 : ¬ x.toInt = 0 := lv_neT h0 (by decide)
  have e1 : ¬ x.toInt = 1 := lv_neT h1 (by decide)
  have e2 : ¬ x.toInt = 2 := lv_neT h2 (by decide)
  have e3 : ¬ x.toInt = 3 := lv_neT h3 (by decide)
  have e4 : ¬ x.toInt = 4 := lv_neT h4 (by decide)
  have e5 : ¬ x.toInt = 5 := lv_neT h5 (by decide)
  omega
theorem ts_out0_6 {x : Int32} (h0 : ¬ x = 0) (h1 : ¬ x = 1) (h2 : ¬ x = 2) (h3 : ¬ x = 3) (h4 : ¬ x = 4) (h5 : ¬ x = 5) (h6 : ¬ x = 6) : x.toInt < 0 ∨ 6 < x.toInt := by
  have e0 : ¬ x.toInt = 0 := lv_neT h0 (by decide)
  have e1 : ¬ x.toInt = 1 := lv_neT h1 (by decide)
  have e2 : ¬ x.toInt = 2 := lv_neT h2 (by decide)
  have e3 : ¬ x.toInt = 3 := lv_neT h3 (by decide)
  have e4 : ¬ x.toInt = 4 := lv_neT h4 (by decide)
  have e5 : ¬ x.toInt = 5 := lv_neT h5 (by decide)
  have e6 : ¬ x.toInt = 6 := lv_neT h6 (by decide)
  omega
theorem ts_out1_5 {x : Int32} (h1 : ¬ x = 1) (h2 : ¬ x = 2) (h3 : ¬ x = 3) (h4 : ¬ x = 4) (h5 : ¬ x = 5) : x.toInt < 1 ∨ 5 < x.toInt := by
  have e1 : ¬ x.toInt = 1 := lv_neT h1 (by decide)
  have e2 : ¬ x.toInt = 2 := lv_neT h2 (by decide)
  have e3 : ¬ x.toInt = 3 := lv_neT h3 (by decide)
  have e4 : ¬ x.toInt = 4 := lv_neT h4 (by decide)
  have e5 : ¬ x.toInt = 5 := lv_neT h5 (by decide)
  omega
def f_X2_knows {ρ : Type} (N : Nat) (z_size : Int32) (x1 : Int32) (k : Int32 → Option ρ) : Option ρ := if x1 < 0 then (k 0) else (if z_size ≤ x1 then (k 0) else (k 1))
abbrev w_X2_knows (cI cZ cQ cW : ClassId) (z_o : Nat) (z_weight_a : Nat) (z_nights_a : Nat) (z_wanted_a : Nat) (z_wantCount_a : Nat) (z_wantBits_a : Nat) (z_size : Int32) (z_law : Int32) : va_W := [(z_o, .inr (2, [.ref z_weight_a, .ref z_nights_a, .ref z_wanted_a, .ref z_wantCount_a, .ref z_wantBits_a, .int z_size, .int z_law]))]
abbrev rm_X2_knows : Room := { frames := 0, cells := 0, slots := 0, locals := 0 }
set_option maxHeartbeats 4000000 in
set_option maxRecDepth 100000 in
theorem c_X2_knows (l : Launch) (dC : Nat → ClassId) (dI : Nat → Nat → Nat) (cI cZ cQ cW : ClassId) (z_o : Nat) (z_weight_a : Nat) (z_nights_a : Nat) (z_wanted_a : Nat) (z_wantCount_a : Nat) (z_wantBits_a : Nat) (z_size : Int32) (z_law : Int32) (x1 : Int32) {ρ : Type} (N : Nat) (k : Int32 → Option ρ) (res : ρ) (h : f_X2_knows N z_size x1 k = some res) : Ci l yX2_knows (WS yX2_knows cX2_knows 2 (some .boolean)) rm_X2_knows (dC, dI) (tysG cI cZ cQ cW) E0 [.ref z_o, .int x1] (w_X2_knows cI cZ cQ cW z_o z_weight_a z_nights_a z_wanted_a z_wantCount_a z_wantBits_a z_size z_law) (fun (_ : Unit) => (w_X2_knows cI cZ cQ cW z_o z_weight_a z_nights_a z_wanted_a z_wantCount_a z_wantBits_a z_size z_law)) (fun r _ => k r = some res) := by
  refine Ci.of (cc := cX2_knows) (n := 2) (by decide +kernel) (Nat.le_of_ble_eq_true rfl) ?_
  intro p e s m args below meth c A ls Q B hW hE hS hl hQ
  have hx := B.1
  have hb := B.2.1
  have hl : lv_has ls 2 [(0, .ref z_o), (1, .int x1)] := hl
  unfold f_X2_knows at h
  refine lv_iload_n (pc := 0) hx hb (tb_at tk_X2_knows 0 rfl) rfl (lv_at hl 1 rfl) ?_
  refine lv_if_lt (pc := 1) (tgt := 16) hx hb (tb_at tk_X2_knows 1 rfl) (by decide) (fun cc => ?_) (fun cc => ?_)
  · have h := it_t cc h
    refine lv_iconst (pc := 16) (v := 0) hx hb (tb_at tk_X2_knows 8 rfl) (by decide) ?_
    exact hQ 0 () _ _ _ 17 nz0 h hW hS (tb_at tk_X2_knows 9 rfl)
  · have h := it_f cc h
    refine lv_iload_n (pc := 4) hx hb (tb_at tk_X2_knows 2 rfl) rfl (lv_at hl 1 rfl) ?_
    refine lv_aload_n (pc := 5) hx hb (tb_at tk_X2_knows 3 rfl) rfl (lv_at hl 0 rfl) ?_
    refine k_get (pc := 6) (v := .int z_size) (T := TX2) B inG2 hW 0 rfl rfl 5 (by decide) q_f_X2_29 rfl rfl (tb_at tk_X2_knows 4 rfl) ?_
    refine lv_icmp_ge (pc := 9) (tgt := 16) hx hb (tb_at tk_X2_knows 5 rfl) (by decide) (fun cc => ?_) (fun cc => ?_)
    · have h := it_t cc h
      refine lv_iconst (pc := 16) (v := 0) hx hb (tb_at tk_X2_knows 8 rfl) (by decide) ?_
      exact hQ 0 () _ _ _ 17 nz0 h hW hS (tb_at tk_X2_knows 9 rfl)
    · have h := it_f cc h
      refine lv_iconst (pc := 12) (v := 1) hx hb (tb_at tk_X2_knows 6 rfl) (by decide) ?_
      refine lv_goto (pc := 13) (tgt := 17) hx hb (tb_at tk_X2_knows 7 rfl) (by decide) ?_
      exact hQ 1 () _ _ _ 17 nz1 h hW hS (tb_at tk_X2_knows 9 rfl)
def f_X0_begin_e58 {ρ : Type} (h_law : Int32) (k : Int32 → Int32 → Int32 → Int32 → Int32 → (Nat → Int32) → (Nat → Int32) → Option ρ) (z_has_e58 : Nat → Int32) (z_left_e58 : Nat → Int32) : Option ρ := k 0 0 0 0 h_law z_has_e58 z_left_e58
def f_X0_begin_j27 {ρ : Type} (h_size : Int32) (h_nights : Nat → Int32) (y2_l2 : Int32) (z_has_l2 : Nat → Int32) (z_left_l2 : Nat → Int32) (kb2 : Int32 → (Nat → Int32) → (Nat → Int32) → Option ρ) (N : Nat) (s2_j27 : Int32) : Option ρ := ck (ivi y2_l2 6) (f_X2_knows N h_size y2_l2 (fun r35 => if r35 = 0 then (ck (ivi y2_l2 6) (kb2 (y2_l2 + 1) (upd z_has_l2 (y2_l2).toNatClampNeg s2_j27) (upd z_left_l2 (y2_l2).toNatClampNeg 0))) else (ck (ivi y2_l2 6) (ck (ivi y2_l2 6) (kb2 (y2_l2 + 1) (upd z_has_l2 (y2_l2).toNatClampNeg s2_j27) (upd z_left_l2 (y2_l2).toNatClampNeg (h_nights (y2_l2).toNatClampNeg)))))))
def f_X0_begin_l2 {ρ : Type} (h_size : Int32) (h_nights : Nat → Int32) (k58 : (Nat → Int32) → (Nat → Int32) → Option ρ) (N : Nat) : Nat → Int32 → (Nat → Int32) → (Nat → Int32) → Option ρ
  | 0, _, _, _ => none
  | n2 + 1, y2_l2, z_has_l2, z_left_l2 => if 6 ≤ y2_l2 then (k58 z_has_l2 z_left_l2) else (f_X2_knows N h_size y2_l2 (fun r15 => if r15 = 0 then (f_X0_begin_j27 h_size h_nights y2_l2 z_has_l2 z_left_l2 (f_X0_begin_l2 h_size h_nights k58 N n2) N (-9)) else (f_X0_begin_j27 h_size h_nights y2_l2 z_has_l2 z_left_l2 (f_X0_begin_l2 h_size h_nights k58 N n2) N y2_l2)))
def f_X0_begin {ρ : Type} (N : Nat) (h_size : Int32) (h_law : Int32) (z_has : Nat → Int32) (h_nights : Nat → Int32) (z_left : Nat → Int32) (k : Int32 → Int32 → Int32 → Int32 → Int32 → (Nat → Int32) → (Nat → Int32) → Option ρ) : Option ρ := f_X0_begin_l2 h_size h_nights (fun z_has_e58 z_left_e58 => f_X0_begin_e58 h_law k z_has_e58 z_left_e58) N N 0 z_has z_left
abbrev w_X0_begin (cI cZ cQ cW : ClassId) (z_o : Nat) (z_has_a : Nat) (z_left_a : Nat) (z_bits_a : Nat) (h_o : Nat) (h_weight_a : Nat) (h_nights_a : Nat) (h_wanted_a : Nat) (h_wantCount_a : Nat) (h_wantBits_a : Nat) (z_bitCount : Int32) (z_given : Int32) (z_made : Int32) (z_gone : Int32) (z_law : Int32) (h_size : Int32) (h_law : Int32) (z_has : Nat → Int32) (h_nights : Nat → Int32) (z_left : Nat → Int32) : va_W := [(z_o, .inr (0, [.ref z_has_a, .ref z_left_a, .ref z_bits_a, .int z_bitCount, .int z_given, .int z_made, .int z_gone, .int z_law])), (h_o, .inr (2, [.ref h_weight_a, .ref h_nights_a, .ref h_wanted_a, .ref h_wantCount_a, .ref h_wantBits_a, .int h_size, .int h_law])), (z_has_a, .inl (cI, 6, .inl z_has)), (h_nights_a, .inl (cI, 6, .inl h_nights)), (z_left_a, .inl (cI, 6, .inl z_left))]
abbrev rm_X0_begin : Room := { frames := 1, cells := 0, slots := 0, locals := 21 }
set_option maxHeartbeats 4000000 in
set_option maxRecDepth 100000 in
theorem c_X0_begin (l : Launch) (dC : Nat → ClassId) (dI : Nat → Nat → Nat) (cI cZ cQ cW : ClassId) (z_o : Nat) (z_has_a : Nat) (z_left_a : Nat) (z_bits_a : Nat) (h_o : Nat) (h_weight_a : Nat) (h_nights_a : Nat) (h_wanted_a : Nat) (h_wantCount_a : Nat) (h_wantBits_a : Nat) (z_bitCount : Int32) (z_given : Int32) (z_made : Int32) (z_gone : Int32) (z_law : Int32) (h_size : Int32) (h_law : Int32) (z_has : Nat → Int32) (h_nights : Nat → Int32) (z_left : Nat → Int32) {ρ : Type} (N : Nat) (k : Int32 → Int32 → Int32 → Int32 → Int32 → (Nat → Int32) → (Nat → Int32) → Option ρ) (res : ρ) (h : f_X0_begin N h_size h_law z_has h_nights z_left k = some res) : Cv l yX0_begin (WS yX0_begin cX0_begin 3 none) rm_X0_begin (dC, dI) (tysG cI cZ cQ cW) E0 [.ref z_o, .ref h_o] (w_X0_begin cI cZ cQ cW z_o z_has_a z_left_a z_bits_a h_o h_weight_a h_nights_a h_wanted_a h_wantCount_a h_wantBits_a z_bitCount z_given z_made z_gone z_law h_size h_law z_has h_nights z_left) (fun (u : Int32 × Int32 × Int32 × Int32 × Int32 × (Nat → Int32) × (Nat → Int32)) => (w_X0_begin cI cZ cQ cW z_o z_has_a z_left_a z_bits_a h_o h_weight_a h_nights_a h_wanted_a h_wantCount_a h_wantBits_a u.1 u.2.1 u.2.2.1 u.2.2.2.1 u.2.2.2.2.1 h_size h_law u.2.2.2.2.2.1 h_nights u.2.2.2.2.2.2)) (fun u => k u.1 u.2.1 u.2.2.1 u.2.2.2.1 u.2.2.2.2.1 u.2.2.2.2.2.1 u.2.2.2.2.2.2 = some res) := by
  refine Cv.of (cc := cX0_begin) (n := 3) (by decide +kernel) (Nat.le_of_ble_eq_true rfl) ?_
  intro p e s m args below meth c A ls Q B hW hE hS hl hQ
  have hx := B.1
  have hb := B.2.1
  have hl : lv_has ls 3 [(0, .ref z_o), (1, .ref h_o)] := hl
  unfold f_X0_begin at h
  refine lv_iconst (pc := 0) (v := 0) hx hb (tb_at tk_X0_begin 0 rfl) (by decide) ?_
  refine lv_istore_n (pc := 1) (lv' := [(2, .int 0), (0, .ref z_o), (1, .ref h_o)]) hx hb (tb_at tk_X0_begin 1 rfl) rfl hl (by decide) rfl (fun ls hl => ?_)
  have w58 : ∀ (z_has_e58 : Nat → Int32) (z_left_e58 : Nat → Int32) (H : Heap) (locs : List Loc) (ls : Array Slot), f_X0_begin_e58 h_law k z_has_e58 z_left_e58 = some res → PD (dC, dI) A (w_X0_begin cI cZ cQ cW z_o z_has_a z_left_a z_bits_a h_o h_weight_a h_nights_a h_wanted_a h_wantCount_a h_wantBits_a z_bitCount z_given z_made z_gone z_law h_size h_law z_has_e58 h_nights z_left_e58) H → va_S A s.heap H locs → lv_has ls 3 [(0, .ref z_o), (1, .ref h_o)] → W p l e rm_X0_begin s m args below meth c H locs 0 0 Q (F0 m 58 ls []) := by
    intro z_has_e58 z_left_e58 H locs ls h hW hS hl
    unfold f_X0_begin_e58 at h
    refine lv_aload_n (pc := 58) hx hb (tb_at tk_X0_begin 32 rfl) rfl (lv_at hl 0 rfl) ?_
    refine lv_iconst (pc := 59) (v := 0) hx hb (tb_at tk_X0_begin 33 rfl) (by decide) ?_
    refine k_put (pc := 60) (T := TX0) B inG0 tyX0 tyX0_ok nmX0 hW hS 0 rfl rfl 3 (by decide) q_f_X0_30 rfl rfl rfl rfl (Nat.le_of_ble_eq_true rfl) (tb_at tk_X0_begin 34 rfl) (w_X0_begin cI cZ cQ cW z_o z_has_a z_left_a z_bits_a h_o h_weight_a h_nights_a h_wanted_a h_wantCount_a h_wantBits_a 0 z_given z_made z_gone z_law h_size h_law z_has_e58 h_nights z_left_e58) rfl (fun H locs hW hS => ?_)
    refine lv_aload_n (pc := 63) hx hb (tb_at tk_X0_begin 35 rfl) rfl (lv_at hl 0 rfl) ?_
    refine lv_iconst (pc := 64) (v := 0) hx hb (tb_at tk_X0_begin 36 rfl) (by decide) ?_
    refine k_put (pc := 65) (T := TX0) B inG0 tyX0 tyX0_ok nmX0 hW hS 0 rfl rfl 4 (by decide) q_f_X0_34 rfl rfl rfl rfl (Nat.le_of_ble_eq_true rfl) (tb_at tk_X0_begin 37 rfl) (w_X0_begin cI cZ cQ cW z_o z_has_a z_left_a z_bits_a h_o h_weight_a h_nights_a h_wanted_a h_wantCount_a h_wantBits_a 0 0 z_made z_gone z_law h_size h_law z_has_e58 h_nights z_left_e58) rfl (fun H locs hW hS => ?_)
    refine lv_aload_n (pc := 68) hx hb (tb_at tk_X0_begin 38 rfl) rfl (lv_at hl 0 rfl) ?_
    refine lv_iconst (pc := 69) (v := 0) hx hb (tb_at tk_X0_begin 39 rfl) (by decide) ?_
    refine k_put (pc := 70) (T := TX0) B inG0 tyX0 tyX0_ok nmX0 hW hS 0 rfl rfl 5 (by decide) q_f_X0_37 rfl rfl rfl rfl (Nat.le_of_ble_eq_true rfl) (tb_at tk_X0_begin 40 rfl) (w_X0_begin cI cZ cQ cW z_o z_has_a z_left_a z_bits_a h_o h_weight_a h_nights_a h_wanted_a h_wantCount_a h_wantBits_a 0 0 0 z_gone z_law h_size h_law z_has_e58 h_nights z_left_e58) rfl (fun H locs hW hS => ?_)
    refine lv_aload_n (pc := 73) hx hb (tb_at tk_X0_begin 41 rfl) rfl (lv_at hl 0 rfl) ?_
    refine lv_iconst (pc := 74) (v := 0) hx hb (tb_at tk_X0_begin 42 rfl) (by decide) ?_
    refine k_put (pc := 75) (T := TX0) B inG0 tyX0 tyX0_ok nmX0 hW hS 0 rfl rfl 6 (by decide) q_f_X0_40 rfl rfl rfl rfl (Nat.le_of_ble_eq_true rfl) (tb_at tk_X0_begin 43 rfl) (w_X0_begin cI cZ cQ cW z_o z_has_a z_left_a z_bits_a h_o h_weight_a h_nights_a h_wanted_a h_wantCount_a h_wantBits_a 0 0 0 0 z_law h_size h_law z_has_e58 h_nights z_left_e58) rfl (fun H locs hW hS => ?_)
    refine lv_aload_n (pc := 78) hx hb (tb_at tk_X0_begin 44 rfl) rfl (lv_at hl 0 rfl) ?_
    refine lv_aload_n (pc := 79) hx hb (tb_at tk_X0_begin 45 rfl) rfl (lv_at hl 1 rfl) ?_
    refine k_get (pc := 80) (v := .int h_law) (T := TX2) B inG2 hW 1 rfl rfl 6 (by decide) q_f_X0_43 rfl rfl (tb_at tk_X0_begin 46 rfl) ?_
    refine k_put (pc := 83) (T := TX0) B inG0 tyX0 tyX0_ok nmX0 hW hS 0 rfl rfl 7 (by decide) q_f_X0_46 rfl rfl rfl rfl (Nat.le_of_ble_eq_true rfl) (tb_at tk_X0_begin 47 rfl) (w_X0_begin cI cZ cQ cW z_o z_has_a z_left_a z_bits_a h_o h_weight_a h_nights_a h_wanted_a h_wantCount_a h_wantBits_a 0 0 0 0 h_law h_size h_law z_has_e58 h_nights z_left_e58) rfl (fun H locs hW hS => ?_)
    exact hQ (0, 0, 0, 0, h_law, z_has_e58, z_left_e58) _ _ _ 86 h hW hS (tb_at tk_X0_begin 48 rfl)
  have w2 : ∀ (n : Nat), ∀ (y2_l2 : Int32) (z_has_l2 : Nat → Int32) (z_left_l2 : Nat → Int32) (H : Heap) (locs : List Loc) (ls : Array Slot), f_X0_begin_l2 h_size h_nights (fun z_has_e58 z_left_e58 => f_X0_begin_e58 h_law k z_has_e58 z_left_e58) N n y2_l2 z_has_l2 z_left_l2 = some res → PD (dC, dI) A (w_X0_begin cI cZ cQ cW z_o z_has_a z_left_a z_bits_a h_o h_weight_a h_nights_a h_wanted_a h_wantCount_a h_wantBits_a z_bitCount z_given z_made z_gone z_law h_size h_law z_has_l2 h_nights z_left_l2) H → va_S A s.heap H locs → lv_has ls 3 [(0, .ref z_o), (1, .ref h_o), (2, .int y2_l2)] → W p l e rm_X0_begin s m args below meth c H locs 0 0 Q (F0 m 2 ls []) := by
    intro n
    induction n with
    | zero => intro y2_l2 z_has_l2 z_left_l2 H locs ls h; exact no_n h
    | succ n2 ih2 =>
      intro y2_l2 z_has_l2 z_left_l2 H locs ls h hW hS hl
      rw [f_X0_begin_l2] at h
      refine lv_iload_n (pc := 2) hx hb (tb_at tk_X0_begin 2 rfl) rfl (lv_at hl 2 rfl) ?_
      refine lv_bipush (pc := 3) (v := 6) hx hb (tb_at tk_X0_begin 3 rfl) (by decide) ?_
      refine lv_icmp_ge (pc := 5) (tgt := 58) hx hb (tb_at tk_X0_begin 4 rfl) (by decide) (fun cc => ?_) (fun cc => ?_)
      · have h := it_t cc h
        exact w58 z_has_l2 z_left_l2 _ _ _ h hW hS (lv_sub hl [0, 1] rfl)
      · have h := it_f cc h
        refine lv_aload_n (pc := 8) hx hb (tb_at tk_X0_begin 5 rfl) rfl (lv_at hl 0 rfl) ?_
        refine k_get (pc := 9) (v := .ref z_has_a) (T := TX0) B inG0 hW 0 rfl rfl 0 (by decide) q_f_X0_9 rfl rfl (tb_at tk_X0_begin 6 rfl) ?_
        refine lv_iload_n (pc := 12) hx hb (tb_at tk_X0_begin 7 rfl) rfl (lv_at hl 2 rfl) ?_
        refine lv_aload_n (pc := 13) hx hb (tb_at tk_X0_begin 8 rfl) rfl (lv_at hl 1 rfl) ?_
        refine lv_iload_n (pc := 14) hx hb (tb_at tk_X0_begin 9 rfl) rfl (lv_at hl 2 rfl) ?_
        refine k_calli (pc := 15) B (k_runVi (rest := [.int y2_l2, .ref z_has_a]) (C := RX2) B (c_X2_knows l dC dI cI cZ cQ cW h_o h_weight_a h_nights_a h_wanted_a h_wantCount_a h_wantBits_a h_size h_law y2_l2 N _ res h) E0_st (fun _ _ _ => trivial) q_c_X2_knows q_m_X0_21 q_i_X2_knows q_s_X2_knows q_n_X2 hd_X2_knows ⟨rfl, rfl⟩ ⟨Nat.le_of_ble_eq_true rfl, Nat.le_of_ble_eq_true rfl⟩ hW [1] rfl (by decide +kernel) (q0 := 0) (ci := 2) rfl rfl rfl hl.1 rfl (Nat.le_of_ble_eq_true rfl) (tb_at tk_X0_begin 10 rfl) ⟨Nat.zero_le _, Nat.zero_le _⟩) hW hS [1] rfl [h_o] rfl (fun _ => rfl) [none, some 0, none, none, none] (by decide +kernel) (fun _ => (w_X0_begin cI cZ cQ cW z_o z_has_a z_left_a z_bits_a h_o h_weight_a h_nights_a h_wanted_a h_wantCount_a h_wantBits_a z_bitCount z_given z_made z_gone z_law h_size h_law z_has_l2 h_nights z_left_l2)) (fun _ => rfl) (fun r15 u H locs h hW hS => ?_)
        have hW : PD (dC, dI) A (w_X0_begin cI cZ cQ cW z_o z_has_a z_left_a z_bits_a h_o h_weight_a h_nights_a h_wanted_a h_wantCount_a h_wantBits_a z_bitCount z_given z_made z_gone z_law h_size h_law z_has_l2 h_nights z_left_l2) H := hW
        have w27 : ∀ (s2_j27 : Int32) (H : Heap) (locs : List Loc) (ls : Array Slot), f_X0_begin_j27 h_size h_nights y2_l2 z_has_l2 z_left_l2 (f_X0_begin_l2 h_size h_nights (fun z_has_e58 z_left_e58 => f_X0_begin_e58 h_law k z_has_e58 z_left_e58) N n2) N s2_j27 = some res → PD (dC, dI) A (w_X0_begin cI cZ cQ cW z_o z_has_a z_left_a z_bits_a h_o h_weight_a h_nights_a h_wanted_a h_wantCount_a h_wantBits_a z_bitCount z_given z_made z_gone z_law h_size h_law z_has_l2 h_nights z_left_l2) H → va_S A s.heap H locs → lv_has ls 3 [(0, .ref z_o), (1, .ref h_o), (2, .int y2_l2)] → W p l e rm_X0_begin s m args below meth c H locs 0 0 Q (F0 m 27 ls [.int s2_j27, .int y2_l2, .ref z_has_a]) := by
          intro s2_j27 H locs ls h hW hS hl
          unfold f_X0_begin_j27 at h
          have ii := ivi_in (ck_l h)
          have h := ck_r h
          refine k_iast (pc := 27) B hW hS 2 0 rfl rfl ii (tb_at tk_X0_begin 15 rfl) (w_X0_begin cI cZ cQ cW z_o z_has_a z_left_a z_bits_a h_o h_weight_a h_nights_a h_wanted_a h_wantCount_a h_wantBits_a z_bitCount z_given z_made z_gone z_law h_size h_law (upd z_has_l2 (y2_l2).toNatClampNeg s2_j27) h_nights z_left_l2) rfl (fun H locs hW hS => ?_)
          refine lv_aload_n (pc := 28) hx hb (tb_at tk_X0_begin 16 rfl) rfl (lv_at hl 0 rfl) ?_
          refine k_get (pc := 29) (v := .ref z_left_a) (T := TX0) B inG0 hW 0 rfl rfl 1 (by decide) q_f_X0_15 rfl rfl (tb_at tk_X0_begin 17 rfl) ?_
          refine lv_iload_n (pc := 32) hx hb (tb_at tk_X0_begin 18 rfl) rfl (lv_at hl 2 rfl) ?_
          refine lv_aload_n (pc := 33) hx hb (tb_at tk_X0_begin 19 rfl) rfl (lv_at hl 1 rfl) ?_
          refine lv_iload_n (pc := 34) hx hb (tb_at tk_X0_begin 20 rfl) rfl (lv_at hl 2 rfl) ?_
          refine k_calli (pc := 35) B (k_runVi (rest := [.int y2_l2, .ref z_left_a]) (C := RX2) B (c_X2_knows l dC dI cI cZ cQ cW h_o h_weight_a h_nights_a h_wanted_a h_wantCount_a h_wantBits_a h_size h_law y2_l2 N _ res h) E0_st (fun _ _ _ => trivial) q_c_X2_knows q_m_X0_21 q_i_X2_knows q_s_X2_knows q_n_X2 hd_X2_knows ⟨rfl, rfl⟩ ⟨Nat.le_of_ble_eq_true rfl, Nat.le_of_ble_eq_true rfl⟩ hW [1] rfl (by decide +kernel) (q0 := 0) (ci := 2) rfl rfl rfl hl.1 rfl (Nat.le_of_ble_eq_true rfl) (tb_at tk_X0_begin 21 rfl) ⟨Nat.zero_le _, Nat.zero_le _⟩) hW hS [1] rfl [h_o] rfl (fun _ => rfl) [none, some 0, none, none, none] (by decide +kernel) (fun _ => (w_X0_begin cI cZ cQ cW z_o z_has_a z_left_a z_bits_a h_o h_weight_a h_nights_a h_wanted_a h_wantCount_a h_wantBits_a z_bitCount z_given z_made z_gone z_law h_size h_law (upd z_has_l2 (y2_l2).toNatClampNeg s2_j27) h_nights z_left_l2)) (fun _ => rfl) (fun r35 u H locs h hW hS => ?_)
          have hW : PD (dC, dI) A (w_X0_begin cI cZ cQ cW z_o z_has_a z_left_a z_bits_a h_o h_weight_a h_nights_a h_wanted_a h_wantCount_a h_wantBits_a z_bitCount z_given z_made z_gone z_law h_size h_law (upd z_has_l2 (y2_l2).toNatClampNeg s2_j27) h_nights z_left_l2) H := hW
          refine lv_if_eq (pc := 38) (tgt := 50) hx hb (tb_at tk_X0_begin 22 rfl) (by decide) (fun cc => ?_) (fun cc => ?_)
          · have h := it_t cc h
            refine lv_iconst (pc := 50) (v := 0) hx hb (tb_at tk_X0_begin 28 rfl) (by decide) ?_
            have ii := ivi_in (ck_l h)
            have h := ck_r h
            refine k_iast (pc := 51) B hW hS 4 0 rfl rfl ii (tb_at tk_X0_begin 29 rfl) (w_X0_begin cI cZ cQ cW z_o z_has_a z_left_a z_bits_a h_o h_weight_a h_nights_a h_wanted_a h_wantCount_a h_wantBits_a z_bitCount z_given z_made z_gone z_law h_size h_law (upd z_has_l2 (y2_l2).toNatClampNeg s2_j27) h_nights (upd z_left_l2 (y2_l2).toNatClampNeg 0)) rfl (fun H locs hW hS => ?_)
            refine lv_iinc (pc := 52) (v := y2_l2 + 1) (lv' := [(2, .int (y2_l2 + 1)), (0, .ref z_o), (1, .ref h_o)]) hx hb (tb_at tk_X0_begin 30 rfl) hl (k := 2) rfl rfl (by decide) rfl (fun ls hl => ?_)
            refine lv_goto (pc := 55) (tgt := 2) hx hb (tb_at tk_X0_begin 31 rfl) (by decide) ?_
            exact ih2 (y2_l2 + 1) (upd z_has_l2 (y2_l2).toNatClampNeg s2_j27) (upd z_left_l2 (y2_l2).toNatClampNeg 0) _ _ _ h hW hS (lv_sub hl [1, 2, 0] rfl)
          · have h := it_f cc h
            refine lv_aload_n (pc := 41) hx hb (tb_at tk_X0_begin 23 rfl) rfl (lv_at hl 1 rfl) ?_
            refine k_get (pc := 42) (v := .ref h_nights_a) (T := TX2) B inG2 hW 1 rfl rfl 1 (by decide) q_f_X0_27 rfl rfl (tb_at tk_X0_begin 24 rfl) ?_
            refine lv_iload_n (pc := 45) hx hb (tb_at tk_X0_begin 25 rfl) rfl (lv_at hl 2 rfl) ?_
            have ii := ivi_in (ck_l h)
            have h := ck_r h
            refine k_iald (pc := 46) B hW 3 0 rfl rfl ii (tb_at tk_X0_begin 26 rfl) ?_
            refine lv_goto (pc := 47) (tgt := 51) hx hb (tb_at tk_X0_begin 27 rfl) (by decide) ?_
            have ii := ivi_in (ck_l h)
            have h := ck_r h
            refine k_iast (pc := 51) B hW hS 4 0 rfl rfl ii (tb_at tk_X0_begin 29 rfl) (w_X0_begin cI cZ cQ cW z_o z_has_a z_left_a z_bits_a h_o h_weight_a h_nights_a h_wanted_a h_wantCount_a h_wantBits_a z_bitCount z_given z_made z_gone z_law h_size h_law (upd z_has_l2 (y2_l2).toNatClampNeg s2_j27) h_nights (upd z_left_l2 (y2_l2).toNatClampNeg (h_nights (y2_l2).toNatClampNeg))) rfl (fun H locs hW hS => ?_)
            refine lv_iinc (pc := 52) (v := y2_l2 + 1) (lv' := [(2, .int (y2_l2 + 1)), (0, .ref z_o), (1, .ref h_o)]) hx hb (tb_at tk_X0_begin 30 rfl) hl (k := 2) rfl rfl (by decide) rfl (fun ls hl => ?_)
            refine lv_goto (pc := 55) (tgt := 2) hx hb (tb_at tk_X0_begin 31 rfl) (by decide) ?_
            exact ih2 (y2_l2 + 1) (upd z_has_l2 (y2_l2).toNatClampNeg s2_j27) (upd z_left_l2 (y2_l2).toNatClampNeg (h_nights (y2_l2).toNatClampNeg)) _ _ _ h hW hS (lv_sub hl [1, 2, 0] rfl)
        refine lv_if_eq (pc := 18) (tgt := 25) hx hb (tb_at tk_X0_begin 11 rfl) (by decide) (fun cc => ?_) (fun cc => ?_)
        · have h := it_t cc h
          refine lv_bipush (pc := 25) (v := (-9)) hx hb (tb_at tk_X0_begin 14 rfl) (by decide) ?_
          exact w27 (-9) _ _ _ h hW hS (lv_sub hl [0, 1, 2] rfl)
        · have h := it_f cc h
          refine lv_iload_n (pc := 21) hx hb (tb_at tk_X0_begin 12 rfl) rfl (lv_at hl 2 rfl) ?_
          refine lv_goto (pc := 22) (tgt := 27) hx hb (tb_at tk_X0_begin 13 rfl) (by decide) ?_
          exact w27 y2_l2 _ _ _ h hW hS (lv_sub hl [0, 1, 2] rfl)
  exact w2 N 0 z_has z_left _ _ _ h hW hS (lv_sub hl [1, 2, 0] rfl)
def f_X0_become_e64 {ρ : Type} (w_bitCount : Int32) (w_given : Int32) (w_made : Int32) (w_gone : Int32) (w_law : Int32) (z_has_e38 : Nat → Int32) (z_left_e38 : Nat → Int32) (k : Int32 → Int32 → Int32 → Int32 → Int32 → (Nat → Int32) → (Nat → Int32) → (Nat → Int32) → Option ρ) (z_bits_e64 : Nat → Int32) : Option ρ := k w_bitCount w_given w_made w_gone w_law z_has_e38 z_left_e38 z_bits_e64
def f_X0_become_l40 {ρ : Type} (w_bits : Nat → Int32) (k64 : (Nat → Int32) → Option ρ) : Nat → Int32 → (Nat → Int32) → Option ρ
  | 0, _, _ => none
  | n40 + 1, y2_l40, z_bits_l40 => if 8 ≤ y2_l40 then (k64 z_bits_l40) else (ck (ivi y2_l40 8) (ck (ivi y2_l40 8) ((f_X0_become_l40 w_bits k64 n40) (y2_l40 + 1) (upd z_bits_l40 (y2_l40).toNatClampNeg (w_bits (y2_l40).toNatClampNeg)))))
def f_X0_become_e38 {ρ : Type} (z_bits : Nat → Int32) (w_bitCount : Int32) (w_given : Int32) (w_made : Int32) (w_gone : Int32) (w_law : Int32) (w_bits : Nat → Int32) (k : Int32 → Int32 → Int32 → Int32 → Int32 → (Nat → Int32) → (Nat → Int32) → (Nat → Int32) → Option ρ) (N : Nat) (z_has_e38 : Nat → Int32) (z_left_e38 : Nat → Int32) : Option ρ := f_X0_become_l40 w_bits (fun z_bits_e64 => f_X0_become_e64 w_bitCount w_given w_made w_gone w_law z_has_e38 z_left_e38 k z_bits_e64) N 0 z_bits
def f_X0_become_l2 {ρ : Type} (w_has : Nat → Int32) (w_left : Nat → Int32) (k38 : (Nat → Int32) → (Nat → Int32) → Option ρ) : Nat → Int32 → (Nat → Int32) → (Nat → Int32) → Option ρ
  | 0, _, _, _ => none
  | n2 + 1, y2_l2, z_has_l2, z_left_l2 => if 6 ≤ y2_l2 then (k38 z_has_l2 z_left_l2) else (ck (ivi y2_l2 6) (ck (ivi y2_l2 6) (ck (ivi y2_l2 6) (ck (ivi y2_l2 6) ((f_X0_become_l2 w_has w_left k38 n2) (y2_l2 + 1) (upd z_has_l2 (y2_l2).toNatClampNeg (w_has (y2_l2).toNatClampNeg)) (upd z_left_l2 (y2_l2).toNatClampNeg (w_left (y2_l2).toNatClampNeg)))))))
def f_X0_become {ρ : Type} (N : Nat) (w_bitCount : Int32) (w_given : Int32) (w_made : Int32) (w_gone : Int32) (w_law : Int32) (w_has : Nat → Int32) (z_has : Nat → Int32) (w_left : Nat → Int32) (z_left : Nat → Int32) (w_bits : Nat → Int32) (z_bits : Nat → Int32) (k : Int32 → Int32 → Int32 → Int32 → Int32 → (Nat → Int32) → (Nat → Int32) → (Nat → Int32) → Option ρ) : Option ρ := f_X0_become_l2 w_has w_left (fun z_has_e38 z_left_e38 => f_X0_become_e38 z_bits w_bitCount w_given w_made w_gone w_law w_bits k N z_has_e38 z_left_e38) N 0 z_has z_left
abbrev w_X0_become (cI cZ cQ cW : ClassId) (z_o : Nat) (z_has_a : Nat) (z_left_a : Nat) (z_bits_a : Nat) (w_o : Nat) (w_has_a : Nat) (w_left_a : Nat) (w_bits_a : Nat) (z_bitCount : Int32) (z_given : Int32) (z_made : Int32) (z_gone : Int32) (z_law : Int32) (w_bitCount : Int32) (w_given : Int32) (w_made : Int32) (w_gone : Int32) (w_law : Int32) (w_has : Nat → Int32) (z_has : Nat → Int32) (w_left : Nat → Int32) (z_left : Nat → Int32) (w_bits : Nat → Int32) (z_bits : Nat → Int32) : va_W := [(z_o, .inr (0, [.ref z_has_a, .ref z_left_a, .ref z_bits_a, .int z_bitCount, .int z_given, .int z_made, .int z_gone, .int z_law])), (w_o, .inr (0, [.ref w_has_a, .ref w_left_a, .ref w_bits_a, .int w_bitCount, .int w_given, .int w_made, .int w_gone, .int w_law])), (w_has_a, .inl (cI, 6, .inl w_has)), (z_has_a, .inl (cI, 6, .inl z_has)), (w_left_a, .inl (cI, 6, .inl w_left)), (z_left_a, .inl (cI, 6, .inl z_left)), (w_bits_a, .inl (cI, 8, .inl w_bits)), (z_bits_a, .inl (cI, 8, .inl z_bits))]
abbrev rm_X0_become : Room := { frames := 0, cells := 0, slots := 0, locals := 0 }
set_option maxHeartbeats 4000000 in
set_option maxRecDepth 100000 in
theorem c_X0_become (l : Launch) (dC : Nat → ClassId) (dI : Nat → Nat → Nat) (cI cZ cQ cW : ClassId) (z_o : Nat) (z_has_a : Nat) (z_left_a : Nat) (z_bits_a : Nat) (w_o : Nat) (w_has_a : Nat) (w_left_a : Nat) (w_bits_a : Nat) (z_bitCount : Int32) (z_given : Int32) (z_made : Int32) (z_gone : Int32) (z_law : Int32) (w_bitCount : Int32) (w_given : Int32) (w_made : Int32) (w_gone : Int32) (w_law : Int32) (w_has : Nat → Int32) (z_has : Nat → Int32) (w_left : Nat → Int32) (z_left : Nat → Int32) (w_bits : Nat → Int32) (z_bits : Nat → Int32) {ρ : Type} (N : Nat) (k : Int32 → Int32 → Int32 → Int32 → Int32 → (Nat → Int32) → (Nat → Int32) → (Nat → Int32) → Option ρ) (res : ρ) (h : f_X0_become N w_bitCount w_given w_made w_gone w_law w_has z_has w_left z_left w_bits z_bits k = some res) : Cv l yX0_become (WS yX0_become cX0_become 3 none) rm_X0_become (dC, dI) (tysG cI cZ cQ cW) E0 [.ref z_o, .ref w_o] (w_X0_become cI cZ cQ cW z_o z_has_a z_left_a z_bits_a w_o w_has_a w_left_a w_bits_a z_bitCount z_given z_made z_gone z_law w_bitCount w_given w_made w_gone w_law w_has z_has w_left z_left w_bits z_bits) (fun (u : Int32 × Int32 × Int32 × Int32 × Int32 × (Nat → Int32) × (Nat → Int32) × (Nat → Int32)) => (w_X0_become cI cZ cQ cW z_o z_has_a z_left_a z_bits_a w_o w_has_a w_left_a w_bits_a u.1 u.2.1 u.2.2.1 u.2.2.2.1 u.2.2.2.2.1 w_bitCount w_given w_made w_gone w_law w_has u.2.2.2.2.2.1 w_left u.2.2.2.2.2.2.1 w_bits u.2.2.2.2.2.2.2)) (fun u => k u.1 u.2.1 u.2.2.1 u.2.2.2.1 u.2.2.2.2.1 u.2.2.2.2.2.1 u.2.2.2.2.2.2.1 u.2.2.2.2.2.2.2 = some res) := by
  refine Cv.of (cc := cX0_become) (n := 3) (by decide +kernel) (Nat.le_of_ble_eq_true rfl) ?_
  intro p e s m args below meth c A ls Q B hW hE hS hl hQ
  have hx := B.1
  have hb := B.2.1
  have hl : lv_has ls 3 [(0, .ref z_o), (1, .ref w_o)] := hl
  unfold f_X0_become at h
  refine lv_iconst (pc := 0) (v := 0) hx hb (tb_at tk_X0_become 0 rfl) (by decide) ?_
  refine lv_istore_n (pc := 1) (lv' := [(2, .int 0), (0, .ref z_o), (1, .ref w_o)]) hx hb (tb_at tk_X0_become 1 rfl) rfl hl (by decide) rfl (fun ls hl => ?_)
  have w38 : ∀ (z_has_e38 : Nat → Int32) (z_left_e38 : Nat → Int32) (H : Heap) (locs : List Loc) (ls : Array Slot), f_X0_become_e38 z_bits w_bitCount w_given w_made w_gone w_law w_bits k N z_has_e38 z_left_e38 = some res → PD (dC, dI) A (w_X0_become cI cZ cQ cW z_o z_has_a z_left_a z_bits_a w_o w_has_a w_left_a w_bits_a z_bitCount z_given z_made z_gone z_law w_bitCount w_given w_made w_gone w_law w_has z_has_e38 w_left z_left_e38 w_bits z_bits) H → va_S A s.heap H locs → lv_has ls 3 [(0, .ref z_o), (1, .ref w_o)] → W p l e rm_X0_become s m args below meth c H locs 0 0 Q (F0 m 38 ls []) := by
    intro z_has_e38 z_left_e38 H locs ls h hW hS hl
    unfold f_X0_become_e38 at h
    refine lv_iconst (pc := 38) (v := 0) hx hb (tb_at tk_X0_become 23 rfl) (by decide) ?_
    refine lv_istore_n (pc := 39) (lv' := [(2, .int 0), (0, .ref z_o), (1, .ref w_o)]) hx hb (tb_at tk_X0_become 24 rfl) rfl hl (by decide) rfl (fun ls hl => ?_)
    have w64 : ∀ (z_bits_e64 : Nat → Int32) (H : Heap) (locs : List Loc) (ls : Array Slot), f_X0_become_e64 w_bitCount w_given w_made w_gone w_law z_has_e38 z_left_e38 k z_bits_e64 = some res → PD (dC, dI) A (w_X0_become cI cZ cQ cW z_o z_has_a z_left_a z_bits_a w_o w_has_a w_left_a w_bits_a z_bitCount z_given z_made z_gone z_law w_bitCount w_given w_made w_gone w_law w_has z_has_e38 w_left z_left_e38 w_bits z_bits_e64) H → va_S A s.heap H locs → lv_has ls 3 [(0, .ref z_o), (1, .ref w_o)] → W p l e rm_X0_become s m args below meth c H locs 0 0 Q (F0 m 64 ls []) := by
      intro z_bits_e64 H locs ls h hW hS hl
      unfold f_X0_become_e64 at h
      refine lv_aload_n (pc := 64) hx hb (tb_at tk_X0_become 38 rfl) rfl (lv_at hl 0 rfl) ?_
      refine lv_aload_n (pc := 65) hx hb (tb_at tk_X0_become 39 rfl) rfl (lv_at hl 1 rfl) ?_
      refine k_get (pc := 66) (v := .int w_bitCount) (T := TX0) B inG0 hW 1 rfl rfl 3 (by decide) q_f_X0_30 rfl rfl (tb_at tk_X0_become 40 rfl) ?_
      refine k_put (pc := 69) (T := TX0) B inG0 tyX0 tyX0_ok nmX0 hW hS 0 rfl rfl 3 (by decide) q_f_X0_30 rfl rfl rfl rfl (Nat.le_of_ble_eq_true rfl) (tb_at tk_X0_become 41 rfl) (w_X0_become cI cZ cQ cW z_o z_has_a z_left_a z_bits_a w_o w_has_a w_left_a w_bits_a w_bitCount z_given z_made z_gone z_law w_bitCount w_given w_made w_gone w_law w_has z_has_e38 w_left z_left_e38 w_bits z_bits_e64) rfl (fun H locs hW hS => ?_)
      refine lv_aload_n (pc := 72) hx hb (tb_at tk_X0_become 42 rfl) rfl (lv_at hl 0 rfl) ?_
      refine lv_aload_n (pc := 73) hx hb (tb_at tk_X0_become 43 rfl) rfl (lv_at hl 1 rfl) ?_
      refine k_get (pc := 74) (v := .int w_given) (T := TX0) B inG0 hW 1 rfl rfl 4 (by decide) q_f_X0_34 rfl rfl (tb_at tk_X0_become 44 rfl) ?_
      refine k_put (pc := 77) (T := TX0) B inG0 tyX0 tyX0_ok nmX0 hW hS 0 rfl rfl 4 (by decide) q_f_X0_34 rfl rfl rfl rfl (Nat.le_of_ble_eq_true rfl) (tb_at tk_X0_become 45 rfl) (w_X0_become cI cZ cQ cW z_o z_has_a z_left_a z_bits_a w_o w_has_a w_left_a w_bits_a w_bitCount w_given z_made z_gone z_law w_bitCount w_given w_made w_gone w_law w_has z_has_e38 w_left z_left_e38 w_bits z_bits_e64) rfl (fun H locs hW hS => ?_)
      refine lv_aload_n (pc := 80) hx hb (tb_at tk_X0_become 46 rfl) rfl (lv_at hl 0 rfl) ?_
      refine lv_aload_n (pc := 81) hx hb (tb_at tk_X0_become 47 rfl) rfl (lv_at hl 1 rfl) ?_
      refine k_get (pc := 82) (v := .int w_made) (T := TX0) B inG0 hW 1 rfl rfl 5 (by decide) q_f_X0_37 rfl rfl (tb_at tk_X0_become 48 rfl) ?_
      refine k_put (pc := 85) (T := TX0) B inG0 tyX0 tyX0_ok nmX0 hW hS 0 rfl rfl 5 (by decide) q_f_X0_37 rfl rfl rfl rfl (Nat.le_of_ble_eq_true rfl) (tb_at tk_X0_become 49 rfl) (w_X0_become cI cZ cQ cW z_o z_has_a z_left_a z_bits_a w_o w_has_a w_left_a w_bits_a w_bitCount w_given w_made z_gone z_law w_bitCount w_given w_made w_gone w_law w_has z_has_e38 w_left z_left_e38 w_bits z_bits_e64) rfl (fun H locs hW hS => ?_)
      refine lv_aload_n (pc := 88) hx hb (tb_at tk_X0_become 50 rfl) rfl (lv_at hl 0 rfl) ?_
      refine lv_aload_n (pc := 89) hx hb (tb_at tk_X0_become 51 rfl) rfl (lv_at hl 1 rfl) ?_
      refine k_get (pc := 90) (v := .int w_gone) (T := TX0) B inG0 hW 1 rfl rfl 6 (by decide) q_f_X0_40 rfl rfl (tb_at tk_X0_become 52 rfl) ?_
      refine k_put (pc := 93) (T := TX0) B inG0 tyX0 tyX0_ok nmX0 hW hS 0 rfl rfl 6 (by decide) q_f_X0_40 rfl rfl rfl rfl (Nat.le_of_ble_eq_true rfl) (tb_at tk_X0_become 53 rfl) (w_X0_become cI cZ cQ cW z_o z_has_a z_left_a z_bits_a w_o w_has_a w_left_a w_bits_a w_bitCount w_given w_made w_gone z_law w_bitCount w_given w_made w_gone w_law w_has z_has_e38 w_left z_left_e38 w_bits z_bits_e64) rfl (fun H locs hW hS => ?_)
      refine lv_aload_n (pc := 96) hx hb (tb_at tk_X0_become 54 rfl) rfl (lv_at hl 0 rfl) ?_
      refine lv_aload_n (pc := 97) hx hb (tb_at tk_X0_become 55 rfl) rfl (lv_at hl 1 rfl) ?_
      refine k_get (pc := 98) (v := .int w_law) (T := TX0) B inG0 hW 1 rfl rfl 7 (by decide) q_f_X0_46 rfl rfl (tb_at tk_X0_become 56 rfl) ?_
      refine k_put (pc := 101) (T := TX0) B inG0 tyX0 tyX0_ok nmX0 hW hS 0 rfl rfl 7 (by decide) q_f_X0_46 rfl rfl rfl rfl (Nat.le_of_ble_eq_true rfl) (tb_at tk_X0_become 57 rfl) (w_X0_become cI cZ cQ cW z_o z_has_a z_left_a z_bits_a w_o w_has_a w_left_a w_bits_a w_bitCount w_given w_made w_gone w_law w_bitCount w_given w_made w_gone w_law w_has z_has_e38 w_left z_left_e38 w_bits z_bits_e64) rfl (fun H locs hW hS => ?_)
      exact hQ (w_bitCount, w_given, w_made, w_gone, w_law, z_has_e38, z_left_e38, z_bits_e64) _ _ _ 104 h hW hS (tb_at tk_X0_become 58 rfl)
    have w40 : ∀ (n : Nat), ∀ (y2_l40 : Int32) (z_bits_l40 : Nat → Int32) (H : Heap) (locs : List Loc) (ls : Array Slot), f_X0_become_l40 w_bits (fun z_bits_e64 => f_X0_become_e64 w_bitCount w_given w_made w_gone w_law z_has_e38 z_left_e38 k z_bits_e64) n y2_l40 z_bits_l40 = some res → PD (dC, dI) A (w_X0_become cI cZ cQ cW z_o z_has_a z_left_a z_bits_a w_o w_has_a w_left_a w_bits_a z_bitCount z_given z_made z_gone z_law w_bitCount w_given w_made w_gone w_law w_has z_has_e38 w_left z_left_e38 w_bits z_bits_l40) H → va_S A s.heap H locs → lv_has ls 3 [(0, .ref z_o), (1, .ref w_o), (2, .int y2_l40)] → W p l e rm_X0_become s m args below meth c H locs 0 0 Q (F0 m 40 ls []) := by
      intro n
      induction n with
      | zero => intro y2_l40 z_bits_l40 H locs ls h; exact no_n h
      | succ n40 ih40 =>
        intro y2_l40 z_bits_l40 H locs ls h hW hS hl
        rw [f_X0_become_l40] at h
        refine lv_iload_n (pc := 40) hx hb (tb_at tk_X0_become 25 rfl) rfl (lv_at hl 2 rfl) ?_
        refine lv_bipush (pc := 41) (v := 8) hx hb (tb_at tk_X0_become 26 rfl) (by decide) ?_
        refine lv_icmp_ge (pc := 43) (tgt := 64) hx hb (tb_at tk_X0_become 27 rfl) (by decide) (fun cc => ?_) (fun cc => ?_)
        · have h := it_t cc h
          exact w64 z_bits_l40 _ _ _ h hW hS (lv_sub hl [0, 1] rfl)
        · have h := it_f cc h
          refine lv_aload_n (pc := 46) hx hb (tb_at tk_X0_become 28 rfl) rfl (lv_at hl 0 rfl) ?_
          refine k_get (pc := 47) (v := .ref z_bits_a) (T := TX0) B inG0 hW 0 rfl rfl 2 (by decide) q_f_X0_18 rfl rfl (tb_at tk_X0_become 29 rfl) ?_
          refine lv_iload_n (pc := 50) hx hb (tb_at tk_X0_become 30 rfl) rfl (lv_at hl 2 rfl) ?_
          refine lv_aload_n (pc := 51) hx hb (tb_at tk_X0_become 31 rfl) rfl (lv_at hl 1 rfl) ?_
          refine k_get (pc := 52) (v := .ref w_bits_a) (T := TX0) B inG0 hW 1 rfl rfl 2 (by decide) q_f_X0_18 rfl rfl (tb_at tk_X0_become 32 rfl) ?_
          refine lv_iload_n (pc := 55) hx hb (tb_at tk_X0_become 33 rfl) rfl (lv_at hl 2 rfl) ?_
          have ii := ivi_in (ck_l h)
          have h := ck_r h
          refine k_iald (pc := 56) B hW 6 0 rfl rfl ii (tb_at tk_X0_become 34 rfl) ?_
          have ii := ivi_in (ck_l h)
          have h := ck_r h
          refine k_iast (pc := 57) B hW hS 7 0 rfl rfl ii (tb_at tk_X0_become 35 rfl) (w_X0_become cI cZ cQ cW z_o z_has_a z_left_a z_bits_a w_o w_has_a w_left_a w_bits_a z_bitCount z_given z_made z_gone z_law w_bitCount w_given w_made w_gone w_law w_has z_has_e38 w_left z_left_e38 w_bits (upd z_bits_l40 (y2_l40).toNatClampNeg (w_bits (y2_l40).toNatClampNeg))) rfl (fun H locs hW hS => ?_)
          refine lv_iinc (pc := 58) (v := y2_l40 + 1) (lv' := [(2, .int (y2_l40 + 1)), (0, .ref z_o), (1, .ref w_o)]) hx hb (tb_at tk_X0_become 36 rfl) hl (k := 2) rfl rfl (by decide) rfl (fun ls hl => ?_)
          refine lv_goto (pc := 61) (tgt := 40) hx hb (tb_at tk_X0_become 37 rfl) (by decide) ?_
          exact ih40 (y2_l40 + 1) (upd z_bits_l40 (y2_l40).toNatClampNeg (w_bits (y2_l40).toNatClampNeg)) _ _ _ h hW hS (lv_sub hl [1, 2, 0] rfl)
    exact w40 N 0 z_bits _ _ _ h hW hS (lv_sub hl [1, 2, 0] rfl)
  have w2 : ∀ (n : Nat), ∀ (y2_l2 : Int32) (z_has_l2 : Nat → Int32) (z_left_l2 : Nat → Int32) (H : Heap) (locs : List Loc) (ls : Array Slot), f_X0_become_l2 w_has w_left (fun z_has_e38 z_left_e38 => f_X0_become_e38 z_bits w_bitCount w_given w_made w_gone w_law w_bits k N z_has_e38 z_left_e38) n y2_l2 z_has_l2 z_left_l2 = some res → PD (dC, dI) A (w_X0_become cI cZ cQ cW z_o z_has_a z_left_a z_bits_a w_o w_has_a w_left_a w_bits_a z_bitCount z_given z_made z_gone z_law w_bitCount w_given w_made w_gone w_law w_has z_has_l2 w_left z_left_l2 w_bits z_bits) H → va_S A s.heap H locs → lv_has ls 3 [(0, .ref z_o), (1, .ref w_o), (2, .int y2_l2)] → W p l e rm_X0_become s m args below meth c H locs 0 0 Q (F0 m 2 ls []) := by
    intro n
    induction n with
    | zero => intro y2_l2 z_has_l2 z_left_l2 H locs ls h; exact no_n h
    | succ n2 ih2 =>
      intro y2_l2 z_has_l2 z_left_l2 H locs ls h hW hS hl
      rw [f_X0_become_l2] at h
      refine lv_iload_n (pc := 2) hx hb (tb_at tk_X0_become 2 rfl) rfl (lv_at hl 2 rfl) ?_
      refine lv_bipush (pc := 3) (v := 6) hx hb (tb_at tk_X0_become 3 rfl) (by decide) ?_
      refine lv_icmp_ge (pc := 5) (tgt := 38) hx hb (tb_at tk_X0_become 4 rfl) (by decide) (fun cc => ?_) (fun cc => ?_)
      · have h := it_t cc h
        exact w38 z_has_l2 z_left_l2 _ _ _ h hW hS (lv_sub hl [0, 1] rfl)
      · have h := it_f cc h
        refine lv_aload_n (pc := 8) hx hb (tb_at tk_X0_become 5 rfl) rfl (lv_at hl 0 rfl) ?_
        refine k_get (pc := 9) (v := .ref z_has_a) (T := TX0) B inG0 hW 0 rfl rfl 0 (by decide) q_f_X0_9 rfl rfl (tb_at tk_X0_become 6 rfl) ?_
        refine lv_iload_n (pc := 12) hx hb (tb_at tk_X0_become 7 rfl) rfl (lv_at hl 2 rfl) ?_
        refine lv_aload_n (pc := 13) hx hb (tb_at tk_X0_become 8 rfl) rfl (lv_at hl 1 rfl) ?_
        refine k_get (pc := 14) (v := .ref w_has_a) (T := TX0) B inG0 hW 1 rfl rfl 0 (by decide) q_f_X0_9 rfl rfl (tb_at tk_X0_become 9 rfl) ?_
        refine lv_iload_n (pc := 17) hx hb (tb_at tk_X0_become 10 rfl) rfl (lv_at hl 2 rfl) ?_
        have ii := ivi_in (ck_l h)
        have h := ck_r h
        refine k_iald (pc := 18) B hW 2 0 rfl rfl ii (tb_at tk_X0_become 11 rfl) ?_
        have ii := ivi_in (ck_l h)
        have h := ck_r h
        refine k_iast (pc := 19) B hW hS 3 0 rfl rfl ii (tb_at tk_X0_become 12 rfl) (w_X0_become cI cZ cQ cW z_o z_has_a z_left_a z_bits_a w_o w_has_a w_left_a w_bits_a z_bitCount z_given z_made z_gone z_law w_bitCount w_given w_made w_gone w_law w_has (upd z_has_l2 (y2_l2).toNatClampNeg (w_has (y2_l2).toNatClampNeg)) w_left z_left_l2 w_bits z_bits) rfl (fun H locs hW hS => ?_)
        refine lv_aload_n (pc := 20) hx hb (tb_at tk_X0_become 13 rfl) rfl (lv_at hl 0 rfl) ?_
        refine k_get (pc := 21) (v := .ref z_left_a) (T := TX0) B inG0 hW 0 rfl rfl 1 (by decide) q_f_X0_15 rfl rfl (tb_at tk_X0_become 14 rfl) ?_
        refine lv_iload_n (pc := 24) hx hb (tb_at tk_X0_become 15 rfl) rfl (lv_at hl 2 rfl) ?_
        refine lv_aload_n (pc := 25) hx hb (tb_at tk_X0_become 16 rfl) rfl (lv_at hl 1 rfl) ?_
        refine k_get (pc := 26) (v := .ref w_left_a) (T := TX0) B inG0 hW 1 rfl rfl 1 (by decide) q_f_X0_15 rfl rfl (tb_at tk_X0_become 17 rfl) ?_
        refine lv_iload_n (pc := 29) hx hb (tb_at tk_X0_become 18 rfl) rfl (lv_at hl 2 rfl) ?_
        have ii := ivi_in (ck_l h)
        have h := ck_r h
        refine k_iald (pc := 30) B hW 4 0 rfl rfl ii (tb_at tk_X0_become 19 rfl) ?_
        have ii := ivi_in (ck_l h)
        have h := ck_r h
        refine k_iast (pc := 31) B hW hS 5 0 rfl rfl ii (tb_at tk_X0_become 20 rfl) (w_X0_become cI cZ cQ cW z_o z_has_a z_left_a z_bits_a w_o w_has_a w_left_a w_bits_a z_bitCount z_given z_made z_gone z_law w_bitCount w_given w_made w_gone w_law w_has (upd z_has_l2 (y2_l2).toNatClampNeg (w_has (y2_l2).toNatClampNeg)) w_left (upd z_left_l2 (y2_l2).toNatClampNeg (w_left (y2_l2).toNatClampNeg)) w_bits z_bits) rfl (fun H locs hW hS => ?_)
        refine lv_iinc (pc := 32) (v := y2_l2 + 1) (lv' := [(2, .int (y2_l2 + 1)), (0, .ref z_o), (1, .ref w_o)]) hx hb (tb_at tk_X0_become 21 rfl) hl (k := 2) rfl rfl (by decide) rfl (fun ls hl => ?_)
        refine lv_goto (pc := 35) (tgt := 2) hx hb (tb_at tk_X0_become 22 rfl) (by decide) ?_
        exact ih2 (y2_l2 + 1) (upd z_has_l2 (y2_l2).toNatClampNeg (w_has (y2_l2).toNatClampNeg)) (upd z_left_l2 (y2_l2).toNatClampNeg (w_left (y2_l2).toNatClampNeg)) _ _ _ h hW hS (lv_sub hl [1, 2, 0] rfl)
  exact w2 N 0 z_has z_left _ _ _ h hW hS (lv_sub hl [1, 2, 0] rfl)
def f_X0_able_l4 {ρ : Type} (z_has : Nat → Int32) (z_left : Nat → Int32) (k : Int32 → Option ρ) : Nat → Int32 → Int32 → Option ρ
  | 0, _, _ => none
  | n4 + 1, y1_l4, y2_l4 => if 6 ≤ y2_l4 then (k y1_l4) else (ck (ivi y2_l4 6) (if (z_has (y2_l4).toNatClampNeg) = (-9) then ((f_X0_able_l4 z_has z_left k n4) y1_l4 (y2_l4 + 1)) else (ck (ivi y2_l4 6) (if (z_left (y2_l4).toNatClampNeg) ≤ 0 then ((f_X0_able_l4 z_has z_left k n4) y1_l4 (y2_l4 + 1)) else ((f_X0_able_l4 z_has z_left k n4) (y1_l4 ||| ((1 : Int32) <<< (y2_l4 &&& 31))) (y2_l4 + 1))))))
def f_X0_able {ρ : Type} (N : Nat) (z_has : Nat → Int32) (z_left : Nat → Int32) (k : Int32 → Option ρ) : Option ρ := f_X0_able_l4 z_has z_left k N 0 0
abbrev w_X0_able (cI cZ cQ cW : ClassId) (z_o : Nat) (z_has_a : Nat) (z_left_a : Nat) (z_bits_a : Nat) (z_bitCount : Int32) (z_given : Int32) (z_made : Int32) (z_gone : Int32) (z_law : Int32) (z_has : Nat → Int32) (z_left : Nat → Int32) : va_W := [(z_o, .inr (0, [.ref z_has_a, .ref z_left_a, .ref z_bits_a, .int z_bitCount, .int z_given, .int z_made, .int z_gone, .int z_law])), (z_has_a, .inl (cI, 6, .inl z_has)), (z_left_a, .inl (cI, 6, .inl z_left))]
abbrev rm_X0_able : Room := { frames := 0, cells := 0, slots := 0, locals := 0 }
set_option maxHeartbeats 4000000 in
set_option maxRecDepth 100000 in
theorem c_X0_able (l : Launch) (dC : Nat → ClassId) (dI : Nat → Nat → Nat) (cI cZ cQ cW : ClassId) (z_o : Nat) (z_has_a : Nat) (z_left_a : Nat) (z_bits_a : Nat) (z_bitCount : Int32) (z_given : Int32) (z_made : Int32) (z_gone : Int32) (z_law : Int32) (z_has : Nat → Int32) (z_left : Nat → Int32) {ρ : Type} (N : Nat) (k : Int32 → Option ρ) (res : ρ) (h : f_X0_able N z_has z_left k = some res) : Ci l yX0_able (WS yX0_able cX0_able 3 (some .int)) rm_X0_able (dC, dI) (tysG cI cZ cQ cW) E0 [.ref z_o] (w_X0_able cI cZ cQ cW z_o z_has_a z_left_a z_bits_a z_bitCount z_given z_made z_gone z_law z_has z_left) (fun (_ : Unit) => (w_X0_able cI cZ cQ cW z_o z_has_a z_left_a z_bits_a z_bitCount z_given z_made z_gone z_law z_has z_left)) (fun r _ => k r = some res) := by
  refine Ci.of (cc := cX0_able) (n := 3) (by decide +kernel) (Nat.le_of_ble_eq_true rfl) ?_
  intro p e s m args below meth c A ls Q B hW hE hS hl hQ
  have hx := B.1
  have hb := B.2.1
  have hl : lv_has ls 3 [(0, .ref z_o)] := hl
  unfold f_X0_able at h
  refine lv_iconst (pc := 0) (v := 0) hx hb (tb_at tk_X0_able 0 rfl) (by decide) ?_
  refine lv_istore_n (pc := 1) (lv' := [(1, .int 0), (0, .ref z_o)]) hx hb (tb_at tk_X0_able 1 rfl) rfl hl (by decide) rfl (fun ls hl => ?_)
  refine lv_iconst (pc := 2) (v := 0) hx hb (tb_at tk_X0_able 2 rfl) (by decide) ?_
  refine lv_istore_n (pc := 3) (lv' := [(2, .int 0), (1, .int 0), (0, .ref z_o)]) hx hb (tb_at tk_X0_able 3 rfl) rfl hl (by decide) rfl (fun ls hl => ?_)
  have w4 : ∀ (n : Nat), ∀ (y1_l4 : Int32) (y2_l4 : Int32) (H : Heap) (locs : List Loc) (ls : Array Slot), f_X0_able_l4 z_has z_left k n y1_l4 y2_l4 = some res → PD (dC, dI) A (w_X0_able cI cZ cQ cW z_o z_has_a z_left_a z_bits_a z_bitCount z_given z_made z_gone z_law z_has z_left) H → va_S A s.heap H locs → lv_has ls 3 [(0, .ref z_o), (1, .int y1_l4), (2, .int y2_l4)] → W p l e rm_X0_able s m args below meth c H locs 0 0 Q (F0 m 4 ls []) := by
    intro n
    induction n with
    | zero => intro y1_l4 y2_l4 H locs ls h; exact no_n h
    | succ n4 ih4 =>
      intro y1_l4 y2_l4 H locs ls h hW hS hl
      rw [f_X0_able_l4] at h
      refine lv_iload_n (pc := 4) hx hb (tb_at tk_X0_able 4 rfl) rfl (lv_at hl 2 rfl) ?_
      refine lv_bipush (pc := 5) (v := 6) hx hb (tb_at tk_X0_able 5 rfl) (by decide) ?_
      refine lv_icmp_ge (pc := 7) (tgt := 42) hx hb (tb_at tk_X0_able 6 rfl) (by decide) (fun cc => ?_) (fun cc => ?_)
      · have h := it_t cc h
        refine lv_iload_n (pc := 42) hx hb (tb_at tk_X0_able 26 rfl) rfl (lv_at hl 1 rfl) ?_
        exact hQ y1_l4 () _ _ _ 43 rfl h hW hS (tb_at tk_X0_able 27 rfl)
      · have h := it_f cc h
        refine lv_aload_n (pc := 10) hx hb (tb_at tk_X0_able 7 rfl) rfl (lv_at hl 0 rfl) ?_
        refine k_get (pc := 11) (v := .ref z_has_a) (T := TX0) B inG0 hW 0 rfl rfl 0 (by decide) q_f_X0_9 rfl rfl (tb_at tk_X0_able 8 rfl) ?_
        refine lv_iload_n (pc := 14) hx hb (tb_at tk_X0_able 9 rfl) rfl (lv_at hl 2 rfl) ?_
        have ii := ivi_in (ck_l h)
        have h := ck_r h
        refine k_iald (pc := 15) B hW 1 0 rfl rfl ii (tb_at tk_X0_able 10 rfl) ?_
        refine lv_bipush (pc := 16) (v := (-9)) hx hb (tb_at tk_X0_able 11 rfl) (by decide) ?_
        refine lv_icmp_eq (pc := 18) (tgt := 36) hx hb (tb_at tk_X0_able 12 rfl) (by decide) (fun cc => ?_) (fun cc => ?_)
        · have h := it_t cc h
          refine lv_iinc (pc := 36) (v := y2_l4 + 1) (lv' := [(2, .int (y2_l4 + 1)), (0, .ref z_o), (1, .int y1_l4)]) hx hb (tb_at tk_X0_able 24 rfl) hl (k := 2) rfl rfl (by decide) rfl (fun ls hl => ?_)
          refine lv_goto (pc := 39) (tgt := 4) hx hb (tb_at tk_X0_able 25 rfl) (by decide) ?_
          exact ih4 y1_l4 (y2_l4 + 1) _ _ _ h hW hS (lv_sub hl [1, 2, 0] rfl)
        · have h := it_f cc h
          refine lv_aload_n (pc := 21) hx hb (tb_at tk_X0_able 13 rfl) rfl (lv_at hl 0 rfl) ?_
          refine k_get (pc := 22) (v := .ref z_left_a) (T := TX0) B inG0 hW 0 rfl rfl 1 (by decide) q_f_X0_15 rfl rfl (tb_at tk_X0_able 14 rfl) ?_
          refine lv_iload_n (pc := 25) hx hb (tb_at tk_X0_able 15 rfl) rfl (lv_at hl 2 rfl) ?_
          have ii := ivi_in (ck_l h)
          have h := ck_r h
          refine k_iald (pc := 26) B hW 2 0 rfl rfl ii (tb_at tk_X0_able 16 rfl) ?_
          refine lv_if_le (pc := 27) (tgt := 36) hx hb (tb_at tk_X0_able 17 rfl) (by decide) (fun cc => ?_) (fun cc => ?_)
          · have h := it_t cc h
            refine lv_iinc (pc := 36) (v := y2_l4 + 1) (lv' := [(2, .int (y2_l4 + 1)), (0, .ref z_o), (1, .int y1_l4)]) hx hb (tb_at tk_X0_able 24 rfl) hl (k := 2) rfl rfl (by decide) rfl (fun ls hl => ?_)
            refine lv_goto (pc := 39) (tgt := 4) hx hb (tb_at tk_X0_able 25 rfl) (by decide) ?_
            exact ih4 y1_l4 (y2_l4 + 1) _ _ _ h hW hS (lv_sub hl [1, 2, 0] rfl)
          · have h := it_f cc h
            refine lv_iload_n (pc := 30) hx hb (tb_at tk_X0_able 18 rfl) rfl (lv_at hl 1 rfl) ?_
            refine lv_iconst (pc := 31) (v := 1) hx hb (tb_at tk_X0_able 19 rfl) (by decide) ?_
            refine lv_iload_n (pc := 32) hx hb (tb_at tk_X0_able 20 rfl) rfl (lv_at hl 2 rfl) ?_
            refine lv_ishl (pc := 33) hx hb (tb_at tk_X0_able 21 rfl) ?_
            refine lv_ior (pc := 34) hx hb (tb_at tk_X0_able 22 rfl) ?_
            refine lv_istore_n (pc := 35) (lv' := [(1, .int (y1_l4 ||| ((1 : Int32) <<< (y2_l4 &&& 31)))), (0, .ref z_o), (2, .int y2_l4)]) hx hb (tb_at tk_X0_able 23 rfl) rfl hl (by decide) rfl (fun ls hl => ?_)
            refine lv_iinc (pc := 36) (v := y2_l4 + 1) (lv' := [(2, .int (y2_l4 + 1)), (1, .int (y1_l4 ||| ((1 : Int32) <<< (y2_l4 &&& 31)))), (0, .ref z_o)]) hx hb (tb_at tk_X0_able 24 rfl) hl (k := 2) rfl rfl (by decide) rfl (fun ls hl => ?_)
            refine lv_goto (pc := 39) (tgt := 4) hx hb (tb_at tk_X0_able 25 rfl) (by decide) ?_
            exact ih4 (y1_l4 ||| ((1 : Int32) <<< (y2_l4 &&& 31))) (y2_l4 + 1) _ _ _ h hW hS (lv_sub hl [2, 1, 0] rfl)
  exact w4 N 0 0 _ _ _ h hW hS (lv_sub hl [2, 1, 0] rfl)
def f_X0_withTheirOwn_l4 {ρ : Type} (z_has : Nat → Int32) (k : Int32 → Option ρ) : Nat → Int32 → Int32 → Option ρ
  | 0, _, _ => none
  | n4 + 1, y1_l4, y2_l4 => if 6 ≤ y2_l4 then (k y1_l4) else (ck (ivi y2_l4 6) (if (z_has (y2_l4).toNatClampNeg) = y2_l4 then ((f_X0_withTheirOwn_l4 z_has k n4) (y1_l4 ||| ((1 : Int32) <<< (y2_l4 &&& 31))) (y2_l4 + 1)) else ((f_X0_withTheirOwn_l4 z_has k n4) y1_l4 (y2_l4 + 1))))
def f_X0_withTheirOwn {ρ : Type} (N : Nat) (z_has : Nat → Int32) (k : Int32 → Option ρ) : Option ρ := f_X0_withTheirOwn_l4 z_has k N 0 0
abbrev w_X0_withTheirOwn (cI cZ cQ cW : ClassId) (z_o : Nat) (z_has_a : Nat) (z_left_a : Nat) (z_bits_a : Nat) (z_bitCount : Int32) (z_given : Int32) (z_made : Int32) (z_gone : Int32) (z_law : Int32) (z_has : Nat → Int32) : va_W := [(z_o, .inr (0, [.ref z_has_a, .ref z_left_a, .ref z_bits_a, .int z_bitCount, .int z_given, .int z_made, .int z_gone, .int z_law])), (z_has_a, .inl (cI, 6, .inl z_has))]
abbrev rm_X0_withTheirOwn : Room := { frames := 0, cells := 0, slots := 0, locals := 0 }
set_option maxHeartbeats 4000000 in
set_option maxRecDepth 100000 in
theorem c_X0_withTheirOwn (l : Launch) (dC : Nat → ClassId) (dI : Nat → Nat → Nat) (cI cZ cQ cW : ClassId) (z_o : Nat) (z_has_a : Nat) (z_left_a : Nat) (z_bits_a : Nat) (z_bitCount : Int32) (z_given : Int32) (z_made : Int32) (z_gone : Int32) (z_law : Int32) (z_has : Nat → Int32) {ρ : Type} (N : Nat) (k : Int32 → Option ρ) (res : ρ) (h : f_X0_withTheirOwn N z_has k = some res) : Ci l yX0_withTheirOwn (WS yX0_withTheirOwn cX0_withTheirOwn 3 (some .int)) rm_X0_withTheirOwn (dC, dI) (tysG cI cZ cQ cW) E0 [.ref z_o] (w_X0_withTheirOwn cI cZ cQ cW z_o z_has_a z_left_a z_bits_a z_bitCount z_given z_made z_gone z_law z_has) (fun (_ : Unit) => (w_X0_withTheirOwn cI cZ cQ cW z_o z_has_a z_left_a z_bits_a z_bitCount z_given z_made z_gone z_law z_has)) (fun r _ => k r = some res) := by
  refine Ci.of (cc := cX0_withTheirOwn) (n := 3) (by decide +kernel) (Nat.le_of_ble_eq_true rfl) ?_
  intro p e s m args below meth c A ls Q B hW hE hS hl hQ
  have hx := B.1
  have hb := B.2.1
  have hl : lv_has ls 3 [(0, .ref z_o)] := hl
  unfold f_X0_withTheirOwn at h
  refine lv_iconst (pc := 0) (v := 0) hx hb (tb_at tk_X0_withTheirOwn 0 rfl) (by decide) ?_
  refine lv_istore_n (pc := 1) (lv' := [(1, .int 0), (0, .ref z_o)]) hx hb (tb_at tk_X0_withTheirOwn 1 rfl) rfl hl (by decide) rfl (fun ls hl => ?_)
  refine lv_iconst (pc := 2) (v := 0) hx hb (tb_at tk_X0_withTheirOwn 2 rfl) (by decide) ?_
  refine lv_istore_n (pc := 3) (lv' := [(2, .int 0), (1, .int 0), (0, .ref z_o)]) hx hb (tb_at tk_X0_withTheirOwn 3 rfl) rfl hl (by decide) rfl (fun ls hl => ?_)
  have w4 : ∀ (n : Nat), ∀ (y1_l4 : Int32) (y2_l4 : Int32) (H : Heap) (locs : List Loc) (ls : Array Slot), f_X0_withTheirOwn_l4 z_has k n y1_l4 y2_l4 = some res → PD (dC, dI) A (w_X0_withTheirOwn cI cZ cQ cW z_o z_has_a z_left_a z_bits_a z_bitCount z_given z_made z_gone z_law z_has) H → va_S A s.heap H locs → lv_has ls 3 [(0, .ref z_o), (1, .int y1_l4), (2, .int y2_l4)] → W p l e rm_X0_withTheirOwn s m args below meth c H locs 0 0 Q (F0 m 4 ls []) := by
    intro n
    induction n with
    | zero => intro y1_l4 y2_l4 H locs ls h; exact no_n h
    | succ n4 ih4 =>
      intro y1_l4 y2_l4 H locs ls h hW hS hl
      rw [f_X0_withTheirOwn_l4] at h
      refine lv_iload_n (pc := 4) hx hb (tb_at tk_X0_withTheirOwn 4 rfl) rfl (lv_at hl 2 rfl) ?_
      refine lv_bipush (pc := 5) (v := 6) hx hb (tb_at tk_X0_withTheirOwn 5 rfl) (by decide) ?_
      refine lv_icmp_ge (pc := 7) (tgt := 32) hx hb (tb_at tk_X0_withTheirOwn 6 rfl) (by decide) (fun cc => ?_) (fun cc => ?_)
      · have h := it_t cc h
        refine lv_iload_n (pc := 32) hx hb (tb_at tk_X0_withTheirOwn 21 rfl) rfl (lv_at hl 1 rfl) ?_
        exact hQ y1_l4 () _ _ _ 33 rfl h hW hS (tb_at tk_X0_withTheirOwn 22 rfl)
      · have h := it_f cc h
        refine lv_aload_n (pc := 10) hx hb (tb_at tk_X0_withTheirOwn 7 rfl) rfl (lv_at hl 0 rfl) ?_
        refine k_get (pc := 11) (v := .ref z_has_a) (T := TX0) B inG0 hW 0 rfl rfl 0 (by decide) q_f_X0_9 rfl rfl (tb_at tk_X0_withTheirOwn 8 rfl) ?_
        refine lv_iload_n (pc := 14) hx hb (tb_at tk_X0_withTheirOwn 9 rfl) rfl (lv_at hl 2 rfl) ?_
        have ii := ivi_in (ck_l h)
        have h := ck_r h
        refine k_iald (pc := 15) B hW 1 0 rfl rfl ii (tb_at tk_X0_withTheirOwn 10 rfl) ?_
        refine lv_iload_n (pc := 16) hx hb (tb_at tk_X0_withTheirOwn 11 rfl) rfl (lv_at hl 2 rfl) ?_
        refine lv_icmp_ne (pc := 17) (tgt := 26) hx hb (tb_at tk_X0_withTheirOwn 12 rfl) (by decide) (fun cc => ?_) (fun cc => ?_)
        · have h := it_f cc h
          refine lv_iinc (pc := 26) (v := y2_l4 + 1) (lv' := [(2, .int (y2_l4 + 1)), (0, .ref z_o), (1, .int y1_l4)]) hx hb (tb_at tk_X0_withTheirOwn 19 rfl) hl (k := 2) rfl rfl (by decide) rfl (fun ls hl => ?_)
          refine lv_goto (pc := 29) (tgt := 4) hx hb (tb_at tk_X0_withTheirOwn 20 rfl) (by decide) ?_
          exact ih4 y1_l4 (y2_l4 + 1) _ _ _ h hW hS (lv_sub hl [1, 2, 0] rfl)
        · have h := it_t cc h
          refine lv_iload_n (pc := 20) hx hb (tb_at tk_X0_withTheirOwn 13 rfl) rfl (lv_at hl 1 rfl) ?_
          refine lv_iconst (pc := 21) (v := 1) hx hb (tb_at tk_X0_withTheirOwn 14 rfl) (by decide) ?_
          refine lv_iload_n (pc := 22) hx hb (tb_at tk_X0_withTheirOwn 15 rfl) rfl (lv_at hl 2 rfl) ?_
          refine lv_ishl (pc := 23) hx hb (tb_at tk_X0_withTheirOwn 16 rfl) ?_
          refine lv_ior (pc := 24) hx hb (tb_at tk_X0_withTheirOwn 17 rfl) ?_
          refine lv_istore_n (pc := 25) (lv' := [(1, .int (y1_l4 ||| ((1 : Int32) <<< (y2_l4 &&& 31)))), (0, .ref z_o), (2, .int y2_l4)]) hx hb (tb_at tk_X0_withTheirOwn 18 rfl) rfl hl (by decide) rfl (fun ls hl => ?_)
          refine lv_iinc (pc := 26) (v := y2_l4 + 1) (lv' := [(2, .int (y2_l4 + 1)), (1, .int (y1_l4 ||| ((1 : Int32) <<< (y2_l4 &&& 31)))), (0, .ref z_o)]) hx hb (tb_at tk_X0_withTheirOwn 19 rfl) hl (k := 2) rfl rfl (by decide) rfl (fun ls hl => ?_)
          refine lv_goto (pc := 29) (tgt := 4) hx hb (tb_at tk_X0_withTheirOwn 20 rfl) (by decide) ?_
          exact ih4 (y1_l4 ||| ((1 : Int32) <<< (y2_l4 &&& 31))) (y2_l4 + 1) _ _ _ h hW hS (lv_sub hl [2, 1, 0] rfl)
  exact w4 N 0 0 _ _ _ h hW hS (lv_sub hl [2, 1, 0] rfl)
def f_X0_whoHas_l2 {ρ : Type} (x1 : Int32) (z_has : Nat → Int32) (k : Int32 → Option ρ) : Nat → Int32 → Option ρ
  | 0, _ => none
  | n2 + 1, y2_l2 => if 6 ≤ y2_l2 then (k (-1)) else (ck (ivi y2_l2 6) (if (z_has (y2_l2).toNatClampNeg) = x1 then (k y2_l2) else ((f_X0_whoHas_l2 x1 z_has k n2) (y2_l2 + 1))))
def f_X0_whoHas {ρ : Type} (N : Nat) (z_has : Nat → Int32) (x1 : Int32) (k : Int32 → Option ρ) : Option ρ := f_X0_whoHas_l2 x1 z_has k N 0
abbrev w_X0_whoHas (cI cZ cQ cW : ClassId) (z_o : Nat) (z_has_a : Nat) (z_left_a : Nat) (z_bits_a : Nat) (z_bitCount : Int32) (z_given : Int32) (z_made : Int32) (z_gone : Int32) (z_law : Int32) (z_has : Nat → Int32) : va_W := [(z_o, .inr (0, [.ref z_has_a, .ref z_left_a, .ref z_bits_a, .int z_bitCount, .int z_given, .int z_made, .int z_gone, .int z_law])), (z_has_a, .inl (cI, 6, .inl z_has))]
abbrev rm_X0_whoHas : Room := { frames := 0, cells := 0, slots := 0, locals := 0 }
set_option maxHeartbeats 4000000 in
set_option maxRecDepth 100000 in
theorem c_X0_whoHas (l : Launch) (dC : Nat → ClassId) (dI : Nat → Nat → Nat) (cI cZ cQ cW : ClassId) (z_o : Nat) (z_has_a : Nat) (z_left_a : Nat) (z_bits_a : Nat) (z_bitCount : Int32) (z_given : Int32) (z_made : Int32) (z_gone : Int32) (z_law : Int32) (z_has : Nat → Int32) (x1 : Int32) {ρ : Type} (N : Nat) (k : Int32 → Option ρ) (res : ρ) (h : f_X0_whoHas N z_has x1 k = some res) : Ci l yX0_whoHas (WS yX0_whoHas cX0_whoHas 3 (some .int)) rm_X0_whoHas (dC, dI) (tysG cI cZ cQ cW) E0 [.ref z_o, .int x1] (w_X0_whoHas cI cZ cQ cW z_o z_has_a z_left_a z_bits_a z_bitCount z_given z_made z_gone z_law z_has) (fun (_ : Unit) => (w_X0_whoHas cI cZ cQ cW z_o z_has_a z_left_a z_bits_a z_bitCount z_given z_made z_gone z_law z_has)) (fun r _ => k r = some res) := by
  refine Ci.of (cc := cX0_whoHas) (n := 3) (by decide +kernel) (Nat.le_of_ble_eq_true rfl) ?_
  intro p e s m args below meth c A ls Q B hW hE hS hl hQ
  have hx := B.1
  have hb := B.2.1
  have hl : lv_has ls 3 [(0, .ref z_o), (1, .int x1)] := hl
  unfold f_X0_whoHas at h
  refine lv_iconst (pc := 0) (v := 0) hx hb (tb_at tk_X0_whoHas 0 rfl) (by decide) ?_
  refine lv_istore_n (pc := 1) (lv' := [(2, .int 0), (0, .ref z_o), (1, .int x1)]) hx hb (tb_at tk_X0_whoHas 1 rfl) rfl hl (by decide) rfl (fun ls hl => ?_)
  have w2 : ∀ (n : Nat), ∀ (y2_l2 : Int32) (H : Heap) (locs : List Loc) (ls : Array Slot), f_X0_whoHas_l2 x1 z_has k n y2_l2 = some res → PD (dC, dI) A (w_X0_whoHas cI cZ cQ cW z_o z_has_a z_left_a z_bits_a z_bitCount z_given z_made z_gone z_law z_has) H → va_S A s.heap H locs → lv_has ls 3 [(0, .ref z_o), (1, .int x1), (2, .int y2_l2)] → W p l e rm_X0_whoHas s m args below meth c H locs 0 0 Q (F0 m 2 ls []) := by
    intro n
    induction n with
    | zero => intro y2_l2 H locs ls h; exact no_n h
    | succ n2 ih2 =>
      intro y2_l2 H locs ls h hW hS hl
      rw [f_X0_whoHas_l2] at h
      refine lv_iload_n (pc := 2) hx hb (tb_at tk_X0_whoHas 2 rfl) rfl (lv_at hl 2 rfl) ?_
      refine lv_bipush (pc := 3) (v := 6) hx hb (tb_at tk_X0_whoHas 3 rfl) (by decide) ?_
      refine lv_icmp_ge (pc := 5) (tgt := 26) hx hb (tb_at tk_X0_whoHas 4 rfl) (by decide) (fun cc => ?_) (fun cc => ?_)
      · have h := it_t cc h
        refine lv_iconst (pc := 26) (v := (-1)) hx hb (tb_at tk_X0_whoHas 15 rfl) (by decide) ?_
        exact hQ (-1) () _ _ _ 27 rfl h hW hS (tb_at tk_X0_whoHas 16 rfl)
      · have h := it_f cc h
        refine lv_aload_n (pc := 8) hx hb (tb_at tk_X0_whoHas 5 rfl) rfl (lv_at hl 0 rfl) ?_
        refine k_get (pc := 9) (v := .ref z_has_a) (T := TX0) B inG0 hW 0 rfl rfl 0 (by decide) q_f_X0_9 rfl rfl (tb_at tk_X0_whoHas 6 rfl) ?_
        refine lv_iload_n (pc := 12) hx hb (tb_at tk_X0_whoHas 7 rfl) rfl (lv_at hl 2 rfl) ?_
        have ii := ivi_in (ck_l h)
        have h := ck_r h
        refine k_iald (pc := 13) B hW 1 0 rfl rfl ii (tb_at tk_X0_whoHas 8 rfl) ?_
        refine lv_iload_n (pc := 14) hx hb (tb_at tk_X0_whoHas 9 rfl) rfl (lv_at hl 1 rfl) ?_
        refine lv_icmp_ne (pc := 15) (tgt := 20) hx hb (tb_at tk_X0_whoHas 10 rfl) (by decide) (fun cc => ?_) (fun cc => ?_)
        · have h := it_f cc h
          refine lv_iinc (pc := 20) (v := y2_l2 + 1) (lv' := [(2, .int (y2_l2 + 1)), (0, .ref z_o), (1, .int x1)]) hx hb (tb_at tk_X0_whoHas 13 rfl) hl (k := 2) rfl rfl (by decide) rfl (fun ls hl => ?_)
          refine lv_goto (pc := 23) (tgt := 2) hx hb (tb_at tk_X0_whoHas 14 rfl) (by decide) ?_
          exact ih2 (y2_l2 + 1) _ _ _ h hW hS (lv_sub hl [1, 2, 0] rfl)
        · have h := it_t cc h
          refine lv_iload_n (pc := 18) hx hb (tb_at tk_X0_whoHas 11 rfl) rfl (lv_at hl 2 rfl) ?_
          exact hQ y2_l2 () _ _ _ 19 rfl h hW hS (tb_at tk_X0_whoHas 12 rfl)
  exact w2 N 0 _ _ _ h hW hS (lv_sub hl [1, 2, 0] rfl)
def f_X7_holds {ρ : Type} (N : Nat) (x0 : Int32) (x1 : Int32) (k : Int32 → Option ρ) : Option ρ := if ((x0 >>> (x1 &&& 31)) &&& 1) = 1 then (k 1) else (k 0)
abbrev rm_X7_holds : Room := { frames := 0, cells := 0, slots := 0, locals := 0 }
set_option maxHeartbeats 4000000 in
set_option maxRecDepth 100000 in
theorem c_X7_holds (l : Launch) (dC : Nat → ClassId) (dI : Nat → Nat → Nat) (cI cZ cQ cW : ClassId) (x0 : Int32) (x1 : Int32) {ρ : Type} (N : Nat) (k : Int32 → Option ρ) (res : ρ) (h : f_X7_holds N x0 x1 k = some res) : Ci l yX7_holds (WS yX7_holds cX7_holds 2 (some .boolean)) rm_X7_holds (dC, dI) (tysG cI cZ cQ cW) E0 [.int x0, .int x1] [] (fun (_ : Unit) => []) (fun r _ => k r = some res) := by
  refine Ci.of (cc := cX7_holds) (n := 2) (by decide +kernel) (Nat.le_of_ble_eq_true rfl) ?_
  intro p e s m args below meth c A ls Q B hW hE hS hl hQ
  have hx := B.1
  have hb := B.2.1
  have hl : lv_has ls 2 [(0, .int x0), (1, .int x1)] := hl
  unfold f_X7_holds at h
  refine lv_iload_n (pc := 0) hx hb (tb_at tk_X7_holds 0 rfl) rfl (lv_at hl 0 rfl) ?_
  refine lv_iload_n (pc := 1) hx hb (tb_at tk_X7_holds 1 rfl) rfl (lv_at hl 1 rfl) ?_
  refine lv_ishr (pc := 2) hx hb (tb_at tk_X7_holds 2 rfl) ?_
  refine lv_iconst (pc := 3) (v := 1) hx hb (tb_at tk_X7_holds 3 rfl) (by decide) ?_
  refine lv_iand (pc := 4) hx hb (tb_at tk_X7_holds 4 rfl) ?_
  refine lv_iconst (pc := 5) (v := 1) hx hb (tb_at tk_X7_holds 5 rfl) (by decide) ?_
  refine lv_icmp_ne (pc := 6) (tgt := 13) hx hb (tb_at tk_X7_holds 6 rfl) (by decide) (fun cc => ?_) (fun cc => ?_)
  · have h := it_f cc h
    refine lv_iconst (pc := 13) (v := 0) hx hb (tb_at tk_X7_holds 9 rfl) (by decide) ?_
    exact hQ 0 () _ _ _ 14 nz0 h hW hS (tb_at tk_X7_holds 10 rfl)
  · have h := it_t cc h
    refine lv_iconst (pc := 9) (v := 1) hx hb (tb_at tk_X7_holds 7 rfl) (by decide) ?_
    refine lv_goto (pc := 10) (tgt := 14) hx hb (tb_at tk_X7_holds 8 rfl) (by decide) ?_
    exact hQ 1 () _ _ _ 14 nz1 h hW hS (tb_at tk_X7_holds 10 rfl)
def f_X0_minutes_l4 {ρ : Type} (x1 : Int32) (z_bitCount : Int32) (z_bits : Nat → Int32) (k : Int32 → Option ρ) (N : Nat) : Nat → Int32 → Int32 → Option ρ
  | 0, _, _ => none
  | n4 + 1, y2_l4, y3_l4 => if z_bitCount ≤ y3_l4 then (k y2_l4) else (f_X7_holds N x1 y3_l4 (fun r14 => if r14 = 0 then ((f_X0_minutes_l4 x1 z_bitCount z_bits k N n4) y2_l4 (y3_l4 + 1)) else (ck (ivi y3_l4 8) ((f_X0_minutes_l4 x1 z_bitCount z_bits k N n4) (y2_l4 + (z_bits (y3_l4).toNatClampNeg)) (y3_l4 + 1)))))
def f_X0_minutes {ρ : Type} (N : Nat) (z_bitCount : Int32) (z_bits : Nat → Int32) (x1 : Int32) (k : Int32 → Option ρ) : Option ρ := f_X0_minutes_l4 x1 z_bitCount z_bits k N N 0 0
abbrev w_X0_minutes (cI cZ cQ cW : ClassId) (z_o : Nat) (z_has_a : Nat) (z_left_a : Nat) (z_bits_a : Nat) (z_bitCount : Int32) (z_given : Int32) (z_made : Int32) (z_gone : Int32) (z_law : Int32) (z_bits : Nat → Int32) : va_W := [(z_o, .inr (0, [.ref z_has_a, .ref z_left_a, .ref z_bits_a, .int z_bitCount, .int z_given, .int z_made, .int z_gone, .int z_law])), (z_bits_a, .inl (cI, 8, .inl z_bits))]
abbrev rm_X0_minutes : Room := { frames := 1, cells := 0, slots := 0, locals := 21 }
set_option maxHeartbeats 4000000 in
set_option maxRecDepth 100000 in
theorem c_X0_minutes (l : Launch) (dC : Nat → ClassId) (dI : Nat → Nat → Nat) (cI cZ cQ cW : ClassId) (z_o : Nat) (z_has_a : Nat) (z_left_a : Nat) (z_bits_a : Nat) (z_bitCount : Int32) (z_given : Int32) (z_made : Int32) (z_gone : Int32) (z_law : Int32) (z_bits : Nat → Int32) (x1 : Int32) {ρ : Type} (N : Nat) (k : Int32 → Option ρ) (res : ρ) (h : f_X0_minutes N z_bitCount z_bits x1 k = some res) : Ci l yX0_minutes (WS yX0_minutes cX0_minutes 4 (some .int)) rm_X0_minutes (dC, dI) (tysG cI cZ cQ cW) E0 [.ref z_o, .int x1] (w_X0_minutes cI cZ cQ cW z_o z_has_a z_left_a z_bits_a z_bitCount z_given z_made z_gone z_law z_bits) (fun (_ : Unit) => (w_X0_minutes cI cZ cQ cW z_o z_has_a z_left_a z_bits_a z_bitCount z_given z_made z_gone z_law z_bits)) (fun r _ => k r = some res) := by
  refine Ci.of (cc := cX0_minutes) (n := 4) (by decide +kernel) (Nat.le_of_ble_eq_true rfl) ?_
  intro p e s m args below meth c A ls Q B hW hE hS hl hQ
  have hx := B.1
  have hb := B.2.1
  have hl : lv_has ls 4 [(0, .ref z_o), (1, .int x1)] := hl
  unfold f_X0_minutes at h
  refine lv_iconst (pc := 0) (v := 0) hx hb (tb_at tk_X0_minutes 0 rfl) (by decide) ?_
  refine lv_istore_n (pc := 1) (lv' := [(2, .int 0), (0, .ref z_o), (1, .int x1)]) hx hb (tb_at tk_X0_minutes 1 rfl) rfl hl (by decide) rfl (fun ls hl => ?_)
  refine lv_iconst (pc := 2) (v := 0) hx hb (tb_at tk_X0_minutes 2 rfl) (by decide) ?_
  refine lv_istore_n (pc := 3) (lv' := [(3, .int 0), (2, .int 0), (0, .ref z_o), (1, .int x1)]) hx hb (tb_at tk_X0_minutes 3 rfl) rfl hl (by decide) rfl (fun ls hl => ?_)
  have w4 : ∀ (n : Nat), ∀ (y2_l4 : Int32) (y3_l4 : Int32) (H : Heap) (locs : List Loc) (ls : Array Slot), f_X0_minutes_l4 x1 z_bitCount z_bits k N n y2_l4 y3_l4 = some res → PD (dC, dI) A (w_X0_minutes cI cZ cQ cW z_o z_has_a z_left_a z_bits_a z_bitCount z_given z_made z_gone z_law z_bits) H → va_S A s.heap H locs → lv_has ls 4 [(0, .ref z_o), (1, .int x1), (2, .int y2_l4), (3, .int y3_l4)] → W p l e rm_X0_minutes s m args below meth c H locs 0 0 Q (F0 m 4 ls []) := by
    intro n
    induction n with
    | zero => intro y2_l4 y3_l4 H locs ls h; exact no_n h
    | succ n4 ih4 =>
      intro y2_l4 y3_l4 H locs ls h hW hS hl
      rw [f_X0_minutes_l4] at h
      refine lv_iload_n (pc := 4) hx hb (tb_at tk_X0_minutes 4 rfl) rfl (lv_at hl 3 rfl) ?_
      refine lv_aload_n (pc := 5) hx hb (tb_at tk_X0_minutes 5 rfl) rfl (lv_at hl 0 rfl) ?_
      refine k_get (pc := 6) (v := .int z_bitCount) (T := TX0) B inG0 hW 0 rfl rfl 3 (by decide) q_f_X0_30 rfl rfl (tb_at tk_X0_minutes 6 rfl) ?_
      refine lv_icmp_ge (pc := 9) (tgt := 35) hx hb (tb_at tk_X0_minutes 7 rfl) (by decide) (fun cc => ?_) (fun cc => ?_)
      · have h := it_t cc h
        refine lv_iload_n (pc := 35) hx hb (tb_at tk_X0_minutes 21 rfl) rfl (lv_at hl 2 rfl) ?_
        exact hQ y2_l4 () _ _ _ 36 rfl h hW hS (tb_at tk_X0_minutes 22 rfl)
      · have h := it_f cc h
        refine lv_iload_n (pc := 12) hx hb (tb_at tk_X0_minutes 8 rfl) rfl (lv_at hl 1 rfl) ?_
        refine lv_iload_n (pc := 13) hx hb (tb_at tk_X0_minutes 9 rfl) rfl (lv_at hl 3 rfl) ?_
        refine k_call0 (pc := 14) B (k_runNi (rest := []) (host := RX7) B (c_X7_holds l dC dI cI cZ cQ cW   x1 y3_l4 N _ res h) E0_st (fun _ _ _ => trivial) q_c_X7_holds q_h_X0_47 q_t_X7_holds q_n_X7 hd_X7_holds ⟨rfl, rfl⟩ ⟨Nat.le_of_ble_eq_true rfl, Nat.le_of_ble_eq_true rfl⟩ hW [] rfl (by decide +kernel) rfl hl.1 rfl (Nat.le_of_ble_eq_true rfl) (tb_at tk_X0_minutes 10 rfl) ⟨Nat.zero_le _, Nat.zero_le _⟩) hW hS (fun r14 u H locs h hW hS => ?_)
        refine lv_if_eq (pc := 17) (tgt := 29) hx hb (tb_at tk_X0_minutes 11 rfl) (by decide) (fun cc => ?_) (fun cc => ?_)
        · have h := it_t cc h
          refine lv_iinc (pc := 29) (v := y3_l4 + 1) (lv' := [(3, .int (y3_l4 + 1)), (0, .ref z_o), (1, .int x1), (2, .int y2_l4)]) hx hb (tb_at tk_X0_minutes 19 rfl) hl (k := 3) rfl rfl (by decide) rfl (fun ls hl => ?_)
          refine lv_goto (pc := 32) (tgt := 4) hx hb (tb_at tk_X0_minutes 20 rfl) (by decide) ?_
          exact ih4 y2_l4 (y3_l4 + 1) _ _ _ h hW hS (lv_sub hl [1, 2, 3, 0] rfl)
        · have h := it_f cc h
          refine lv_iload_n (pc := 20) hx hb (tb_at tk_X0_minutes 12 rfl) rfl (lv_at hl 2 rfl) ?_
          refine lv_aload_n (pc := 21) hx hb (tb_at tk_X0_minutes 13 rfl) rfl (lv_at hl 0 rfl) ?_
          refine k_get (pc := 22) (v := .ref z_bits_a) (T := TX0) B inG0 hW 0 rfl rfl 2 (by decide) q_f_X0_18 rfl rfl (tb_at tk_X0_minutes 14 rfl) ?_
          refine lv_iload_n (pc := 25) hx hb (tb_at tk_X0_minutes 15 rfl) rfl (lv_at hl 3 rfl) ?_
          have ii := ivi_in (ck_l h)
          have h := ck_r h
          refine k_iald (pc := 26) B hW 1 0 rfl rfl ii (tb_at tk_X0_minutes 16 rfl) ?_
          refine lv_iadd (pc := 27) hx hb (tb_at tk_X0_minutes 17 rfl) ?_
          refine lv_istore_n (pc := 28) (lv' := [(2, .int (y2_l4 + (z_bits (y3_l4).toNatClampNeg))), (0, .ref z_o), (1, .int x1), (3, .int y3_l4)]) hx hb (tb_at tk_X0_minutes 18 rfl) rfl hl (by decide) rfl (fun ls hl => ?_)
          refine lv_iinc (pc := 29) (v := y3_l4 + 1) (lv' := [(3, .int (y3_l4 + 1)), (2, .int (y2_l4 + (z_bits (y3_l4).toNatClampNeg))), (0, .ref z_o), (1, .int x1)]) hx hb (tb_at tk_X0_minutes 19 rfl) hl (k := 3) rfl rfl (by decide) rfl (fun ls hl => ?_)
          refine lv_goto (pc := 32) (tgt := 4) hx hb (tb_at tk_X0_minutes 20 rfl) (by decide) ?_
          exact ih4 (y2_l4 + (z_bits (y3_l4).toNatClampNeg)) (y3_l4 + 1) _ _ _ h hW hS (lv_sub hl [2, 3, 1, 0] rfl)
  exact w4 N 0 0 _ _ _ h hW hS (lv_sub hl [2, 3, 1, 0] rfl)
def f_X0_dropBits_e41 {ρ : Type} (k : Int32 → (Nat → Int32) → Option ρ) (y2_e41 : Int32) (z_bits_e41 : Nat → Int32) : Option ρ := k y2_e41 z_bits_e41
def f_X0_dropBits_l4 {ρ : Type} (x1 : Int32) (z_bitCount : Int32) (k41 : Int32 → (Nat → Int32) → Option ρ) (N : Nat) : Nat → Int32 → Int32 → (Nat → Int32) → Option ρ
  | 0, _, _, _ => none
  | n4 + 1, y2_l4, y3_l4, z_bits_l4 => if z_bitCount ≤ y3_l4 then (k41 y2_l4 z_bits_l4) else (f_X7_holds N x1 y3_l4 (fun r14 => if r14 = 0 then (ck (ivi y3_l4 8) (ck (ivi y2_l4 8) ((f_X0_dropBits_l4 x1 z_bitCount k41 N n4) (y2_l4 + 1) (y3_l4 + 1) (upd z_bits_l4 (y2_l4).toNatClampNeg (z_bits_l4 (y3_l4).toNatClampNeg))))) else ((f_X0_dropBits_l4 x1 z_bitCount k41 N n4) y2_l4 (y3_l4 + 1) z_bits_l4)))
def f_X0_dropBits {ρ : Type} (N : Nat) (z_bitCount : Int32) (z_bits : Nat → Int32) (x1 : Int32) (k : Int32 → (Nat → Int32) → Option ρ) : Option ρ := f_X0_dropBits_l4 x1 z_bitCount (fun y2_e41 z_bits_e41 => f_X0_dropBits_e41 k y2_e41 z_bits_e41) N N 0 0 z_bits
abbrev w_X0_dropBits (cI cZ cQ cW : ClassId) (z_o : Nat) (z_has_a : Nat) (z_left_a : Nat) (z_bits_a : Nat) (z_bitCount : Int32) (z_given : Int32) (z_made : Int32) (z_gone : Int32) (z_law : Int32) (z_bits : Nat → Int32) : va_W := [(z_o, .inr (0, [.ref z_has_a, .ref z_left_a, .ref z_bits_a, .int z_bitCount, .int z_given, .int z_made, .int z_gone, .int z_law])), (z_bits_a, .inl (cI, 8, .inl z_bits))]
abbrev rm_X0_dropBits : Room := { frames := 1, cells := 0, slots := 0, locals := 21 }
set_option maxHeartbeats 4000000 in
set_option maxRecDepth 100000 in
theorem c_X0_dropBits (l : Launch) (dC : Nat → ClassId) (dI : Nat → Nat → Nat) (cI cZ cQ cW : ClassId) (z_o : Nat) (z_has_a : Nat) (z_left_a : Nat) (z_bits_a : Nat) (z_bitCount : Int32) (z_given : Int32) (z_made : Int32) (z_gone : Int32) (z_law : Int32) (z_bits : Nat → Int32) (x1 : Int32) {ρ : Type} (N : Nat) (k : Int32 → (Nat → Int32) → Option ρ) (res : ρ) (h : f_X0_dropBits N z_bitCount z_bits x1 k = some res) : Cv l yX0_dropBits (WS yX0_dropBits cX0_dropBits 4 none) rm_X0_dropBits (dC, dI) (tysG cI cZ cQ cW) E0 [.ref z_o, .int x1] (w_X0_dropBits cI cZ cQ cW z_o z_has_a z_left_a z_bits_a z_bitCount z_given z_made z_gone z_law z_bits) (fun (u : Int32 × (Nat → Int32)) => (w_X0_dropBits cI cZ cQ cW z_o z_has_a z_left_a z_bits_a u.1 z_given z_made z_gone z_law u.2)) (fun u => k u.1 u.2 = some res) := by
  refine Cv.of (cc := cX0_dropBits) (n := 4) (by decide +kernel) (Nat.le_of_ble_eq_true rfl) ?_
  intro p e s m args below meth c A ls Q B hW hE hS hl hQ
  have hx := B.1
  have hb := B.2.1
  have hl : lv_has ls 4 [(0, .ref z_o), (1, .int x1)] := hl
  unfold f_X0_dropBits at h
  refine lv_iconst (pc := 0) (v := 0) hx hb (tb_at tk_X0_dropBits 0 rfl) (by decide) ?_
  refine lv_istore_n (pc := 1) (lv' := [(2, .int 0), (0, .ref z_o), (1, .int x1)]) hx hb (tb_at tk_X0_dropBits 1 rfl) rfl hl (by decide) rfl (fun ls hl => ?_)
  refine lv_iconst (pc := 2) (v := 0) hx hb (tb_at tk_X0_dropBits 2 rfl) (by decide) ?_
  refine lv_istore_n (pc := 3) (lv' := [(3, .int 0), (2, .int 0), (0, .ref z_o), (1, .int x1)]) hx hb (tb_at tk_X0_dropBits 3 rfl) rfl hl (by decide) rfl (fun ls hl => ?_)
  have w41 : ∀ (y2_e41 : Int32) (z_bits_e41 : Nat → Int32) (H : Heap) (locs : List Loc) (ls : Array Slot), f_X0_dropBits_e41 k y2_e41 z_bits_e41 = some res → PD (dC, dI) A (w_X0_dropBits cI cZ cQ cW z_o z_has_a z_left_a z_bits_a z_bitCount z_given z_made z_gone z_law z_bits_e41) H → va_S A s.heap H locs → lv_has ls 4 [(0, .ref z_o), (2, .int y2_e41)] → W p l e rm_X0_dropBits s m args below meth c H locs 0 0 Q (F0 m 41 ls []) := by
    intro y2_e41 z_bits_e41 H locs ls h hW hS hl
    unfold f_X0_dropBits_e41 at h
    refine lv_aload_n (pc := 41) hx hb (tb_at tk_X0_dropBits 23 rfl) rfl (lv_at hl 0 rfl) ?_
    refine lv_iload_n (pc := 42) hx hb (tb_at tk_X0_dropBits 24 rfl) rfl (lv_at hl 1 rfl) ?_
    refine k_put (pc := 43) (T := TX0) B inG0 tyX0 tyX0_ok nmX0 hW hS 0 rfl rfl 3 (by decide) q_f_X0_30 rfl rfl rfl rfl (Nat.le_of_ble_eq_true rfl) (tb_at tk_X0_dropBits 25 rfl) (w_X0_dropBits cI cZ cQ cW z_o z_has_a z_left_a z_bits_a y2_e41 z_given z_made z_gone z_law z_bits_e41) rfl (fun H locs hW hS => ?_)
    exact hQ (y2_e41, z_bits_e41) _ _ _ 46 h hW hS (tb_at tk_X0_dropBits 26 rfl)
  have w4 : ∀ (n : Nat), ∀ (y2_l4 : Int32) (y3_l4 : Int32) (z_bits_l4 : Nat → Int32) (H : Heap) (locs : List Loc) (ls : Array Slot), f_X0_dropBits_l4 x1 z_bitCount (fun y2_e41 z_bits_e41 => f_X0_dropBits_e41 k y2_e41 z_bits_e41) N n y2_l4 y3_l4 z_bits_l4 = some res → PD (dC, dI) A (w_X0_dropBits cI cZ cQ cW z_o z_has_a z_left_a z_bits_a z_bitCount z_given z_made z_gone z_law z_bits_l4) H → va_S A s.heap H locs → lv_has ls 4 [(0, .ref z_o), (1, .int x1), (2, .int y2_l4), (3, .int y3_l4)] → W p l e rm_X0_dropBits s m args below meth c H locs 0 0 Q (F0 m 4 ls []) := by
    intro n
    induction n with
    | zero => intro y2_l4 y3_l4 z_bits_l4 H locs ls h; exact no_n h
    | succ n4 ih4 =>
      intro y2_l4 y3_l4 z_bits_l4 H locs ls h hW hS hl
      rw [f_X0_dropBits_l4] at h
      refine lv_iload_n (pc := 4) hx hb (tb_at tk_X0_dropBits 4 rfl) rfl (lv_at hl 3 rfl) ?_
      refine lv_aload_n (pc := 5) hx hb (tb_at tk_X0_dropBits 5 rfl) rfl (lv_at hl 0 rfl) ?_
      refine k_get (pc := 6) (v := .int z_bitCount) (T := TX0) B inG0 hW 0 rfl rfl 3 (by decide) q_f_X0_30 rfl rfl (tb_at tk_X0_dropBits 6 rfl) ?_
      refine lv_icmp_ge (pc := 9) (tgt := 41) hx hb (tb_at tk_X0_dropBits 7 rfl) (by decide) (fun cc => ?_) (fun cc => ?_)
      · have h := it_t cc h
        exact w41 y2_l4 z_bits_l4 _ _ _ h hW hS (lv_sub hl [0, 2] rfl)
      · have h := it_f cc h
        refine lv_iload_n (pc := 12) hx hb (tb_at tk_X0_dropBits 8 rfl) rfl (lv_at hl 1 rfl) ?_
        refine lv_iload_n (pc := 13) hx hb (tb_at tk_X0_dropBits 9 rfl) rfl (lv_at hl 3 rfl) ?_
        refine k_call0 (pc := 14) B (k_runNi (rest := []) (host := RX7) B (c_X7_holds l dC dI cI cZ cQ cW   x1 y3_l4 N _ res h) E0_st (fun _ _ _ => trivial) q_c_X7_holds q_h_X0_47 q_t_X7_holds q_n_X7 hd_X7_holds ⟨rfl, rfl⟩ ⟨Nat.le_of_ble_eq_true rfl, Nat.le_of_ble_eq_true rfl⟩ hW [] rfl (by decide +kernel) rfl hl.1 rfl (Nat.le_of_ble_eq_true rfl) (tb_at tk_X0_dropBits 10 rfl) ⟨Nat.zero_le _, Nat.zero_le _⟩) hW hS (fun r14 u H locs h hW hS => ?_)
        refine lv_if_ne (pc := 17) (tgt := 35) hx hb (tb_at tk_X0_dropBits 11 rfl) (by decide) (fun cc => ?_) (fun cc => ?_)
        · have h := it_f cc h
          refine lv_iinc (pc := 35) (v := y3_l4 + 1) (lv' := [(3, .int (y3_l4 + 1)), (0, .ref z_o), (1, .int x1), (2, .int y2_l4)]) hx hb (tb_at tk_X0_dropBits 21 rfl) hl (k := 3) rfl rfl (by decide) rfl (fun ls hl => ?_)
          refine lv_goto (pc := 38) (tgt := 4) hx hb (tb_at tk_X0_dropBits 22 rfl) (by decide) ?_
          exact ih4 y2_l4 (y3_l4 + 1) z_bits_l4 _ _ _ h hW hS (lv_sub hl [1, 2, 3, 0] rfl)
        · have h := it_t cc h
          refine lv_aload_n (pc := 20) hx hb (tb_at tk_X0_dropBits 12 rfl) rfl (lv_at hl 0 rfl) ?_
          refine k_get (pc := 21) (v := .ref z_bits_a) (T := TX0) B inG0 hW 0 rfl rfl 2 (by decide) q_f_X0_18 rfl rfl (tb_at tk_X0_dropBits 13 rfl) ?_
          refine lv_iload_n (pc := 24) hx hb (tb_at tk_X0_dropBits 14 rfl) rfl (lv_at hl 2 rfl) ?_
          refine lv_aload_n (pc := 25) hx hb (tb_at tk_X0_dropBits 15 rfl) rfl (lv_at hl 0 rfl) ?_
          refine k_get (pc := 26) (v := .ref z_bits_a) (T := TX0) B inG0 hW 0 rfl rfl 2 (by decide) q_f_X0_18 rfl rfl (tb_at tk_X0_dropBits 16 rfl) ?_
          refine lv_iload_n (pc := 29) hx hb (tb_at tk_X0_dropBits 17 rfl) rfl (lv_at hl 3 rfl) ?_
          have ii := ivi_in (ck_l h)
          have h := ck_r h
          refine k_iald (pc := 30) B hW 1 0 rfl rfl ii (tb_at tk_X0_dropBits 18 rfl) ?_
          have ii := ivi_in (ck_l h)
          have h := ck_r h
          refine k_iast (pc := 31) B hW hS 1 0 rfl rfl ii (tb_at tk_X0_dropBits 19 rfl) (w_X0_dropBits cI cZ cQ cW z_o z_has_a z_left_a z_bits_a z_bitCount z_given z_made z_gone z_law (upd z_bits_l4 (y2_l4).toNatClampNeg (z_bits_l4 (y3_l4).toNatClampNeg))) rfl (fun H locs hW hS => ?_)
          refine lv_iinc (pc := 32) (v := y2_l4 + 1) (lv' := [(2, .int (y2_l4 + 1)), (0, .ref z_o), (1, .int x1), (3, .int y3_l4)]) hx hb (tb_at tk_X0_dropBits 20 rfl) hl (k := 2) rfl rfl (by decide) rfl (fun ls hl => ?_)
          refine lv_iinc (pc := 35) (v := y3_l4 + 1) (lv' := [(3, .int (y3_l4 + 1)), (2, .int (y2_l4 + 1)), (0, .ref z_o), (1, .int x1)]) hx hb (tb_at tk_X0_dropBits 21 rfl) hl (k := 3) rfl rfl (by decide) rfl (fun ls hl => ?_)
          refine lv_goto (pc := 38) (tgt := 4) hx hb (tb_at tk_X0_dropBits 22 rfl) (by decide) ?_
          exact ih4 (y2_l4 + 1) (y3_l4 + 1) (upd z_bits_l4 (y2_l4).toNatClampNeg (z_bits_l4 (y3_l4).toNatClampNeg)) _ _ _ h hW hS (lv_sub hl [2, 3, 1, 0] rfl)
  exact w4 N 0 0 z_bits _ _ _ h hW hS (lv_sub hl [2, 3, 1, 0] rfl)
def f_X0_pass_e102 {ρ : Type} (z_gone : Int32) (z_left_e47 : Nat → Int32) (z_has_e47 : Nat → Int32) (k : Int32 → Int32 → Int32 → (Nat → Int32) → (Nat → Int32) → (Nat → Int32) → Option ρ) (z_bitCount_e102 : Int32) (z_bits_e102 : Nat → Int32) : Option ρ := k z_bitCount_e102 0 (z_gone + 1) z_left_e47 z_has_e47 z_bits_e102
def f_X0_pass_l49 {ρ : Type} (s_lumpCount : Int32) (s_lumps : Nat → Int32) (h_weight : Nat → Int32) (k102 : Int32 → (Nat → Int32) → Option ρ) : Nat → Int32 → Int32 → (Nat → Int32) → Option ρ
  | 0, _, _, _ => none
  | n49 + 1, y3_l49, z_bitCount_l49, z_bits_l49 => if s_lumpCount ≤ y3_l49 then (k102 z_bitCount_l49 z_bits_l49) else (if 8 ≤ z_bitCount_l49 then (k102 z_bitCount_l49 z_bits_l49) else (ck (ivi y3_l49 6) (ck (ivi (s_lumps (y3_l49).toNatClampNeg) 6) (ck (ivi z_bitCount_l49 8) ((f_X0_pass_l49 s_lumpCount s_lumps h_weight k102 n49) (y3_l49 + 1) (z_bitCount_l49 + 1) (upd z_bits_l49 (z_bitCount_l49).toNatClampNeg (h_weight (s_lumps (y3_l49).toNatClampNeg).toNatClampNeg)))))))
def f_X0_pass_e47 {ρ : Type} (z_bits : Nat → Int32) (z_bitCount : Int32) (z_gone : Int32) (s_lumpCount : Int32) (s_lumps : Nat → Int32) (h_weight : Nat → Int32) (k : Int32 → Int32 → Int32 → (Nat → Int32) → (Nat → Int32) → (Nat → Int32) → Option ρ) (N : Nat) (z_left_e47 : Nat → Int32) (z_has_e47 : Nat → Int32) : Option ρ := f_X0_pass_l49 s_lumpCount s_lumps h_weight (fun z_bitCount_e102 z_bits_e102 => f_X0_pass_e102 z_gone z_left_e47 z_has_e47 k z_bitCount_e102 z_bits_e102) N 0 z_bitCount z_bits
def f_X0_pass_l2 {ρ : Type} (z_given : Int32) (s_got : Nat → Int32) (k47 : (Nat → Int32) → (Nat → Int32) → Option ρ) (N : Nat) : Nat → Int32 → (Nat → Int32) → (Nat → Int32) → Option ρ
  | 0, _, _, _ => none
  | n2 + 1, y3_l2, z_left_l2, z_has_l2 => if 6 ≤ y3_l2 then (k47 z_left_l2 z_has_l2) else (f_X7_holds N z_given y3_l2 (fun r13 => if r13 = 0 then ((f_X0_pass_l2 z_given s_got k47 N n2) (y3_l2 + 1) z_left_l2 z_has_l2) else (ck (ivi y3_l2 6) (ck (ivi y3_l2 6) (ck (ivi y3_l2 6) (ck (ivi y3_l2 6) ((f_X0_pass_l2 z_given s_got k47 N n2) (y3_l2 + 1) (upd z_left_l2 (y3_l2).toNatClampNeg ((z_left_l2 (y3_l2).toNatClampNeg) - 1)) (upd z_has_l2 (y3_l2).toNatClampNeg (s_got (y3_l2).toNatClampNeg)))))))))
def f_X0_pass {ρ : Type} (N : Nat) (z_bitCount : Int32) (z_given : Int32) (z_gone : Int32) (z_left : Nat → Int32) (s_lumpCount : Int32) (s_got : Nat → Int32) (z_has : Nat → Int32) (s_lumps : Nat → Int32) (h_weight : Nat → Int32) (z_bits : Nat → Int32) (k : Int32 → Int32 → Int32 → (Nat → Int32) → (Nat → Int32) → (Nat → Int32) → Option ρ) : Option ρ := f_X0_pass_l2 z_given s_got (fun z_left_e47 z_has_e47 => f_X0_pass_e47 z_bits z_bitCount z_gone s_lumpCount s_lumps h_weight k N z_left_e47 z_has_e47) N N 0 z_left z_has
abbrev w_X0_pass (cI cZ cQ cW : ClassId) (z_o : Nat) (z_has_a : Nat) (z_left_a : Nat) (z_bits_a : Nat) (s_o : Nat) (sp_o : Nat) (s_gave_a : Nat) (s_giver_a : Nat) (s_aims_a : Nat) (s_got_a : Nat) (s_lumps_a : Nat) (h_o : Nat) (h_weight_a : Nat) (h_nights_a : Nat) (h_wanted_a : Nat) (h_wantCount_a : Nat) (h_wantBits_a : Nat) (z_bitCount : Int32) (z_given : Int32) (z_made : Int32) (z_gone : Int32) (z_law : Int32) (z_left : Nat → Int32) (s_left : Int32) (s_lumpCount : Int32) (s_ringed : Int32) (s_got : Nat → Int32) (z_has : Nat → Int32) (h_size : Int32) (h_law : Int32) (s_lumps : Nat → Int32) (h_weight : Nat → Int32) (z_bits : Nat → Int32) : va_W := [(z_o, .inr (0, [.ref z_has_a, .ref z_left_a, .ref z_bits_a, .int z_bitCount, .int z_given, .int z_made, .int z_gone, .int z_law])), (z_left_a, .inl (cI, 6, .inl z_left)), (s_o, .inr (6, [.ref sp_o, .ref s_gave_a, .ref s_giver_a, .ref s_aims_a, .int s_left, .ref s_got_a, .ref s_lumps_a, .int s_lumpCount, .int s_ringed])), (s_got_a, .inl (cI, 6, .inl s_got)), (z_has_a, .inl (cI, 6, .inl z_has)), (h_o, .inr (2, [.ref h_weight_a, .ref h_nights_a, .ref h_wanted_a, .ref h_wantCount_a, .ref h_wantBits_a, .int h_size, .int h_law])), (s_lumps_a, .inl (cI, 6, .inl s_lumps)), (h_weight_a, .inl (cI, 6, .inl h_weight)), (z_bits_a, .inl (cI, 8, .inl z_bits))]
abbrev rm_X0_pass : Room := { frames := 1, cells := 0, slots := 0, locals := 21 }
set_option maxHeartbeats 4000000 in
set_option maxRecDepth 100000 in
theorem c_X0_pass (l : Launch) (dC : Nat → ClassId) (dI : Nat → Nat → Nat) (cI cZ cQ cW : ClassId) (z_o : Nat) (z_has_a : Nat) (z_left_a : Nat) (z_bits_a : Nat) (s_o : Nat) (sp_o : Nat) (s_gave_a : Nat) (s_giver_a : Nat) (s_aims_a : Nat) (s_got_a : Nat) (s_lumps_a : Nat) (h_o : Nat) (h_weight_a : Nat) (h_nights_a : Nat) (h_wanted_a : Nat) (h_wantCount_a : Nat) (h_wantBits_a : Nat) (z_bitCount : Int32) (z_given : Int32) (z_made : Int32) (z_gone : Int32) (z_law : Int32) (z_left : Nat → Int32) (s_left : Int32) (s_lumpCount : Int32) (s_ringed : Int32) (s_got : Nat → Int32) (z_has : Nat → Int32) (h_size : Int32) (h_law : Int32) (s_lumps : Nat → Int32) (h_weight : Nat → Int32) (z_bits : Nat → Int32) {ρ : Type} (N : Nat) (k : Int32 → Int32 → Int32 → (Nat → Int32) → (Nat → Int32) → (Nat → Int32) → Option ρ) (res : ρ) (h : f_X0_pass N z_bitCount z_given z_gone z_left s_lumpCount s_got z_has s_lumps h_weight z_bits k = some res) : Cv l yX0_pass (WS yX0_pass cX0_pass 4 none) rm_X0_pass (dC, dI) (tysG cI cZ cQ cW) E0 [.ref z_o, .ref s_o, .ref h_o] (w_X0_pass cI cZ cQ cW z_o z_has_a z_left_a z_bits_a s_o sp_o s_gave_a s_giver_a s_aims_a s_got_a s_lumps_a h_o h_weight_a h_nights_a h_wanted_a h_wantCount_a h_wantBits_a z_bitCount z_given z_made z_gone z_law z_left s_left s_lumpCount s_ringed s_got z_has h_size h_law s_lumps h_weight z_bits) (fun (u : Int32 × Int32 × Int32 × (Nat → Int32) × (Nat → Int32) × (Nat → Int32)) => (w_X0_pass cI cZ cQ cW z_o z_has_a z_left_a z_bits_a s_o sp_o s_gave_a s_giver_a s_aims_a s_got_a s_lumps_a h_o h_weight_a h_nights_a h_wanted_a h_wantCount_a h_wantBits_a u.1 u.2.1 z_made u.2.2.1 z_law u.2.2.2.1 s_left s_lumpCount s_ringed s_got u.2.2.2.2.1 h_size h_law s_lumps h_weight u.2.2.2.2.2)) (fun u => k u.1 u.2.1 u.2.2.1 u.2.2.2.1 u.2.2.2.2.1 u.2.2.2.2.2 = some res) := by
  refine Cv.of (cc := cX0_pass) (n := 4) (by decide +kernel) (Nat.le_of_ble_eq_true rfl) ?_
  intro p e s m args below meth c A ls Q B hW hE hS hl hQ
  have hx := B.1
  have hb := B.2.1
  have hl : lv_has ls 4 [(0, .ref z_o), (1, .ref s_o), (2, .ref h_o)] := hl
  unfold f_X0_pass at h
  refine lv_iconst (pc := 0) (v := 0) hx hb (tb_at tk_X0_pass 0 rfl) (by decide) ?_
  refine lv_istore_n (pc := 1) (lv' := [(3, .int 0), (0, .ref z_o), (1, .ref s_o), (2, .ref h_o)]) hx hb (tb_at tk_X0_pass 1 rfl) rfl hl (by decide) rfl (fun ls hl => ?_)
  have w47 : ∀ (z_left_e47 : Nat → Int32) (z_has_e47 : Nat → Int32) (H : Heap) (locs : List Loc) (ls : Array Slot), f_X0_pass_e47 z_bits z_bitCount z_gone s_lumpCount s_lumps h_weight k N z_left_e47 z_has_e47 = some res → PD (dC, dI) A (w_X0_pass cI cZ cQ cW z_o z_has_a z_left_a z_bits_a s_o sp_o s_gave_a s_giver_a s_aims_a s_got_a s_lumps_a h_o h_weight_a h_nights_a h_wanted_a h_wantCount_a h_wantBits_a z_bitCount z_given z_made z_gone z_law z_left_e47 s_left s_lumpCount s_ringed s_got z_has_e47 h_size h_law s_lumps h_weight z_bits) H → va_S A s.heap H locs → lv_has ls 4 [(0, .ref z_o), (1, .ref s_o), (2, .ref h_o)] → W p l e rm_X0_pass s m args below meth c H locs 0 0 Q (F0 m 47 ls []) := by
    intro z_left_e47 z_has_e47 H locs ls h hW hS hl
    unfold f_X0_pass_e47 at h
    refine lv_iconst (pc := 47) (v := 0) hx hb (tb_at tk_X0_pass 28 rfl) (by decide) ?_
    refine lv_istore_n (pc := 48) (lv' := [(3, .int 0), (0, .ref z_o), (1, .ref s_o), (2, .ref h_o)]) hx hb (tb_at tk_X0_pass 29 rfl) rfl hl (by decide) rfl (fun ls hl => ?_)
    have w102 : ∀ (z_bitCount_e102 : Int32) (z_bits_e102 : Nat → Int32) (H : Heap) (locs : List Loc) (ls : Array Slot), f_X0_pass_e102 z_gone z_left_e47 z_has_e47 k z_bitCount_e102 z_bits_e102 = some res → PD (dC, dI) A (w_X0_pass cI cZ cQ cW z_o z_has_a z_left_a z_bits_a s_o sp_o s_gave_a s_giver_a s_aims_a s_got_a s_lumps_a h_o h_weight_a h_nights_a h_wanted_a h_wantCount_a h_wantBits_a z_bitCount_e102 z_given z_made z_gone z_law z_left_e47 s_left s_lumpCount s_ringed s_got z_has_e47 h_size h_law s_lumps h_weight z_bits_e102) H → va_S A s.heap H locs → lv_has ls 4 [(0, .ref z_o)] → W p l e rm_X0_pass s m args below meth c H locs 0 0 Q (F0 m 102 ls []) := by
      intro z_bitCount_e102 z_bits_e102 H locs ls h hW hS hl
      unfold f_X0_pass_e102 at h
      refine lv_aload_n (pc := 102) hx hb (tb_at tk_X0_pass 58 rfl) rfl (lv_at hl 0 rfl) ?_
      refine lv_iconst (pc := 103) (v := 0) hx hb (tb_at tk_X0_pass 59 rfl) (by decide) ?_
      refine k_put (pc := 104) (T := TX0) B inG0 tyX0 tyX0_ok nmX0 hW hS 0 rfl rfl 4 (by decide) q_f_X0_34 rfl rfl rfl rfl (Nat.le_of_ble_eq_true rfl) (tb_at tk_X0_pass 60 rfl) (w_X0_pass cI cZ cQ cW z_o z_has_a z_left_a z_bits_a s_o sp_o s_gave_a s_giver_a s_aims_a s_got_a s_lumps_a h_o h_weight_a h_nights_a h_wanted_a h_wantCount_a h_wantBits_a z_bitCount_e102 0 z_made z_gone z_law z_left_e47 s_left s_lumpCount s_ringed s_got z_has_e47 h_size h_law s_lumps h_weight z_bits_e102) rfl (fun H locs hW hS => ?_)
      refine lv_aload_n (pc := 107) hx hb (tb_at tk_X0_pass 61 rfl) rfl (lv_at hl 0 rfl) ?_
      refine lv_dup (pc := 108) hx hb (tb_at tk_X0_pass 62 rfl) rfl ?_
      refine k_get (pc := 109) (v := .int z_gone) (T := TX0) B inG0 hW 0 rfl rfl 6 (by decide) q_f_X0_40 rfl rfl (tb_at tk_X0_pass 63 rfl) ?_
      refine lv_iconst (pc := 112) (v := 1) hx hb (tb_at tk_X0_pass 64 rfl) (by decide) ?_
      refine lv_iadd (pc := 113) hx hb (tb_at tk_X0_pass 65 rfl) ?_
      refine k_put (pc := 114) (T := TX0) B inG0 tyX0 tyX0_ok nmX0 hW hS 0 rfl rfl 6 (by decide) q_f_X0_40 rfl rfl rfl rfl (Nat.le_of_ble_eq_true rfl) (tb_at tk_X0_pass 66 rfl) (w_X0_pass cI cZ cQ cW z_o z_has_a z_left_a z_bits_a s_o sp_o s_gave_a s_giver_a s_aims_a s_got_a s_lumps_a h_o h_weight_a h_nights_a h_wanted_a h_wantCount_a h_wantBits_a z_bitCount_e102 0 z_made (z_gone + 1) z_law z_left_e47 s_left s_lumpCount s_ringed s_got z_has_e47 h_size h_law s_lumps h_weight z_bits_e102) rfl (fun H locs hW hS => ?_)
      exact hQ (z_bitCount_e102, 0, z_gone + 1, z_left_e47, z_has_e47, z_bits_e102) _ _ _ 117 h hW hS (tb_at tk_X0_pass 67 rfl)
    have w49 : ∀ (n : Nat), ∀ (y3_l49 : Int32) (z_bitCount_l49 : Int32) (z_bits_l49 : Nat → Int32) (H : Heap) (locs : List Loc) (ls : Array Slot), f_X0_pass_l49 s_lumpCount s_lumps h_weight (fun z_bitCount_e102 z_bits_e102 => f_X0_pass_e102 z_gone z_left_e47 z_has_e47 k z_bitCount_e102 z_bits_e102) n y3_l49 z_bitCount_l49 z_bits_l49 = some res → PD (dC, dI) A (w_X0_pass cI cZ cQ cW z_o z_has_a z_left_a z_bits_a s_o sp_o s_gave_a s_giver_a s_aims_a s_got_a s_lumps_a h_o h_weight_a h_nights_a h_wanted_a h_wantCount_a h_wantBits_a z_bitCount_l49 z_given z_made z_gone z_law z_left_e47 s_left s_lumpCount s_ringed s_got z_has_e47 h_size h_law s_lumps h_weight z_bits_l49) H → va_S A s.heap H locs → lv_has ls 4 [(0, .ref z_o), (1, .ref s_o), (2, .ref h_o), (3, .int y3_l49)] → W p l e rm_X0_pass s m args below meth c H locs 0 0 Q (F0 m 49 ls []) := by
      intro n
      induction n with
      | zero => intro y3_l49 z_bitCount_l49 z_bits_l49 H locs ls h; exact no_n h
      | succ n49 ih49 =>
        intro y3_l49 z_bitCount_l49 z_bits_l49 H locs ls h hW hS hl
        rw [f_X0_pass_l49] at h
        refine lv_iload_n (pc := 49) hx hb (tb_at tk_X0_pass 30 rfl) rfl (lv_at hl 3 rfl) ?_
        refine lv_aload_n (pc := 50) hx hb (tb_at tk_X0_pass 31 rfl) rfl (lv_at hl 1 rfl) ?_
        refine k_get (pc := 51) (v := .int s_lumpCount) (T := TX6) B inG6 hW 2 rfl rfl 7 (by decide) q_f_X0_56 rfl rfl (tb_at tk_X0_pass 32 rfl) ?_
        refine lv_icmp_ge (pc := 54) (tgt := 102) hx hb (tb_at tk_X0_pass 33 rfl) (by decide) (fun cc => ?_) (fun cc => ?_)
        · have h := it_t cc h
          exact w102 z_bitCount_l49 z_bits_l49 _ _ _ h hW hS (lv_sub hl [0] rfl)
        · have h := it_f cc h
          refine lv_aload_n (pc := 57) hx hb (tb_at tk_X0_pass 34 rfl) rfl (lv_at hl 0 rfl) ?_
          refine k_get (pc := 58) (v := .int z_bitCount_l49) (T := TX0) B inG0 hW 0 rfl rfl 3 (by decide) q_f_X0_30 rfl rfl (tb_at tk_X0_pass 35 rfl) ?_
          refine lv_bipush (pc := 61) (v := 8) hx hb (tb_at tk_X0_pass 36 rfl) (by decide) ?_
          refine lv_icmp_ge (pc := 63) (tgt := 102) hx hb (tb_at tk_X0_pass 37 rfl) (by decide) (fun cc => ?_) (fun cc => ?_)
          · have h := it_t cc h
            exact w102 z_bitCount_l49 z_bits_l49 _ _ _ h hW hS (lv_sub hl [0] rfl)
          · have h := it_f cc h
            refine lv_aload_n (pc := 66) hx hb (tb_at tk_X0_pass 38 rfl) rfl (lv_at hl 0 rfl) ?_
            refine k_get (pc := 67) (v := .ref z_bits_a) (T := TX0) B inG0 hW 0 rfl rfl 2 (by decide) q_f_X0_18 rfl rfl (tb_at tk_X0_pass 39 rfl) ?_
            refine lv_aload_n (pc := 70) hx hb (tb_at tk_X0_pass 40 rfl) rfl (lv_at hl 0 rfl) ?_
            refine k_get (pc := 71) (v := .int z_bitCount_l49) (T := TX0) B inG0 hW 0 rfl rfl 3 (by decide) q_f_X0_30 rfl rfl (tb_at tk_X0_pass 41 rfl) ?_
            refine lv_aload_n (pc := 74) hx hb (tb_at tk_X0_pass 42 rfl) rfl (lv_at hl 2 rfl) ?_
            refine k_get (pc := 75) (v := .ref h_weight_a) (T := TX2) B inG2 hW 5 rfl rfl 0 (by decide) q_f_X0_59 rfl rfl (tb_at tk_X0_pass 43 rfl) ?_
            refine lv_aload_n (pc := 78) hx hb (tb_at tk_X0_pass 44 rfl) rfl (lv_at hl 1 rfl) ?_
            refine k_get (pc := 79) (v := .ref s_lumps_a) (T := TX6) B inG6 hW 2 rfl rfl 6 (by decide) q_f_X0_62 rfl rfl (tb_at tk_X0_pass 45 rfl) ?_
            refine lv_iload_n (pc := 82) hx hb (tb_at tk_X0_pass 46 rfl) rfl (lv_at hl 3 rfl) ?_
            have ii := ivi_in (ck_l h)
            have h := ck_r h
            refine k_iald (pc := 83) B hW 6 0 rfl rfl ii (tb_at tk_X0_pass 47 rfl) ?_
            have ii := ivi_in (ck_l h)
            have h := ck_r h
            refine k_iald (pc := 84) B hW 7 0 rfl rfl ii (tb_at tk_X0_pass 48 rfl) ?_
            have ii := ivi_in (ck_l h)
            have h := ck_r h
            refine k_iast (pc := 85) B hW hS 8 0 rfl rfl ii (tb_at tk_X0_pass 49 rfl) (w_X0_pass cI cZ cQ cW z_o z_has_a z_left_a z_bits_a s_o sp_o s_gave_a s_giver_a s_aims_a s_got_a s_lumps_a h_o h_weight_a h_nights_a h_wanted_a h_wantCount_a h_wantBits_a z_bitCount_l49 z_given z_made z_gone z_law z_left_e47 s_left s_lumpCount s_ringed s_got z_has_e47 h_size h_law s_lumps h_weight (upd z_bits_l49 (z_bitCount_l49).toNatClampNeg (h_weight (s_lumps (y3_l49).toNatClampNeg).toNatClampNeg))) rfl (fun H locs hW hS => ?_)
            refine lv_aload_n (pc := 86) hx hb (tb_at tk_X0_pass 50 rfl) rfl (lv_at hl 0 rfl) ?_
            refine lv_dup (pc := 87) hx hb (tb_at tk_X0_pass 51 rfl) rfl ?_
            refine k_get (pc := 88) (v := .int z_bitCount_l49) (T := TX0) B inG0 hW 0 rfl rfl 3 (by decide) q_f_X0_30 rfl rfl (tb_at tk_X0_pass 52 rfl) ?_
            refine lv_iconst (pc := 91) (v := 1) hx hb (tb_at tk_X0_pass 53 rfl) (by decide) ?_
            refine lv_iadd (pc := 92) hx hb (tb_at tk_X0_pass 54 rfl) ?_
            refine k_put (pc := 93) (T := TX0) B inG0 tyX0 tyX0_ok nmX0 hW hS 0 rfl rfl 3 (by decide) q_f_X0_30 rfl rfl rfl rfl (Nat.le_of_ble_eq_true rfl) (tb_at tk_X0_pass 55 rfl) (w_X0_pass cI cZ cQ cW z_o z_has_a z_left_a z_bits_a s_o sp_o s_gave_a s_giver_a s_aims_a s_got_a s_lumps_a h_o h_weight_a h_nights_a h_wanted_a h_wantCount_a h_wantBits_a (z_bitCount_l49 + 1) z_given z_made z_gone z_law z_left_e47 s_left s_lumpCount s_ringed s_got z_has_e47 h_size h_law s_lumps h_weight (upd z_bits_l49 (z_bitCount_l49).toNatClampNeg (h_weight (s_lumps (y3_l49).toNatClampNeg).toNatClampNeg))) rfl (fun H locs hW hS => ?_)
            refine lv_iinc (pc := 96) (v := y3_l49 + 1) (lv' := [(3, .int (y3_l49 + 1)), (0, .ref z_o), (1, .ref s_o), (2, .ref h_o)]) hx hb (tb_at tk_X0_pass 56 rfl) hl (k := 3) rfl rfl (by decide) rfl (fun ls hl => ?_)
            refine lv_goto (pc := 99) (tgt := 49) hx hb (tb_at tk_X0_pass 57 rfl) (by decide) ?_
            exact ih49 (y3_l49 + 1) (z_bitCount_l49 + 1) (upd z_bits_l49 (z_bitCount_l49).toNatClampNeg (h_weight (s_lumps (y3_l49).toNatClampNeg).toNatClampNeg)) _ _ _ h hW hS (lv_sub hl [1, 2, 3, 0] rfl)
    exact w49 N 0 z_bitCount z_bits _ _ _ h hW hS (lv_sub hl [1, 2, 3, 0] rfl)
  have w2 : ∀ (n : Nat), ∀ (y3_l2 : Int32) (z_left_l2 : Nat → Int32) (z_has_l2 : Nat → Int32) (H : Heap) (locs : List Loc) (ls : Array Slot), f_X0_pass_l2 z_given s_got (fun z_left_e47 z_has_e47 => f_X0_pass_e47 z_bits z_bitCount z_gone s_lumpCount s_lumps h_weight k N z_left_e47 z_has_e47) N n y3_l2 z_left_l2 z_has_l2 = some res → PD (dC, dI) A (w_X0_pass cI cZ cQ cW z_o z_has_a z_left_a z_bits_a s_o sp_o s_gave_a s_giver_a s_aims_a s_got_a s_lumps_a h_o h_weight_a h_nights_a h_wanted_a h_wantCount_a h_wantBits_a z_bitCount z_given z_made z_gone z_law z_left_l2 s_left s_lumpCount s_ringed s_got z_has_l2 h_size h_law s_lumps h_weight z_bits) H → va_S A s.heap H locs → lv_has ls 4 [(0, .ref z_o), (1, .ref s_o), (2, .ref h_o), (3, .int y3_l2)] → W p l e rm_X0_pass s m args below meth c H locs 0 0 Q (F0 m 2 ls []) := by
    intro n
    induction n with
    | zero => intro y3_l2 z_left_l2 z_has_l2 H locs ls h; exact no_n h
    | succ n2 ih2 =>
      intro y3_l2 z_left_l2 z_has_l2 H locs ls h hW hS hl
      rw [f_X0_pass_l2] at h
      refine lv_iload_n (pc := 2) hx hb (tb_at tk_X0_pass 2 rfl) rfl (lv_at hl 3 rfl) ?_
      refine lv_bipush (pc := 3) (v := 6) hx hb (tb_at tk_X0_pass 3 rfl) (by decide) ?_
      refine lv_icmp_ge (pc := 5) (tgt := 47) hx hb (tb_at tk_X0_pass 4 rfl) (by decide) (fun cc => ?_) (fun cc => ?_)
      · have h := it_t cc h
        exact w47 z_left_l2 z_has_l2 _ _ _ h hW hS (lv_sub hl [0, 1, 2] rfl)
      · have h := it_f cc h
        refine lv_aload_n (pc := 8) hx hb (tb_at tk_X0_pass 5 rfl) rfl (lv_at hl 0 rfl) ?_
        refine k_get (pc := 9) (v := .int z_given) (T := TX0) B inG0 hW 0 rfl rfl 4 (by decide) q_f_X0_34 rfl rfl (tb_at tk_X0_pass 6 rfl) ?_
        refine lv_iload_n (pc := 12) hx hb (tb_at tk_X0_pass 7 rfl) rfl (lv_at hl 3 rfl) ?_
        refine k_call0 (pc := 13) B (k_runNi (rest := []) (host := RX7) B (c_X7_holds l dC dI cI cZ cQ cW   z_given y3_l2 N _ res h) E0_st (fun _ _ _ => trivial) q_c_X7_holds q_h_X0_47 q_t_X7_holds q_n_X7 hd_X7_holds ⟨rfl, rfl⟩ ⟨Nat.le_of_ble_eq_true rfl, Nat.le_of_ble_eq_true rfl⟩ hW [] rfl (by decide +kernel) rfl hl.1 rfl (Nat.le_of_ble_eq_true rfl) (tb_at tk_X0_pass 8 rfl) ⟨Nat.zero_le _, Nat.zero_le _⟩) hW hS (fun r13 u H locs h hW hS => ?_)
        refine lv_if_eq (pc := 16) (tgt := 41) hx hb (tb_at tk_X0_pass 9 rfl) (by decide) (fun cc => ?_) (fun cc => ?_)
        · have h := it_t cc h
          refine lv_iinc (pc := 41) (v := y3_l2 + 1) (lv' := [(3, .int (y3_l2 + 1)), (0, .ref z_o), (1, .ref s_o), (2, .ref h_o)]) hx hb (tb_at tk_X0_pass 26 rfl) hl (k := 3) rfl rfl (by decide) rfl (fun ls hl => ?_)
          refine lv_goto (pc := 44) (tgt := 2) hx hb (tb_at tk_X0_pass 27 rfl) (by decide) ?_
          exact ih2 (y3_l2 + 1) z_left_l2 z_has_l2 _ _ _ h hW hS (lv_sub hl [1, 2, 3, 0] rfl)
        · have h := it_f cc h
          refine lv_aload_n (pc := 19) hx hb (tb_at tk_X0_pass 10 rfl) rfl (lv_at hl 0 rfl) ?_
          refine k_get (pc := 20) (v := .ref z_left_a) (T := TX0) B inG0 hW 0 rfl rfl 1 (by decide) q_f_X0_15 rfl rfl (tb_at tk_X0_pass 11 rfl) ?_
          refine lv_iload_n (pc := 23) hx hb (tb_at tk_X0_pass 12 rfl) rfl (lv_at hl 3 rfl) ?_
          refine lv_dup2_11 (pc := 24) hx hb (tb_at tk_X0_pass 13 rfl) rfl rfl ?_
          have ii := ivi_in (ck_l h)
          have h := ck_r h
          refine k_iald (pc := 25) B hW 1 0 rfl rfl ii (tb_at tk_X0_pass 14 rfl) ?_
          refine lv_iconst (pc := 26) (v := 1) hx hb (tb_at tk_X0_pass 15 rfl) (by decide) ?_
          refine lv_isub (pc := 27) hx hb (tb_at tk_X0_pass 16 rfl) ?_
          have ii := ivi_in (ck_l h)
          have h := ck_r h
          refine k_iast (pc := 28) B hW hS 1 0 rfl rfl ii (tb_at tk_X0_pass 17 rfl) (w_X0_pass cI cZ cQ cW z_o z_has_a z_left_a z_bits_a s_o sp_o s_gave_a s_giver_a s_aims_a s_got_a s_lumps_a h_o h_weight_a h_nights_a h_wanted_a h_wantCount_a h_wantBits_a z_bitCount z_given z_made z_gone z_law (upd z_left_l2 (y3_l2).toNatClampNeg ((z_left_l2 (y3_l2).toNatClampNeg) - 1)) s_left s_lumpCount s_ringed s_got z_has_l2 h_size h_law s_lumps h_weight z_bits) rfl (fun H locs hW hS => ?_)
          refine lv_aload_n (pc := 29) hx hb (tb_at tk_X0_pass 18 rfl) rfl (lv_at hl 0 rfl) ?_
          refine k_get (pc := 30) (v := .ref z_has_a) (T := TX0) B inG0 hW 0 rfl rfl 0 (by decide) q_f_X0_9 rfl rfl (tb_at tk_X0_pass 19 rfl) ?_
          refine lv_iload_n (pc := 33) hx hb (tb_at tk_X0_pass 20 rfl) rfl (lv_at hl 3 rfl) ?_
          refine lv_aload_n (pc := 34) hx hb (tb_at tk_X0_pass 21 rfl) rfl (lv_at hl 1 rfl) ?_
          refine k_get (pc := 35) (v := .ref s_got_a) (T := TX6) B inG6 hW 2 rfl rfl 5 (by decide) q_f_X0_51 rfl rfl (tb_at tk_X0_pass 22 rfl) ?_
          refine lv_iload_n (pc := 38) hx hb (tb_at tk_X0_pass 23 rfl) rfl (lv_at hl 3 rfl) ?_
          have ii := ivi_in (ck_l h)
          have h := ck_r h
          refine k_iald (pc := 39) B hW 3 0 rfl rfl ii (tb_at tk_X0_pass 24 rfl) ?_
          have ii := ivi_in (ck_l h)
          have h := ck_r h
          refine k_iast (pc := 40) B hW hS 4 0 rfl rfl ii (tb_at tk_X0_pass 25 rfl) (w_X0_pass cI cZ cQ cW z_o z_has_a z_left_a z_bits_a s_o sp_o s_gave_a s_giver_a s_aims_a s_got_a s_lumps_a h_o h_weight_a h_nights_a h_wanted_a h_wantCount_a h_wantBits_a z_bitCount z_given z_made z_gone z_law (upd z_left_l2 (y3_l2).toNatClampNeg ((z_left_l2 (y3_l2).toNatClampNeg) - 1)) s_left s_lumpCount s_ringed s_got (upd z_has_l2 (y3_l2).toNatClampNeg (s_got (y3_l2).toNatClampNeg)) h_size h_law s_lumps h_weight z_bits) rfl (fun H locs hW hS => ?_)
          refine lv_iinc (pc := 41) (v := y3_l2 + 1) (lv' := [(3, .int (y3_l2 + 1)), (0, .ref z_o), (1, .ref s_o), (2, .ref h_o)]) hx hb (tb_at tk_X0_pass 26 rfl) hl (k := 3) rfl rfl (by decide) rfl (fun ls hl => ?_)
          refine lv_goto (pc := 44) (tgt := 2) hx hb (tb_at tk_X0_pass 27 rfl) (by decide) ?_
          exact ih2 (y3_l2 + 1) (upd z_left_l2 (y3_l2).toNatClampNeg ((z_left_l2 (y3_l2).toNatClampNeg) - 1)) (upd z_has_l2 (y3_l2).toNatClampNeg (s_got (y3_l2).toNatClampNeg)) _ _ _ h hW hS (lv_sub hl [1, 2, 3, 0] rfl)
  exact w2 N 0 z_left z_has _ _ _ h hW hS (lv_sub hl [1, 2, 3, 0] rfl)
def f_X2_empty {ρ : Type} (N : Nat) (k : Int32 → Int32 → Option ρ) : Option ρ := k 0 0
abbrev w_X2_empty (cI cZ cQ cW : ClassId) (z_o : Nat) (z_weight_a : Nat) (z_nights_a : Nat) (z_wanted_a : Nat) (z_wantCount_a : Nat) (z_wantBits_a : Nat) (z_size : Int32) (z_law : Int32) : va_W := [(z_o, .inr (2, [.ref z_weight_a, .ref z_nights_a, .ref z_wanted_a, .ref z_wantCount_a, .ref z_wantBits_a, .int z_size, .int z_law]))]
abbrev rm_X2_empty : Room := { frames := 0, cells := 0, slots := 0, locals := 0 }
set_option maxHeartbeats 4000000 in
set_option maxRecDepth 100000 in
theorem c_X2_empty (l : Launch) (dC : Nat → ClassId) (dI : Nat → Nat → Nat) (cI cZ cQ cW : ClassId) (z_o : Nat) (z_weight_a : Nat) (z_nights_a : Nat) (z_wanted_a : Nat) (z_wantCount_a : Nat) (z_wantBits_a : Nat) (z_size : Int32) (z_law : Int32) {ρ : Type} (N : Nat) (k : Int32 → Int32 → Option ρ) (res : ρ) (h : f_X2_empty N  k = some res) : Cv l yX2_empty (WS yX2_empty cX2_empty 1 none) rm_X2_empty (dC, dI) (tysG cI cZ cQ cW) E0 [.ref z_o] (w_X2_empty cI cZ cQ cW z_o z_weight_a z_nights_a z_wanted_a z_wantCount_a z_wantBits_a z_size z_law) (fun (u : Int32 × Int32) => (w_X2_empty cI cZ cQ cW z_o z_weight_a z_nights_a z_wanted_a z_wantCount_a z_wantBits_a u.1 u.2)) (fun u => k u.1 u.2 = some res) := by
  refine Cv.of (cc := cX2_empty) (n := 1) (by decide +kernel) (Nat.le_of_ble_eq_true rfl) ?_
  intro p e s m args below meth c A ls Q B hW hE hS hl hQ
  have hx := B.1
  have hb := B.2.1
  have hl : lv_has ls 1 [(0, .ref z_o)] := hl
  unfold f_X2_empty at h
  refine lv_aload_n (pc := 0) hx hb (tb_at tk_X2_empty 0 rfl) rfl (lv_at hl 0 rfl) ?_
  refine lv_iconst (pc := 1) (v := 0) hx hb (tb_at tk_X2_empty 1 rfl) (by decide) ?_
  refine k_put (pc := 2) (T := TX2) B inG2 tyX2 tyX2_ok nmX2 hW hS 0 rfl rfl 5 (by decide) q_f_X2_29 rfl rfl rfl rfl (Nat.le_of_ble_eq_true rfl) (tb_at tk_X2_empty 2 rfl) (w_X2_empty cI cZ cQ cW z_o z_weight_a z_nights_a z_wanted_a z_wantCount_a z_wantBits_a 0 z_law) rfl (fun H locs hW hS => ?_)
  refine lv_aload_n (pc := 5) hx hb (tb_at tk_X2_empty 3 rfl) rfl (lv_at hl 0 rfl) ?_
  refine lv_iconst (pc := 6) (v := 0) hx hb (tb_at tk_X2_empty 4 rfl) (by decide) ?_
  refine k_put (pc := 7) (T := TX2) B inG2 tyX2 tyX2_ok nmX2 hW hS 0 rfl rfl 6 (by decide) q_f_X2_33 rfl rfl rfl rfl (Nat.le_of_ble_eq_true rfl) (tb_at tk_X2_empty 5 rfl) (w_X2_empty cI cZ cQ cW z_o z_weight_a z_nights_a z_wanted_a z_wantCount_a z_wantBits_a 0 0) rfl (fun H locs hW hS => ?_)
  exact hQ (0, 0) _ _ _ 10 h hW hS (tb_at tk_X2_empty 6 rfl)
def f_X2_dropWants {ρ : Type} (N : Nat) (z_wantCount : Nat → Int32) (z_wantBits : Nat → Int32) (x1 : Int32) (k : (Nat → Int32) → (Nat → Int32) → Option ρ) : Option ρ := ck (ivi x1 6) (ck (ivi x1 6) (k (upd z_wantCount (x1).toNatClampNeg 0) (upd z_wantBits (x1).toNatClampNeg 0)))
abbrev w_X2_dropWants (cI cZ cQ cW : ClassId) (z_o : Nat) (z_weight_a : Nat) (z_nights_a : Nat) (z_wanted_a : Nat) (z_wantCount_a : Nat) (z_wantBits_a : Nat) (z_size : Int32) (z_law : Int32) (z_wantCount : Nat → Int32) (z_wantBits : Nat → Int32) : va_W := [(z_o, .inr (2, [.ref z_weight_a, .ref z_nights_a, .ref z_wanted_a, .ref z_wantCount_a, .ref z_wantBits_a, .int z_size, .int z_law])), (z_wantCount_a, .inl (cI, 6, .inl z_wantCount)), (z_wantBits_a, .inl (cI, 6, .inl z_wantBits))]
abbrev rm_X2_dropWants : Room := { frames := 0, cells := 0, slots := 0, locals := 0 }
set_option maxHeartbeats 4000000 in
set_option maxRecDepth 100000 in
theorem c_X2_dropWants (l : Launch) (dC : Nat → ClassId) (dI : Nat → Nat → Nat) (cI cZ cQ cW : ClassId) (z_o : Nat) (z_weight_a : Nat) (z_nights_a : Nat) (z_wanted_a : Nat) (z_wantCount_a : Nat) (z_wantBits_a : Nat) (z_size : Int32) (z_law : Int32) (z_wantCount : Nat → Int32) (z_wantBits : Nat → Int32) (x1 : Int32) {ρ : Type} (N : Nat) (k : (Nat → Int32) → (Nat → Int32) → Option ρ) (res : ρ) (h : f_X2_dropWants N z_wantCount z_wantBits x1 k = some res) : Cv l yX2_dropWants (WS yX2_dropWants cX2_dropWants 2 none) rm_X2_dropWants (dC, dI) (tysG cI cZ cQ cW) E0 [.ref z_o, .int x1] (w_X2_dropWants cI cZ cQ cW z_o z_weight_a z_nights_a z_wanted_a z_wantCount_a z_wantBits_a z_size z_law z_wantCount z_wantBits) (fun (u : (Nat → Int32) × (Nat → Int32)) => (w_X2_dropWants cI cZ cQ cW z_o z_weight_a z_nights_a z_wanted_a z_wantCount_a z_wantBits_a z_size z_law u.1 u.2)) (fun u => k u.1 u.2 = some res) := by
  refine Cv.of (cc := cX2_dropWants) (n := 2) (by decide +kernel) (Nat.le_of_ble_eq_true rfl) ?_
  intro p e s m args below meth c A ls Q B hW hE hS hl hQ
  have hx := B.1
  have hb := B.2.1
  have hl : lv_has ls 2 [(0, .ref z_o), (1, .int x1)] := hl
  unfold f_X2_dropWants at h
  refine lv_aload_n (pc := 0) hx hb (tb_at tk_X2_dropWants 0 rfl) rfl (lv_at hl 0 rfl) ?_
  refine k_get (pc := 1) (v := .ref z_wantCount_a) (T := TX2) B inG2 hW 0 rfl rfl 3 (by decide) q_f_X2_23 rfl rfl (tb_at tk_X2_dropWants 1 rfl) ?_
  refine lv_iload_n (pc := 4) hx hb (tb_at tk_X2_dropWants 2 rfl) rfl (lv_at hl 1 rfl) ?_
  refine lv_iconst (pc := 5) (v := 0) hx hb (tb_at tk_X2_dropWants 3 rfl) (by decide) ?_
  have ii := ivi_in (ck_l h)
  have h := ck_r h
  refine k_iast (pc := 6) B hW hS 1 0 rfl rfl ii (tb_at tk_X2_dropWants 4 rfl) (w_X2_dropWants cI cZ cQ cW z_o z_weight_a z_nights_a z_wanted_a z_wantCount_a z_wantBits_a z_size z_law (upd z_wantCount (x1).toNatClampNeg 0) z_wantBits) rfl (fun H locs hW hS => ?_)
  refine lv_aload_n (pc := 7) hx hb (tb_at tk_X2_dropWants 5 rfl) rfl (lv_at hl 0 rfl) ?_
  refine k_get (pc := 8) (v := .ref z_wantBits_a) (T := TX2) B inG2 hW 0 rfl rfl 4 (by decide) q_f_X2_26 rfl rfl (tb_at tk_X2_dropWants 6 rfl) ?_
  refine lv_iload_n (pc := 11) hx hb (tb_at tk_X2_dropWants 7 rfl) rfl (lv_at hl 1 rfl) ?_
  refine lv_iconst (pc := 12) (v := 0) hx hb (tb_at tk_X2_dropWants 8 rfl) (by decide) ?_
  have ii := ivi_in (ck_l h)
  have h := ck_r h
  refine k_iast (pc := 13) B hW hS 2 0 rfl rfl ii (tb_at tk_X2_dropWants 9 rfl) (w_X2_dropWants cI cZ cQ cW z_o z_weight_a z_nights_a z_wanted_a z_wantCount_a z_wantBits_a z_size z_law (upd z_wantCount (x1).toNatClampNeg 0) (upd z_wantBits (x1).toNatClampNeg 0)) rfl (fun H locs hW hS => ?_)
  exact hQ (upd z_wantCount (x1).toNatClampNeg 0, upd z_wantBits (x1).toNatClampNeg 0) _ _ _ 14 h hW hS (tb_at tk_X2_dropWants 10 rfl)
def f_X2_addPerson {ρ : Type} (N : Nat) (z_size : Int32) (z_weight : Nat → Int32) (z_nights : Nat → Int32) (z_wantCount : Nat → Int32) (z_wantBits : Nat → Int32) (x1 : Int32) (x2 : Int32) (k : Int32 → Int32 → (Nat → Int32) → (Nat → Int32) → (Nat → Int32) → (Nat → Int32) → Option ρ) : Option ρ := if z_size < 6 then (ck (ivi z_size 6) (ck (ivi z_size 6) (f_X2_dropWants N z_wantCount z_wantBits z_size (fun z_wantCount_36 z_wantBits_36 => k 1 (z_size + 1) (upd z_weight (z_size).toNatClampNeg x1) (upd z_nights (z_size).toNatClampNeg x2) z_wantCount_36 z_wantBits_36)))) else (k 0 z_size z_weight z_nights z_wantCount z_wantBits)
abbrev w_X2_addPerson (cI cZ cQ cW : ClassId) (z_o : Nat) (z_weight_a : Nat) (z_nights_a : Nat) (z_wanted_a : Nat) (z_wantCount_a : Nat) (z_wantBits_a : Nat) (z_size : Int32) (z_law : Int32) (z_weight : Nat → Int32) (z_nights : Nat → Int32) (z_wantCount : Nat → Int32) (z_wantBits : Nat → Int32) : va_W := [(z_o, .inr (2, [.ref z_weight_a, .ref z_nights_a, .ref z_wanted_a, .ref z_wantCount_a, .ref z_wantBits_a, .int z_size, .int z_law])), (z_weight_a, .inl (cI, 6, .inl z_weight)), (z_nights_a, .inl (cI, 6, .inl z_nights)), (z_wantCount_a, .inl (cI, 6, .inl z_wantCount)), (z_wantBits_a, .inl (cI, 6, .inl z_wantBits))]
abbrev rm_X2_addPerson : Room := { frames := 1, cells := 0, slots := 0, locals := 21 }
set_option maxHeartbeats 4000000 in
set_option maxRecDepth 100000 in
theorem c_X2_addPerson (l : Launch) (dC : Nat → ClassId) (dI : Nat → Nat → Nat) (cI cZ cQ cW : ClassId) (z_o : Nat) (z_weight_a : Nat) (z_nights_a : Nat) (z_wanted_a : Nat) (z_wantCount_a : Nat) (z_wantBits_a : Nat) (z_size : Int32) (z_law : Int32) (z_weight : Nat → Int32) (z_nights : Nat → Int32) (z_wantCount : Nat → Int32) (z_wantBits : Nat → Int32) (x1 : Int32) (x2 : Int32) {ρ : Type} (N : Nat) (k : Int32 → Int32 → (Nat → Int32) → (Nat → Int32) → (Nat → Int32) → (Nat → Int32) → Option ρ) (res : ρ) (h : f_X2_addPerson N z_size z_weight z_nights z_wantCount z_wantBits x1 x2 k = some res) : Ci l yX2_addPerson (WS yX2_addPerson cX2_addPerson 3 (some .boolean)) rm_X2_addPerson (dC, dI) (tysG cI cZ cQ cW) E0 [.ref z_o, .int x1, .int x2] (w_X2_addPerson cI cZ cQ cW z_o z_weight_a z_nights_a z_wanted_a z_wantCount_a z_wantBits_a z_size z_law z_weight z_nights z_wantCount z_wantBits) (fun (u : Int32 × (Nat → Int32) × (Nat → Int32) × (Nat → Int32) × (Nat → Int32)) => (w_X2_addPerson cI cZ cQ cW z_o z_weight_a z_nights_a z_wanted_a z_wantCount_a z_wantBits_a u.1 z_law u.2.1 u.2.2.1 u.2.2.2.1 u.2.2.2.2)) (fun r u => k r u.1 u.2.1 u.2.2.1 u.2.2.2.1 u.2.2.2.2 = some res) := by
  refine Ci.of (cc := cX2_addPerson) (n := 3) (by decide +kernel) (Nat.le_of_ble_eq_true rfl) ?_
  intro p e s m args below meth c A ls Q B hW hE hS hl hQ
  have hx := B.1
  have hb := B.2.1
  have hl : lv_has ls 3 [(0, .ref z_o), (1, .int x1), (2, .int x2)] := hl
  unfold f_X2_addPerson at h
  refine lv_aload_n (pc := 0) hx hb (tb_at tk_X2_addPerson 0 rfl) rfl (lv_at hl 0 rfl) ?_
  refine k_get (pc := 1) (v := .int z_size) (T := TX2) B inG2 hW 0 rfl rfl 5 (by decide) q_f_X2_29 rfl rfl (tb_at tk_X2_addPerson 1 rfl) ?_
  refine lv_bipush (pc := 4) (v := 6) hx hb (tb_at tk_X2_addPerson 2 rfl) (by decide) ?_
  refine lv_icmp_lt (pc := 6) (tgt := 11) hx hb (tb_at tk_X2_addPerson 3 rfl) (by decide) (fun cc => ?_) (fun cc => ?_)
  · have h := it_t cc h
    refine lv_aload_n (pc := 11) hx hb (tb_at tk_X2_addPerson 6 rfl) rfl (lv_at hl 0 rfl) ?_
    refine k_get (pc := 12) (v := .ref z_weight_a) (T := TX2) B inG2 hW 0 rfl rfl 0 (by decide) q_f_X2_9 rfl rfl (tb_at tk_X2_addPerson 7 rfl) ?_
    refine lv_aload_n (pc := 15) hx hb (tb_at tk_X2_addPerson 8 rfl) rfl (lv_at hl 0 rfl) ?_
    refine k_get (pc := 16) (v := .int z_size) (T := TX2) B inG2 hW 0 rfl rfl 5 (by decide) q_f_X2_29 rfl rfl (tb_at tk_X2_addPerson 9 rfl) ?_
    refine lv_iload_n (pc := 19) hx hb (tb_at tk_X2_addPerson 10 rfl) rfl (lv_at hl 1 rfl) ?_
    have ii := ivi_in (ck_l h)
    have h := ck_r h
    refine k_iast (pc := 20) B hW hS 1 0 rfl rfl ii (tb_at tk_X2_addPerson 11 rfl) (w_X2_addPerson cI cZ cQ cW z_o z_weight_a z_nights_a z_wanted_a z_wantCount_a z_wantBits_a z_size z_law (upd z_weight (z_size).toNatClampNeg x1) z_nights z_wantCount z_wantBits) rfl (fun H locs hW hS => ?_)
    refine lv_aload_n (pc := 21) hx hb (tb_at tk_X2_addPerson 12 rfl) rfl (lv_at hl 0 rfl) ?_
    refine k_get (pc := 22) (v := .ref z_nights_a) (T := TX2) B inG2 hW 0 rfl rfl 1 (by decide) q_f_X2_15 rfl rfl (tb_at tk_X2_addPerson 13 rfl) ?_
    refine lv_aload_n (pc := 25) hx hb (tb_at tk_X2_addPerson 14 rfl) rfl (lv_at hl 0 rfl) ?_
    refine k_get (pc := 26) (v := .int z_size) (T := TX2) B inG2 hW 0 rfl rfl 5 (by decide) q_f_X2_29 rfl rfl (tb_at tk_X2_addPerson 15 rfl) ?_
    refine lv_iload_n (pc := 29) hx hb (tb_at tk_X2_addPerson 16 rfl) rfl (lv_at hl 2 rfl) ?_
    have ii := ivi_in (ck_l h)
    have h := ck_r h
    refine k_iast (pc := 30) B hW hS 2 0 rfl rfl ii (tb_at tk_X2_addPerson 17 rfl) (w_X2_addPerson cI cZ cQ cW z_o z_weight_a z_nights_a z_wanted_a z_wantCount_a z_wantBits_a z_size z_law (upd z_weight (z_size).toNatClampNeg x1) (upd z_nights (z_size).toNatClampNeg x2) z_wantCount z_wantBits) rfl (fun H locs hW hS => ?_)
    refine lv_aload_n (pc := 31) hx hb (tb_at tk_X2_addPerson 18 rfl) rfl (lv_at hl 0 rfl) ?_
    refine lv_aload_n (pc := 32) hx hb (tb_at tk_X2_addPerson 19 rfl) rfl (lv_at hl 0 rfl) ?_
    refine k_get (pc := 33) (v := .int z_size) (T := TX2) B inG2 hW 0 rfl rfl 5 (by decide) q_f_X2_29 rfl rfl (tb_at tk_X2_addPerson 20 rfl) ?_
    refine k_callv (pc := 36) B (k_runVv (rest := []) (C := RX2) B (c_X2_dropWants l dC dI cI cZ cQ cW z_o z_weight_a z_nights_a z_wanted_a z_wantCount_a z_wantBits_a z_size z_law z_wantCount z_wantBits z_size N _ res h) E0_st (fun _ _ _ => trivial) q_c_X2_dropWants q_m_X2_36 q_i_X2_dropWants q_s_X2_dropWants q_n_X2 hd_X2_dropWants ⟨rfl, rfl⟩ ⟨Nat.le_of_ble_eq_true rfl, Nat.le_of_ble_eq_true rfl⟩ hW [0, 3, 4] rfl (by decide +kernel) (q0 := 0) (ci := 2) rfl rfl rfl hl.1 rfl (Nat.le_of_ble_eq_true rfl) (tb_at tk_X2_addPerson 21 rfl) ⟨Nat.zero_le _, Nat.zero_le _⟩) hW hS [0, 3, 4] rfl [z_o, z_wantCount_a, z_wantBits_a] rfl (fun _ => rfl) [some 0, none, none, some 1, some 2] (by decide +kernel) (fun u => (w_X2_addPerson cI cZ cQ cW z_o z_weight_a z_nights_a z_wanted_a z_wantCount_a z_wantBits_a z_size z_law (upd z_weight (z_size).toNatClampNeg x1) (upd z_nights (z_size).toNatClampNeg x2) u.1 u.2)) (fun _ => rfl) (fun u H locs h hW hS => ?_)
    obtain ⟨z_wantCount_36, z_wantBits_36⟩ := u
    dsimp only at h
    have hW : PD (dC, dI) A (w_X2_addPerson cI cZ cQ cW z_o z_weight_a z_nights_a z_wanted_a z_wantCount_a z_wantBits_a z_size z_law (upd z_weight (z_size).toNatClampNeg x1) (upd z_nights (z_size).toNatClampNeg x2) z_wantCount_36 z_wantBits_36) H := hW
    refine lv_aload_n (pc := 39) hx hb (tb_at tk_X2_addPerson 22 rfl) rfl (lv_at hl 0 rfl) ?_
    refine lv_dup (pc := 40) hx hb (tb_at tk_X2_addPerson 23 rfl) rfl ?_
    refine k_get (pc := 41) (v := .int z_size) (T := TX2) B inG2 hW 0 rfl rfl 5 (by decide) q_f_X2_29 rfl rfl (tb_at tk_X2_addPerson 24 rfl) ?_
    refine lv_iconst (pc := 44) (v := 1) hx hb (tb_at tk_X2_addPerson 25 rfl) (by decide) ?_
    refine lv_iadd (pc := 45) hx hb (tb_at tk_X2_addPerson 26 rfl) ?_
    refine k_put (pc := 46) (T := TX2) B inG2 tyX2 tyX2_ok nmX2 hW hS 0 rfl rfl 5 (by decide) q_f_X2_29 rfl rfl rfl rfl (Nat.le_of_ble_eq_true rfl) (tb_at tk_X2_addPerson 27 rfl) (w_X2_addPerson cI cZ cQ cW z_o z_weight_a z_nights_a z_wanted_a z_wantCount_a z_wantBits_a (z_size + 1) z_law (upd z_weight (z_size).toNatClampNeg x1) (upd z_nights (z_size).toNatClampNeg x2) z_wantCount_36 z_wantBits_36) rfl (fun H locs hW hS => ?_)
    refine lv_iconst (pc := 49) (v := 1) hx hb (tb_at tk_X2_addPerson 28 rfl) (by decide) ?_
    exact hQ 1 (z_size + 1, upd z_weight (z_size).toNatClampNeg x1, upd z_nights (z_size).toNatClampNeg x2, z_wantCount_36, z_wantBits_36) _ _ _ 50 nz1 h hW hS (tb_at tk_X2_addPerson 29 rfl)
  · have h := it_f cc h
    refine lv_iconst (pc := 9) (v := 0) hx hb (tb_at tk_X2_addPerson 4 rfl) (by decide) ?_
    exact hQ 0 (z_size, z_weight, z_nights, z_wantCount, z_wantBits) _ _ _ 10 nz0 h hW hS (tb_at tk_X2_addPerson 5 rfl)
def f_X2_addWant {ρ : Type} (N : Nat) (z_size : Int32) (z_wantBits : Nat → Int32) (z_wantCount : Nat → Int32) (z_wanted : Nat → Nat → Int32) (x1 : Int32) (x2 : Int32) (k : Int32 → (Nat → Int32) → (Nat → Int32) → (Nat → Nat → Int32) → Option ρ) : Option ρ := f_X2_knows N z_size x2 (fun r2 => if r2 = 0 then (k 0 z_wantBits z_wantCount z_wanted) else (ck (ivi x1 6) (f_X7_holds N (z_wantBits (x1).toNatClampNeg) x2 (fun r15 => if r15 = 0 then (ck (ivi x1 6) (if (z_wantCount (x1).toNatClampNeg) < 4 then (ck (ivi x1 6) (ck (ivi x1 6) (ck (ivi (z_wantCount (x1).toNatClampNeg) 4) (ck (ivi x1 6) (ck (ivi x1 6) (ck (ivi x1 6) (ck (ivi x1 6) (k 1 (upd z_wantBits (x1).toNatClampNeg ((z_wantBits (x1).toNatClampNeg) ||| ((1 : Int32) <<< (x2 &&& 31)))) (upd z_wantCount (x1).toNatClampNeg ((z_wantCount (x1).toNatClampNeg) + 1)) (upg z_wanted (x1).toNatClampNeg (upd (z_wanted (x1).toNatClampNeg) (z_wantCount (x1).toNatClampNeg).toNatClampNeg x2)))))))))) else (k 0 z_wantBits z_wantCount z_wanted))) else (k 0 z_wantBits z_wantCount z_wanted)))))
abbrev w_X2_addWant (cI cZ cQ cW : ClassId) (z_o : Nat) (z_weight_a : Nat) (z_nights_a : Nat) (z_wanted_a : Nat) (z_wantCount_a : Nat) (z_wantBits_a : Nat) (z_wanted_r : Nat → Nat) (z_size : Int32) (z_law : Int32) (z_wantBits : Nat → Int32) (z_wantCount : Nat → Int32) (z_wanted : Nat → Nat → Int32) : va_W := [(z_o, .inr (2, [.ref z_weight_a, .ref z_nights_a, .ref z_wanted_a, .ref z_wantCount_a, .ref z_wantBits_a, .int z_size, .int z_law])), (z_wantBits_a, .inl (cI, 6, .inl z_wantBits)), (z_wantCount_a, .inl (cI, 6, .inl z_wantCount)), (z_wanted_a, .inl (cW, 6, .inr (.inr (.inr (.inr (fun i => if i < 6 then some (z_wanted_r i) else none)))))), (z_wanted_r 0, .inl (cI, 4, .inl (z_wanted 0))), (z_wanted_r 1, .inl (cI, 4, .inl (z_wanted 1))), (z_wanted_r 2, .inl (cI, 4, .inl (z_wanted 2))), (z_wanted_r 3, .inl (cI, 4, .inl (z_wanted 3))), (z_wanted_r 4, .inl (cI, 4, .inl (z_wanted 4))), (z_wanted_r 5, .inl (cI, 4, .inl (z_wanted 5)))]
abbrev rm_X2_addWant : Room := { frames := 1, cells := 0, slots := 0, locals := 21 }
set_option maxHeartbeats 4000000 in
set_option maxRecDepth 100000 in
theorem c_X2_addWant (l : Launch) (dC : Nat → ClassId) (dI : Nat → Nat → Nat) (cI cZ cQ cW : ClassId) (z_o : Nat) (z_weight_a : Nat) (z_nights_a : Nat) (z_wanted_a : Nat) (z_wantCount_a : Nat) (z_wantBits_a : Nat) (z_wanted_r : Nat → Nat) (z_size : Int32) (z_law : Int32) (z_wantBits : Nat → Int32) (z_wantCount : Nat → Int32) (z_wanted : Nat → Nat → Int32) (x1 : Int32) (x2 : Int32) {ρ : Type} (N : Nat) (k : Int32 → (Nat → Int32) → (Nat → Int32) → (Nat → Nat → Int32) → Option ρ) (res : ρ) (h : f_X2_addWant N z_size z_wantBits z_wantCount z_wanted x1 x2 k = some res) : Ci l yX2_addWant (WS yX2_addWant cX2_addWant 3 (some .boolean)) rm_X2_addWant (dC, dI) (tysG cI cZ cQ cW) E0 [.ref z_o, .int x1, .int x2] (w_X2_addWant cI cZ cQ cW z_o z_weight_a z_nights_a z_wanted_a z_wantCount_a z_wantBits_a z_wanted_r z_size z_law z_wantBits z_wantCount z_wanted) (fun (u : (Nat → Int32) × (Nat → Int32) × (Nat → Nat → Int32)) => (w_X2_addWant cI cZ cQ cW z_o z_weight_a z_nights_a z_wanted_a z_wantCount_a z_wantBits_a z_wanted_r z_size z_law u.1 u.2.1 u.2.2)) (fun r u => k r u.1 u.2.1 u.2.2 = some res) := by
  refine Ci.of (cc := cX2_addWant) (n := 3) (by decide +kernel) (Nat.le_of_ble_eq_true rfl) ?_
  intro p e s m args below meth c A ls Q B hW hE hS hl hQ
  have hx := B.1
  have hb := B.2.1
  have hl : lv_has ls 3 [(0, .ref z_o), (1, .int x1), (2, .int x2)] := hl
  unfold f_X2_addWant at h
  refine lv_aload_n (pc := 0) hx hb (tb_at tk_X2_addWant 0 rfl) rfl (lv_at hl 0 rfl) ?_
  refine lv_iload_n (pc := 1) hx hb (tb_at tk_X2_addWant 1 rfl) rfl (lv_at hl 2 rfl) ?_
  refine k_calli (pc := 2) B (k_runVi (rest := []) (C := RX2) B (c_X2_knows l dC dI cI cZ cQ cW z_o z_weight_a z_nights_a z_wanted_a z_wantCount_a z_wantBits_a z_size z_law x2 N _ res h) E0_st (fun _ _ _ => trivial) q_c_X2_knows q_m_X2_40 q_i_X2_knows q_s_X2_knows q_n_X2 hd_X2_knows ⟨rfl, rfl⟩ ⟨Nat.le_of_ble_eq_true rfl, Nat.le_of_ble_eq_true rfl⟩ hW [0] rfl (by decide +kernel) (q0 := 0) (ci := 2) rfl rfl rfl hl.1 rfl (Nat.le_of_ble_eq_true rfl) (tb_at tk_X2_addWant 2 rfl) ⟨Nat.zero_le _, Nat.zero_le _⟩) hW hS [0] rfl [z_o] rfl (fun _ => rfl) [some 0, none, none, none, none, none, none, none, none, none] (by decide +kernel) (fun _ => (w_X2_addWant cI cZ cQ cW z_o z_weight_a z_nights_a z_wanted_a z_wantCount_a z_wantBits_a z_wanted_r z_size z_law z_wantBits z_wantCount z_wanted)) (fun _ => rfl) (fun r2 u H locs h hW hS => ?_)
  have hW : PD (dC, dI) A (w_X2_addWant cI cZ cQ cW z_o z_weight_a z_nights_a z_wanted_a z_wantCount_a z_wantBits_a z_wanted_r z_size z_law z_wantBits z_wantCount z_wanted) H := hW
  refine lv_if_eq (pc := 5) (tgt := 31) hx hb (tb_at tk_X2_addWant 3 rfl) (by decide) (fun cc => ?_) (fun cc => ?_)
  · have h := it_t cc h
    refine lv_iconst (pc := 31) (v := 0) hx hb (tb_at tk_X2_addWant 17 rfl) (by decide) ?_
    exact hQ 0 (z_wantBits, z_wantCount, z_wanted) _ _ _ 32 nz0 h hW hS (tb_at tk_X2_addWant 18 rfl)
  · have h := it_f cc h
    refine lv_aload_n (pc := 8) hx hb (tb_at tk_X2_addWant 4 rfl) rfl (lv_at hl 0 rfl) ?_
    refine k_get (pc := 9) (v := .ref z_wantBits_a) (T := TX2) B inG2 hW 0 rfl rfl 4 (by decide) q_f_X2_26 rfl rfl (tb_at tk_X2_addWant 5 rfl) ?_
    refine lv_iload_n (pc := 12) hx hb (tb_at tk_X2_addWant 6 rfl) rfl (lv_at hl 1 rfl) ?_
    have ii := ivi_in (ck_l h)
    have h := ck_r h
    refine k_iald (pc := 13) B hW 1 0 rfl rfl ii (tb_at tk_X2_addWant 7 rfl) ?_
    refine lv_iload_n (pc := 14) hx hb (tb_at tk_X2_addWant 8 rfl) rfl (lv_at hl 2 rfl) ?_
    refine k_call0 (pc := 15) B (k_runNi (rest := []) (host := RX7) B (c_X7_holds l dC dI cI cZ cQ cW   (z_wantBits (x1).toNatClampNeg) x2 N _ res h) E0_st (fun _ _ _ => trivial) q_c_X7_holds q_h_X2_44 q_t_X7_holds q_n_X7 hd_X7_holds ⟨rfl, rfl⟩ ⟨Nat.le_of_ble_eq_true rfl, Nat.le_of_ble_eq_true rfl⟩ hW [] rfl (by decide +kernel) rfl hl.1 rfl (Nat.le_of_ble_eq_true rfl) (tb_at tk_X2_addWant 9 rfl) ⟨Nat.zero_le _, Nat.zero_le _⟩) hW hS (fun r15 u H locs h hW hS => ?_)
    refine lv_if_ne (pc := 18) (tgt := 31) hx hb (tb_at tk_X2_addWant 10 rfl) (by decide) (fun cc => ?_) (fun cc => ?_)
    · have h := it_f cc h
      refine lv_iconst (pc := 31) (v := 0) hx hb (tb_at tk_X2_addWant 17 rfl) (by decide) ?_
      exact hQ 0 (z_wantBits, z_wantCount, z_wanted) _ _ _ 32 nz0 h hW hS (tb_at tk_X2_addWant 18 rfl)
    · have h := it_t cc h
      refine lv_aload_n (pc := 21) hx hb (tb_at tk_X2_addWant 11 rfl) rfl (lv_at hl 0 rfl) ?_
      refine k_get (pc := 22) (v := .ref z_wantCount_a) (T := TX2) B inG2 hW 0 rfl rfl 3 (by decide) q_f_X2_23 rfl rfl (tb_at tk_X2_addWant 12 rfl) ?_
      refine lv_iload_n (pc := 25) hx hb (tb_at tk_X2_addWant 13 rfl) rfl (lv_at hl 1 rfl) ?_
      have ii := ivi_in (ck_l h)
      have h := ck_r h
      refine k_iald (pc := 26) B hW 2 0 rfl rfl ii (tb_at tk_X2_addWant 14 rfl) ?_
      refine lv_iconst (pc := 27) (v := 4) hx hb (tb_at tk_X2_addWant 15 rfl) (by decide) ?_
      refine lv_icmp_lt (pc := 28) (tgt := 33) hx hb (tb_at tk_X2_addWant 16 rfl) (by decide) (fun cc => ?_) (fun cc => ?_)
      · have h := it_t cc h
        refine lv_aload_n (pc := 33) hx hb (tb_at tk_X2_addWant 19 rfl) rfl (lv_at hl 0 rfl) ?_
        refine k_get (pc := 34) (v := .ref z_wanted_a) (T := TX2) B inG2 hW 0 rfl rfl 2 (by decide) q_f_X2_20 rfl rfl (tb_at tk_X2_addWant 20 rfl) ?_
        refine lv_iload_n (pc := 37) hx hb (tb_at tk_X2_addWant 21 rfl) rfl (lv_at hl 1 rfl) ?_
        have ir38 := ivi_in (ck_l h)
        have h := ck_r h
        refine k_aldr (pc := 38) (r := z_wanted_r) B hW 3 3 rfl rfl ir38 (tb_at tk_X2_addWant 22 rfl) ?_
        refine lv_aload_n (pc := 39) hx hb (tb_at tk_X2_addWant 23 rfl) rfl (lv_at hl 0 rfl) ?_
        refine k_get (pc := 40) (v := .ref z_wantCount_a) (T := TX2) B inG2 hW 0 rfl rfl 3 (by decide) q_f_X2_23 rfl rfl (tb_at tk_X2_addWant 24 rfl) ?_
        refine lv_iload_n (pc := 43) hx hb (tb_at tk_X2_addWant 25 rfl) rfl (lv_at hl 1 rfl) ?_
        have ii := ivi_in (ck_l h)
        have h := ck_r h
        refine k_iald (pc := 44) B hW 2 0 rfl rfl ii (tb_at tk_X2_addWant 26 rfl) ?_
        refine lv_iload_n (pc := 45) hx hb (tb_at tk_X2_addWant 27 rfl) rfl (lv_at hl 2 rfl) ?_
        have ii := ivi_in (ck_l h)
        have h := ck_r h
        refine k_rast (pc := 46) (x := x1) (r := z_wanted_r) (g := z_wanted) B hW hS 4 0 (row6 rfl rfl rfl rfl rfl rfl) rfl ir38 ii (tb_at tk_X2_addWant 28 rfl) (fun g9 => (w_X2_addWant cI cZ cQ cW z_o z_weight_a z_nights_a z_wanted_a z_wantCount_a z_wantBits_a z_wanted_r z_size z_law z_wantBits z_wantCount g9)) (row6 (fun _ => rfl) (fun _ => rfl) (fun _ => rfl) (fun _ => rfl) (fun _ => rfl) (fun _ => rfl)) (fun H locs hW hS => ?_)
        have hW : PD (dC, dI) A (w_X2_addWant cI cZ cQ cW z_o z_weight_a z_nights_a z_wanted_a z_wantCount_a z_wantBits_a z_wanted_r z_size z_law z_wantBits z_wantCount (upg z_wanted (x1).toNatClampNeg (upd (z_wanted (x1).toNatClampNeg) (z_wantCount (x1).toNatClampNeg).toNatClampNeg x2))) H := hW
        refine lv_aload_n (pc := 47) hx hb (tb_at tk_X2_addWant 29 rfl) rfl (lv_at hl 0 rfl) ?_
        refine k_get (pc := 48) (v := .ref z_wantCount_a) (T := TX2) B inG2 hW 0 rfl rfl 3 (by decide) q_f_X2_23 rfl rfl (tb_at tk_X2_addWant 30 rfl) ?_
        refine lv_iload_n (pc := 51) hx hb (tb_at tk_X2_addWant 31 rfl) rfl (lv_at hl 1 rfl) ?_
        refine lv_dup2_11 (pc := 52) hx hb (tb_at tk_X2_addWant 32 rfl) rfl rfl ?_
        have ii := ivi_in (ck_l h)
        have h := ck_r h
        refine k_iald (pc := 53) B hW 2 0 rfl rfl ii (tb_at tk_X2_addWant 33 rfl) ?_
        refine lv_iconst (pc := 54) (v := 1) hx hb (tb_at tk_X2_addWant 34 rfl) (by decide) ?_
        refine lv_iadd (pc := 55) hx hb (tb_at tk_X2_addWant 35 rfl) ?_
        have ii := ivi_in (ck_l h)
        have h := ck_r h
        refine k_iast (pc := 56) B hW hS 2 0 rfl rfl ii (tb_at tk_X2_addWant 36 rfl) (w_X2_addWant cI cZ cQ cW z_o z_weight_a z_nights_a z_wanted_a z_wantCount_a z_wantBits_a z_wanted_r z_size z_law z_wantBits (upd z_wantCount (x1).toNatClampNeg ((z_wantCount (x1).toNatClampNeg) + 1)) (upg z_wanted (x1).toNatClampNeg (upd (z_wanted (x1).toNatClampNeg) (z_wantCount (x1).toNatClampNeg).toNatClampNeg x2))) rfl (fun H locs hW hS => ?_)
        refine lv_aload_n (pc := 57) hx hb (tb_at tk_X2_addWant 37 rfl) rfl (lv_at hl 0 rfl) ?_
        refine k_get (pc := 58) (v := .ref z_wantBits_a) (T := TX2) B inG2 hW 0 rfl rfl 4 (by decide) q_f_X2_26 rfl rfl (tb_at tk_X2_addWant 38 rfl) ?_
        refine lv_iload_n (pc := 61) hx hb (tb_at tk_X2_addWant 39 rfl) rfl (lv_at hl 1 rfl) ?_
        refine lv_dup2_11 (pc := 62) hx hb (tb_at tk_X2_addWant 40 rfl) rfl rfl ?_
        have ii := ivi_in (ck_l h)
        have h := ck_r h
        refine k_iald (pc := 63) B hW 1 0 rfl rfl ii (tb_at tk_X2_addWant 41 rfl) ?_
        refine lv_iconst (pc := 64) (v := 1) hx hb (tb_at tk_X2_addWant 42 rfl) (by decide) ?_
        refine lv_iload_n (pc := 65) hx hb (tb_at tk_X2_addWant 43 rfl) rfl (lv_at hl 2 rfl) ?_
        refine lv_ishl (pc := 66) hx hb (tb_at tk_X2_addWant 44 rfl) ?_
        refine lv_ior (pc := 67) hx hb (tb_at tk_X2_addWant 45 rfl) ?_
        have ii := ivi_in (ck_l h)
        have h := ck_r h
        refine k_iast (pc := 68) B hW hS 1 0 rfl rfl ii (tb_at tk_X2_addWant 46 rfl) (w_X2_addWant cI cZ cQ cW z_o z_weight_a z_nights_a z_wanted_a z_wantCount_a z_wantBits_a z_wanted_r z_size z_law (upd z_wantBits (x1).toNatClampNeg ((z_wantBits (x1).toNatClampNeg) ||| ((1 : Int32) <<< (x2 &&& 31)))) (upd z_wantCount (x1).toNatClampNeg ((z_wantCount (x1).toNatClampNeg) + 1)) (upg z_wanted (x1).toNatClampNeg (upd (z_wanted (x1).toNatClampNeg) (z_wantCount (x1).toNatClampNeg).toNatClampNeg x2))) rfl (fun H locs hW hS => ?_)
        refine lv_iconst (pc := 69) (v := 1) hx hb (tb_at tk_X2_addWant 47 rfl) (by decide) ?_
        exact hQ 1 (upd z_wantBits (x1).toNatClampNeg ((z_wantBits (x1).toNatClampNeg) ||| ((1 : Int32) <<< (x2 &&& 31))), upd z_wantCount (x1).toNatClampNeg ((z_wantCount (x1).toNatClampNeg) + 1), upg z_wanted (x1).toNatClampNeg (upd (z_wanted (x1).toNatClampNeg) (z_wantCount (x1).toNatClampNeg).toNatClampNeg x2)) _ _ _ 70 nz1 h hW hS (tb_at tk_X2_addWant 48 rfl)
      · have h := it_f cc h
        refine lv_iconst (pc := 31) (v := 0) hx hb (tb_at tk_X2_addWant 17 rfl) (by decide) ?_
        exact hQ 0 (z_wantBits, z_wantCount, z_wanted) _ _ _ 32 nz0 h hW hS (tb_at tk_X2_addWant 18 rfl)
def f_X2_howManyWant_l4 {ρ : Type} (x1 : Int32) (z_size : Int32) (z_wantBits : Nat → Int32) (k : Int32 → Option ρ) (N : Nat) : Nat → Int32 → Int32 → Option ρ
  | 0, _, _ => none
  | n4 + 1, y2_l4, y3_l4 => if z_size ≤ y3_l4 then (k y2_l4) else (ck (ivi y3_l4 6) (f_X7_holds N (z_wantBits (y3_l4).toNatClampNeg) x1 (fun r19 => if r19 = 0 then ((f_X2_howManyWant_l4 x1 z_size z_wantBits k N n4) y2_l4 (y3_l4 + 1)) else ((f_X2_howManyWant_l4 x1 z_size z_wantBits k N n4) (y2_l4 + 1) (y3_l4 + 1)))))
def f_X2_howManyWant {ρ : Type} (N : Nat) (z_size : Int32) (z_wantBits : Nat → Int32) (x1 : Int32) (k : Int32 → Option ρ) : Option ρ := f_X2_howManyWant_l4 x1 z_size z_wantBits k N N 0 0
abbrev w_X2_howManyWant (cI cZ cQ cW : ClassId) (z_o : Nat) (z_weight_a : Nat) (z_nights_a : Nat) (z_wanted_a : Nat) (z_wantCount_a : Nat) (z_wantBits_a : Nat) (z_size : Int32) (z_law : Int32) (z_wantBits : Nat → Int32) : va_W := [(z_o, .inr (2, [.ref z_weight_a, .ref z_nights_a, .ref z_wanted_a, .ref z_wantCount_a, .ref z_wantBits_a, .int z_size, .int z_law])), (z_wantBits_a, .inl (cI, 6, .inl z_wantBits))]
abbrev rm_X2_howManyWant : Room := { frames := 1, cells := 0, slots := 0, locals := 21 }
set_option maxHeartbeats 4000000 in
set_option maxRecDepth 100000 in
theorem c_X2_howManyWant (l : Launch) (dC : Nat → ClassId) (dI : Nat → Nat → Nat) (cI cZ cQ cW : ClassId) (z_o : Nat) (z_weight_a : Nat) (z_nights_a : Nat) (z_wanted_a : Nat) (z_wantCount_a : Nat) (z_wantBits_a : Nat) (z_size : Int32) (z_law : Int32) (z_wantBits : Nat → Int32) (x1 : Int32) {ρ : Type} (N : Nat) (k : Int32 → Option ρ) (res : ρ) (h : f_X2_howManyWant N z_size z_wantBits x1 k = some res) : Ci l yX2_howManyWant (WS yX2_howManyWant cX2_howManyWant 4 (some .int)) rm_X2_howManyWant (dC, dI) (tysG cI cZ cQ cW) E0 [.ref z_o, .int x1] (w_X2_howManyWant cI cZ cQ cW z_o z_weight_a z_nights_a z_wanted_a z_wantCount_a z_wantBits_a z_size z_law z_wantBits) (fun (_ : Unit) => (w_X2_howManyWant cI cZ cQ cW z_o z_weight_a z_nights_a z_wanted_a z_wantCount_a z_wantBits_a z_size z_law z_wantBits)) (fun r _ => k r = some res) := by
  refine Ci.of (cc := cX2_howManyWant) (n := 4) (by decide +kernel) (Nat.le_of_ble_eq_true rfl) ?_
  intro p e s m args below meth c A ls Q B hW hE hS hl hQ
  have hx := B.1
  have hb := B.2.1
  have hl : lv_has ls 4 [(0, .ref z_o), (1, .int x1)] := hl
  unfold f_X2_howManyWant at h
  refine lv_iconst (pc := 0) (v := 0) hx hb (tb_at tk_X2_howManyWant 0 rfl) (by decide) ?_
  refine lv_istore_n (pc := 1) (lv' := [(2, .int 0), (0, .ref z_o), (1, .int x1)]) hx hb (tb_at tk_X2_howManyWant 1 rfl) rfl hl (by decide) rfl (fun ls hl => ?_)
  refine lv_iconst (pc := 2) (v := 0) hx hb (tb_at tk_X2_howManyWant 2 rfl) (by decide) ?_
  refine lv_istore_n (pc := 3) (lv' := [(3, .int 0), (2, .int 0), (0, .ref z_o), (1, .int x1)]) hx hb (tb_at tk_X2_howManyWant 3 rfl) rfl hl (by decide) rfl (fun ls hl => ?_)
  have w4 : ∀ (n : Nat), ∀ (y2_l4 : Int32) (y3_l4 : Int32) (H : Heap) (locs : List Loc) (ls : Array Slot), f_X2_howManyWant_l4 x1 z_size z_wantBits k N n y2_l4 y3_l4 = some res → PD (dC, dI) A (w_X2_howManyWant cI cZ cQ cW z_o z_weight_a z_nights_a z_wanted_a z_wantCount_a z_wantBits_a z_size z_law z_wantBits) H → va_S A s.heap H locs → lv_has ls 4 [(0, .ref z_o), (1, .int x1), (2, .int y2_l4), (3, .int y3_l4)] → W p l e rm_X2_howManyWant s m args below meth c H locs 0 0 Q (F0 m 4 ls []) := by
    intro n
    induction n with
    | zero => intro y2_l4 y3_l4 H locs ls h; exact no_n h
    | succ n4 ih4 =>
      intro y2_l4 y3_l4 H locs ls h hW hS hl
      rw [f_X2_howManyWant_l4] at h
      refine lv_iload_n (pc := 4) hx hb (tb_at tk_X2_howManyWant 4 rfl) rfl (lv_at hl 3 rfl) ?_
      refine lv_aload_n (pc := 5) hx hb (tb_at tk_X2_howManyWant 5 rfl) rfl (lv_at hl 0 rfl) ?_
      refine k_get (pc := 6) (v := .int z_size) (T := TX2) B inG2 hW 0 rfl rfl 5 (by decide) q_f_X2_29 rfl rfl (tb_at tk_X2_howManyWant 6 rfl) ?_
      refine lv_icmp_ge (pc := 9) (tgt := 34) hx hb (tb_at tk_X2_howManyWant 7 rfl) (by decide) (fun cc => ?_) (fun cc => ?_)
      · have h := it_t cc h
        refine lv_iload_n (pc := 34) hx hb (tb_at tk_X2_howManyWant 18 rfl) rfl (lv_at hl 2 rfl) ?_
        exact hQ y2_l4 () _ _ _ 35 rfl h hW hS (tb_at tk_X2_howManyWant 19 rfl)
      · have h := it_f cc h
        refine lv_aload_n (pc := 12) hx hb (tb_at tk_X2_howManyWant 8 rfl) rfl (lv_at hl 0 rfl) ?_
        refine k_get (pc := 13) (v := .ref z_wantBits_a) (T := TX2) B inG2 hW 0 rfl rfl 4 (by decide) q_f_X2_26 rfl rfl (tb_at tk_X2_howManyWant 9 rfl) ?_
        refine lv_iload_n (pc := 16) hx hb (tb_at tk_X2_howManyWant 10 rfl) rfl (lv_at hl 3 rfl) ?_
        have ii := ivi_in (ck_l h)
        have h := ck_r h
        refine k_iald (pc := 17) B hW 1 0 rfl rfl ii (tb_at tk_X2_howManyWant 11 rfl) ?_
        refine lv_iload_n (pc := 18) hx hb (tb_at tk_X2_howManyWant 12 rfl) rfl (lv_at hl 1 rfl) ?_
        refine k_call0 (pc := 19) B (k_runNi (rest := []) (host := RX7) B (c_X7_holds l dC dI cI cZ cQ cW   (z_wantBits (y3_l4).toNatClampNeg) x1 N _ res h) E0_st (fun _ _ _ => trivial) q_c_X7_holds q_h_X2_44 q_t_X7_holds q_n_X7 hd_X7_holds ⟨rfl, rfl⟩ ⟨Nat.le_of_ble_eq_true rfl, Nat.le_of_ble_eq_true rfl⟩ hW [] rfl (by decide +kernel) rfl hl.1 rfl (Nat.le_of_ble_eq_true rfl) (tb_at tk_X2_howManyWant 13 rfl) ⟨Nat.zero_le _, Nat.zero_le _⟩) hW hS (fun r19 u H locs h hW hS => ?_)
        refine lv_if_eq (pc := 22) (tgt := 28) hx hb (tb_at tk_X2_howManyWant 14 rfl) (by decide) (fun cc => ?_) (fun cc => ?_)
        · have h := it_t cc h
          refine lv_iinc (pc := 28) (v := y3_l4 + 1) (lv' := [(3, .int (y3_l4 + 1)), (0, .ref z_o), (1, .int x1), (2, .int y2_l4)]) hx hb (tb_at tk_X2_howManyWant 16 rfl) hl (k := 3) rfl rfl (by decide) rfl (fun ls hl => ?_)
          refine lv_goto (pc := 31) (tgt := 4) hx hb (tb_at tk_X2_howManyWant 17 rfl) (by decide) ?_
          exact ih4 y2_l4 (y3_l4 + 1) _ _ _ h hW hS (lv_sub hl [1, 2, 3, 0] rfl)
        · have h := it_f cc h
          refine lv_iinc (pc := 25) (v := y2_l4 + 1) (lv' := [(2, .int (y2_l4 + 1)), (0, .ref z_o), (1, .int x1), (3, .int y3_l4)]) hx hb (tb_at tk_X2_howManyWant 15 rfl) hl (k := 2) rfl rfl (by decide) rfl (fun ls hl => ?_)
          refine lv_iinc (pc := 28) (v := y3_l4 + 1) (lv' := [(3, .int (y3_l4 + 1)), (2, .int (y2_l4 + 1)), (0, .ref z_o), (1, .int x1)]) hx hb (tb_at tk_X2_howManyWant 16 rfl) hl (k := 3) rfl rfl (by decide) rfl (fun ls hl => ?_)
          refine lv_goto (pc := 31) (tgt := 4) hx hb (tb_at tk_X2_howManyWant 17 rfl) (by decide) ?_
          exact ih4 (y2_l4 + 1) (y3_l4 + 1) _ _ _ h hW hS (lv_sub hl [2, 3, 1, 0] rfl)
  exact w4 N 0 0 _ _ _ h hW hS (lv_sub hl [2, 3, 1, 0] rfl)
def f_X2_become_e103 {ρ : Type} (w_weight : Nat → Int32) (w_nights : Nat → Int32) (w_wantCount : Nat → Int32) (w_wantBits : Nat → Int32) (y2_l18 : Int32) (z_weight_l18 : Nat → Int32) (z_nights_l18 : Nat → Int32) (z_wantCount_l18 : Nat → Int32) (z_wantBits_l18 : Nat → Int32) (kb18 : Int32 → (Nat → Int32) → (Nat → Int32) → (Nat → Int32) → (Nat → Int32) → (Nat → Nat → Int32) → Option ρ) (z_wanted_e103 : Nat → Nat → Int32) : Option ρ := kb18 (y2_l18 + 1) (upd z_weight_l18 (y2_l18).toNatClampNeg (w_weight (y2_l18).toNatClampNeg)) (upd z_nights_l18 (y2_l18).toNatClampNeg (w_nights (y2_l18).toNatClampNeg)) (upd z_wantCount_l18 (y2_l18).toNatClampNeg (w_wantCount (y2_l18).toNatClampNeg)) (upd z_wantBits_l18 (y2_l18).toNatClampNeg (w_wantBits (y2_l18).toNatClampNeg)) z_wanted_e103
def f_X2_become_l76 {ρ : Type} (w_wanted : Nat → Nat → Int32) (y2_l18 : Int32) (k103 : (Nat → Nat → Int32) → Option ρ) : Nat → Int32 → (Nat → Nat → Int32) → Option ρ
  | 0, _, _ => none
  | n76 + 1, y3_l76, z_wanted_l76 => if 4 ≤ y3_l76 then (k103 z_wanted_l76) else (ck (ivi y2_l18 6) (ck (ivi y2_l18 6) (ck (ivi y3_l76 4) (ck (ivi y3_l76 4) ((f_X2_become_l76 w_wanted y2_l18 k103 n76) (y3_l76 + 1) (upg z_wanted_l76 (y2_l18).toNatClampNeg (upd (z_wanted_l76 (y2_l18).toNatClampNeg) (y3_l76).toNatClampNeg (w_wanted (y2_l18).toNatClampNeg (y3_l76).toNatClampNeg))))))))
def f_X2_become_l18 {ρ : Type} (w_size : Int32) (w_law : Int32) (w_weight : Nat → Int32) (w_nights : Nat → Int32) (w_wantCount : Nat → Int32) (w_wantBits : Nat → Int32) (w_wanted : Nat → Nat → Int32) (k : Int32 → Int32 → (Nat → Int32) → (Nat → Int32) → (Nat → Int32) → (Nat → Int32) → (Nat → Nat → Int32) → Option ρ) (N : Nat) : Nat → Int32 → (Nat → Int32) → (Nat → Int32) → (Nat → Int32) → (Nat → Int32) → (Nat → Nat → Int32) → Option ρ
  | 0, _, _, _, _, _, _ => none
  | n18 + 1, y2_l18, z_weight_l18, z_nights_l18, z_wantCount_l18, z_wantBits_l18, z_wanted_l18 => if w_size ≤ y2_l18 then (k w_size w_law z_weight_l18 z_nights_l18 z_wantCount_l18 z_wantBits_l18 z_wanted_l18) else (ck (ivi y2_l18 6) (ck (ivi y2_l18 6) (ck (ivi y2_l18 6) (ck (ivi y2_l18 6) (ck (ivi y2_l18 6) (ck (ivi y2_l18 6) (ck (ivi y2_l18 6) (ck (ivi y2_l18 6) (f_X2_become_l76 w_wanted y2_l18 (fun z_wanted_e103 => f_X2_become_e103 w_weight w_nights w_wantCount w_wantBits y2_l18 z_weight_l18 z_nights_l18 z_wantCount_l18 z_wantBits_l18 (f_X2_become_l18 w_size w_law w_weight w_nights w_wantCount w_wantBits w_wanted k N n18) z_wanted_e103) N 0 z_wanted_l18)))))))))
def f_X2_become {ρ : Type} (N : Nat) (w_size : Int32) (w_law : Int32) (w_weight : Nat → Int32) (z_weight : Nat → Int32) (w_nights : Nat → Int32) (z_nights : Nat → Int32) (w_wantCount : Nat → Int32) (z_wantCount : Nat → Int32) (w_wantBits : Nat → Int32) (z_wantBits : Nat → Int32) (w_wanted : Nat → Nat → Int32) (z_wanted : Nat → Nat → Int32) (k : Int32 → Int32 → (Nat → Int32) → (Nat → Int32) → (Nat → Int32) → (Nat → Int32) → (Nat → Nat → Int32) → Option ρ) : Option ρ := f_X2_become_l18 w_size w_law w_weight w_nights w_wantCount w_wantBits w_wanted k N N 0 z_weight z_nights z_wantCount z_wantBits z_wanted
abbrev w_X2_become (cI cZ cQ cW : ClassId) (z_o : Nat) (z_weight_a : Nat) (z_nights_a : Nat) (z_wanted_a : Nat) (z_wantCount_a : Nat) (z_wantBits_a : Nat) (w_o : Nat) (w_weight_a : Nat) (w_nights_a : Nat) (w_wanted_a : Nat) (w_wantCount_a : Nat) (w_wantBits_a : Nat) (z_wanted_r : Nat → Nat) (w_wanted_r : Nat → Nat) (z_size : Int32) (z_law : Int32) (w_size : Int32) (w_law : Int32) (w_weight : Nat → Int32) (z_weight : Nat → Int32) (w_nights : Nat → Int32) (z_nights : Nat → Int32) (w_wantCount : Nat → Int32) (z_wantCount : Nat → Int32) (w_wantBits : Nat → Int32) (z_wantBits : Nat → Int32) (w_wanted : Nat → Nat → Int32) (z_wanted : Nat → Nat → Int32) : va_W := [(z_o, .inr (2, [.ref z_weight_a, .ref z_nights_a, .ref z_wanted_a, .ref z_wantCount_a, .ref z_wantBits_a, .int z_size, .int z_law])), (w_o, .inr (2, [.ref w_weight_a, .ref w_nights_a, .ref w_wanted_a, .ref w_wantCount_a, .ref w_wantBits_a, .int w_size, .int w_law])), (w_weight_a, .inl (cI, 6, .inl w_weight)), (z_weight_a, .inl (cI, 6, .inl z_weight)), (w_nights_a, .inl (cI, 6, .inl w_nights)), (z_nights_a, .inl (cI, 6, .inl z_nights)), (w_wantCount_a, .inl (cI, 6, .inl w_wantCount)), (z_wantCount_a, .inl (cI, 6, .inl z_wantCount)), (w_wantBits_a, .inl (cI, 6, .inl w_wantBits)), (z_wantBits_a, .inl (cI, 6, .inl z_wantBits)), (z_wanted_a, .inl (cW, 6, .inr (.inr (.inr (.inr (fun i => if i < 6 then some (z_wanted_r i) else none)))))), (w_wanted_a, .inl (cW, 6, .inr (.inr (.inr (.inr (fun i => if i < 6 then some (w_wanted_r i) else none)))))), (w_wanted_r 0, .inl (cI, 4, .inl (w_wanted 0))), (w_wanted_r 1, .inl (cI, 4, .inl (w_wanted 1))), (w_wanted_r 2, .inl (cI, 4, .inl (w_wanted 2))), (w_wanted_r 3, .inl (cI, 4, .inl (w_wanted 3))), (w_wanted_r 4, .inl (cI, 4, .inl (w_wanted 4))), (w_wanted_r 5, .inl (cI, 4, .inl (w_wanted 5))), (z_wanted_r 0, .inl (cI, 4, .inl (z_wanted 0))), (z_wanted_r 1, .inl (cI, 4, .inl (z_wanted 1))), (z_wanted_r 2, .inl (cI, 4, .inl (z_wanted 2))), (z_wanted_r 3, .inl (cI, 4, .inl (z_wanted 3))), (z_wanted_r 4, .inl (cI, 4, .inl (z_wanted 4))), (z_wanted_r 5, .inl (cI, 4, .inl (z_wanted 5)))]
abbrev rm_X2_become : Room := { frames := 0, cells := 0, slots := 0, locals := 0 }
set_option maxHeartbeats 4000000 in
set_option maxRecDepth 100000 in
theorem c_X2_become (l : Launch) (dC : Nat → ClassId) (dI : Nat → Nat → Nat) (cI cZ cQ cW : ClassId) (z_o : Nat) (z_weight_a : Nat) (z_nights_a : Nat) (z_wanted_a : Nat) (z_wantCount_a : Nat) (z_wantBits_a : Nat) (w_o : Nat) (w_weight_a : Nat) (w_nights_a : Nat) (w_wanted_a : Nat) (w_wantCount_a : Nat) (w_wantBits_a : Nat) (z_wanted_r : Nat → Nat) (w_wanted_r : Nat → Nat) (z_size : Int32) (z_law : Int32) (w_size : Int32) (w_law : Int32) (w_weight : Nat → Int32) (z_weight : Nat → Int32) (w_nights : Nat → Int32) (z_nights : Nat → Int32) (w_wantCount : Nat → Int32) (z_wantCount : Nat → Int32) (w_wantBits : Nat → Int32) (z_wantBits : Nat → Int32) (w_wanted : Nat → Nat → Int32) (z_wanted : Nat → Nat → Int32) {ρ : Type} (N : Nat) (k : Int32 → Int32 → (Nat → Int32) → (Nat → Int32) → (Nat → Int32) → (Nat → Int32) → (Nat → Nat → Int32) → Option ρ) (res : ρ) (h : f_X2_become N w_size w_law w_weight z_weight w_nights z_nights w_wantCount z_wantCount w_wantBits z_wantBits w_wanted z_wanted k = some res) : Cv l yX2_become (WS yX2_become cX2_become 4 none) rm_X2_become (dC, dI) (tysG cI cZ cQ cW) E0 [.ref z_o, .ref w_o] (w_X2_become cI cZ cQ cW z_o z_weight_a z_nights_a z_wanted_a z_wantCount_a z_wantBits_a w_o w_weight_a w_nights_a w_wanted_a w_wantCount_a w_wantBits_a z_wanted_r w_wanted_r z_size z_law w_size w_law w_weight z_weight w_nights z_nights w_wantCount z_wantCount w_wantBits z_wantBits w_wanted z_wanted) (fun (u : Int32 × Int32 × (Nat → Int32) × (Nat → Int32) × (Nat → Int32) × (Nat → Int32) × (Nat → Nat → Int32)) => (w_X2_become cI cZ cQ cW z_o z_weight_a z_nights_a z_wanted_a z_wantCount_a z_wantBits_a w_o w_weight_a w_nights_a w_wanted_a w_wantCount_a w_wantBits_a z_wanted_r w_wanted_r u.1 u.2.1 w_size w_law w_weight u.2.2.1 w_nights u.2.2.2.1 w_wantCount u.2.2.2.2.1 w_wantBits u.2.2.2.2.2.1 w_wanted u.2.2.2.2.2.2)) (fun u => k u.1 u.2.1 u.2.2.1 u.2.2.2.1 u.2.2.2.2.1 u.2.2.2.2.2.1 u.2.2.2.2.2.2 = some res) := by
  refine Cv.of (cc := cX2_become) (n := 4) (by decide +kernel) (Nat.le_of_ble_eq_true rfl) ?_
  intro p e s m args below meth c A ls Q B hW hE hS hl hQ
  have hx := B.1
  have hb := B.2.1
  have hl : lv_has ls 4 [(0, .ref z_o), (1, .ref w_o)] := hl
  unfold f_X2_become at h
  refine lv_aload_n (pc := 0) hx hb (tb_at tk_X2_become 0 rfl) rfl (lv_at hl 0 rfl) ?_
  refine lv_aload_n (pc := 1) hx hb (tb_at tk_X2_become 1 rfl) rfl (lv_at hl 1 rfl) ?_
  refine k_get (pc := 2) (v := .int w_size) (T := TX2) B inG2 hW 1 rfl rfl 5 (by decide) q_f_X2_29 rfl rfl (tb_at tk_X2_become 2 rfl) ?_
  refine k_put (pc := 5) (T := TX2) B inG2 tyX2 tyX2_ok nmX2 hW hS 0 rfl rfl 5 (by decide) q_f_X2_29 rfl rfl rfl rfl (Nat.le_of_ble_eq_true rfl) (tb_at tk_X2_become 3 rfl) (w_X2_become cI cZ cQ cW z_o z_weight_a z_nights_a z_wanted_a z_wantCount_a z_wantBits_a w_o w_weight_a w_nights_a w_wanted_a w_wantCount_a w_wantBits_a z_wanted_r w_wanted_r w_size z_law w_size w_law w_weight z_weight w_nights z_nights w_wantCount z_wantCount w_wantBits z_wantBits w_wanted z_wanted) rfl (fun H locs hW hS => ?_)
  refine lv_aload_n (pc := 8) hx hb (tb_at tk_X2_become 4 rfl) rfl (lv_at hl 0 rfl) ?_
  refine lv_aload_n (pc := 9) hx hb (tb_at tk_X2_become 5 rfl) rfl (lv_at hl 1 rfl) ?_
  refine k_get (pc := 10) (v := .int w_law) (T := TX2) B inG2 hW 1 rfl rfl 6 (by decide) q_f_X2_33 rfl rfl (tb_at tk_X2_become 6 rfl) ?_
  refine k_put (pc := 13) (T := TX2) B inG2 tyX2 tyX2_ok nmX2 hW hS 0 rfl rfl 6 (by decide) q_f_X2_33 rfl rfl rfl rfl (Nat.le_of_ble_eq_true rfl) (tb_at tk_X2_become 7 rfl) (w_X2_become cI cZ cQ cW z_o z_weight_a z_nights_a z_wanted_a z_wantCount_a z_wantBits_a w_o w_weight_a w_nights_a w_wanted_a w_wantCount_a w_wantBits_a z_wanted_r w_wanted_r w_size w_law w_size w_law w_weight z_weight w_nights z_nights w_wantCount z_wantCount w_wantBits z_wantBits w_wanted z_wanted) rfl (fun H locs hW hS => ?_)
  refine lv_iconst (pc := 16) (v := 0) hx hb (tb_at tk_X2_become 8 rfl) (by decide) ?_
  refine lv_istore_n (pc := 17) (lv' := [(2, .int 0), (0, .ref z_o), (1, .ref w_o)]) hx hb (tb_at tk_X2_become 9 rfl) rfl hl (by decide) rfl (fun ls hl => ?_)
  have w18 : ∀ (n : Nat), ∀ (y2_l18 : Int32) (z_weight_l18 : Nat → Int32) (z_nights_l18 : Nat → Int32) (z_wantCount_l18 : Nat → Int32) (z_wantBits_l18 : Nat → Int32) (z_wanted_l18 : Nat → Nat → Int32) (H : Heap) (locs : List Loc) (ls : Array Slot), f_X2_become_l18 w_size w_law w_weight w_nights w_wantCount w_wantBits w_wanted k N n y2_l18 z_weight_l18 z_nights_l18 z_wantCount_l18 z_wantBits_l18 z_wanted_l18 = some res → PD (dC, dI) A (w_X2_become cI cZ cQ cW z_o z_weight_a z_nights_a z_wanted_a z_wantCount_a z_wantBits_a w_o w_weight_a w_nights_a w_wanted_a w_wantCount_a w_wantBits_a z_wanted_r w_wanted_r w_size w_law w_size w_law w_weight z_weight_l18 w_nights z_nights_l18 w_wantCount z_wantCount_l18 w_wantBits z_wantBits_l18 w_wanted z_wanted_l18) H → va_S A s.heap H locs → lv_has ls 4 [(0, .ref z_o), (1, .ref w_o), (2, .int y2_l18)] → W p l e rm_X2_become s m args below meth c H locs 0 0 Q (F0 m 18 ls []) := by
    intro n
    induction n with
    | zero => intro y2_l18 z_weight_l18 z_nights_l18 z_wantCount_l18 z_wantBits_l18 z_wanted_l18 H locs ls h; exact no_n h
    | succ n18 ih18 =>
      intro y2_l18 z_weight_l18 z_nights_l18 z_wantCount_l18 z_wantBits_l18 z_wanted_l18 H locs ls h hW hS hl
      rw [f_X2_become_l18] at h
      refine lv_iload_n (pc := 18) hx hb (tb_at tk_X2_become 10 rfl) rfl (lv_at hl 2 rfl) ?_
      refine lv_aload_n (pc := 19) hx hb (tb_at tk_X2_become 11 rfl) rfl (lv_at hl 0 rfl) ?_
      refine k_get (pc := 20) (v := .int w_size) (T := TX2) B inG2 hW 0 rfl rfl 5 (by decide) q_f_X2_29 rfl rfl (tb_at tk_X2_become 12 rfl) ?_
      refine lv_icmp_ge (pc := 23) (tgt := 109) hx hb (tb_at tk_X2_become 13 rfl) (by decide) (fun cc => ?_) (fun cc => ?_)
      · have h := it_t cc h
        exact hQ (w_size, w_law, z_weight_l18, z_nights_l18, z_wantCount_l18, z_wantBits_l18, z_wanted_l18) _ _ _ 109 h hW hS (tb_at tk_X2_become 67 rfl)
      · have h := it_f cc h
        refine lv_aload_n (pc := 26) hx hb (tb_at tk_X2_become 14 rfl) rfl (lv_at hl 0 rfl) ?_
        refine k_get (pc := 27) (v := .ref z_weight_a) (T := TX2) B inG2 hW 0 rfl rfl 0 (by decide) q_f_X2_9 rfl rfl (tb_at tk_X2_become 15 rfl) ?_
        refine lv_iload_n (pc := 30) hx hb (tb_at tk_X2_become 16 rfl) rfl (lv_at hl 2 rfl) ?_
        refine lv_aload_n (pc := 31) hx hb (tb_at tk_X2_become 17 rfl) rfl (lv_at hl 1 rfl) ?_
        refine k_get (pc := 32) (v := .ref w_weight_a) (T := TX2) B inG2 hW 1 rfl rfl 0 (by decide) q_f_X2_9 rfl rfl (tb_at tk_X2_become 18 rfl) ?_
        refine lv_iload_n (pc := 35) hx hb (tb_at tk_X2_become 19 rfl) rfl (lv_at hl 2 rfl) ?_
        have ii := ivi_in (ck_l h)
        have h := ck_r h
        refine k_iald (pc := 36) B hW 2 0 rfl rfl ii (tb_at tk_X2_become 20 rfl) ?_
        have ii := ivi_in (ck_l h)
        have h := ck_r h
        refine k_iast (pc := 37) B hW hS 3 0 rfl rfl ii (tb_at tk_X2_become 21 rfl) (w_X2_become cI cZ cQ cW z_o z_weight_a z_nights_a z_wanted_a z_wantCount_a z_wantBits_a w_o w_weight_a w_nights_a w_wanted_a w_wantCount_a w_wantBits_a z_wanted_r w_wanted_r w_size w_law w_size w_law w_weight (upd z_weight_l18 (y2_l18).toNatClampNeg (w_weight (y2_l18).toNatClampNeg)) w_nights z_nights_l18 w_wantCount z_wantCount_l18 w_wantBits z_wantBits_l18 w_wanted z_wanted_l18) rfl (fun H locs hW hS => ?_)
        refine lv_aload_n (pc := 38) hx hb (tb_at tk_X2_become 22 rfl) rfl (lv_at hl 0 rfl) ?_
        refine k_get (pc := 39) (v := .ref z_nights_a) (T := TX2) B inG2 hW 0 rfl rfl 1 (by decide) q_f_X2_15 rfl rfl (tb_at tk_X2_become 23 rfl) ?_
        refine lv_iload_n (pc := 42) hx hb (tb_at tk_X2_become 24 rfl) rfl (lv_at hl 2 rfl) ?_
        refine lv_aload_n (pc := 43) hx hb (tb_at tk_X2_become 25 rfl) rfl (lv_at hl 1 rfl) ?_
        refine k_get (pc := 44) (v := .ref w_nights_a) (T := TX2) B inG2 hW 1 rfl rfl 1 (by decide) q_f_X2_15 rfl rfl (tb_at tk_X2_become 26 rfl) ?_
        refine lv_iload_n (pc := 47) hx hb (tb_at tk_X2_become 27 rfl) rfl (lv_at hl 2 rfl) ?_
        have ii := ivi_in (ck_l h)
        have h := ck_r h
        refine k_iald (pc := 48) B hW 4 0 rfl rfl ii (tb_at tk_X2_become 28 rfl) ?_
        have ii := ivi_in (ck_l h)
        have h := ck_r h
        refine k_iast (pc := 49) B hW hS 5 0 rfl rfl ii (tb_at tk_X2_become 29 rfl) (w_X2_become cI cZ cQ cW z_o z_weight_a z_nights_a z_wanted_a z_wantCount_a z_wantBits_a w_o w_weight_a w_nights_a w_wanted_a w_wantCount_a w_wantBits_a z_wanted_r w_wanted_r w_size w_law w_size w_law w_weight (upd z_weight_l18 (y2_l18).toNatClampNeg (w_weight (y2_l18).toNatClampNeg)) w_nights (upd z_nights_l18 (y2_l18).toNatClampNeg (w_nights (y2_l18).toNatClampNeg)) w_wantCount z_wantCount_l18 w_wantBits z_wantBits_l18 w_wanted z_wanted_l18) rfl (fun H locs hW hS => ?_)
        refine lv_aload_n (pc := 50) hx hb (tb_at tk_X2_become 30 rfl) rfl (lv_at hl 0 rfl) ?_
        refine k_get (pc := 51) (v := .ref z_wantCount_a) (T := TX2) B inG2 hW 0 rfl rfl 3 (by decide) q_f_X2_23 rfl rfl (tb_at tk_X2_become 31 rfl) ?_
        refine lv_iload_n (pc := 54) hx hb (tb_at tk_X2_become 32 rfl) rfl (lv_at hl 2 rfl) ?_
        refine lv_aload_n (pc := 55) hx hb (tb_at tk_X2_become 33 rfl) rfl (lv_at hl 1 rfl) ?_
        refine k_get (pc := 56) (v := .ref w_wantCount_a) (T := TX2) B inG2 hW 1 rfl rfl 3 (by decide) q_f_X2_23 rfl rfl (tb_at tk_X2_become 34 rfl) ?_
        refine lv_iload_n (pc := 59) hx hb (tb_at tk_X2_become 35 rfl) rfl (lv_at hl 2 rfl) ?_
        have ii := ivi_in (ck_l h)
        have h := ck_r h
        refine k_iald (pc := 60) B hW 6 0 rfl rfl ii (tb_at tk_X2_become 36 rfl) ?_
        have ii := ivi_in (ck_l h)
        have h := ck_r h
        refine k_iast (pc := 61) B hW hS 7 0 rfl rfl ii (tb_at tk_X2_become 37 rfl) (w_X2_become cI cZ cQ cW z_o z_weight_a z_nights_a z_wanted_a z_wantCount_a z_wantBits_a w_o w_weight_a w_nights_a w_wanted_a w_wantCount_a w_wantBits_a z_wanted_r w_wanted_r w_size w_law w_size w_law w_weight (upd z_weight_l18 (y2_l18).toNatClampNeg (w_weight (y2_l18).toNatClampNeg)) w_nights (upd z_nights_l18 (y2_l18).toNatClampNeg (w_nights (y2_l18).toNatClampNeg)) w_wantCount (upd z_wantCount_l18 (y2_l18).toNatClampNeg (w_wantCount (y2_l18).toNatClampNeg)) w_wantBits z_wantBits_l18 w_wanted z_wanted_l18) rfl (fun H locs hW hS => ?_)
        refine lv_aload_n (pc := 62) hx hb (tb_at tk_X2_become 38 rfl) rfl (lv_at hl 0 rfl) ?_
        refine k_get (pc := 63) (v := .ref z_wantBits_a) (T := TX2) B inG2 hW 0 rfl rfl 4 (by decide) q_f_X2_26 rfl rfl (tb_at tk_X2_become 39 rfl) ?_
        refine lv_iload_n (pc := 66) hx hb (tb_at tk_X2_become 40 rfl) rfl (lv_at hl 2 rfl) ?_
        refine lv_aload_n (pc := 67) hx hb (tb_at tk_X2_become 41 rfl) rfl (lv_at hl 1 rfl) ?_
        refine k_get (pc := 68) (v := .ref w_wantBits_a) (T := TX2) B inG2 hW 1 rfl rfl 4 (by decide) q_f_X2_26 rfl rfl (tb_at tk_X2_become 42 rfl) ?_
        refine lv_iload_n (pc := 71) hx hb (tb_at tk_X2_become 43 rfl) rfl (lv_at hl 2 rfl) ?_
        have ii := ivi_in (ck_l h)
        have h := ck_r h
        refine k_iald (pc := 72) B hW 8 0 rfl rfl ii (tb_at tk_X2_become 44 rfl) ?_
        have ii := ivi_in (ck_l h)
        have h := ck_r h
        refine k_iast (pc := 73) B hW hS 9 0 rfl rfl ii (tb_at tk_X2_become 45 rfl) (w_X2_become cI cZ cQ cW z_o z_weight_a z_nights_a z_wanted_a z_wantCount_a z_wantBits_a w_o w_weight_a w_nights_a w_wanted_a w_wantCount_a w_wantBits_a z_wanted_r w_wanted_r w_size w_law w_size w_law w_weight (upd z_weight_l18 (y2_l18).toNatClampNeg (w_weight (y2_l18).toNatClampNeg)) w_nights (upd z_nights_l18 (y2_l18).toNatClampNeg (w_nights (y2_l18).toNatClampNeg)) w_wantCount (upd z_wantCount_l18 (y2_l18).toNatClampNeg (w_wantCount (y2_l18).toNatClampNeg)) w_wantBits (upd z_wantBits_l18 (y2_l18).toNatClampNeg (w_wantBits (y2_l18).toNatClampNeg)) w_wanted z_wanted_l18) rfl (fun H locs hW hS => ?_)
        refine lv_iconst (pc := 74) (v := 0) hx hb (tb_at tk_X2_become 46 rfl) (by decide) ?_
        refine lv_istore_n (pc := 75) (lv' := [(3, .int 0), (0, .ref z_o), (1, .ref w_o), (2, .int y2_l18)]) hx hb (tb_at tk_X2_become 47 rfl) rfl hl (by decide) rfl (fun ls hl => ?_)
        have w103 : ∀ (z_wanted_e103 : Nat → Nat → Int32) (H : Heap) (locs : List Loc) (ls : Array Slot), f_X2_become_e103 w_weight w_nights w_wantCount w_wantBits y2_l18 z_weight_l18 z_nights_l18 z_wantCount_l18 z_wantBits_l18 (f_X2_become_l18 w_size w_law w_weight w_nights w_wantCount w_wantBits w_wanted k N n18) z_wanted_e103 = some res → PD (dC, dI) A (w_X2_become cI cZ cQ cW z_o z_weight_a z_nights_a z_wanted_a z_wantCount_a z_wantBits_a w_o w_weight_a w_nights_a w_wanted_a w_wantCount_a w_wantBits_a z_wanted_r w_wanted_r w_size w_law w_size w_law w_weight (upd z_weight_l18 (y2_l18).toNatClampNeg (w_weight (y2_l18).toNatClampNeg)) w_nights (upd z_nights_l18 (y2_l18).toNatClampNeg (w_nights (y2_l18).toNatClampNeg)) w_wantCount (upd z_wantCount_l18 (y2_l18).toNatClampNeg (w_wantCount (y2_l18).toNatClampNeg)) w_wantBits (upd z_wantBits_l18 (y2_l18).toNatClampNeg (w_wantBits (y2_l18).toNatClampNeg)) w_wanted z_wanted_e103) H → va_S A s.heap H locs → lv_has ls 4 [(0, .ref z_o), (1, .ref w_o), (2, .int y2_l18)] → W p l e rm_X2_become s m args below meth c H locs 0 0 Q (F0 m 103 ls []) := by
          intro z_wanted_e103 H locs ls h hW hS hl
          unfold f_X2_become_e103 at h
          refine lv_iinc (pc := 103) (v := y2_l18 + 1) (lv' := [(2, .int (y2_l18 + 1)), (0, .ref z_o), (1, .ref w_o)]) hx hb (tb_at tk_X2_become 65 rfl) hl (k := 2) rfl rfl (by decide) rfl (fun ls hl => ?_)
          refine lv_goto (pc := 106) (tgt := 18) hx hb (tb_at tk_X2_become 66 rfl) (by decide) ?_
          exact ih18 (y2_l18 + 1) (upd z_weight_l18 (y2_l18).toNatClampNeg (w_weight (y2_l18).toNatClampNeg)) (upd z_nights_l18 (y2_l18).toNatClampNeg (w_nights (y2_l18).toNatClampNeg)) (upd z_wantCount_l18 (y2_l18).toNatClampNeg (w_wantCount (y2_l18).toNatClampNeg)) (upd z_wantBits_l18 (y2_l18).toNatClampNeg (w_wantBits (y2_l18).toNatClampNeg)) z_wanted_e103 _ _ _ h hW hS (lv_sub hl [1, 2, 0] rfl)
        have w76 : ∀ (n : Nat), ∀ (y3_l76 : Int32) (z_wanted_l76 : Nat → Nat → Int32) (H : Heap) (locs : List Loc) (ls : Array Slot), f_X2_become_l76 w_wanted y2_l18 (fun z_wanted_e103 => f_X2_become_e103 w_weight w_nights w_wantCount w_wantBits y2_l18 z_weight_l18 z_nights_l18 z_wantCount_l18 z_wantBits_l18 (f_X2_become_l18 w_size w_law w_weight w_nights w_wantCount w_wantBits w_wanted k N n18) z_wanted_e103) n y3_l76 z_wanted_l76 = some res → PD (dC, dI) A (w_X2_become cI cZ cQ cW z_o z_weight_a z_nights_a z_wanted_a z_wantCount_a z_wantBits_a w_o w_weight_a w_nights_a w_wanted_a w_wantCount_a w_wantBits_a z_wanted_r w_wanted_r w_size w_law w_size w_law w_weight (upd z_weight_l18 (y2_l18).toNatClampNeg (w_weight (y2_l18).toNatClampNeg)) w_nights (upd z_nights_l18 (y2_l18).toNatClampNeg (w_nights (y2_l18).toNatClampNeg)) w_wantCount (upd z_wantCount_l18 (y2_l18).toNatClampNeg (w_wantCount (y2_l18).toNatClampNeg)) w_wantBits (upd z_wantBits_l18 (y2_l18).toNatClampNeg (w_wantBits (y2_l18).toNatClampNeg)) w_wanted z_wanted_l76) H → va_S A s.heap H locs → lv_has ls 4 [(0, .ref z_o), (1, .ref w_o), (2, .int y2_l18), (3, .int y3_l76)] → W p l e rm_X2_become s m args below meth c H locs 0 0 Q (F0 m 76 ls []) := by
          intro n
          induction n with
          | zero => intro y3_l76 z_wanted_l76 H locs ls h; exact no_n h
          | succ n76 ih76 =>
            intro y3_l76 z_wanted_l76 H locs ls h hW hS hl
            rw [f_X2_become_l76] at h
            refine lv_iload_n (pc := 76) hx hb (tb_at tk_X2_become 48 rfl) rfl (lv_at hl 3 rfl) ?_
            refine lv_iconst (pc := 77) (v := 4) hx hb (tb_at tk_X2_become 49 rfl) (by decide) ?_
            refine lv_icmp_ge (pc := 78) (tgt := 103) hx hb (tb_at tk_X2_become 50 rfl) (by decide) (fun cc => ?_) (fun cc => ?_)
            · have h := it_t cc h
              exact w103 z_wanted_l76 _ _ _ h hW hS (lv_sub hl [0, 1, 2] rfl)
            · have h := it_f cc h
              refine lv_aload_n (pc := 81) hx hb (tb_at tk_X2_become 51 rfl) rfl (lv_at hl 0 rfl) ?_
              refine k_get (pc := 82) (v := .ref z_wanted_a) (T := TX2) B inG2 hW 0 rfl rfl 2 (by decide) q_f_X2_20 rfl rfl (tb_at tk_X2_become 52 rfl) ?_
              refine lv_iload_n (pc := 85) hx hb (tb_at tk_X2_become 53 rfl) rfl (lv_at hl 2 rfl) ?_
              have ir86 := ivi_in (ck_l h)
              have h := ck_r h
              refine k_aldr (pc := 86) (r := z_wanted_r) B hW 10 3 rfl rfl ir86 (tb_at tk_X2_become 54 rfl) ?_
              refine lv_iload_n (pc := 87) hx hb (tb_at tk_X2_become 55 rfl) rfl (lv_at hl 3 rfl) ?_
              refine lv_aload_n (pc := 88) hx hb (tb_at tk_X2_become 56 rfl) rfl (lv_at hl 1 rfl) ?_
              refine k_get (pc := 89) (v := .ref w_wanted_a) (T := TX2) B inG2 hW 1 rfl rfl 2 (by decide) q_f_X2_20 rfl rfl (tb_at tk_X2_become 57 rfl) ?_
              refine lv_iload_n (pc := 92) hx hb (tb_at tk_X2_become 58 rfl) rfl (lv_at hl 2 rfl) ?_
              have ir93 := ivi_in (ck_l h)
              have h := ck_r h
              refine k_aldr (pc := 93) (r := w_wanted_r) B hW 11 3 rfl rfl ir93 (tb_at tk_X2_become 59 rfl) ?_
              refine lv_iload_n (pc := 94) hx hb (tb_at tk_X2_become 60 rfl) rfl (lv_at hl 3 rfl) ?_
              have ii := ivi_in (ck_l h)
              have h := ck_r h
              refine k_rald (pc := 95) (x := y2_l18) (r := w_wanted_r) (g := w_wanted) B hW 12 0 (row6 rfl rfl rfl rfl rfl rfl) rfl ir93 ii (tb_at tk_X2_become 61 rfl) ?_
              have ii := ivi_in (ck_l h)
              have h := ck_r h
              refine k_rast (pc := 96) (x := y2_l18) (r := z_wanted_r) (g := z_wanted_l76) B hW hS 18 0 (row6 rfl rfl rfl rfl rfl rfl) rfl ir86 ii (tb_at tk_X2_become 62 rfl) (fun g9 => (w_X2_become cI cZ cQ cW z_o z_weight_a z_nights_a z_wanted_a z_wantCount_a z_wantBits_a w_o w_weight_a w_nights_a w_wanted_a w_wantCount_a w_wantBits_a z_wanted_r w_wanted_r w_size w_law w_size w_law w_weight (upd z_weight_l18 (y2_l18).toNatClampNeg (w_weight (y2_l18).toNatClampNeg)) w_nights (upd z_nights_l18 (y2_l18).toNatClampNeg (w_nights (y2_l18).toNatClampNeg)) w_wantCount (upd z_wantCount_l18 (y2_l18).toNatClampNeg (w_wantCount (y2_l18).toNatClampNeg)) w_wantBits (upd z_wantBits_l18 (y2_l18).toNatClampNeg (w_wantBits (y2_l18).toNatClampNeg)) w_wanted g9)) (row6 (fun _ => rfl) (fun _ => rfl) (fun _ => rfl) (fun _ => rfl) (fun _ => rfl) (fun _ => rfl)) (fun H locs hW hS => ?_)
              have hW : PD (dC, dI) A (w_X2_become cI cZ cQ cW z_o z_weight_a z_nights_a z_wanted_a z_wantCount_a z_wantBits_a w_o w_weight_a w_nights_a w_wanted_a w_wantCount_a w_wantBits_a z_wanted_r w_wanted_r w_size w_law w_size w_law w_weight (upd z_weight_l18 (y2_l18).toNatClampNeg (w_weight (y2_l18).toNatClampNeg)) w_nights (upd z_nights_l18 (y2_l18).toNatClampNeg (w_nights (y2_l18).toNatClampNeg)) w_wantCount (upd z_wantCount_l18 (y2_l18).toNatClampNeg (w_wantCount (y2_l18).toNatClampNeg)) w_wantBits (upd z_wantBits_l18 (y2_l18).toNatClampNeg (w_wantBits (y2_l18).toNatClampNeg)) w_wanted (upg z_wanted_l76 (y2_l18).toNatClampNeg (upd (z_wanted_l76 (y2_l18).toNatClampNeg) (y3_l76).toNatClampNeg (w_wanted (y2_l18).toNatClampNeg (y3_l76).toNatClampNeg)))) H := hW
              refine lv_iinc (pc := 97) (v := y3_l76 + 1) (lv' := [(3, .int (y3_l76 + 1)), (0, .ref z_o), (1, .ref w_o), (2, .int y2_l18)]) hx hb (tb_at tk_X2_become 63 rfl) hl (k := 3) rfl rfl (by decide) rfl (fun ls hl => ?_)
              refine lv_goto (pc := 100) (tgt := 76) hx hb (tb_at tk_X2_become 64 rfl) (by decide) ?_
              exact ih76 (y3_l76 + 1) (upg z_wanted_l76 (y2_l18).toNatClampNeg (upd (z_wanted_l76 (y2_l18).toNatClampNeg) (y3_l76).toNatClampNeg (w_wanted (y2_l18).toNatClampNeg (y3_l76).toNatClampNeg))) _ _ _ h hW hS (lv_sub hl [1, 2, 3, 0] rfl)
        exact w76 N 0 z_wanted_l18 _ _ _ h hW hS (lv_sub hl [1, 2, 3, 0] rfl)
  exact w18 N 0 z_weight z_nights z_wantCount z_wantBits z_wanted _ _ _ h hW hS (lv_sub hl [1, 2, 0] rfl)
def f_X7_within {ρ : Type} (N : Nat) (x0 : Int32) (x1 : Int32) (x2 : Int32) (k : Int32 → Option ρ) : Option ρ := if x0 < x1 then (k 0) else (if x2 < x0 then (k 0) else (k 1))
abbrev rm_X7_within : Room := { frames := 0, cells := 0, slots := 0, locals := 0 }
set_option maxHeartbeats 4000000 in
set_option maxRecDepth 100000 in
theorem c_X7_within (l : Launch) (dC : Nat → ClassId) (dI : Nat → Nat → Nat) (cI cZ cQ cW : ClassId) (x0 : Int32) (x1 : Int32) (x2 : Int32) {ρ : Type} (N : Nat) (k : Int32 → Option ρ) (res : ρ) (h : f_X7_within N x0 x1 x2 k = some res) : Ci l yX7_within (WS yX7_within cX7_within 3 (some .boolean)) rm_X7_within (dC, dI) (tysG cI cZ cQ cW) E0 [.int x0, .int x1, .int x2] [] (fun (_ : Unit) => []) (fun r _ => k r = some res) := by
  refine Ci.of (cc := cX7_within) (n := 3) (by decide +kernel) (Nat.le_of_ble_eq_true rfl) ?_
  intro p e s m args below meth c A ls Q B hW hE hS hl hQ
  have hx := B.1
  have hb := B.2.1
  have hl : lv_has ls 3 [(0, .int x0), (1, .int x1), (2, .int x2)] := hl
  unfold f_X7_within at h
  refine lv_iload_n (pc := 0) hx hb (tb_at tk_X7_within 0 rfl) rfl (lv_at hl 0 rfl) ?_
  refine lv_iload_n (pc := 1) hx hb (tb_at tk_X7_within 1 rfl) rfl (lv_at hl 1 rfl) ?_
  refine lv_icmp_lt (pc := 2) (tgt := 14) hx hb (tb_at tk_X7_within 2 rfl) (by decide) (fun cc => ?_) (fun cc => ?_)
  · have h := it_t cc h
    refine lv_iconst (pc := 14) (v := 0) hx hb (tb_at tk_X7_within 8 rfl) (by decide) ?_
    exact hQ 0 () _ _ _ 15 nz0 h hW hS (tb_at tk_X7_within 9 rfl)
  · have h := it_f cc h
    refine lv_iload_n (pc := 5) hx hb (tb_at tk_X7_within 3 rfl) rfl (lv_at hl 0 rfl) ?_
    refine lv_iload_n (pc := 6) hx hb (tb_at tk_X7_within 4 rfl) rfl (lv_at hl 2 rfl) ?_
    refine lv_icmp_gt (pc := 7) (tgt := 14) hx hb (tb_at tk_X7_within 5 rfl) (by decide) (fun cc => ?_) (fun cc => ?_)
    · have h := it_t cc h
      refine lv_iconst (pc := 14) (v := 0) hx hb (tb_at tk_X7_within 8 rfl) (by decide) ?_
      exact hQ 0 () _ _ _ 15 nz0 h hW hS (tb_at tk_X7_within 9 rfl)
    · have h := it_f cc h
      refine lv_iconst (pc := 10) (v := 1) hx hb (tb_at tk_X7_within 6 rfl) (by decide) ?_
      refine lv_goto (pc := 11) (tgt := 15) hx hb (tb_at tk_X7_within 7 rfl) (by decide) ?_
      exact hQ 1 () _ _ _ 15 nz1 h hW hS (tb_at tk_X7_within 9 rfl)
def f_X7_isWithin {ρ : Type} (N : Nat) (x0 : Int32) (x1 : Int32) (k : Int32 → Option ρ) : Option ρ := if (x0 &&& (x1 ^^^ (-1))) = 0 then (k 1) else (k 0)
abbrev rm_X7_isWithin : Room := { frames := 0, cells := 0, slots := 0, locals := 0 }
set_option maxHeartbeats 4000000 in
set_option maxRecDepth 100000 in
theorem c_X7_isWithin (l : Launch) (dC : Nat → ClassId) (dI : Nat → Nat → Nat) (cI cZ cQ cW : ClassId) (x0 : Int32) (x1 : Int32) {ρ : Type} (N : Nat) (k : Int32 → Option ρ) (res : ρ) (h : f_X7_isWithin N x0 x1 k = some res) : Ci l yX7_isWithin (WS yX7_isWithin cX7_isWithin 2 (some .boolean)) rm_X7_isWithin (dC, dI) (tysG cI cZ cQ cW) E0 [.int x0, .int x1] [] (fun (_ : Unit) => []) (fun r _ => k r = some res) := by
  refine Ci.of (cc := cX7_isWithin) (n := 2) (by decide +kernel) (Nat.le_of_ble_eq_true rfl) ?_
  intro p e s m args below meth c A ls Q B hW hE hS hl hQ
  have hx := B.1
  have hb := B.2.1
  have hl : lv_has ls 2 [(0, .int x0), (1, .int x1)] := hl
  unfold f_X7_isWithin at h
  refine lv_iload_n (pc := 0) hx hb (tb_at tk_X7_isWithin 0 rfl) rfl (lv_at hl 0 rfl) ?_
  refine lv_iload_n (pc := 1) hx hb (tb_at tk_X7_isWithin 1 rfl) rfl (lv_at hl 1 rfl) ?_
  refine lv_iconst (pc := 2) (v := (-1)) hx hb (tb_at tk_X7_isWithin 2 rfl) (by decide) ?_
  refine lv_ixor (pc := 3) hx hb (tb_at tk_X7_isWithin 3 rfl) ?_
  refine lv_iand (pc := 4) hx hb (tb_at tk_X7_isWithin 4 rfl) ?_
  refine lv_if_ne (pc := 5) (tgt := 12) hx hb (tb_at tk_X7_isWithin 5 rfl) (by decide) (fun cc => ?_) (fun cc => ?_)
  · have h := it_f cc h
    refine lv_iconst (pc := 12) (v := 0) hx hb (tb_at tk_X7_isWithin 8 rfl) (by decide) ?_
    exact hQ 0 () _ _ _ 13 nz0 h hW hS (tb_at tk_X7_isWithin 9 rfl)
  · have h := it_t cc h
    refine lv_iconst (pc := 8) (v := 1) hx hb (tb_at tk_X7_isWithin 6 rfl) (by decide) ?_
    refine lv_goto (pc := 9) (tgt := 13) hx hb (tb_at tk_X7_isWithin 7 rfl) (by decide) ?_
    exact hQ 1 () _ _ _ 13 nz1 h hW hS (tb_at tk_X7_isWithin 9 rfl)
def f_J6_bitCount_0f7a4 {ρ : Type} (N : Nat) (x0 : Int32) (k : Int32 → Option ρ) : Option ρ := k ((((((((x0 - (((x0.toUInt32 >>> (Int32.toUInt32 1 &&& Int32.toUInt32 31)).toInt32) &&& 1431655765)) &&& 858993459) + ((((x0 - (((x0.toUInt32 >>> (Int32.toUInt32 1 &&& Int32.toUInt32 31)).toInt32) &&& 1431655765)).toUInt32 >>> (Int32.toUInt32 2 &&& Int32.toUInt32 31)).toInt32) &&& 858993459)) + (((((x0 - (((x0.toUInt32 >>> (Int32.toUInt32 1 &&& Int32.toUInt32 31)).toInt32) &&& 1431655765)) &&& 858993459) + ((((x0 - (((x0.toUInt32 >>> (Int32.toUInt32 1 &&& Int32.toUInt32 31)).toInt32) &&& 1431655765)).toUInt32 >>> (Int32.toUInt32 2 &&& Int32.toUInt32 31)).toInt32) &&& 858993459)).toUInt32 >>> (Int32.toUInt32 4 &&& Int32.toUInt32 31)).toInt32)) &&& 252645135) + (((((((x0 - (((x0.toUInt32 >>> (Int32.toUInt32 1 &&& Int32.toUInt32 31)).toInt32) &&& 1431655765)) &&& 858993459) + ((((x0 - (((x0.toUInt32 >>> (Int32.toUInt32 1 &&& Int32.toUInt32 31)).toInt32) &&& 1431655765)).toUInt32 >>> (Int32.toUInt32 2 &&& Int32.toUInt32 31)).toInt32) &&& 858993459)) + (((((x0 - (((x0.toUInt32 >>> (Int32.toUInt32 1 &&& Int32.toUInt32 31)).toInt32) &&& 1431655765)) &&& 858993459) + ((((x0 - (((x0.toUInt32 >>> (Int32.toUInt32 1 &&& Int32.toUInt32 31)).toInt32) &&& 1431655765)).toUInt32 >>> (Int32.toUInt32 2 &&& Int32.toUInt32 31)).toInt32) &&& 858993459)).toUInt32 >>> (Int32.toUInt32 4 &&& Int32.toUInt32 31)).toInt32)) &&& 252645135).toUInt32 >>> (Int32.toUInt32 8 &&& Int32.toUInt32 31)).toInt32)) + ((((((((x0 - (((x0.toUInt32 >>> (Int32.toUInt32 1 &&& Int32.toUInt32 31)).toInt32) &&& 1431655765)) &&& 858993459) + ((((x0 - (((x0.toUInt32 >>> (Int32.toUInt32 1 &&& Int32.toUInt32 31)).toInt32) &&& 1431655765)).toUInt32 >>> (Int32.toUInt32 2 &&& Int32.toUInt32 31)).toInt32) &&& 858993459)) + (((((x0 - (((x0.toUInt32 >>> (Int32.toUInt32 1 &&& Int32.toUInt32 31)).toInt32) &&& 1431655765)) &&& 858993459) + ((((x0 - (((x0.toUInt32 >>> (Int32.toUInt32 1 &&& Int32.toUInt32 31)).toInt32) &&& 1431655765)).toUInt32 >>> (Int32.toUInt32 2 &&& Int32.toUInt32 31)).toInt32) &&& 858993459)).toUInt32 >>> (Int32.toUInt32 4 &&& Int32.toUInt32 31)).toInt32)) &&& 252645135) + (((((((x0 - (((x0.toUInt32 >>> (Int32.toUInt32 1 &&& Int32.toUInt32 31)).toInt32) &&& 1431655765)) &&& 858993459) + ((((x0 - (((x0.toUInt32 >>> (Int32.toUInt32 1 &&& Int32.toUInt32 31)).toInt32) &&& 1431655765)).toUInt32 >>> (Int32.toUInt32 2 &&& Int32.toUInt32 31)).toInt32) &&& 858993459)) + (((((x0 - (((x0.toUInt32 >>> (Int32.toUInt32 1 &&& Int32.toUInt32 31)).toInt32) &&& 1431655765)) &&& 858993459) + ((((x0 - (((x0.toUInt32 >>> (Int32.toUInt32 1 &&& Int32.toUInt32 31)).toInt32) &&& 1431655765)).toUInt32 >>> (Int32.toUInt32 2 &&& Int32.toUInt32 31)).toInt32) &&& 858993459)).toUInt32 >>> (Int32.toUInt32 4 &&& Int32.toUInt32 31)).toInt32)) &&& 252645135).toUInt32 >>> (Int32.toUInt32 8 &&& Int32.toUInt32 31)).toInt32)).toUInt32 >>> (Int32.toUInt32 16 &&& Int32.toUInt32 31)).toInt32)) &&& 63)
abbrev rm_J6_bitCount_0f7a4 : Room := { frames := 0, cells := 0, slots := 0, locals := 0 }
set_option maxHeartbeats 4000000 in
set_option maxRecDepth 100000 in
theorem c_J6_bitCount_0f7a4 (l : Launch) (dC : Nat → ClassId) (dI : Nat → Nat → Nat) (cI cZ cQ cW : ClassId) (x0 : Int32) {ρ : Type} (N : Nat) (k : Int32 → Option ρ) (res : ρ) (h : f_J6_bitCount_0f7a4 N x0 k = some res) : Ci l yJ6_bitCount_0f7a4 (WS yJ6_bitCount_0f7a4 cJ6_bitCount_0f7a4 1 (some .int)) rm_J6_bitCount_0f7a4 (dC, dI) (tysG cI cZ cQ cW) E0 [.int x0] [] (fun (_ : Unit) => []) (fun r _ => k r = some res) := by
  refine Ci.of (cc := cJ6_bitCount_0f7a4) (n := 1) (by decide +kernel) (Nat.le_of_ble_eq_true rfl) ?_
  intro p e s m args below meth c A ls Q B hW hE hS hl hQ
  have hx := B.1
  have hb := B.2.1
  have hl : lv_has ls 1 [(0, .int x0)] := hl
  unfold f_J6_bitCount_0f7a4 at h
  refine lv_iload_n (pc := 0) hx hb (tb_at tk_J6_bitCount_0f7a4 0 rfl) rfl (lv_at hl 0 rfl) ?_
  refine lv_iload_n (pc := 1) hx hb (tb_at tk_J6_bitCount_0f7a4 1 rfl) rfl (lv_at hl 0 rfl) ?_
  refine lv_iconst (pc := 2) (v := 1) hx hb (tb_at tk_J6_bitCount_0f7a4 2 rfl) (by decide) ?_
  refine lv_iushr (pc := 3) (v := (x0.toUInt32 >>> (Int32.toUInt32 1 &&& Int32.toUInt32 31)).toInt32) hx hb (tb_at tk_J6_bitCount_0f7a4 3 rfl) rfl ?_
  refine lv_ldcw (pc := 4) (v := 1431655765) hx hb B.2.2.2.2.1 (B.2.2.2.2.2.1 _ q_v_J6_265) (tb_at tk_J6_bitCount_0f7a4 4 rfl) ?_
  refine lv_iand (pc := 7) hx hb (tb_at tk_J6_bitCount_0f7a4 5 rfl) ?_
  refine lv_isub (pc := 8) hx hb (tb_at tk_J6_bitCount_0f7a4 6 rfl) ?_
  refine lv_istore_n (pc := 9) (lv' := [(0, .int (x0 - (((x0.toUInt32 >>> (Int32.toUInt32 1 &&& Int32.toUInt32 31)).toInt32) &&& 1431655765)))]) hx hb (tb_at tk_J6_bitCount_0f7a4 7 rfl) rfl hl (by decide) rfl (fun ls hl => ?_)
  refine lv_iload_n (pc := 10) hx hb (tb_at tk_J6_bitCount_0f7a4 8 rfl) rfl (lv_at hl 0 rfl) ?_
  refine lv_ldcw (pc := 11) (v := 858993459) hx hb B.2.2.2.2.1 (B.2.2.2.2.2.1 _ q_v_J6_266) (tb_at tk_J6_bitCount_0f7a4 9 rfl) ?_
  refine lv_iand (pc := 14) hx hb (tb_at tk_J6_bitCount_0f7a4 10 rfl) ?_
  refine lv_iload_n (pc := 15) hx hb (tb_at tk_J6_bitCount_0f7a4 11 rfl) rfl (lv_at hl 0 rfl) ?_
  refine lv_iconst (pc := 16) (v := 2) hx hb (tb_at tk_J6_bitCount_0f7a4 12 rfl) (by decide) ?_
  refine lv_iushr (pc := 17) (v := ((x0 - (((x0.toUInt32 >>> (Int32.toUInt32 1 &&& Int32.toUInt32 31)).toInt32) &&& 1431655765)).toUInt32 >>> (Int32.toUInt32 2 &&& Int32.toUInt32 31)).toInt32) hx hb (tb_at tk_J6_bitCount_0f7a4 13 rfl) rfl ?_
  refine lv_ldcw (pc := 18) (v := 858993459) hx hb B.2.2.2.2.1 (B.2.2.2.2.2.1 _ q_v_J6_266) (tb_at tk_J6_bitCount_0f7a4 14 rfl) ?_
  refine lv_iand (pc := 21) hx hb (tb_at tk_J6_bitCount_0f7a4 15 rfl) ?_
  refine lv_iadd (pc := 22) hx hb (tb_at tk_J6_bitCount_0f7a4 16 rfl) ?_
  refine lv_istore_n (pc := 23) (lv' := [(0, .int (((x0 - (((x0.toUInt32 >>> (Int32.toUInt32 1 &&& Int32.toUInt32 31)).toInt32) &&& 1431655765)) &&& 858993459) + ((((x0 - (((x0.toUInt32 >>> (Int32.toUInt32 1 &&& Int32.toUInt32 31)).toInt32) &&& 1431655765)).toUInt32 >>> (Int32.toUInt32 2 &&& Int32.toUInt32 31)).toInt32) &&& 858993459)))]) hx hb (tb_at tk_J6_bitCount_0f7a4 17 rfl) rfl hl (by decide) rfl (fun ls hl => ?_)
  refine lv_iload_n (pc := 24) hx hb (tb_at tk_J6_bitCount_0f7a4 18 rfl) rfl (lv_at hl 0 rfl) ?_
  refine lv_iload_n (pc := 25) hx hb (tb_at tk_J6_bitCount_0f7a4 19 rfl) rfl (lv_at hl 0 rfl) ?_
  refine lv_iconst (pc := 26) (v := 4) hx hb (tb_at tk_J6_bitCount_0f7a4 20 rfl) (by decide) ?_
  refine lv_iushr (pc := 27) (v := ((((x0 - (((x0.toUInt32 >>> (Int32.toUInt32 1 &&& Int32.toUInt32 31)).toInt32) &&& 1431655765)) &&& 858993459) + ((((x0 - (((x0.toUInt32 >>> (Int32.toUInt32 1 &&& Int32.toUInt32 31)).toInt32) &&& 1431655765)).toUInt32 >>> (Int32.toUInt32 2 &&& Int32.toUInt32 31)).toInt32) &&& 858993459)).toUInt32 >>> (Int32.toUInt32 4 &&& Int32.toUInt32 31)).toInt32) hx hb (tb_at tk_J6_bitCount_0f7a4 21 rfl) rfl ?_
  refine lv_iadd (pc := 28) hx hb (tb_at tk_J6_bitCount_0f7a4 22 rfl) ?_
  refine lv_ldcw (pc := 29) (v := 252645135) hx hb B.2.2.2.2.1 (B.2.2.2.2.2.1 _ q_v_J6_267) (tb_at tk_J6_bitCount_0f7a4 23 rfl) ?_
  refine lv_iand (pc := 32) hx hb (tb_at tk_J6_bitCount_0f7a4 24 rfl) ?_
  refine lv_istore_n (pc := 33) (lv' := [(0, .int (((((x0 - (((x0.toUInt32 >>> (Int32.toUInt32 1 &&& Int32.toUInt32 31)).toInt32) &&& 1431655765)) &&& 858993459) + ((((x0 - (((x0.toUInt32 >>> (Int32.toUInt32 1 &&& Int32.toUInt32 31)).toInt32) &&& 1431655765)).toUInt32 >>> (Int32.toUInt32 2 &&& Int32.toUInt32 31)).toInt32) &&& 858993459)) + (((((x0 - (((x0.toUInt32 >>> (Int32.toUInt32 1 &&& Int32.toUInt32 31)).toInt32) &&& 1431655765)) &&& 858993459) + ((((x0 - (((x0.toUInt32 >>> (Int32.toUInt32 1 &&& Int32.toUInt32 31)).toInt32) &&& 1431655765)).toUInt32 >>> (Int32.toUInt32 2 &&& Int32.toUInt32 31)).toInt32) &&& 858993459)).toUInt32 >>> (Int32.toUInt32 4 &&& Int32.toUInt32 31)).toInt32)) &&& 252645135))]) hx hb (tb_at tk_J6_bitCount_0f7a4 25 rfl) rfl hl (by decide) rfl (fun ls hl => ?_)
  refine lv_iload_n (pc := 34) hx hb (tb_at tk_J6_bitCount_0f7a4 26 rfl) rfl (lv_at hl 0 rfl) ?_
  refine lv_iload_n (pc := 35) hx hb (tb_at tk_J6_bitCount_0f7a4 27 rfl) rfl (lv_at hl 0 rfl) ?_
  refine lv_bipush (pc := 36) (v := 8) hx hb (tb_at tk_J6_bitCount_0f7a4 28 rfl) (by decide) ?_
  refine lv_iushr (pc := 38) (v := ((((((x0 - (((x0.toUInt32 >>> (Int32.toUInt32 1 &&& Int32.toUInt32 31)).toInt32) &&& 1431655765)) &&& 858993459) + ((((x0 - (((x0.toUInt32 >>> (Int32.toUInt32 1 &&& Int32.toUInt32 31)).toInt32) &&& 1431655765)).toUInt32 >>> (Int32.toUInt32 2 &&& Int32.toUInt32 31)).toInt32) &&& 858993459)) + (((((x0 - (((x0.toUInt32 >>> (Int32.toUInt32 1 &&& Int32.toUInt32 31)).toInt32) &&& 1431655765)) &&& 858993459) + ((((x0 - (((x0.toUInt32 >>> (Int32.toUInt32 1 &&& Int32.toUInt32 31)).toInt32) &&& 1431655765)).toUInt32 >>> (Int32.toUInt32 2 &&& Int32.toUInt32 31)).toInt32) &&& 858993459)).toUInt32 >>> (Int32.toUInt32 4 &&& Int32.toUInt32 31)).toInt32)) &&& 252645135).toUInt32 >>> (Int32.toUInt32 8 &&& Int32.toUInt32 31)).toInt32) hx hb (tb_at tk_J6_bitCount_0f7a4 29 rfl) rfl ?_
  refine lv_iadd (pc := 39) hx hb (tb_at tk_J6_bitCount_0f7a4 30 rfl) ?_
  refine lv_istore_n (pc := 40) (lv' := [(0, .int ((((((x0 - (((x0.toUInt32 >>> (Int32.toUInt32 1 &&& Int32.toUInt32 31)).toInt32) &&& 1431655765)) &&& 858993459) + ((((x0 - (((x0.toUInt32 >>> (Int32.toUInt32 1 &&& Int32.toUInt32 31)).toInt32) &&& 1431655765)).toUInt32 >>> (Int32.toUInt32 2 &&& Int32.toUInt32 31)).toInt32) &&& 858993459)) + (((((x0 - (((x0.toUInt32 >>> (Int32.toUInt32 1 &&& Int32.toUInt32 31)).toInt32) &&& 1431655765)) &&& 858993459) + ((((x0 - (((x0.toUInt32 >>> (Int32.toUInt32 1 &&& Int32.toUInt32 31)).toInt32) &&& 1431655765)).toUInt32 >>> (Int32.toUInt32 2 &&& Int32.toUInt32 31)).toInt32) &&& 858993459)).toUInt32 >>> (Int32.toUInt32 4 &&& Int32.toUInt32 31)).toInt32)) &&& 252645135) + (((((((x0 - (((x0.toUInt32 >>> (Int32.toUInt32 1 &&& Int32.toUInt32 31)).toInt32) &&& 1431655765)) &&& 858993459) + ((((x0 - (((x0.toUInt32 >>> (Int32.toUInt32 1 &&& Int32.toUInt32 31)).toInt32) &&& 1431655765)).toUInt32 >>> (Int32.toUInt32 2 &&& Int32.toUInt32 31)).toInt32) &&& 858993459)) + (((((x0 - (((x0.toUInt32 >>> (Int32.toUInt32 1 &&& Int32.toUInt32 31)).toInt32) &&& 1431655765)) &&& 858993459) + ((((x0 - (((x0.toUInt32 >>> (Int32.toUInt32 1 &&& Int32.toUInt32 31)).toInt32) &&& 1431655765)).toUInt32 >>> (Int32.toUInt32 2 &&& Int32.toUInt32 31)).toInt32) &&& 858993459)).toUInt32 >>> (Int32.toUInt32 4 &&& Int32.toUInt32 31)).toInt32)) &&& 252645135).toUInt32 >>> (Int32.toUInt32 8 &&& Int32.toUInt32 31)).toInt32)))]) hx hb (tb_at tk_J6_bitCount_0f7a4 31 rfl) rfl hl (by decide) rfl (fun ls hl => ?_)
  refine lv_iload_n (pc := 41) hx hb (tb_at tk_J6_bitCount_0f7a4 32 rfl) rfl (lv_at hl 0 rfl) ?_
  refine lv_iload_n (pc := 42) hx hb (tb_at tk_J6_bitCount_0f7a4 33 rfl) rfl (lv_at hl 0 rfl) ?_
  refine lv_bipush (pc := 43) (v := 16) hx hb (tb_at tk_J6_bitCount_0f7a4 34 rfl) (by decide) ?_
  refine lv_iushr (pc := 45) (v := (((((((x0 - (((x0.toUInt32 >>> (Int32.toUInt32 1 &&& Int32.toUInt32 31)).toInt32) &&& 1431655765)) &&& 858993459) + ((((x0 - (((x0.toUInt32 >>> (Int32.toUInt32 1 &&& Int32.toUInt32 31)).toInt32) &&& 1431655765)).toUInt32 >>> (Int32.toUInt32 2 &&& Int32.toUInt32 31)).toInt32) &&& 858993459)) + (((((x0 - (((x0.toUInt32 >>> (Int32.toUInt32 1 &&& Int32.toUInt32 31)).toInt32) &&& 1431655765)) &&& 858993459) + ((((x0 - (((x0.toUInt32 >>> (Int32.toUInt32 1 &&& Int32.toUInt32 31)).toInt32) &&& 1431655765)).toUInt32 >>> (Int32.toUInt32 2 &&& Int32.toUInt32 31)).toInt32) &&& 858993459)).toUInt32 >>> (Int32.toUInt32 4 &&& Int32.toUInt32 31)).toInt32)) &&& 252645135) + (((((((x0 - (((x0.toUInt32 >>> (Int32.toUInt32 1 &&& Int32.toUInt32 31)).toInt32) &&& 1431655765)) &&& 858993459) + ((((x0 - (((x0.toUInt32 >>> (Int32.toUInt32 1 &&& Int32.toUInt32 31)).toInt32) &&& 1431655765)).toUInt32 >>> (Int32.toUInt32 2 &&& Int32.toUInt32 31)).toInt32) &&& 858993459)) + (((((x0 - (((x0.toUInt32 >>> (Int32.toUInt32 1 &&& Int32.toUInt32 31)).toInt32) &&& 1431655765)) &&& 858993459) + ((((x0 - (((x0.toUInt32 >>> (Int32.toUInt32 1 &&& Int32.toUInt32 31)).toInt32) &&& 1431655765)).toUInt32 >>> (Int32.toUInt32 2 &&& Int32.toUInt32 31)).toInt32) &&& 858993459)).toUInt32 >>> (Int32.toUInt32 4 &&& Int32.toUInt32 31)).toInt32)) &&& 252645135).toUInt32 >>> (Int32.toUInt32 8 &&& Int32.toUInt32 31)).toInt32)).toUInt32 >>> (Int32.toUInt32 16 &&& Int32.toUInt32 31)).toInt32) hx hb (tb_at tk_J6_bitCount_0f7a4 35 rfl) rfl ?_
  refine lv_iadd (pc := 46) hx hb (tb_at tk_J6_bitCount_0f7a4 36 rfl) ?_
  refine lv_istore_n (pc := 47) (lv' := [(0, .int (((((((x0 - (((x0.toUInt32 >>> (Int32.toUInt32 1 &&& Int32.toUInt32 31)).toInt32) &&& 1431655765)) &&& 858993459) + ((((x0 - (((x0.toUInt32 >>> (Int32.toUInt32 1 &&& Int32.toUInt32 31)).toInt32) &&& 1431655765)).toUInt32 >>> (Int32.toUInt32 2 &&& Int32.toUInt32 31)).toInt32) &&& 858993459)) + (((((x0 - (((x0.toUInt32 >>> (Int32.toUInt32 1 &&& Int32.toUInt32 31)).toInt32) &&& 1431655765)) &&& 858993459) + ((((x0 - (((x0.toUInt32 >>> (Int32.toUInt32 1 &&& Int32.toUInt32 31)).toInt32) &&& 1431655765)).toUInt32 >>> (Int32.toUInt32 2 &&& Int32.toUInt32 31)).toInt32) &&& 858993459)).toUInt32 >>> (Int32.toUInt32 4 &&& Int32.toUInt32 31)).toInt32)) &&& 252645135) + (((((((x0 - (((x0.toUInt32 >>> (Int32.toUInt32 1 &&& Int32.toUInt32 31)).toInt32) &&& 1431655765)) &&& 858993459) + ((((x0 - (((x0.toUInt32 >>> (Int32.toUInt32 1 &&& Int32.toUInt32 31)).toInt32) &&& 1431655765)).toUInt32 >>> (Int32.toUInt32 2 &&& Int32.toUInt32 31)).toInt32) &&& 858993459)) + (((((x0 - (((x0.toUInt32 >>> (Int32.toUInt32 1 &&& Int32.toUInt32 31)).toInt32) &&& 1431655765)) &&& 858993459) + ((((x0 - (((x0.toUInt32 >>> (Int32.toUInt32 1 &&& Int32.toUInt32 31)).toInt32) &&& 1431655765)).toUInt32 >>> (Int32.toUInt32 2 &&& Int32.toUInt32 31)).toInt32) &&& 858993459)).toUInt32 >>> (Int32.toUInt32 4 &&& Int32.toUInt32 31)).toInt32)) &&& 252645135).toUInt32 >>> (Int32.toUInt32 8 &&& Int32.toUInt32 31)).toInt32)) + ((((((((x0 - (((x0.toUInt32 >>> (Int32.toUInt32 1 &&& Int32.toUInt32 31)).toInt32) &&& 1431655765)) &&& 858993459) + ((((x0 - (((x0.toUInt32 >>> (Int32.toUInt32 1 &&& Int32.toUInt32 31)).toInt32) &&& 1431655765)).toUInt32 >>> (Int32.toUInt32 2 &&& Int32.toUInt32 31)).toInt32) &&& 858993459)) + (((((x0 - (((x0.toUInt32 >>> (Int32.toUInt32 1 &&& Int32.toUInt32 31)).toInt32) &&& 1431655765)) &&& 858993459) + ((((x0 - (((x0.toUInt32 >>> (Int32.toUInt32 1 &&& Int32.toUInt32 31)).toInt32) &&& 1431655765)).toUInt32 >>> (Int32.toUInt32 2 &&& Int32.toUInt32 31)).toInt32) &&& 858993459)).toUInt32 >>> (Int32.toUInt32 4 &&& Int32.toUInt32 31)).toInt32)) &&& 252645135) + (((((((x0 - (((x0.toUInt32 >>> (Int32.toUInt32 1 &&& Int32.toUInt32 31)).toInt32) &&& 1431655765)) &&& 858993459) + ((((x0 - (((x0.toUInt32 >>> (Int32.toUInt32 1 &&& Int32.toUInt32 31)).toInt32) &&& 1431655765)).toUInt32 >>> (Int32.toUInt32 2 &&& Int32.toUInt32 31)).toInt32) &&& 858993459)) + (((((x0 - (((x0.toUInt32 >>> (Int32.toUInt32 1 &&& Int32.toUInt32 31)).toInt32) &&& 1431655765)) &&& 858993459) + ((((x0 - (((x0.toUInt32 >>> (Int32.toUInt32 1 &&& Int32.toUInt32 31)).toInt32) &&& 1431655765)).toUInt32 >>> (Int32.toUInt32 2 &&& Int32.toUInt32 31)).toInt32) &&& 858993459)).toUInt32 >>> (Int32.toUInt32 4 &&& Int32.toUInt32 31)).toInt32)) &&& 252645135).toUInt32 >>> (Int32.toUInt32 8 &&& Int32.toUInt32 31)).toInt32)).toUInt32 >>> (Int32.toUInt32 16 &&& Int32.toUInt32 31)).toInt32)))]) hx hb (tb_at tk_J6_bitCount_0f7a4 37 rfl) rfl hl (by decide) rfl (fun ls hl => ?_)
  refine lv_iload_n (pc := 48) hx hb (tb_at tk_J6_bitCount_0f7a4 38 rfl) rfl (lv_at hl 0 rfl) ?_
  refine lv_bipush (pc := 49) (v := 63) hx hb (tb_at tk_J6_bitCount_0f7a4 39 rfl) (by decide) ?_
  refine lv_iand (pc := 51) hx hb (tb_at tk_J6_bitCount_0f7a4 40 rfl) ?_
  exact hQ ((((((((x0 - (((x0.toUInt32 >>> (Int32.toUInt32 1 &&& Int32.toUInt32 31)).toInt32) &&& 1431655765)) &&& 858993459) + ((((x0 - (((x0.toUInt32 >>> (Int32.toUInt32 1 &&& Int32.toUInt32 31)).toInt32) &&& 1431655765)).toUInt32 >>> (Int32.toUInt32 2 &&& Int32.toUInt32 31)).toInt32) &&& 858993459)) + (((((x0 - (((x0.toUInt32 >>> (Int32.toUInt32 1 &&& Int32.toUInt32 31)).toInt32) &&& 1431655765)) &&& 858993459) + ((((x0 - (((x0.toUInt32 >>> (Int32.toUInt32 1 &&& Int32.toUInt32 31)).toInt32) &&& 1431655765)).toUInt32 >>> (Int32.toUInt32 2 &&& Int32.toUInt32 31)).toInt32) &&& 858993459)).toUInt32 >>> (Int32.toUInt32 4 &&& Int32.toUInt32 31)).toInt32)) &&& 252645135) + (((((((x0 - (((x0.toUInt32 >>> (Int32.toUInt32 1 &&& Int32.toUInt32 31)).toInt32) &&& 1431655765)) &&& 858993459) + ((((x0 - (((x0.toUInt32 >>> (Int32.toUInt32 1 &&& Int32.toUInt32 31)).toInt32) &&& 1431655765)).toUInt32 >>> (Int32.toUInt32 2 &&& Int32.toUInt32 31)).toInt32) &&& 858993459)) + (((((x0 - (((x0.toUInt32 >>> (Int32.toUInt32 1 &&& Int32.toUInt32 31)).toInt32) &&& 1431655765)) &&& 858993459) + ((((x0 - (((x0.toUInt32 >>> (Int32.toUInt32 1 &&& Int32.toUInt32 31)).toInt32) &&& 1431655765)).toUInt32 >>> (Int32.toUInt32 2 &&& Int32.toUInt32 31)).toInt32) &&& 858993459)).toUInt32 >>> (Int32.toUInt32 4 &&& Int32.toUInt32 31)).toInt32)) &&& 252645135).toUInt32 >>> (Int32.toUInt32 8 &&& Int32.toUInt32 31)).toInt32)) + ((((((((x0 - (((x0.toUInt32 >>> (Int32.toUInt32 1 &&& Int32.toUInt32 31)).toInt32) &&& 1431655765)) &&& 858993459) + ((((x0 - (((x0.toUInt32 >>> (Int32.toUInt32 1 &&& Int32.toUInt32 31)).toInt32) &&& 1431655765)).toUInt32 >>> (Int32.toUInt32 2 &&& Int32.toUInt32 31)).toInt32) &&& 858993459)) + (((((x0 - (((x0.toUInt32 >>> (Int32.toUInt32 1 &&& Int32.toUInt32 31)).toInt32) &&& 1431655765)) &&& 858993459) + ((((x0 - (((x0.toUInt32 >>> (Int32.toUInt32 1 &&& Int32.toUInt32 31)).toInt32) &&& 1431655765)).toUInt32 >>> (Int32.toUInt32 2 &&& Int32.toUInt32 31)).toInt32) &&& 858993459)).toUInt32 >>> (Int32.toUInt32 4 &&& Int32.toUInt32 31)).toInt32)) &&& 252645135) + (((((((x0 - (((x0.toUInt32 >>> (Int32.toUInt32 1 &&& Int32.toUInt32 31)).toInt32) &&& 1431655765)) &&& 858993459) + ((((x0 - (((x0.toUInt32 >>> (Int32.toUInt32 1 &&& Int32.toUInt32 31)).toInt32) &&& 1431655765)).toUInt32 >>> (Int32.toUInt32 2 &&& Int32.toUInt32 31)).toInt32) &&& 858993459)) + (((((x0 - (((x0.toUInt32 >>> (Int32.toUInt32 1 &&& Int32.toUInt32 31)).toInt32) &&& 1431655765)) &&& 858993459) + ((((x0 - (((x0.toUInt32 >>> (Int32.toUInt32 1 &&& Int32.toUInt32 31)).toInt32) &&& 1431655765)).toUInt32 >>> (Int32.toUInt32 2 &&& Int32.toUInt32 31)).toInt32) &&& 858993459)).toUInt32 >>> (Int32.toUInt32 4 &&& Int32.toUInt32 31)).toInt32)) &&& 252645135).toUInt32 >>> (Int32.toUInt32 8 &&& Int32.toUInt32 31)).toInt32)).toUInt32 >>> (Int32.toUInt32 16 &&& Int32.toUInt32 31)).toInt32)) &&& 63) () _ _ _ 52 rfl h hW hS (tb_at tk_J6_bitCount_0f7a4 41 rfl)
def f_X7_isSetOf {ρ : Type} (N : Nat) (x0 : Int32) (x1 : Int32) (k : Int32 → Option ρ) : Option ρ := f_X7_within N x0 0 (((1 : Int32) <<< (x1 &&& 31)) - 1) (fun r7 => ck (isZ r7) (k r7))
abbrev rm_X7_isSetOf : Room := { frames := 1, cells := 0, slots := 0, locals := 22 }
set_option maxHeartbeats 4000000 in
set_option maxRecDepth 100000 in
theorem c_X7_isSetOf (l : Launch) (dC : Nat → ClassId) (dI : Nat → Nat → Nat) (cI cZ cQ cW : ClassId) (x0 : Int32) (x1 : Int32) {ρ : Type} (N : Nat) (k : Int32 → Option ρ) (res : ρ) (h : f_X7_isSetOf N x0 x1 k = some res) : Ci l yX7_isSetOf (WS yX7_isSetOf cX7_isSetOf 2 (some .boolean)) rm_X7_isSetOf (dC, dI) (tysG cI cZ cQ cW) E0 [.int x0, .int x1] [] (fun (_ : Unit) => []) (fun r _ => k r = some res) := by
  refine Ci.of (cc := cX7_isSetOf) (n := 2) (by decide +kernel) (Nat.le_of_ble_eq_true rfl) ?_
  intro p e s m args below meth c A ls Q B hW hE hS hl hQ
  have hx := B.1
  have hb := B.2.1
  have hl : lv_has ls 2 [(0, .int x0), (1, .int x1)] := hl
  unfold f_X7_isSetOf at h
  refine lv_iload_n (pc := 0) hx hb (tb_at tk_X7_isSetOf 0 rfl) rfl (lv_at hl 0 rfl) ?_
  refine lv_iconst (pc := 1) (v := 0) hx hb (tb_at tk_X7_isSetOf 1 rfl) (by decide) ?_
  refine lv_iconst (pc := 2) (v := 1) hx hb (tb_at tk_X7_isSetOf 2 rfl) (by decide) ?_
  refine lv_iload_n (pc := 3) hx hb (tb_at tk_X7_isSetOf 3 rfl) rfl (lv_at hl 1 rfl) ?_
  refine lv_ishl (pc := 4) hx hb (tb_at tk_X7_isSetOf 4 rfl) ?_
  refine lv_iconst (pc := 5) (v := 1) hx hb (tb_at tk_X7_isSetOf 5 rfl) (by decide) ?_
  refine lv_isub (pc := 6) hx hb (tb_at tk_X7_isSetOf 6 rfl) ?_
  refine k_call0 (pc := 7) B (k_runSi (rest := []) (host := "") B (c_X7_within l dC dI cI cZ cQ cW   x0 0 (((1 : Int32) <<< (x1 &&& 31)) - 1) N _ res h) E0_st (fun _ _ _ => trivial) q_c_X7_within q_m_X7_78 q_t_X7_within q_n_X7 hd_X7_within ⟨rfl, rfl⟩ ⟨Nat.le_of_ble_eq_true rfl, Nat.le_of_ble_eq_true rfl⟩ hW [] rfl (by decide +kernel) rfl hl.1 rfl (Nat.le_of_ble_eq_true rfl) (tb_at tk_X7_isSetOf 7 rfl) ⟨Nat.zero_le _, Nat.zero_le _⟩) hW hS (fun r7 u H locs h hW hS => ?_)
  have zz := ck_l h
  have h := ck_r h
  exact hQ r7 () _ _ _ 10 (isZ_n zz) h hW hS (tb_at tk_X7_isSetOf 8 rfl)
def f_X7_greatestDivisor_e34 {ρ : Type} (k : Int32 → Option ρ) (y2_e34 : Int32) : Option ρ := k y2_e34
def f_X7_greatestDivisor_l7 {ρ : Type} (k34 : Int32 → Option ρ) : Nat → Int32 → Int32 → Int32 → Option ρ
  | 0, _, _, _ => none
  | n7 + 1, y2_l7, y3_l7, y4_l7 => if 64 ≤ y4_l7 then (k34 y2_l7) else (if y3_l7 = 0 then (k34 y2_l7) else (ck (!decide (y3_l7 = 0)) ((f_X7_greatestDivisor_l7 k34 n7) y3_l7 (y2_l7 - y2_l7 / y3_l7 * y3_l7) (y4_l7 + 1))))
def f_X7_greatestDivisor {ρ : Type} (N : Nat) (x0 : Int32) (x1 : Int32) (k : Int32 → Option ρ) : Option ρ := f_X7_greatestDivisor_l7 (fun y2_e34 => f_X7_greatestDivisor_e34 k y2_e34) N x0 x1 0
abbrev rm_X7_greatestDivisor : Room := { frames := 0, cells := 0, slots := 0, locals := 0 }
set_option maxHeartbeats 4000000 in
set_option maxRecDepth 100000 in
theorem c_X7_greatestDivisor (l : Launch) (dC : Nat → ClassId) (dI : Nat → Nat → Nat) (cI cZ cQ cW : ClassId) (x0 : Int32) (x1 : Int32) {ρ : Type} (N : Nat) (k : Int32 → Option ρ) (res : ρ) (h : f_X7_greatestDivisor N x0 x1 k = some res) : Ci l yX7_greatestDivisor (WS yX7_greatestDivisor cX7_greatestDivisor 6 (some .int)) rm_X7_greatestDivisor (dC, dI) (tysG cI cZ cQ cW) E0 [.int x0, .int x1] [] (fun (_ : Unit) => []) (fun r _ => k r = some res) := by
  refine Ci.of (cc := cX7_greatestDivisor) (n := 6) (by decide +kernel) (Nat.le_of_ble_eq_true rfl) ?_
  intro p e s m args below meth c A ls Q B hW hE hS hl hQ
  have hx := B.1
  have hb := B.2.1
  have hl : lv_has ls 6 [(0, .int x0), (1, .int x1)] := hl
  unfold f_X7_greatestDivisor at h
  refine lv_iload_n (pc := 0) hx hb (tb_at tk_X7_greatestDivisor 0 rfl) rfl (lv_at hl 0 rfl) ?_
  refine lv_istore_n (pc := 1) (lv' := [(2, .int x0), (0, .int x0), (1, .int x1)]) hx hb (tb_at tk_X7_greatestDivisor 1 rfl) rfl hl (by decide) rfl (fun ls hl => ?_)
  refine lv_iload_n (pc := 2) hx hb (tb_at tk_X7_greatestDivisor 2 rfl) rfl (lv_at hl 2 rfl) ?_
  refine lv_istore_n (pc := 3) (lv' := [(3, .int x1), (2, .int x0), (0, .int x0), (1, .int x1)]) hx hb (tb_at tk_X7_greatestDivisor 3 rfl) rfl hl (by decide) rfl (fun ls hl => ?_)
  refine lv_iconst (pc := 4) (v := 0) hx hb (tb_at tk_X7_greatestDivisor 4 rfl) (by decide) ?_
  refine lv_istore (pc := 5) (lv' := [(4, .int 0), (3, .int x1), (2, .int x0), (0, .int x0), (1, .int x1)]) hx hb (tb_at tk_X7_greatestDivisor 5 rfl) hl (by decide) rfl (fun ls hl => ?_)
  have w34 : ∀ (y2_e34 : Int32) (H : Heap) (locs : List Loc) (ls : Array Slot), f_X7_greatestDivisor_e34 k y2_e34 = some res → PD (dC, dI) A [] H → va_S A s.heap H locs → lv_has ls 6 [(2, .int y2_e34)] → W p l e rm_X7_greatestDivisor s m args below meth c H locs 0 0 Q (F0 m 34 ls []) := by
    intro y2_e34 H locs ls h hW hS hl
    unfold f_X7_greatestDivisor_e34 at h
    refine lv_iload_n (pc := 34) hx hb (tb_at tk_X7_greatestDivisor 21 rfl) rfl (lv_at hl 0 rfl) ?_
    exact hQ y2_e34 () _ _ _ 35 rfl h hW hS (tb_at tk_X7_greatestDivisor 22 rfl)
  have w7 : ∀ (n : Nat), ∀ (y2_l7 : Int32) (y3_l7 : Int32) (y4_l7 : Int32) (H : Heap) (locs : List Loc) (ls : Array Slot), f_X7_greatestDivisor_l7 (fun y2_e34 => f_X7_greatestDivisor_e34 k y2_e34) n y2_l7 y3_l7 y4_l7 = some res → PD (dC, dI) A [] H → va_S A s.heap H locs → lv_has ls 6 [(2, .int y2_l7), (3, .int y3_l7), (4, .int y4_l7)] → W p l e rm_X7_greatestDivisor s m args below meth c H locs 0 0 Q (F0 m 7 ls []) := by
    intro n
    induction n with
    | zero => intro y2_l7 y3_l7 y4_l7 H locs ls h; exact no_n h
    | succ n7 ih7 =>
      intro y2_l7 y3_l7 y4_l7 H locs ls h hW hS hl
      rw [f_X7_greatestDivisor_l7] at h
      refine lv_iload (pc := 7) hx hb (tb_at tk_X7_greatestDivisor 6 rfl) (lv_at hl 2 rfl) ?_
      refine lv_bipush (pc := 9) (v := 64) hx hb (tb_at tk_X7_greatestDivisor 7 rfl) (by decide) ?_
      refine lv_icmp_ge (pc := 11) (tgt := 34) hx hb (tb_at tk_X7_greatestDivisor 8 rfl) (by decide) (fun cc => ?_) (fun cc => ?_)
      · have h := it_t cc h
        exact w34 y2_l7 _ _ _ h hW hS (lv_sub hl [0] rfl)
      · have h := it_f cc h
        refine lv_iload_n (pc := 14) hx hb (tb_at tk_X7_greatestDivisor 9 rfl) rfl (lv_at hl 1 rfl) ?_
        refine lv_if_eq (pc := 15) (tgt := 34) hx hb (tb_at tk_X7_greatestDivisor 10 rfl) (by decide) (fun cc => ?_) (fun cc => ?_)
        · have h := it_t cc h
          exact w34 y2_l7 _ _ _ h hW hS (lv_sub hl [0] rfl)
        · have h := it_f cc h
          refine lv_iload_n (pc := 18) hx hb (tb_at tk_X7_greatestDivisor 11 rfl) rfl (lv_at hl 0 rfl) ?_
          refine lv_iload_n (pc := 19) hx hb (tb_at tk_X7_greatestDivisor 12 rfl) rfl (lv_at hl 1 rfl) ?_
          have dz := dz_n (ck_l h)
          have h := ck_r h
          refine lv_irem (pc := 20) hx hb (tb_at tk_X7_greatestDivisor 13 rfl) dz ?_
          refine lv_istore (pc := 21) (lv' := [(5, .int (y2_l7 - y2_l7 / y3_l7 * y3_l7)), (2, .int y2_l7), (3, .int y3_l7), (4, .int y4_l7)]) hx hb (tb_at tk_X7_greatestDivisor 14 rfl) hl (by decide) rfl (fun ls hl => ?_)
          refine lv_iload_n (pc := 23) hx hb (tb_at tk_X7_greatestDivisor 15 rfl) rfl (lv_at hl 2 rfl) ?_
          refine lv_istore_n (pc := 24) (lv' := [(2, .int y3_l7), (5, .int (y2_l7 - y2_l7 / y3_l7 * y3_l7)), (3, .int y3_l7), (4, .int y4_l7)]) hx hb (tb_at tk_X7_greatestDivisor 16 rfl) rfl hl (by decide) rfl (fun ls hl => ?_)
          refine lv_iload (pc := 25) hx hb (tb_at tk_X7_greatestDivisor 17 rfl) (lv_at hl 1 rfl) ?_
          refine lv_istore_n (pc := 27) (lv' := [(3, .int (y2_l7 - y2_l7 / y3_l7 * y3_l7)), (2, .int y3_l7), (5, .int (y2_l7 - y2_l7 / y3_l7 * y3_l7)), (4, .int y4_l7)]) hx hb (tb_at tk_X7_greatestDivisor 18 rfl) rfl hl (by decide) rfl (fun ls hl => ?_)
          refine lv_iinc (pc := 28) (v := y4_l7 + 1) (lv' := [(4, .int (y4_l7 + 1)), (3, .int (y2_l7 - y2_l7 / y3_l7 * y3_l7)), (2, .int y3_l7), (5, .int (y2_l7 - y2_l7 / y3_l7 * y3_l7))]) hx hb (tb_at tk_X7_greatestDivisor 19 rfl) hl (k := 3) rfl rfl (by decide) rfl (fun ls hl => ?_)
          refine lv_goto (pc := 31) (tgt := 7) hx hb (tb_at tk_X7_greatestDivisor 20 rfl) (by decide) ?_
          exact ih7 y3_l7 (y2_l7 - y2_l7 / y3_l7 * y3_l7) (y4_l7 + 1) _ _ _ h hW hS (lv_sub hl [2, 1, 0] rfl)
  exact w7 N x0 x1 0 _ _ _ h hW hS (lv_sub hl [2, 1, 0] rfl)
def f_X7_part {ρ : Type} (N : Nat) (x0 : Int32) (x1 : Int32) (x2 : Int32) (k : Int32 → Option ρ) : Option ρ := f_X7_greatestDivisor N x0 x1 (fun r3 => if x2 = 0 then (ck (!decide ((if 1 < r3 then r3 else 1) = 0)) (k (x0 / (if 1 < r3 then r3 else 1)))) else (ck (!decide ((if 1 < r3 then r3 else 1) = 0)) (k (x1 / (if 1 < r3 then r3 else 1)))))
abbrev rm_X7_part : Room := { frames := 1, cells := 0, slots := 0, locals := 25 }
set_option maxHeartbeats 4000000 in
set_option maxRecDepth 100000 in
theorem c_X7_part (l : Launch) (dC : Nat → ClassId) (dI : Nat → Nat → Nat) (cI cZ cQ cW : ClassId) (x0 : Int32) (x1 : Int32) (x2 : Int32) {ρ : Type} (N : Nat) (k : Int32 → Option ρ) (res : ρ) (h : f_X7_part N x0 x1 x2 k = some res) : Ci l yX7_part (WS yX7_part cX7_part 4 (some .int)) rm_X7_part (dC, dI) (tysG cI cZ cQ cW) E0 [.int x0, .int x1, .int x2] [] (fun (_ : Unit) => []) (fun r _ => k r = some res) := by
  refine Ci.of (cc := cX7_part) (n := 4) (by decide +kernel) (Nat.le_of_ble_eq_true rfl) ?_
  intro p e s m args below meth c A ls Q B hW hE hS hl hQ
  have hx := B.1
  have hb := B.2.1
  have hl : lv_has ls 4 [(0, .int x0), (1, .int x1), (2, .int x2)] := hl
  unfold f_X7_part at h
  refine lv_iconst (pc := 0) (v := 1) hx hb (tb_at tk_X7_part 0 rfl) (by decide) ?_
  refine lv_iload_n (pc := 1) hx hb (tb_at tk_X7_part 1 rfl) rfl (lv_at hl 0 rfl) ?_
  refine lv_iload_n (pc := 2) hx hb (tb_at tk_X7_part 2 rfl) rfl (lv_at hl 1 rfl) ?_
  refine k_call0 (pc := 3) B (k_runSi (rest := [.int 1]) (host := "") B (c_X7_greatestDivisor l dC dI cI cZ cQ cW   x0 x1 N _ res h) E0_st (fun _ _ _ => trivial) q_c_X7_greatestDivisor q_m_X7_280 q_t_X7_greatestDivisor q_n_X7 hd_X7_greatestDivisor ⟨rfl, rfl⟩ ⟨Nat.le_of_ble_eq_true rfl, Nat.le_of_ble_eq_true rfl⟩ hW [] rfl (by decide +kernel) rfl hl.1 rfl (Nat.le_of_ble_eq_true rfl) (tb_at tk_X7_part 3 rfl) ⟨Nat.zero_le _, Nat.zero_le _⟩) hW hS (fun r3 u H locs h hW hS => ?_)
  refine va_mmax (pc := 6) hx hb (B.2.2.2.1.trans hl.1.symm) B.2.2.2.2.1 (B.2.2.2.2.2.1 _ q_m_X7_231) (B.2.2.2.2.2.1 _ q_t_J9_max_7cf53) (B.2.2.2.2.2.1 _ q_n_J9) (B.2.2.2.2.2.1 _ q_c_J9_max_7cf53) (Nat.le_of_ble_eq_true rfl) (Nat.le_of_ble_eq_true rfl) (Nat.zero_le _) (Nat.zero_le _) (tb_at tk_X7_part 4 rfl) ?_
  refine lv_istore_n (pc := 9) (lv' := [(3, .int (if 1 < r3 then r3 else 1)), (0, .int x0), (1, .int x1), (2, .int x2)]) hx hb (tb_at tk_X7_part 5 rfl) rfl hl (by decide) rfl (fun ls hl => ?_)
  refine lv_iload_n (pc := 10) hx hb (tb_at tk_X7_part 6 rfl) rfl (lv_at hl 3 rfl) ?_
  refine lv_if_ne (pc := 11) (tgt := 18) hx hb (tb_at tk_X7_part 7 rfl) (by decide) (fun cc => ?_) (fun cc => ?_)
  · have h := it_f cc h
    refine lv_iload_n (pc := 18) hx hb (tb_at tk_X7_part 10 rfl) rfl (lv_at hl 2 rfl) ?_
    refine lv_iload_n (pc := 19) hx hb (tb_at tk_X7_part 11 rfl) rfl (lv_at hl 0 rfl) ?_
    have dz := dz_n (ck_l h)
    have h := ck_r h
    refine lv_idiv (pc := 20) hx hb (tb_at tk_X7_part 12 rfl) dz ?_
    exact hQ (x1 / (if 1 < r3 then r3 else 1)) () _ _ _ 21 rfl h hW hS (tb_at tk_X7_part 13 rfl)
  · have h := it_t cc h
    refine lv_iload_n (pc := 14) hx hb (tb_at tk_X7_part 8 rfl) rfl (lv_at hl 1 rfl) ?_
    refine lv_goto (pc := 15) (tgt := 19) hx hb (tb_at tk_X7_part 9 rfl) (by decide) ?_
    refine lv_iload_n (pc := 19) hx hb (tb_at tk_X7_part 11 rfl) rfl (lv_at hl 0 rfl) ?_
    have dz := dz_n (ck_l h)
    have h := ck_r h
    refine lv_idiv (pc := 20) hx hb (tb_at tk_X7_part 12 rfl) dz ?_
    exact hQ (x0 / (if 1 < r3 then r3 else 1)) () _ _ _ 21 rfl h hW hS (tb_at tk_X7_part 13 rfl)
def f_X7_power_l4 {ρ : Type} (x0 : Int32) (x1 : Int32) (k : Int32 → Option ρ) : Nat → Int32 → Int32 → Option ρ
  | 0, _, _ => none
  | n4 + 1, y2_l4, y3_l4 => if x1 ≤ y3_l4 then (k y2_l4) else ((f_X7_power_l4 x0 x1 k n4) (y2_l4 * x0) (y3_l4 + 1))
def f_X7_power {ρ : Type} (N : Nat) (x0 : Int32) (x1 : Int32) (k : Int32 → Option ρ) : Option ρ := f_X7_power_l4 x0 x1 k N 1 0
abbrev rm_X7_power : Room := { frames := 0, cells := 0, slots := 0, locals := 0 }
set_option maxHeartbeats 4000000 in
set_option maxRecDepth 100000 in
theorem c_X7_power (l : Launch) (dC : Nat → ClassId) (dI : Nat → Nat → Nat) (cI cZ cQ cW : ClassId) (x0 : Int32) (x1 : Int32) {ρ : Type} (N : Nat) (k : Int32 → Option ρ) (res : ρ) (h : f_X7_power N x0 x1 k = some res) : Ci l yX7_power (WS yX7_power cX7_power 4 (some .int)) rm_X7_power (dC, dI) (tysG cI cZ cQ cW) E0 [.int x0, .int x1] [] (fun (_ : Unit) => []) (fun r _ => k r = some res) := by
  refine Ci.of (cc := cX7_power) (n := 4) (by decide +kernel) (Nat.le_of_ble_eq_true rfl) ?_
  intro p e s m args below meth c A ls Q B hW hE hS hl hQ
  have hx := B.1
  have hb := B.2.1
  have hl : lv_has ls 4 [(0, .int x0), (1, .int x1)] := hl
  unfold f_X7_power at h
  refine lv_iconst (pc := 0) (v := 1) hx hb (tb_at tk_X7_power 0 rfl) (by decide) ?_
  refine lv_istore_n (pc := 1) (lv' := [(2, .int 1), (0, .int x0), (1, .int x1)]) hx hb (tb_at tk_X7_power 1 rfl) rfl hl (by decide) rfl (fun ls hl => ?_)
  refine lv_iconst (pc := 2) (v := 0) hx hb (tb_at tk_X7_power 2 rfl) (by decide) ?_
  refine lv_istore_n (pc := 3) (lv' := [(3, .int 0), (2, .int 1), (0, .int x0), (1, .int x1)]) hx hb (tb_at tk_X7_power 3 rfl) rfl hl (by decide) rfl (fun ls hl => ?_)
  have w4 : ∀ (n : Nat), ∀ (y2_l4 : Int32) (y3_l4 : Int32) (H : Heap) (locs : List Loc) (ls : Array Slot), f_X7_power_l4 x0 x1 k n y2_l4 y3_l4 = some res → PD (dC, dI) A [] H → va_S A s.heap H locs → lv_has ls 4 [(0, .int x0), (1, .int x1), (2, .int y2_l4), (3, .int y3_l4)] → W p l e rm_X7_power s m args below meth c H locs 0 0 Q (F0 m 4 ls []) := by
    intro n
    induction n with
    | zero => intro y2_l4 y3_l4 H locs ls h; exact no_n h
    | succ n4 ih4 =>
      intro y2_l4 y3_l4 H locs ls h hW hS hl
      rw [f_X7_power_l4] at h
      refine lv_iload_n (pc := 4) hx hb (tb_at tk_X7_power 4 rfl) rfl (lv_at hl 3 rfl) ?_
      refine lv_iload_n (pc := 5) hx hb (tb_at tk_X7_power 5 rfl) rfl (lv_at hl 1 rfl) ?_
      refine lv_icmp_ge (pc := 6) (tgt := 19) hx hb (tb_at tk_X7_power 6 rfl) (by decide) (fun cc => ?_) (fun cc => ?_)
      · have h := it_t cc h
        refine lv_iload_n (pc := 19) hx hb (tb_at tk_X7_power 13 rfl) rfl (lv_at hl 2 rfl) ?_
        exact hQ y2_l4 () _ _ _ 20 rfl h hW hS (tb_at tk_X7_power 14 rfl)
      · have h := it_f cc h
        refine lv_iload_n (pc := 9) hx hb (tb_at tk_X7_power 7 rfl) rfl (lv_at hl 2 rfl) ?_
        refine lv_iload_n (pc := 10) hx hb (tb_at tk_X7_power 8 rfl) rfl (lv_at hl 0 rfl) ?_
        refine lv_imul (pc := 11) hx hb (tb_at tk_X7_power 9 rfl) ?_
        refine lv_istore_n (pc := 12) (lv' := [(2, .int (y2_l4 * x0)), (0, .int x0), (1, .int x1), (3, .int y3_l4)]) hx hb (tb_at tk_X7_power 10 rfl) rfl hl (by decide) rfl (fun ls hl => ?_)
        refine lv_iinc (pc := 13) (v := y3_l4 + 1) (lv' := [(3, .int (y3_l4 + 1)), (2, .int (y2_l4 * x0)), (0, .int x0), (1, .int x1)]) hx hb (tb_at tk_X7_power 11 rfl) hl (k := 3) rfl rfl (by decide) rfl (fun ls hl => ?_)
        refine lv_goto (pc := 16) (tgt := 4) hx hb (tb_at tk_X7_power 12 rfl) (by decide) ?_
        exact ih4 (y2_l4 * x0) (y3_l4 + 1) _ _ _ h hW hS (lv_sub hl [2, 3, 1, 0] rfl)
  exact w4 N 1 0 _ _ _ h hW hS (lv_sub hl [2, 3, 1, 0] rfl)
